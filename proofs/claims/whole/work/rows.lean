section
-- ===== PART A: goes FIRST, ahead of the names: the tables' words, and 'selects' of the private methods out of them =====
/-- a private method of a class that the tables say can be made, by its rows of tables_1 -/
def lw_okq (q : MethodName × Nat) : Prop := (q.1.cls ≠ "java/lang/invoke/MethodHandle" ∧ q.1.cls ≠ "java/lang/invoke/VarHandle") ∧ Cond.instantiable q.1.cls q.2 ∈ tables_1 ∧ Cond.privateMethod q.1 ∈ tables_1 ∧ Cond.instanceMethod q.1 ∈ tables_1
theorem lw_p0 : lw_okq (⟨"ErrataPress", "settle", "(I)I"⟩, 10) := ⟨⟨by decide +kernel, by decide +kernel⟩, List.mem_of_getElem? (i := 23) (by decide +kernel), List.mem_of_getElem? (i := 262) (by decide +kernel), List.mem_of_getElem? (i := 263) (by decide +kernel)⟩
theorem lw_p1 : lw_okq (⟨"java/lang/Throwable", "fillInStackTrace", "(I)Ljava/lang/Throwable;"⟩, 6) := ⟨⟨by decide +kernel, by decide +kernel⟩, List.mem_of_getElem? (i := 308) (by decide +kernel), List.mem_of_getElem? (i := 306) (by decide +kernel), List.mem_of_getElem? (i := 307) (by decide +kernel)⟩
theorem lw_p2 : lw_okq (⟨"ErrataPress$State", "laughsOf", "(I)I"⟩, 18) := ⟨⟨by decide +kernel, by decide +kernel⟩, List.mem_of_getElem? (i := 31) (by decide +kernel), List.mem_of_getElem? (i := 384) (by decide +kernel), List.mem_of_getElem? (i := 385) (by decide +kernel)⟩
theorem lw_p3 : lw_okq (⟨"ErrataPress$State", "isLaughing", "(III)Z"⟩, 18) := ⟨⟨by decide +kernel, by decide +kernel⟩, List.mem_of_getElem? (i := 31) (by decide +kernel), List.mem_of_getElem? (i := 403) (by decide +kernel), List.mem_of_getElem? (i := 404) (by decide +kernel)⟩
theorem lw_p4 : lw_okq (⟨"ErrataPress", "finesInThought", "(I)I"⟩, 10) := ⟨⟨by decide +kernel, by decide +kernel⟩, List.mem_of_getElem? (i := 23) (by decide +kernel), List.mem_of_getElem? (i := 437) (by decide +kernel), List.mem_of_getElem? (i := 438) (by decide +kernel)⟩
theorem lw_p5 : lw_okq (⟨"ErrataPress", "isSheetWell", "(I)Z"⟩, 10) := ⟨⟨by decide +kernel, by decide +kernel⟩, List.mem_of_getElem? (i := 23) (by decide +kernel), List.mem_of_getElem? (i := 450) (by decide +kernel), List.mem_of_getElem? (i := 451) (by decide +kernel)⟩
theorem lw_p6 : lw_okq (⟨"ErrataPress", "addHouse", "(I)I"⟩, 10) := ⟨⟨by decide +kernel, by decide +kernel⟩, List.mem_of_getElem? (i := 23) (by decide +kernel), List.mem_of_getElem? (i := 477) (by decide +kernel), List.mem_of_getElem? (i := 478) (by decide +kernel)⟩
theorem lw_p7 : lw_okq (⟨"ErrataPress", "refuse", "(II)I"⟩, 10) := ⟨⟨by decide +kernel, by decide +kernel⟩, List.mem_of_getElem? (i := 23) (by decide +kernel), List.mem_of_getElem? (i := 481) (by decide +kernel), List.mem_of_getElem? (i := 482) (by decide +kernel)⟩
theorem lw_p8 : lw_okq (⟨"ErrataPress", "addSheet", "(II)I"⟩, 10) := ⟨⟨by decide +kernel, by decide +kernel⟩, List.mem_of_getElem? (i := 23) (by decide +kernel), List.mem_of_getElem? (i := 521) (by decide +kernel), List.mem_of_getElem? (i := 522) (by decide +kernel)⟩
theorem lw_p9 : lw_okq (⟨"ErrataPress", "takeSheet", "(I)I"⟩, 10) := ⟨⟨by decide +kernel, by decide +kernel⟩, List.mem_of_getElem? (i := 23) (by decide +kernel), List.mem_of_getElem? (i := 544) (by decide +kernel), List.mem_of_getElem? (i := 545) (by decide +kernel)⟩
theorem lw_p10 : lw_okq (⟨"ErrataPress", "setLetter", "(IIC)I"⟩, 10) := ⟨⟨by decide +kernel, by decide +kernel⟩, List.mem_of_getElem? (i := 23) (by decide +kernel), List.mem_of_getElem? (i := 563) (by decide +kernel), List.mem_of_getElem? (i := 564) (by decide +kernel)⟩
theorem lw_p11 : lw_okq (⟨"ErrataPress", "sellLicence", "(II)I"⟩, 10) := ⟨⟨by decide +kernel, by decide +kernel⟩, List.mem_of_getElem? (i := 23) (by decide +kernel), List.mem_of_getElem? (i := 584) (by decide +kernel), List.mem_of_getElem? (i := 585) (by decide +kernel)⟩
theorem lw_p12 : lw_okq (⟨"ErrataPress", "takeFine", "(II)I"⟩, 10) := ⟨⟨by decide +kernel, by decide +kernel⟩, List.mem_of_getElem? (i := 23) (by decide +kernel), List.mem_of_getElem? (i := 605) (by decide +kernel), List.mem_of_getElem? (i := 606) (by decide +kernel)⟩
theorem lw_p13 : lw_okq (⟨"ErrataPress", "addReader", "(II)I"⟩, 10) := ⟨⟨by decide +kernel, by decide +kernel⟩, List.mem_of_getElem? (i := 23) (by decide +kernel), List.mem_of_getElem? (i := 616) (by decide +kernel), List.mem_of_getElem? (i := 617) (by decide +kernel)⟩
theorem lw_p14 : lw_okq (⟨"ErrataPress", "printEdition", "()I"⟩, 10) := ⟨⟨by decide +kernel, by decide +kernel⟩, List.mem_of_getElem? (i := 23) (by decide +kernel), List.mem_of_getElem? (i := 631) (by decide +kernel), List.mem_of_getElem? (i := 632) (by decide +kernel)⟩
theorem lw_p15 : lw_okq (⟨"ErrataPress", "bestBargain", "()I"⟩, 10) := ⟨⟨by decide +kernel, by decide +kernel⟩, List.mem_of_getElem? (i := 23) (by decide +kernel), List.mem_of_getElem? (i := 733) (by decide +kernel), List.mem_of_getElem? (i := 734) (by decide +kernel)⟩
def lw_privs_1 : List (MethodName × Nat) := [(⟨"ErrataPress", "settle", "(I)I"⟩, 10), (⟨"java/lang/Throwable", "fillInStackTrace", "(I)Ljava/lang/Throwable;"⟩, 6), (⟨"ErrataPress$State", "laughsOf", "(I)I"⟩, 18), (⟨"ErrataPress$State", "isLaughing", "(III)Z"⟩, 18), (⟨"ErrataPress", "finesInThought", "(I)I"⟩, 10), (⟨"ErrataPress", "isSheetWell", "(I)Z"⟩, 10), (⟨"ErrataPress", "addHouse", "(I)I"⟩, 10), (⟨"ErrataPress", "refuse", "(II)I"⟩, 10), (⟨"ErrataPress", "addSheet", "(II)I"⟩, 10), (⟨"ErrataPress", "takeSheet", "(I)I"⟩, 10), (⟨"ErrataPress", "setLetter", "(IIC)I"⟩, 10), (⟨"ErrataPress", "sellLicence", "(II)I"⟩, 10), (⟨"ErrataPress", "takeFine", "(II)I"⟩, 10), (⟨"ErrataPress", "addReader", "(II)I"⟩, 10), (⟨"ErrataPress", "printEdition", "()I"⟩, 10), (⟨"ErrataPress", "bestBargain", "()I"⟩, 10)]
theorem lw_r1 : ∀ q ∈ lw_privs_1, lw_okq q := List.forall_mem_cons.mpr ⟨lw_p0, List.forall_mem_cons.mpr ⟨lw_p1, List.forall_mem_cons.mpr ⟨lw_p2, List.forall_mem_cons.mpr ⟨lw_p3, List.forall_mem_cons.mpr ⟨lw_p4, List.forall_mem_cons.mpr ⟨lw_p5, List.forall_mem_cons.mpr ⟨lw_p6, List.forall_mem_cons.mpr ⟨lw_p7, List.forall_mem_cons.mpr ⟨lw_p8, List.forall_mem_cons.mpr ⟨lw_p9, List.forall_mem_cons.mpr ⟨lw_p10, List.forall_mem_cons.mpr ⟨lw_p11, List.forall_mem_cons.mpr ⟨lw_p12, List.forall_mem_cons.mpr ⟨lw_p13, List.forall_mem_cons.mpr ⟨lw_p14, List.forall_mem_cons.mpr ⟨lw_p15, fun _ h => absurd h List.not_mem_nil⟩⟩⟩⟩⟩⟩⟩⟩⟩⟩⟩⟩⟩⟩⟩⟩
theorem lw_p16 : lw_okq (⟨"ErrataPress$State", "isMoreAshamed", "(II)Z"⟩, 18) := ⟨⟨by decide +kernel, by decide +kernel⟩, List.mem_of_getElem? (i := 31) (by decide +kernel), List.mem_of_getElem? (i := 801) (by decide +kernel), List.mem_of_getElem? (i := 802) (by decide +kernel)⟩
theorem lw_p17 : lw_okq (⟨"ErrataPress$State", "isWorse", "(II)Z"⟩, 18) := ⟨⟨by decide +kernel, by decide +kernel⟩, List.mem_of_getElem? (i := 31) (by decide +kernel), List.mem_of_getElem? (i := 816) (by decide +kernel), List.mem_of_getElem? (i := 817) (by decide +kernel)⟩
theorem lw_p18 : lw_okq (⟨"ErrataPress", "writePlace", "(II)V"⟩, 10) := ⟨⟨by decide +kernel, by decide +kernel⟩, List.mem_of_getElem? (i := 23) (by decide +kernel), List.mem_of_getElem? (i := 836) (by decide +kernel), List.mem_of_getElem? (i := 837) (by decide +kernel)⟩
theorem lw_p19 : lw_okq (⟨"ErrataPress$OrderText", "readSign", "(C)Z"⟩, 7) := ⟨⟨by decide +kernel, by decide +kernel⟩, List.mem_of_getElem? (i := 148) (by decide +kernel), List.mem_of_getElem? (i := 894) (by decide +kernel), List.mem_of_getElem? (i := 895) (by decide +kernel)⟩
theorem lw_p20 : lw_okq (⟨"ErrataPress$OrderText", "isAhead", "(CC)Z"⟩, 7) := ⟨⟨by decide +kernel, by decide +kernel⟩, List.mem_of_getElem? (i := 148) (by decide +kernel), List.mem_of_getElem? (i := 898) (by decide +kernel), List.mem_of_getElem? (i := 899) (by decide +kernel)⟩
theorem lw_p21 : lw_okq (⟨"ErrataPress$OrderText", "readOrder", "()Z"⟩, 7) := ⟨⟨by decide +kernel, by decide +kernel⟩, List.mem_of_getElem? (i := 148) (by decide +kernel), List.mem_of_getElem? (i := 902) (by decide +kernel), List.mem_of_getElem? (i := 903) (by decide +kernel)⟩
theorem lw_p22 : lw_okq (⟨"ErrataPress$OrderText", "readCoins", "()Z"⟩, 7) := ⟨⟨by decide +kernel, by decide +kernel⟩, List.mem_of_getElem? (i := 148) (by decide +kernel), List.mem_of_getElem? (i := 906) (by decide +kernel), List.mem_of_getElem? (i := 907) (by decide +kernel)⟩
theorem lw_p23 : lw_okq (⟨"ErrataPress$OrderText", "readDigit", "()I"⟩, 7) := ⟨⟨by decide +kernel, by decide +kernel⟩, List.mem_of_getElem? (i := 148) (by decide +kernel), List.mem_of_getElem? (i := 910) (by decide +kernel), List.mem_of_getElem? (i := 911) (by decide +kernel)⟩
theorem lw_p24 : lw_okq (⟨"ErrataPress$OrderText", "readFirst", "()Z"⟩, 7) := ⟨⟨by decide +kernel, by decide +kernel⟩, List.mem_of_getElem? (i := 148) (by decide +kernel), List.mem_of_getElem? (i := 914) (by decide +kernel), List.mem_of_getElem? (i := 915) (by decide +kernel)⟩
theorem lw_p25 : lw_okq (⟨"ErrataPress$OrderText", "readWord", "()Z"⟩, 7) := ⟨⟨by decide +kernel, by decide +kernel⟩, List.mem_of_getElem? (i := 148) (by decide +kernel), List.mem_of_getElem? (i := 918) (by decide +kernel), List.mem_of_getElem? (i := 919) (by decide +kernel)⟩
theorem lw_p26 : lw_okq (⟨"ErrataPress$OrderText", "readLetter", "()Z"⟩, 7) := ⟨⟨by decide +kernel, by decide +kernel⟩, List.mem_of_getElem? (i := 148) (by decide +kernel), List.mem_of_getElem? (i := 922) (by decide +kernel), List.mem_of_getElem? (i := 923) (by decide +kernel)⟩
theorem lw_p27 : lw_okq (⟨"ErrataPress$OrderText", "readSecond", "()Z"⟩, 7) := ⟨⟨by decide +kernel, by decide +kernel⟩, List.mem_of_getElem? (i := 148) (by decide +kernel), List.mem_of_getElem? (i := 926) (by decide +kernel), List.mem_of_getElem? (i := 927) (by decide +kernel)⟩
theorem lw_p28 : lw_okq (⟨"ErrataPress", "carryOutAll", "()I"⟩, 10) := ⟨⟨by decide +kernel, by decide +kernel⟩, List.mem_of_getElem? (i := 23) (by decide +kernel), List.mem_of_getElem? (i := 930) (by decide +kernel), List.mem_of_getElem? (i := 931) (by decide +kernel)⟩
theorem lw_p29 : lw_okq (⟨"ErrataPress", "carryOutOrder", "()I"⟩, 10) := ⟨⟨by decide +kernel, by decide +kernel⟩, List.mem_of_getElem? (i := 23) (by decide +kernel), List.mem_of_getElem? (i := 935) (by decide +kernel), List.mem_of_getElem? (i := 936) (by decide +kernel)⟩
theorem lw_p30 : lw_okq (⟨"ErrataPress$State", "sumOfHouses", "([I)I"⟩, 18) := ⟨⟨by decide +kernel, by decide +kernel⟩, List.mem_of_getElem? (i := 31) (by decide +kernel), List.mem_of_getElem? (i := 966) (by decide +kernel), List.mem_of_getElem? (i := 967) (by decide +kernel)⟩
theorem lw_p31 : lw_okq (⟨"ErrataPressModel", "fails", "(I)Z"⟩, 21) := ⟨⟨by decide +kernel, by decide +kernel⟩, List.mem_of_getElem? (i := 1022) (by decide +kernel), List.mem_of_getElem? (i := 1103) (by decide +kernel), List.mem_of_getElem? (i := 1104) (by decide +kernel)⟩
def lw_privs_2 : List (MethodName × Nat) := [(⟨"ErrataPress$State", "isMoreAshamed", "(II)Z"⟩, 18), (⟨"ErrataPress$State", "isWorse", "(II)Z"⟩, 18), (⟨"ErrataPress", "writePlace", "(II)V"⟩, 10), (⟨"ErrataPress$OrderText", "readSign", "(C)Z"⟩, 7), (⟨"ErrataPress$OrderText", "isAhead", "(CC)Z"⟩, 7), (⟨"ErrataPress$OrderText", "readOrder", "()Z"⟩, 7), (⟨"ErrataPress$OrderText", "readCoins", "()Z"⟩, 7), (⟨"ErrataPress$OrderText", "readDigit", "()I"⟩, 7), (⟨"ErrataPress$OrderText", "readFirst", "()Z"⟩, 7), (⟨"ErrataPress$OrderText", "readWord", "()Z"⟩, 7), (⟨"ErrataPress$OrderText", "readLetter", "()Z"⟩, 7), (⟨"ErrataPress$OrderText", "readSecond", "()Z"⟩, 7), (⟨"ErrataPress", "carryOutAll", "()I"⟩, 10), (⟨"ErrataPress", "carryOutOrder", "()I"⟩, 10), (⟨"ErrataPress$State", "sumOfHouses", "([I)I"⟩, 18), (⟨"ErrataPressModel", "fails", "(I)Z"⟩, 21)]
theorem lw_r2 : ∀ q ∈ lw_privs_2, lw_okq q := List.forall_mem_cons.mpr ⟨lw_p16, List.forall_mem_cons.mpr ⟨lw_p17, List.forall_mem_cons.mpr ⟨lw_p18, List.forall_mem_cons.mpr ⟨lw_p19, List.forall_mem_cons.mpr ⟨lw_p20, List.forall_mem_cons.mpr ⟨lw_p21, List.forall_mem_cons.mpr ⟨lw_p22, List.forall_mem_cons.mpr ⟨lw_p23, List.forall_mem_cons.mpr ⟨lw_p24, List.forall_mem_cons.mpr ⟨lw_p25, List.forall_mem_cons.mpr ⟨lw_p26, List.forall_mem_cons.mpr ⟨lw_p27, List.forall_mem_cons.mpr ⟨lw_p28, List.forall_mem_cons.mpr ⟨lw_p29, List.forall_mem_cons.mpr ⟨lw_p30, List.forall_mem_cons.mpr ⟨lw_p31, fun _ h => absurd h List.not_mem_nil⟩⟩⟩⟩⟩⟩⟩⟩⟩⟩⟩⟩⟩⟩⟩⟩
theorem lw_p32 : lw_okq (⟨"ErrataPressModel", "refuses", "(III)I"⟩, 21) := ⟨⟨by decide +kernel, by decide +kernel⟩, List.mem_of_getElem? (i := 1022) (by decide +kernel), List.mem_of_getElem? (i := 1107) (by decide +kernel), List.mem_of_getElem? (i := 1108) (by decide +kernel)⟩
theorem lw_p33 : lw_okq (⟨"ErrataPressModel", "keeps", "([I)V"⟩, 21) := ⟨⟨by decide +kernel, by decide +kernel⟩, List.mem_of_getElem? (i := 1022) (by decide +kernel), List.mem_of_getElem? (i := 1111) (by decide +kernel), List.mem_of_getElem? (i := 1112) (by decide +kernel)⟩
theorem lw_p34 : lw_okq (⟨"ErrataPressModel", "adds", "(III)V"⟩, 21) := ⟨⟨by decide +kernel, by decide +kernel⟩, List.mem_of_getElem? (i := 1022) (by decide +kernel), List.mem_of_getElem? (i := 1118) (by decide +kernel), List.mem_of_getElem? (i := 1119) (by decide +kernel)⟩
theorem lw_p35 : lw_okq (⟨"ErrataPressModel", "isHouse", "(I)Z"⟩, 21) := ⟨⟨by decide +kernel, by decide +kernel⟩, List.mem_of_getElem? (i := 1022) (by decide +kernel), List.mem_of_getElem? (i := 1126) (by decide +kernel), List.mem_of_getElem? (i := 1127) (by decide +kernel)⟩
theorem lw_p36 : lw_okq (⟨"ErrataPressModel", "lays", "(III)V"⟩, 21) := ⟨⟨by decide +kernel, by decide +kernel⟩, List.mem_of_getElem? (i := 1022) (by decide +kernel), List.mem_of_getElem? (i := 1133) (by decide +kernel), List.mem_of_getElem? (i := 1134) (by decide +kernel)⟩
theorem lw_p37 : lw_okq (⟨"ErrataPressModel", "isSheet", "(I)Z"⟩, 21) := ⟨⟨by decide +kernel, by decide +kernel⟩, List.mem_of_getElem? (i := 1022) (by decide +kernel), List.mem_of_getElem? (i := 1141) (by decide +kernel), List.mem_of_getElem? (i := 1142) (by decide +kernel)⟩
theorem lw_p38 : lw_okq (⟨"ErrataPressModel", "isPlace", "(II)Z"⟩, 21) := ⟨⟨by decide +kernel, by decide +kernel⟩, List.mem_of_getElem? (i := 1022) (by decide +kernel), List.mem_of_getElem? (i := 1149) (by decide +kernel), List.mem_of_getElem? (i := 1150) (by decide +kernel)⟩
theorem lw_p39 : lw_okq (⟨"ErrataPressModel", "of", "(II)I"⟩, 21) := ⟨⟨by decide +kernel, by decide +kernel⟩, List.mem_of_getElem? (i := 1022) (by decide +kernel), List.mem_of_getElem? (i := 1153) (by decide +kernel), List.mem_of_getElem? (i := 1154) (by decide +kernel)⟩
theorem lw_p40 : lw_okq (⟨"ErrataPressModel", "misprints", "(II)I"⟩, 21) := ⟨⟨by decide +kernel, by decide +kernel⟩, List.mem_of_getElem? (i := 1022) (by decide +kernel), List.mem_of_getElem? (i := 1157) (by decide +kernel), List.mem_of_getElem? (i := 1158) (by decide +kernel)⟩
theorem lw_p41 : lw_okq (⟨"ErrataPressModel", "mark", "(II)I"⟩, 21) := ⟨⟨by decide +kernel, by decide +kernel⟩, List.mem_of_getElem? (i := 1022) (by decide +kernel), List.mem_of_getElem? (i := 1161) (by decide +kernel), List.mem_of_getElem? (i := 1162) (by decide +kernel)⟩
theorem lw_p42 : lw_okq (⟨"ErrataPressModel", "isAshamed", "(I)Z"⟩, 21) := ⟨⟨by decide +kernel, by decide +kernel⟩, List.mem_of_getElem? (i := 1022) (by decide +kernel), List.mem_of_getElem? (i := 1169) (by decide +kernel), List.mem_of_getElem? (i := 1170) (by decide +kernel)⟩
theorem lw_p43 : lw_okq (⟨"ErrataPressModel", "by", "(II)I"⟩, 21) := ⟨⟨by decide +kernel, by decide +kernel⟩, List.mem_of_getElem? (i := 1022) (by decide +kernel), List.mem_of_getElem? (i := 1173) (by decide +kernel), List.mem_of_getElem? (i := 1174) (by decide +kernel)⟩
theorem lw_p44 : lw_okq (⟨"ErrataPressModel", "price", "(I)I"⟩, 21) := ⟨⟨by decide +kernel, by decide +kernel⟩, List.mem_of_getElem? (i := 1022) (by decide +kernel), List.mem_of_getElem? (i := 1177) (by decide +kernel), List.mem_of_getElem? (i := 1178) (by decide +kernel)⟩
theorem lw_p45 : lw_okq (⟨"ErrataPressModel", "ofHouse", "(II)I"⟩, 21) := ⟨⟨by decide +kernel, by decide +kernel⟩, List.mem_of_getElem? (i := 1022) (by decide +kernel), List.mem_of_getElem? (i := 1181) (by decide +kernel), List.mem_of_getElem? (i := 1182) (by decide +kernel)⟩
theorem lw_p46 : lw_okq (⟨"ErrataPressModel", "fineAt", "(II)I"⟩, 21) := ⟨⟨by decide +kernel, by decide +kernel⟩, List.mem_of_getElem? (i := 1022) (by decide +kernel), List.mem_of_getElem? (i := 1189) (by decide +kernel), List.mem_of_getElem? (i := 1190) (by decide +kernel)⟩
theorem lw_p47 : lw_okq (⟨"ErrataPressModel", "bad", "(II)I"⟩, 21) := ⟨⟨by decide +kernel, by decide +kernel⟩, List.mem_of_getElem? (i := 1022) (by decide +kernel), List.mem_of_getElem? (i := 1193) (by decide +kernel), List.mem_of_getElem? (i := 1194) (by decide +kernel)⟩
def lw_privs_3 : List (MethodName × Nat) := [(⟨"ErrataPressModel", "refuses", "(III)I"⟩, 21), (⟨"ErrataPressModel", "keeps", "([I)V"⟩, 21), (⟨"ErrataPressModel", "adds", "(III)V"⟩, 21), (⟨"ErrataPressModel", "isHouse", "(I)Z"⟩, 21), (⟨"ErrataPressModel", "lays", "(III)V"⟩, 21), (⟨"ErrataPressModel", "isSheet", "(I)Z"⟩, 21), (⟨"ErrataPressModel", "isPlace", "(II)Z"⟩, 21), (⟨"ErrataPressModel", "of", "(II)I"⟩, 21), (⟨"ErrataPressModel", "misprints", "(II)I"⟩, 21), (⟨"ErrataPressModel", "mark", "(II)I"⟩, 21), (⟨"ErrataPressModel", "isAshamed", "(I)Z"⟩, 21), (⟨"ErrataPressModel", "by", "(II)I"⟩, 21), (⟨"ErrataPressModel", "price", "(I)I"⟩, 21), (⟨"ErrataPressModel", "ofHouse", "(II)I"⟩, 21), (⟨"ErrataPressModel", "fineAt", "(II)I"⟩, 21), (⟨"ErrataPressModel", "bad", "(II)I"⟩, 21)]
theorem lw_r3 : ∀ q ∈ lw_privs_3, lw_okq q := List.forall_mem_cons.mpr ⟨lw_p32, List.forall_mem_cons.mpr ⟨lw_p33, List.forall_mem_cons.mpr ⟨lw_p34, List.forall_mem_cons.mpr ⟨lw_p35, List.forall_mem_cons.mpr ⟨lw_p36, List.forall_mem_cons.mpr ⟨lw_p37, List.forall_mem_cons.mpr ⟨lw_p38, List.forall_mem_cons.mpr ⟨lw_p39, List.forall_mem_cons.mpr ⟨lw_p40, List.forall_mem_cons.mpr ⟨lw_p41, List.forall_mem_cons.mpr ⟨lw_p42, List.forall_mem_cons.mpr ⟨lw_p43, List.forall_mem_cons.mpr ⟨lw_p44, List.forall_mem_cons.mpr ⟨lw_p45, List.forall_mem_cons.mpr ⟨lw_p46, List.forall_mem_cons.mpr ⟨lw_p47, fun _ h => absurd h List.not_mem_nil⟩⟩⟩⟩⟩⟩⟩⟩⟩⟩⟩⟩⟩⟩⟩⟩
theorem lw_p48 : lw_okq (⟨"ErrataPressModel", "printable", "()I"⟩, 21) := ⟨⟨by decide +kernel, by decide +kernel⟩, List.mem_of_getElem? (i := 1022) (by decide +kernel), List.mem_of_getElem? (i := 1208) (by decide +kernel), List.mem_of_getElem? (i := 1209) (by decide +kernel)⟩
theorem lw_p49 : lw_okq (⟨"ErrataPressModel", "gets", "(III)V"⟩, 21) := ⟨⟨by decide +kernel, by decide +kernel⟩, List.mem_of_getElem? (i := 1022) (by decide +kernel), List.mem_of_getElem? (i := 1212) (by decide +kernel), List.mem_of_getElem? (i := 1213) (by decide +kernel)⟩
theorem lw_p50 : lw_okq (⟨"ErrataPressModel", "laughs", "(II)I"⟩, 21) := ⟨⟨by decide +kernel, by decide +kernel⟩, List.mem_of_getElem? (i := 1022) (by decide +kernel), List.mem_of_getElem? (i := 1219) (by decide +kernel), List.mem_of_getElem? (i := 1220) (by decide +kernel)⟩
theorem lw_p51 : lw_okq (⟨"ErrataPressModel", "laughers", "(II)I"⟩, 21) := ⟨⟨by decide +kernel, by decide +kernel⟩, List.mem_of_getElem? (i := 1022) (by decide +kernel), List.mem_of_getElem? (i := 1223) (by decide +kernel), List.mem_of_getElem? (i := 1224) (by decide +kernel)⟩
theorem lw_p52 : lw_okq (⟨"ErrataPressModel", "sheetsOf", "(I)I"⟩, 21) := ⟨⟨by decide +kernel, by decide +kernel⟩, List.mem_of_getElem? (i := 1022) (by decide +kernel), List.mem_of_getElem? (i := 1235) (by decide +kernel), List.mem_of_getElem? (i := 1236) (by decide +kernel)⟩
theorem lw_p53 : lw_okq (⟨"ErrataPressModel", "badOf", "(I)I"⟩, 21) := ⟨⟨by decide +kernel, by decide +kernel⟩, List.mem_of_getElem? (i := 1022) (by decide +kernel), List.mem_of_getElem? (i := 1243) (by decide +kernel), List.mem_of_getElem? (i := 1244) (by decide +kernel)⟩
theorem lw_p54 : lw_okq (⟨"ErrataPressModel", "isNowhere", "(II)Z"⟩, 21) := ⟨⟨by decide +kernel, by decide +kernel⟩, List.mem_of_getElem? (i := 1022) (by decide +kernel), List.mem_of_getElem? (i := 1251) (by decide +kernel), List.mem_of_getElem? (i := 1252) (by decide +kernel)⟩
theorem lw_p55 : lw_okq (⟨"ErrataPressModel", "finesOf", "(I)I"⟩, 21) := ⟨⟨by decide +kernel, by decide +kernel⟩, List.mem_of_getElem? (i := 1022) (by decide +kernel), List.mem_of_getElem? (i := 1267) (by decide +kernel), List.mem_of_getElem? (i := 1268) (by decide +kernel)⟩
theorem lw_p56 : lw_okq (⟨"ErrataPressModel", "canLicense", "(II)Z"⟩, 21) := ⟨⟨by decide +kernel, by decide +kernel⟩, List.mem_of_getElem? (i := 1022) (by decide +kernel), List.mem_of_getElem? (i := 1283) (by decide +kernel), List.mem_of_getElem? (i := 1284) (by decide +kernel)⟩
theorem lw_p57 : lw_okq (⟨"ErrataPressModel", "far", "(II)I"⟩, 21) := ⟨⟨by decide +kernel, by decide +kernel⟩, List.mem_of_getElem? (i := 1022) (by decide +kernel), List.mem_of_getElem? (i := 1299) (by decide +kernel), List.mem_of_getElem? (i := 1300) (by decide +kernel)⟩
theorem lw_p58 : lw_okq (⟨"ErrataPressModel", "isMoreAshamed", "(II)Z"⟩, 21) := ⟨⟨by decide +kernel, by decide +kernel⟩, List.mem_of_getElem? (i := 1022) (by decide +kernel), List.mem_of_getElem? (i := 1311) (by decide +kernel), List.mem_of_getElem? (i := 1312) (by decide +kernel)⟩
theorem lw_p59 : lw_okq (⟨"ErrataPressModel", "isWorse", "(II)Z"⟩, 21) := ⟨⟨by decide +kernel, by decide +kernel⟩, List.mem_of_getElem? (i := 1022) (by decide +kernel), List.mem_of_getElem? (i := 1319) (by decide +kernel), List.mem_of_getElem? (i := 1320) (by decide +kernel)⟩
theorem lw_p60 : lw_okq (⟨"ErrataPressModel", "writesNumber", "(I)V"⟩, 21) := ⟨⟨by decide +kernel, by decide +kernel⟩, List.mem_of_getElem? (i := 1022) (by decide +kernel), List.mem_of_getElem? (i := 1327) (by decide +kernel), List.mem_of_getElem? (i := 1328) (by decide +kernel)⟩
theorem lw_p61 : lw_okq (⟨"ErrataPressModel", "writes", "(I)V"⟩, 21) := ⟨⟨by decide +kernel, by decide +kernel⟩, List.mem_of_getElem? (i := 1022) (by decide +kernel), List.mem_of_getElem? (i := 1331) (by decide +kernel), List.mem_of_getElem? (i := 1332) (by decide +kernel)⟩
theorem lw_p62 : lw_okq (⟨"ErrataPressModel", "isText", "()Z"⟩, 21) := ⟨⟨by decide +kernel, by decide +kernel⟩, List.mem_of_getElem? (i := 1022) (by decide +kernel), List.mem_of_getElem? (i := 1351) (by decide +kernel), List.mem_of_getElem? (i := 1352) (by decide +kernel)⟩
theorem lw_p63 : lw_okq (⟨"ErrataPressModel", "orderHere", "()Z"⟩, 21) := ⟨⟨by decide +kernel, by decide +kernel⟩, List.mem_of_getElem? (i := 1022) (by decide +kernel), List.mem_of_getElem? (i := 1355) (by decide +kernel), List.mem_of_getElem? (i := 1356) (by decide +kernel)⟩
def lw_privs_4 : List (MethodName × Nat) := [(⟨"ErrataPressModel", "printable", "()I"⟩, 21), (⟨"ErrataPressModel", "gets", "(III)V"⟩, 21), (⟨"ErrataPressModel", "laughs", "(II)I"⟩, 21), (⟨"ErrataPressModel", "laughers", "(II)I"⟩, 21), (⟨"ErrataPressModel", "sheetsOf", "(I)I"⟩, 21), (⟨"ErrataPressModel", "badOf", "(I)I"⟩, 21), (⟨"ErrataPressModel", "isNowhere", "(II)Z"⟩, 21), (⟨"ErrataPressModel", "finesOf", "(I)I"⟩, 21), (⟨"ErrataPressModel", "canLicense", "(II)Z"⟩, 21), (⟨"ErrataPressModel", "far", "(II)I"⟩, 21), (⟨"ErrataPressModel", "isMoreAshamed", "(II)Z"⟩, 21), (⟨"ErrataPressModel", "isWorse", "(II)Z"⟩, 21), (⟨"ErrataPressModel", "writesNumber", "(I)V"⟩, 21), (⟨"ErrataPressModel", "writes", "(I)V"⟩, 21), (⟨"ErrataPressModel", "isText", "()Z"⟩, 21), (⟨"ErrataPressModel", "orderHere", "()Z"⟩, 21)]
theorem lw_r4 : ∀ q ∈ lw_privs_4, lw_okq q := List.forall_mem_cons.mpr ⟨lw_p48, List.forall_mem_cons.mpr ⟨lw_p49, List.forall_mem_cons.mpr ⟨lw_p50, List.forall_mem_cons.mpr ⟨lw_p51, List.forall_mem_cons.mpr ⟨lw_p52, List.forall_mem_cons.mpr ⟨lw_p53, List.forall_mem_cons.mpr ⟨lw_p54, List.forall_mem_cons.mpr ⟨lw_p55, List.forall_mem_cons.mpr ⟨lw_p56, List.forall_mem_cons.mpr ⟨lw_p57, List.forall_mem_cons.mpr ⟨lw_p58, List.forall_mem_cons.mpr ⟨lw_p59, List.forall_mem_cons.mpr ⟨lw_p60, List.forall_mem_cons.mpr ⟨lw_p61, List.forall_mem_cons.mpr ⟨lw_p62, List.forall_mem_cons.mpr ⟨lw_p63, fun _ h => absurd h List.not_mem_nil⟩⟩⟩⟩⟩⟩⟩⟩⟩⟩⟩⟩⟩⟩⟩⟩
theorem lw_p64 : lw_okq (⟨"ErrataPressModel", "here", "()I"⟩, 21) := ⟨⟨by decide +kernel, by decide +kernel⟩, List.mem_of_getElem? (i := 1022) (by decide +kernel), List.mem_of_getElem? (i := 1359) (by decide +kernel), List.mem_of_getElem? (i := 1360) (by decide +kernel)⟩
theorem lw_p65 : lw_okq (⟨"ErrataPressModel", "skips", "(I)Z"⟩, 21) := ⟨⟨by decide +kernel, by decide +kernel⟩, List.mem_of_getElem? (i := 1022) (by decide +kernel), List.mem_of_getElem? (i := 1363) (by decide +kernel), List.mem_of_getElem? (i := 1364) (by decide +kernel)⟩
theorem lw_p66 : lw_okq (⟨"ErrataPressModel", "figures", "(II)Z"⟩, 21) := ⟨⟨by decide +kernel, by decide +kernel⟩, List.mem_of_getElem? (i := 1022) (by decide +kernel), List.mem_of_getElem? (i := 1367) (by decide +kernel), List.mem_of_getElem? (i := 1368) (by decide +kernel)⟩
theorem lw_p67 : lw_okq (⟨"ErrataPressModel", "wordHere", "(III)Z"⟩, 21) := ⟨⟨by decide +kernel, by decide +kernel⟩, List.mem_of_getElem? (i := 1022) (by decide +kernel), List.mem_of_getElem? (i := 1371) (by decide +kernel), List.mem_of_getElem? (i := 1372) (by decide +kernel)⟩
theorem lw_p68 : lw_okq (⟨"ErrataPressModel", "carries", "(I)I"⟩, 21) := ⟨⟨by decide +kernel, by decide +kernel⟩, List.mem_of_getElem? (i := 1022) (by decide +kernel), List.mem_of_getElem? (i := 1375) (by decide +kernel), List.mem_of_getElem? (i := 1376) (by decide +kernel)⟩
theorem lw_p69 : lw_okq (⟨"ErrataPressModel", "refusesRun", "(I)I"⟩, 21) := ⟨⟨by decide +kernel, by decide +kernel⟩, List.mem_of_getElem? (i := 1022) (by decide +kernel), List.mem_of_getElem? (i := 1388) (by decide +kernel), List.mem_of_getElem? (i := 1389) (by decide +kernel)⟩
theorem lw_p70 : lw_okq (⟨"ErrataPressModel", "all", "(I)I"⟩, 21) := ⟨⟨by decide +kernel, by decide +kernel⟩, List.mem_of_getElem? (i := 1022) (by decide +kernel), List.mem_of_getElem? (i := 1404) (by decide +kernel), List.mem_of_getElem? (i := 1405) (by decide +kernel)⟩
theorem lw_p71 : lw_okq (⟨"ErrataPressModel", "summed", "(I)I"⟩, 21) := ⟨⟨by decide +kernel, by decide +kernel⟩, List.mem_of_getElem? (i := 1022) (by decide +kernel), List.mem_of_getElem? (i := 1408) (by decide +kernel), List.mem_of_getElem? (i := 1409) (by decide +kernel)⟩
def lw_privs_5 : List (MethodName × Nat) := [(⟨"ErrataPressModel", "here", "()I"⟩, 21), (⟨"ErrataPressModel", "skips", "(I)Z"⟩, 21), (⟨"ErrataPressModel", "figures", "(II)Z"⟩, 21), (⟨"ErrataPressModel", "wordHere", "(III)Z"⟩, 21), (⟨"ErrataPressModel", "carries", "(I)I"⟩, 21), (⟨"ErrataPressModel", "refusesRun", "(I)I"⟩, 21), (⟨"ErrataPressModel", "all", "(I)I"⟩, 21), (⟨"ErrataPressModel", "summed", "(I)I"⟩, 21)]
theorem lw_r5 : ∀ q ∈ lw_privs_5, lw_okq q := List.forall_mem_cons.mpr ⟨lw_p64, List.forall_mem_cons.mpr ⟨lw_p65, List.forall_mem_cons.mpr ⟨lw_p66, List.forall_mem_cons.mpr ⟨lw_p67, List.forall_mem_cons.mpr ⟨lw_p68, List.forall_mem_cons.mpr ⟨lw_p69, List.forall_mem_cons.mpr ⟨lw_p70, List.forall_mem_cons.mpr ⟨lw_p71, fun _ h => absurd h List.not_mem_nil⟩⟩⟩⟩⟩⟩⟩⟩
def lw_privs : List (MethodName × Nat) := lw_privs_1 ++ (lw_privs_2 ++ (lw_privs_3 ++ (lw_privs_4 ++ (lw_privs_5))))
def lw_tbl : List Cond := k2_sels lw_privs ++ tables_1
theorem lw_privs_ok : ∀ q ∈ lw_privs, lw_okq q := by
  show ∀ q ∈ lw_privs_1 ++ (lw_privs_2 ++ (lw_privs_3 ++ (lw_privs_4 ++ (lw_privs_5)))), lw_okq q
  exact List.forall_mem_append.mpr ⟨lw_r1, List.forall_mem_append.mpr ⟨lw_r2, List.forall_mem_append.mpr ⟨lw_r3, List.forall_mem_append.mpr ⟨lw_r4, lw_r5⟩⟩⟩⟩
/-- the streams that the claim lets the run draw from -/
abbrev lw_cs : List Choice := [Jvm.Choice.named "NaN.bits"]
theorem lw_bits : nanBits ∈ lw_cs := by first | decide | exact List.mem_cons_self | simp [lw_cs, nanBits]
/-! ===== BEGIN words of one list among another's, by their places ===== -/
theorem goodIn_r {big : List Cond} (ws : List Cond) (ps : List Nat) (hp : ws = ps.filterMap (fun i => big[i]?)) (h : ws.all goodWord = true) : GoodIn big ws := by
  intro w hw
  have h1 := List.all_eq_true.mp h w hw
  rw [hp] at hw
  obtain ⟨i, -, hi⟩ := List.mem_filterMap.mp hw
  have hm : w ∈ big := by first | exact List.mem_of_getElem? hi | exact List.getElem?_mem hi
  exact ⟨hm, good_of_word h1⟩
theorem goodIn_app {big a b : List Cond} (ha : GoodIn big a) (hb : GoodIn big b) : GoodIn big (a ++ b) := fun w h => (List.mem_append.mp h).elim (ha w) (hb w)
theorem goodIn_ca {big a b : List Cond} {c : Cond} (ha : GoodIn big (c :: a)) (hb : GoodIn big b) : GoodIn big (c :: (a ++ b)) := fun w h => (List.mem_cons.mp h).elim (fun e => ha w (List.mem_cons.mpr (Or.inl e))) (fun h => (List.mem_append.mp h).elim (fun h => ha w (List.mem_cons.mpr (Or.inr h))) (hb w))
theorem goodIn_sub {big ws : List Cond} (hm : ∀ w ∈ ws, w ∈ big) (h : ws.all goodWord = true) : GoodIn big ws := fun w hw => ⟨hm w hw, good_of_word (List.all_eq_true.mp h w hw)⟩
/-! ===== END ===== -/

/-! ===== BEGIN exceptions that leave a method, and their catching by the caller (launches without stack traces) ===== -/
section VXA
/-! The laws vx_back, vx_callV, vx_callS, vx_callSW, vx_throw0, vx_throwS follow proofs of the library, with one case more: JvmDerived/Free/Laws.lean (Back.of_free), Shelf42/LK1.lean (callV, callS), Shelf/KitTraced.lean (throwNew0V, throwNewS). -/
/-- where a method has thrown q: the class by its name, the cell, what was written, the world -/
def vx_T (XC : String → State → State → Prop) (st : State) (q : Addr) (t : State) (mc ms : Nat) (free : Addr → Prop) : Prop :=
  ∃ (E : String) (ce : Cell) (L : List Loc), XC E st t ∧ t.heap[q]? = some ce ∧ ce.vm = .none ∧ st.vm.findClass E = some ce.cls ∧ st.WarmedH t.vm ∧ st.sameButNew ({ t with vm := st.vm } : State) L mc ms ∧ ∀ z ∈ L, free z.base
def vx_Q (Qc : Array Value → State → Outcome → State → Prop) (XC : String → State → State → Prop) (mc ms : Nat) (free : Addr → Prop) : Array Value → State → Outcome → State → Prop := fun a st o t =>
  (Qc a st o t ∧ ∃ L, FrameEnd st o t L mc ms ∧ ∀ q ∈ L, free q.base) ∨ ∃ q, o = .threw q ∧ vx_T XC st q t mc ms free
/-- a callee that returns or throws -/
def vx_Met (l : Launch) (y : MethodName) (ws : List Cond) (rm : Room) (Pc : Array Value → State → Prop) (Qc : Array Value → State → Outcome → State → Prop) (XC : String → State → State → Prop) (mc ms : Nat) (free : Addr → Prop) : Prop :=
  MetFree l y (headSpec ws rm) Pc (fun _ _ _ _ _ => True) (vx_Q Qc XC mc ms free)
def vx_Post (XC : String → State → State → Prop) (mc ms : Nat) (free : Addr → Prop) : Pt → Array Value → Addr → Pt → Prop := fun A a q B =>
  ∃ (g : JFrame) (mk : MethodId) (t : State) (L : List Loc) (E : String) (ce : Cell), B.U.heap = t.heap ∧ B.U.vm = t.vm ∧ XC E (A.U.calling g mk a) t ∧ t.heap[q]? = some ce ∧ ce.vm = .none ∧ A.U.vm.findClass E = some ce.cls ∧ B.locs = A.locs ++ L ∧ (∀ z ∈ L, free z.base) ∧ B.cells = A.cells + mc ∧ B.slots = A.slots + ms
def vx_Back (l : Launch) (R : Room) (p : Program) (e : Env) (below : List Frame) (s : State) (sargs : Array Value) (y : MethodName) (len W9 : Nat)
    (Pre : Pt → Array Value → Prop) (Post : Pt → Array Value → Option Value → Pt → Prop) (PostX : Pt → Array Value → Addr → Pt → Prop) : Prop :=
  ∀ (m : MethodId) (meth : Method) (c : Code) (A : Pt) (g : JFrame) (ig : Instr) (mk : MethodId) (a : Array Value),
    Stand p l e R s m sargs below meth c A.U A.locs A.cells A.slots → g.method = m → g.locals.size = c.maxLocals → decode c.code g.pc = .ok (ig, len) →
    2 * g.monitorRoom + (g.stack.map fun v => v.category).sum ≤ W9 → A.U.methodNamed? y = some mk → Pre A a →
    (∃ (v : Option Value) (B : Pt), Stand p l e R s m sargs below meth c B.U B.locs B.cells B.slots ∧ Post A a v B ∧
      Steps p.tables e below (doInvoke e (A.U.setTop g) [] mk a).1 (B.U.setTop { g with pc := g.pc + len, stack := v.toList ++ g.stack })) ∨
    (∃ (q : Addr) (B : Pt), Stand p l e R s m sargs below meth c B.U B.locs B.cells B.slots ∧ PostX A a q B ∧
      Steps p.tables e below (doInvoke e (A.U.setTop g) [] mk a).1 ((B.U.setTop g).pushFrame (.throwing q)))
section Payer
variable {l : Launch} {R : Room} {p : Program} {e : Env} {below : List Frame} {s : State} {sargs : Array Value} {y : MethodName} {len W9 : Nat}
theorem vx_back {ws : List Cond} {rm : Room} {Pc : Array Value → State → Prop} {Qc : Array Value → State → Outcome → State → Prop} {XC : String → State → State → Prop} {mc ms : Nat} {free : Addr → Prop} {bytes : ByteArray} {maxL : Nat} {ret : Option FieldType}
    (hM : vx_Met l y ws rm Pc Qc XC mc ms free) (hblind : FrameBlind Pc) (hrc : rm.cells = mc) (hrs : rm.slots = ms)
    (hframes : rm.frames + 1 ≤ R.frames) (hlocals : W9 + (maxL + 11) + rm.locals ≤ R.locals)
    (hws : ∀ w ∈ ws, ∀ a' U, s.WarmedH U.vm → w.before a' U = true) (hcode : Cond.code y bytes maxL ret ∈ ws) (hinit : ∀ a' U, s.WarmedH U.vm → (Cond.initialized y.cls).before a' U = true) :
    vx_Back l R p e below s sargs y len W9 (PreOf R mc ms Pc) (PostOf Qc mc ms free) (vx_Post XC mc ms free) := by
  intro m meth c A g ig mk a X hg hsize hdg hW hn hp
  have h1 : (headSpec ws rm).pre.before a A.U = true := atoms_intro fun w hw => hws w hw _ _ X.warmed
  have h2 : (Cond.code y bytes maxL ret).before a A.U = true := hws _ hcode _ _ X.warmed
  have h3 : (Cond.initialized y.cls).before a A.U = true := hinit _ _ X.warmed
  have h4 : A.cells + (headSpec ws rm).room.cells ≤ R.cells := by rw [show (headSpec ws rm).room.cells = mc from hrc]; exact hp.1
  have h5 : A.slots + (headSpec ws rm).room.slots ≤ R.slots := by rw [show (headSpec ws rm).room.slots = ms from hrs]; exact hp.2.1
  have hPc : Pc a (A.U.calling g mk a) := hblind _ _ _ _ hp.2.2
  obtain ⟨U, Ls, c0, s0⟩ := A
  dsimp only [Pt.U, Pt.locs, Pt.cells, Pt.slots] at h1 h2 h3 h4 h5 X hn hPc ⊢
  obtain ⟨methY, cY, hmY, hcY, -, hlY, -, -, -, -⟩ := Cond.code_spec hn h2
  obtain ⟨kY, hkY, -⟩ := className_of_methodNamed hn
  have hinitY : kY.init = .initialized := Cond.initialized_spec (findClass_of_methodNamed hn) hkY h3
  have h : At U g.method c below := by rw [hg]; exact X.here
  have hlocals9 : W9 + (maxL + 11) + (headSpec ws rm).room.locals ≤ R.locals := hlocals
  have happ : (headSpec ws rm).appliesLoose y e.platform (U.calling g mk a) = true :=
    Spec.appliesLoose_calling (g := g) h hdg hn hkY hinitY
      (X.room_calling (g := g) (R' := (headSpec ws rm).room) hsize hmY hcY hframes (by rw [hlY]; omega) h4 h5) h1
  obtain ⟨mid, hmid⟩ := h.above
  have hfr : (U.setTop g).frames = (.java g :: mid) ++ below := by rw [State.frames_setTop' g h.top, hmid]; rfl
  obtain ⟨o, s₂, hsteps, -, hend, hq⟩ := Steps.callFree hM p X.admits X.cas X.clock (acts := []) hfr happ hPc trivial
  have hq' : vx_Q Qc XC mc ms free a (U.calling g mk a) o s₂ := hq
  rw [State.frames_setTop' g h.top] at hend
  obtain ⟨g₀, hg0⟩ := Option.isSome_iff_exists.mp h.top
  obtain ⟨r, hr⟩ := State.topJava?_eq_some.mp hg0
  have hr' : (({ U with heap := s₂.heap, slotsUsed := s₂.slotsUsed } : State).setVm s₂.vm).frames = .java g₀ :: r := hr
  rcases hq' with ⟨hqc, L, hfe, hL⟩ | ⟨q, rfl, E, ce, L, hx, hce, hcv, hcl, hW₂, hsm, hL⟩
  · obtain ⟨⟨v, rfl⟩, hW₂, e2, q2, q3, q4, q5, q6⟩ := id hfe
    have e3 : s₂ = ({ (U.calling g mk a).setFrames s₂.frames with heap := s₂.heap, slotsUsed := s₂.slotsUsed } : State).setVm s₂.vm := by
      have : s₂ = ({ s₂ with vm := (U.calling g mk a).vm } : State).setVm s₂.vm := rfl
      rw [e2] at this
      exact this
    obtain ⟨c₂, i₂, len₂, hc₂, hd₂, hf₂⟩ := hend
    have hW' : U.WarmedH s₂.vm := hW₂
    have hcc : c₂ = c := by
      have h1 : s₂.code? g.method = U.code? g.method := by
        rw [State.code?_eq, State.code?_eq, hW'.alike.method?]
      exact Option.some.inj (hc₂.symm.trans (h1.trans h.code))
    subst hcc
    have hlen : len₂ = len := by rw [hdg] at hd₂; cases hd₂; rfl
    subst hlen
    have hs₂ : s₂ = (({ U with heap := s₂.heap, slotsUsed := s₂.slotsUsed } : State).setVm s₂.vm).setTop { g with pc := g.pc + len₂, stack := v.toList ++ g.stack } := by
      refine e3.trans ?_
      rw [hf₂, State.calling_eq h.top, State.setFrames_setFrames, State.setTop_of_frames _ hr', hr]
      rfl
    have hsame : U.sameButNew ({ U with heap := s₂.heap, slotsUsed := s₂.slotsUsed } : State) L mc ms := by
      refine ⟨?_, q2, q3, q4, q5, q6⟩
      obtain ⟨t, ht, -⟩ := State.frames_cons hr
      show ({ U with heap := s₂.heap, slotsUsed := s₂.slotsUsed } : State) = { U.setFrames U.frames with heap := s₂.heap, slotsUsed := s₂.slotsUsed }
      rw [State.setFrames_self ht]
    subst hg
    refine Or.inl ⟨v, ⟨(({ U with heap := s₂.heap, slotsUsed := s₂.slotsUsed } : State).setVm s₂.vm), Ls ++ L, c0 + mc, s0 + ms⟩,
      ⟨X.admits, X.cas, X.clock, X.frames, X.room, X.hears, X.method, X.code, (X.here.setHeapUsed s₂.heap s₂.slotsUsed).setVm hW'.alike, X.tail, State.WarmedH.trans X.warmed hW', X.limits, X.bytes, X.same.trans (hsame.setVm s.vm)⟩,
      ⟨g, mk, s₂, L, rfl, rfl, hqc, rfl, hL, rfl, rfl⟩, ?_⟩
    show Steps p.tables e below _ ((({ U with heap := s₂.heap, slotsUsed := s₂.slotsUsed } : State).setVm s₂.vm).setTop { g with pc := g.pc + len₂, stack := v.toList ++ g.stack })
    rw [← hs₂]
    exact hsteps
  · obtain ⟨e2, q2, q3, q4, q5, q6⟩ := id hsm
    have e3 : s₂ = ({ (U.calling g mk a).setFrames s₂.frames with heap := s₂.heap, slotsUsed := s₂.slotsUsed } : State).setVm s₂.vm := by
      have : s₂ = ({ s₂ with vm := (U.calling g mk a).vm } : State).setVm s₂.vm := rfl
      rw [e2] at this
      exact this
    have hf₂ : s₂.frames = .throwing q :: .java g :: U.frames.tail := hend
    have hW' : U.WarmedH s₂.vm := hW₂
    have hs₂ : s₂ = ((({ U with heap := s₂.heap, slotsUsed := s₂.slotsUsed } : State).setVm s₂.vm).setTop g).pushFrame (.throwing q) := by
      refine e3.trans ?_
      rw [hf₂, State.calling_eq h.top, State.setFrames_setFrames, State.pushFrame, State.frames_setTop _ hr', State.setTop_of_frames _ hr', State.setFrames_setFrames, hr]
      rfl
    have hsame : U.sameButNew ({ U with heap := s₂.heap, slotsUsed := s₂.slotsUsed } : State) L mc ms := by
      refine ⟨?_, q2, q3, q4, q5, q6⟩
      obtain ⟨t, ht, -⟩ := State.frames_cons hr
      show ({ U with heap := s₂.heap, slotsUsed := s₂.slotsUsed } : State) = { U.setFrames U.frames with heap := s₂.heap, slotsUsed := s₂.slotsUsed }
      rw [State.setFrames_self ht]
    subst hg
    refine Or.inr ⟨q, ⟨(({ U with heap := s₂.heap, slotsUsed := s₂.slotsUsed } : State).setVm s₂.vm), Ls ++ L, c0 + mc, s0 + ms⟩,
      ⟨X.admits, X.cas, X.clock, X.frames, X.room, X.hears, X.method, X.code, (X.here.setHeapUsed s₂.heap s₂.slotsUsed).setVm hW'.alike, X.tail, State.WarmedH.trans X.warmed hW', X.limits, X.bytes, X.same.trans (hsame.setVm s.vm)⟩,
      ⟨g, mk, s₂, L, E, ce, rfl, rfl, hx, hce, hcv, hcl, rfl, hL, rfl, rfl⟩, ?_⟩
    show Steps p.tables e below _ (((({ U with heap := s₂.heap, slotsUsed := s₂.slotsUsed } : State).setVm s₂.vm).setTop g).pushFrame (.throwing q))
    rw [← hs₂]
    exact hsteps
end Payer
section Calls
variable {p : Program} {l : Launch} {e : Env} {R : Room} {s : State} {m : MethodId} {args : Array Value} {below : List Frame} {meth : Method} {c : Code} {T : State} {locs : List Loc} {cells slots : Nat}
theorem vx_callV (X : Stand p l e R s m args below meth c T locs cells slots) (hexec : p.tables.exec = Jvm.exec) {own C : String} {index : Nat} {y : MethodName} {bytes : ByteArray} {maxL : Nat} {ret : Option FieldType}
    (hown : s.vm.findClass own = some m.cls) (hlink : (Cond.methodLink own index y).before args s = true) (hinst : (Cond.instanceMethod y).before args s = true) (hsel : (Cond.selects C y y).before args s = true)
    (hcode : (Cond.code y bytes maxL ret).before args s = true) (hy : y.cls ≠ "java/lang/invoke/MethodHandle" ∧ y.cls ≠ "java/lang/invoke/VarHandle")
    {W9 : Nat} {Pre : Pt → Array Value → Prop} {Post : Pt → Array Value → Option Value → Pt → Prop} {PostX : Pt → Array Value → Addr → Pt → Prop} (hK : vx_Back l R p e below s args y 3 W9 Pre Post PostX)
    {b : Addr} {cellB : Cell} (hcell : T.heap[b]? = some cellB) (hobj : cellB.vm.isStatics = false) (hcls : s.vm.findClass C = some cellB.cls)
    {g : JFrame} (hg : g.method = m) (hsize : g.locals.size = c.maxLocals) {argsL rest : List Value} (hlen : ∀ sig, parseMethodDescriptor y.desc = some sig → argsL.length = sig.parameters.length)
    (hstack : g.stack = argsL.reverse ++ .ref b :: rest) (hW : 2 * g.monitorRoom + (rest.map fun v => v.category).sum ≤ W9) (hdg : decode c.code g.pc = .ok (.invokevirtual index, 3))
    (hpre : ∀ vm₁, s.WarmedH vm₁ → Pre ⟨T.setVm vm₁, locs, cells, slots⟩ (Value.ref b :: argsL).toArray) :
    (∃ (v : Option Value) (vm₁ : Vm) (B : Pt), s.WarmedH vm₁ ∧ Stand p l e R s m args below meth c B.U B.locs B.cells B.slots ∧ Post ⟨T.setVm vm₁, locs, cells, slots⟩ (Value.ref b :: argsL).toArray v B ∧
      ∀ target, Steps p.tables e below (B.U.setTop { g with pc := g.pc + 3, stack := v.toList ++ rest }) target → Steps p.tables e below (T.setTop g) target) ∨
    (∃ (q : Addr) (vm₁ : Vm) (B : Pt), s.WarmedH vm₁ ∧ Stand p l e R s m args below meth c B.U B.locs B.cells B.slots ∧ PostX ⟨T.setVm vm₁, locs, cells, slots⟩ (Value.ref b :: argsL).toArray q B ∧
      Steps p.tables e below (T.setTop g) ((B.U.setTop { g with stack := rest }).pushFrame (.throwing q))) := by
  obtain ⟨mk, methM, hnamed, hmethM, hstM, habM⟩ := Cond.instanceMethod_spec hinst
  obtain ⟨methM', cM, hmethM', -, -, -, -, -, -, hsigM⟩ := Cond.code_spec hnamed hcode
  cases hmethM.symm.trans hmethM'
  obtain ⟨c2, r2, m2, q1, q2, q3, q4, kP, hkP, hkPi⟩ := Cond.selects_spec hsel
  cases hcls.symm.trans q1
  cases (State.methodFound?_of_named hnamed hy).symm.trans q2
  cases hnamed.symm.trans q3
  have hselP : selectMethod e.platform s.vm cellB.cls mk = .method mk := by rw [Launch.admits_selectMethod X.admits]; exact q4
  obtain ⟨vm₁, X₁, hstep₁⟩ := X.invokevirtual hexec hown hlink hnamed hmethM hstM hkP hkPi hy (a := b) (cell := cellB) hcell
    (fun z h => by rw [h] at hobj; cases hobj) hselP hmethM habM hkP hkPi (g := g) hg (argsL := argsL) (rest := rest) (hlen _ hsigM) hstack hdg
  rcases hK m meth c ⟨T.setVm vm₁, locs, cells, slots⟩ { g with stack := rest } (.invokevirtual index) mk (Value.ref b :: argsL).toArray X₁ hg hsize hdg hW (X₁.named hnamed) (hpre vm₁ X₁.warmed) with ⟨v, B, X', hpost, hsteps⟩ | ⟨q, B, X', hpost, hsteps⟩
  · exact Or.inl ⟨v, vm₁, B, X₁.warmed, X', hpost, fun target h => hstep₁ _ fun acts => by rw [doInvoke_state]; exact hsteps.trans h⟩
  · exact Or.inr ⟨q, vm₁, B, X₁.warmed, X', hpost, hstep₁ _ fun acts => by rw [doInvoke_state]; exact hsteps⟩
theorem vx_callS (X : Stand p l e R s m args below meth c T locs cells slots) (hexec : p.tables.exec = Jvm.exec) {own : String} {index : Nat} {y : MethodName} {bytes : ByteArray} {maxL : Nat} {ret : Option FieldType}
    (hown : s.vm.findClass own = some m.cls) (hlink : (Cond.methodLink own index y).before args s = true) (hstat : (Cond.static y).before args s = true) (hinit : (Cond.initialized y.cls).before args s = true)
    (hcode : (Cond.code y bytes maxL ret).before args s = true) (hy : y.cls ≠ "java/lang/invoke/MethodHandle" ∧ y.cls ≠ "java/lang/invoke/VarHandle")
    {W9 : Nat} {Pre : Pt → Array Value → Prop} {Post : Pt → Array Value → Option Value → Pt → Prop} {PostX : Pt → Array Value → Addr → Pt → Prop} (hK : vx_Back l R p e below s args y 3 W9 Pre Post PostX)
    {g : JFrame} (hg : g.method = m) (hsize : g.locals.size = c.maxLocals) {argsL rest : List Value} (hlen : ∀ sig, parseMethodDescriptor y.desc = some sig → argsL.length = sig.parameters.length)
    (hstack : g.stack = argsL.reverse ++ rest) (hW : 2 * g.monitorRoom + (rest.map fun v => v.category).sum ≤ W9) (hdg : decode c.code g.pc = .ok (.invokestatic index, 3))
    (hpre : ∀ vm₁, s.WarmedH vm₁ → Pre ⟨T.setVm vm₁, locs, cells, slots⟩ argsL.toArray) :
    (∃ (v : Option Value) (vm₁ : Vm) (B : Pt), s.WarmedH vm₁ ∧ Stand p l e R s m args below meth c B.U B.locs B.cells B.slots ∧ Post ⟨T.setVm vm₁, locs, cells, slots⟩ argsL.toArray v B ∧
      ∀ target, Steps p.tables e below (B.U.setTop { g with pc := g.pc + 3, stack := v.toList ++ rest }) target → Steps p.tables e below (T.setTop g) target) ∨
    (∃ (q : Addr) (vm₁ : Vm) (B : Pt), s.WarmedH vm₁ ∧ Stand p l e R s m args below meth c B.U B.locs B.cells B.slots ∧ PostX ⟨T.setVm vm₁, locs, cells, slots⟩ argsL.toArray q B ∧
      Steps p.tables e below (T.setTop g) ((B.U.setTop { g with stack := rest }).pushFrame (.throwing q))) := by
  obtain ⟨mk, hnamed⟩ := Cond.code_named hcode
  obtain ⟨methM, cM, hmethM, -, -, -, -, -, -, hsigM⟩ := Cond.code_spec hnamed hcode
  have hstatic : methM.isStatic = true := Cond.static_spec hnamed hmethM hstat
  obtain ⟨kP, hkP, -⟩ := className_of_methodNamed hnamed
  have hinitP : kP.init = .initialized := Cond.initialized_spec (findClass_of_methodNamed hnamed) hkP hinit
  obtain ⟨vm₁, X₁, hstep₁⟩ := X.invokestatic hexec hown hlink hnamed hmethM hstatic hkP hinitP hy (g := g) hg (argsL := argsL) (rest := rest) (hlen _ hsigM) hstack hdg
  rcases hK m meth c ⟨T.setVm vm₁, locs, cells, slots⟩ { g with stack := rest } (.invokestatic index) mk argsL.toArray X₁ hg hsize hdg hW (X₁.named hnamed) (hpre vm₁ X₁.warmed) with ⟨v, B, X', hpost, hsteps⟩ | ⟨q, B, X', hpost, hsteps⟩
  · exact Or.inl ⟨v, vm₁, B, X₁.warmed, X', hpost, fun target h => hstep₁ _ fun acts => by rw [doInvoke_state]; exact hsteps.trans h⟩
  · exact Or.inr ⟨q, vm₁, B, X₁.warmed, X', hpost, hstep₁ _ fun acts => by rw [doInvoke_state]; exact hsteps⟩
end Calls
theorem vx_cls {s : State} {T : State} {vm₁ : Vm} {E : String} {k : ClassId} (hW : s.WarmedH vm₁) (h : (T.setVm vm₁).vm.findClass E = some k) : s.vm.findClass E = some k := by
  have h1 : vm₁.findClass E = some k := h
  rw [hW.alike.findClass] at h1
  exact h1
/-- the method's frame g, with q thrown over it -/
def vx_W (p : Program) (l : Launch) (e : Env) (R : Room) (s : State) (m : MethodId) (args : Array Value) (below : List Frame) (meth : Method) (c : Code) (H : Heap) (locs : List Loc) (cells slots : Nat) (Q : State → Prop) (g : JFrame) (q : Addr) : Prop :=
  ∀ T : State, T.heap = H → Stand p l e R s m args below meth c T locs cells slots → ∃ t, Steps p.tables e below ((T.setTop g).pushFrame (.throwing q)) t ∧ Q t
def vx_Run (p : Program) (l : Launch) (e : Env) (R : Room) (s : State) (m : MethodId) (args : Array Value) (below : List Frame) (meth : Method) (c : Code) (H : Heap) (locs : List Loc) (cells slots mc ms : Nat) (g : JFrame) (rest : List Value) (Qa : State → Outcome → State → Prop) (XC : String → State → State → Prop) (free : Addr → Prop) : Prop :=
  ∀ T : State, T.heap = H → Stand p l e R s m args below meth c T locs cells slots →
    (∃ (v : Option Value) (st₀ t T' : State) (L : List Loc), st₀.heap = H ∧ Stand p l e R s m args below meth c T' (locs ++ L) (cells + mc) (slots + ms) ∧ (∀ q ∈ L, free q.base) ∧ T'.heap = t.heap ∧ T'.vm = t.vm ∧ Qa st₀ (.returned v) t ∧
      Goes p e below T g T' { g with pc := g.pc + 3, stack := v.toList ++ rest }) ∨
    (∃ (q : Addr) (st₀ t T' : State) (L : List Loc) (E : String) (ce : Cell), st₀.heap = H ∧ Stand p l e R s m args below meth c T' (locs ++ L) (cells + mc) (slots + ms) ∧ (∀ z ∈ L, free z.base) ∧ T'.heap = t.heap ∧ T'.vm = t.vm ∧ XC E st₀ t ∧ t.heap[q]? = some ce ∧ ce.vm = .none ∧ s.vm.findClass E = some ce.cls ∧
      Steps p.tables e below (T.setTop g) ((T'.setTop { g with stack := rest }).pushFrame (.throwing q)))
def vx_X {S : Type} (px : S → Prop) (B : String → S → State → Prop) (A : Nat → Prop) : String → State → State → Prop := fun E st t => ∃ u : S, px u ∧ B E u t ∧ va_F A st t
section Runs
variable {p : Program} {l : Launch} {e : Env} {R : Room} {s : State} {m : MethodId} {args : Array Value} {below : List Frame} {meth : Method} {c : Code} {H : Heap} {locs : List Loc} {cells slots : Nat}
variable {y : MethodName} {bytes cc : ByteArray} {maxL nL mc ms n index : Nat} {ret : Option FieldType} {ws : List Cond} {rm : Room} {Pc : Array Value → State → Prop} {Qc : Array Value → State → Outcome → State → Prop} {XC : String → State → State → Prop} {free : Addr → Prop} {Ts : List Cond} {own C : String} {b : Addr} {As rest : List Value} {g : JFrame}
theorem vx_callBack (cb : CallB R s args own index y bytes maxL ret ws rm mc ms n) (hM : vx_Met l y ws rm Pc Qc XC mc ms free) (hbl : FrameBlind Pc) : vx_Back l R p e below s args y 3 8 (PreOf R mc ms Pc) (PostOf Qc mc ms free) (vx_Post XC mc ms free) := by
  obtain ⟨hrc, hrs, hfr, hlo, hws, hcw, -, hini, -⟩ := cb
  exact vx_back (bytes := bytes) (maxL := maxL) (ret := ret) hM hbl hrc hrs hfr hlo hws hcw (fun a' U hW => word_at hW (Or.inl (by first | rfl | simp [Cond.onTables, Cond.keeps, Cond.steady])) hini)
theorem vx_runV (S : CallFix p m c cc nL s args Ts own) (hM : vx_Met l y ws rm Pc Qc XC mc ms free) (cw : CallW R s args own C index y bytes maxL ret ws rm mc ms n) (hp : PreV s H C b Pc As)
    (hg : g.method = m) (hn : As.length = n) (hsize : g.locals.size = nL) (hstack : g.stack = As.reverse ++ .ref b :: rest) (hW : 2 * g.monitorRoom + (rest.map fun v => v.category).sum ≤ 8) (hdg : decode cc g.pc = .ok (.invokevirtual index, 3)) (hf : cells + mc ≤ R.cells ∧ slots + ms ≤ R.slots) :
    vx_Run p l e R s m args below meth c H locs cells slots mc ms g rest (Qc (Value.ref b :: As).toArray) XC free := by
  have hK : vx_Back l R p e below s args y 3 8 (PreOf R mc ms Pc) (PostOf Qc mc ms free) (vx_Post XC mc ms free) := vx_callBack cw.1 hM hp.1
  obtain ⟨⟨-, -, -, -, -, -, hcode, -, hy, hlen, hl⟩, hin, hse⟩ := cw
  obtain ⟨hx, hb, hml, ho, -⟩ := S
  obtain ⟨-, ⟨cellB, hcB, hoB, hclB⟩, hPc⟩ := hp
  intro T hT X
  rcases vx_callV X hx (C := C) (bytes := bytes) (maxL := maxL) (ret := ret) ho hl hin hse hcode hy hK (by rw [hT]; exact hcB) hoB hclB hg (hsize.trans hml.symm) (argsL := As) (rest := rest) (fun sig h => hn.trans (hlen sig h)) hstack hW (by rw [hb]; exact hdg)
    (fun vm₁ hW₁ => ⟨hf.1, hf.2, hPc (T.setVm vm₁) hT hW₁⟩) with ⟨v, vm₁, ⟨U', l2, c2, s2⟩, hW₁, X', ⟨g', mk, t, L, e1, e2, hq, h1, hL, h2, h3⟩, st⟩ | ⟨q, vm₁, ⟨U', l2, c2, s2⟩, hW₁, X', ⟨g', mk, t, L, E, ce, e1, e2, hq, hce, hcv, hcl, h1, hL, h2, h3⟩, st⟩
  · dsimp only [Pt.U, Pt.locs, Pt.cells, Pt.slots] at X' e1 e2 h1 h2 h3 st
    subst h1; subst h2; subst h3
    exact Or.inl ⟨v, (T.setVm vm₁).calling g' mk (Value.ref b :: As).toArray, t, U', L, hT, X', hL, e1, e2, hq, st⟩
  · dsimp only [Pt.U, Pt.locs, Pt.cells, Pt.slots] at X' e1 e2 h1 h2 h3 st hcl
    subst h1; subst h2; subst h3
    exact Or.inr ⟨q, (T.setVm vm₁).calling g' mk (Value.ref b :: As).toArray, t, U', L, E, ce, hT, X', hL, e1, e2, hq, hce, hcv, vx_cls hW₁ hcl, st⟩
theorem vx_runS (S : CallFix p m c cc nL s args Ts own) (hM : vx_Met l y ws rm Pc Qc XC mc ms free) (cw : CallB R s args own index y bytes maxL ret ws rm mc ms n ∧ (Cond.static y).before args s = true) (hp : PreS s H Pc As)
    (hg : g.method = m) (hn : As.length = n) (hsize : g.locals.size = nL) (hstack : g.stack = As.reverse ++ rest) (hW : 2 * g.monitorRoom + (rest.map fun v => v.category).sum ≤ 8) (hdg : decode cc g.pc = .ok (.invokestatic index, 3)) (hf : cells + mc ≤ R.cells ∧ slots + ms ≤ R.slots) :
    vx_Run p l e R s m args below meth c H locs cells slots mc ms g rest (Qc As.toArray) XC free := by
  have hK : vx_Back l R p e below s args y 3 8 (PreOf R mc ms Pc) (PostOf Qc mc ms free) (vx_Post XC mc ms free) := vx_callBack cw.1 hM hp.1
  obtain ⟨⟨-, -, -, -, -, -, hcode, hini, hy, hlen, hl⟩, hstt⟩ := cw
  obtain ⟨hx, hb, hml, ho, -⟩ := S
  intro T hT X
  rcases vx_callS X hx (bytes := bytes) (maxL := maxL) (ret := ret) ho hl hstt hini hcode hy hK hg (hsize.trans hml.symm) (argsL := As) (rest := rest) (fun sig h => hn.trans (hlen sig h)) hstack hW (by rw [hb]; exact hdg)
    (fun vm₁ hW₁ => ⟨hf.1, hf.2, hp.2 (T.setVm vm₁) hT hW₁⟩) with ⟨v, vm₁, ⟨U', l2, c2, s2⟩, hW₁, X', ⟨g', mk, t, L, e1, e2, hq, h1, hL, h2, h3⟩, st⟩ | ⟨q, vm₁, ⟨U', l2, c2, s2⟩, hW₁, X', ⟨g', mk, t, L, E, ce, e1, e2, hq, hce, hcv, hcl, h1, hL, h2, h3⟩, st⟩
  · dsimp only [Pt.U, Pt.locs, Pt.cells, Pt.slots] at X' e1 e2 h1 h2 h3 st
    subst h1; subst h2; subst h3
    exact Or.inl ⟨v, (T.setVm vm₁).calling g' mk As.toArray, t, U', L, hT, X', hL, e1, e2, hq, st⟩
  · dsimp only [Pt.U, Pt.locs, Pt.cells, Pt.slots] at X' e1 e2 h1 h2 h3 st hcl
    subst h1; subst h2; subst h3
    exact Or.inr ⟨q, (T.setVm vm₁).calling g' mk As.toArray, t, U', L, E, ce, hT, X', hL, e1, e2, hq, hce, hcv, vx_cls hW₁ hcl, st⟩
end Runs
section Rows
variable {p : Program} {l : Launch} {e : Env} {R : Room} {s : State} {m : MethodId} {args : Array Value} {below : List Frame} {meth : Method} {c : Code} {H : Heap} {locs : List Loc} {cells slots : Nat} {Q : State → Prop}
variable {mc ms : Nat} {free : Addr → Prop} {A0 A1 : Nat → Prop} {H0 : Heap} {a : Array Value} {pc : Nat} {ls : Array Slot} {st0 rest : List Value}
theorem vx_keep {st₀ t T' : State} {L : List Loc} (h0 : st₀.heap = H) (e1 : T'.heap = t.heap) (hS : va_S A0 H0 H locs) (hA : ∀ q, q < H.size → A1 q → A0 q) (hf : ∀ q, free q → A0 q) (hL : ∀ q ∈ L, free q.base) (hF : va_F A1 st₀ t) :
    H.size ≤ T'.heap.size ∧ (∀ q : Nat, q < H.size → ¬ A1 q → T'.heap[q]? = H[q]?) ∧ va_S A0 H0 T'.heap (locs ++ L) := by
  obtain ⟨hz, hk⟩ := hF
  rw [h0] at hz hk
  exact ⟨by rw [e1]; exact hz, fun q h1 h2 => by rw [e1]; exact hk q h1 h2,
    ⟨Nat.le_trans hS.1 (by rw [e1]; exact hz), fun q h1 h2 => by rw [e1, hk q (Nat.lt_of_lt_of_le h1 hS.1) (fun z => h2 (hA q (Nat.lt_of_lt_of_le h1 hS.1) z))]; exact hS.2.1 q h1 h2, fun q hq => by
      rcases List.mem_append.mp hq with h | h
      · exact hS.2.2 q h
      · exact hf _ (hL q h)⟩⟩
theorem vx_calli {S SX : Type} {post : Int32 → S → Prop} {px : SX → Prop} {B : S → State → Prop} {BX : String → SX → State → Prop} {AX : Nat → Prop} (hr : vx_Run p l e R s m args below meth c H locs cells slots mc ms (F0 m pc ls st0) rest (va_Qi post B A1 a) (vx_X px BX AX) free) (hS : va_S A0 H0 H locs) (hA : ∀ q, q < H.size → A1 q → A0 q) (hf : ∀ q, free q → A0 q) (hAX : ∀ q, q < H.size → AX q → A0 q)
    (kx : ∀ (E : String) (ce : Cell) (q9 : Addr) (u : SX) (t : State) (H1 : Heap) (locs1 : List Loc), t.heap = H1 → s.vm.Alike t.vm → px u → BX E u t → H.size ≤ H1.size → (∀ q : Nat, q < H.size → ¬ AX q → H1[q]? = H[q]?) → va_S A0 H0 H1 locs1 → H1[q9]? = some ce → ce.vm = .none → s.vm.findClass E = some ce.cls → vx_W p l e R s m args below meth c H1 locs1 (cells + mc) (slots + ms) Q (F0 m pc ls rest) q9)
    (kk : ∀ (r : Int32) (u : S) (t : State) (H1 : Heap) (locs1 : List Loc), t.heap = H1 → s.vm.Alike t.vm → post r u → B u t → H.size ≤ H1.size → (∀ q : Nat, q < H.size → ¬ A1 q → H1[q]? = H[q]?) → va_S A0 H0 H1 locs1 → W p l e R s m args below meth c H1 locs1 (cells + mc) (slots + ms) Q (F0 m (pc + 3) ls (.int r :: rest))) : W p l e R s m args below meth c H locs cells slots Q (F0 m pc ls st0) := by
  intro T hT X
  rcases hr T hT X with ⟨v, st₀, t, T', L, h0, X', hL, e1, e2, ⟨⟨r, u, hv, hp, hb⟩, hF⟩, st⟩ | ⟨q, st₀, t, T', L, E, ce, h0, X', hL, e1, e2, ⟨u, hp, hb, hF⟩, hce, hcv, hcl, st⟩
  · cases hv
    obtain ⟨k1, k2, k3⟩ := vx_keep h0 e1 hS hA hf hL hF
    obtain ⟨t2, a1, b1⟩ := kk r u t T'.heap (locs ++ L) e1.symm (by rw [← e2]; exact X'.warmed.alike) hp hb k1 k2 k3 T' rfl X'
    exact ⟨t2, st t2 a1, b1⟩
  · obtain ⟨k1, k2, k3⟩ := vx_keep h0 e1 hS hAX hf hL hF
    obtain ⟨t2, a1, b1⟩ := kx E ce q u t T'.heap (locs ++ L) e1.symm (by rw [← e2]; exact X'.warmed.alike) hp hb k1 k2 k3 (by rw [e1]; exact hce) hcv hcl T' rfl X'
    exact ⟨t2, st.trans a1, b1⟩
theorem vx_calll {S SX : Type} {post : Int64 → S → Prop} {px : SX → Prop} {B : S → State → Prop} {BX : String → SX → State → Prop} {AX : Nat → Prop} (hr : vx_Run p l e R s m args below meth c H locs cells slots mc ms (F0 m pc ls st0) rest (va_Ql post B A1 a) (vx_X px BX AX) free) (hS : va_S A0 H0 H locs) (hA : ∀ q, q < H.size → A1 q → A0 q) (hf : ∀ q, free q → A0 q) (hAX : ∀ q, q < H.size → AX q → A0 q)
    (kx : ∀ (E : String) (ce : Cell) (q9 : Addr) (u : SX) (t : State) (H1 : Heap) (locs1 : List Loc), t.heap = H1 → s.vm.Alike t.vm → px u → BX E u t → H.size ≤ H1.size → (∀ q : Nat, q < H.size → ¬ AX q → H1[q]? = H[q]?) → va_S A0 H0 H1 locs1 → H1[q9]? = some ce → ce.vm = .none → s.vm.findClass E = some ce.cls → vx_W p l e R s m args below meth c H1 locs1 (cells + mc) (slots + ms) Q (F0 m pc ls rest) q9)
    (kk : ∀ (r : Int64) (u : S) (t : State) (H1 : Heap) (locs1 : List Loc), t.heap = H1 → s.vm.Alike t.vm → post r u → B u t → H.size ≤ H1.size → (∀ q : Nat, q < H.size → ¬ A1 q → H1[q]? = H[q]?) → va_S A0 H0 H1 locs1 → W p l e R s m args below meth c H1 locs1 (cells + mc) (slots + ms) Q (F0 m (pc + 3) ls (.long r :: rest))) : W p l e R s m args below meth c H locs cells slots Q (F0 m pc ls st0) := by
  intro T hT X
  rcases hr T hT X with ⟨v, st₀, t, T', L, h0, X', hL, e1, e2, ⟨⟨r, u, hv, hp, hb⟩, hF⟩, st⟩ | ⟨q, st₀, t, T', L, E, ce, h0, X', hL, e1, e2, ⟨u, hp, hb, hF⟩, hce, hcv, hcl, st⟩
  · cases hv
    obtain ⟨k1, k2, k3⟩ := vx_keep h0 e1 hS hA hf hL hF
    obtain ⟨t2, a1, b1⟩ := kk r u t T'.heap (locs ++ L) e1.symm (by rw [← e2]; exact X'.warmed.alike) hp hb k1 k2 k3 T' rfl X'
    exact ⟨t2, st t2 a1, b1⟩
  · obtain ⟨k1, k2, k3⟩ := vx_keep h0 e1 hS hAX hf hL hF
    obtain ⟨t2, a1, b1⟩ := kx E ce q u t T'.heap (locs ++ L) e1.symm (by rw [← e2]; exact X'.warmed.alike) hp hb k1 k2 k3 (by rw [e1]; exact hce) hcv hcl T' rfl X'
    exact ⟨t2, st.trans a1, b1⟩
theorem vx_callf {S SX : Type} {post : UInt32 → S → Prop} {px : SX → Prop} {B : S → State → Prop} {BX : String → SX → State → Prop} {AX : Nat → Prop} (hr : vx_Run p l e R s m args below meth c H locs cells slots mc ms (F0 m pc ls st0) rest (va_Qf post B A1 a) (vx_X px BX AX) free) (hS : va_S A0 H0 H locs) (hA : ∀ q, q < H.size → A1 q → A0 q) (hf : ∀ q, free q → A0 q) (hAX : ∀ q, q < H.size → AX q → A0 q)
    (kx : ∀ (E : String) (ce : Cell) (q9 : Addr) (u : SX) (t : State) (H1 : Heap) (locs1 : List Loc), t.heap = H1 → s.vm.Alike t.vm → px u → BX E u t → H.size ≤ H1.size → (∀ q : Nat, q < H.size → ¬ AX q → H1[q]? = H[q]?) → va_S A0 H0 H1 locs1 → H1[q9]? = some ce → ce.vm = .none → s.vm.findClass E = some ce.cls → vx_W p l e R s m args below meth c H1 locs1 (cells + mc) (slots + ms) Q (F0 m pc ls rest) q9)
    (kk : ∀ (r : UInt32) (u : S) (t : State) (H1 : Heap) (locs1 : List Loc), t.heap = H1 → s.vm.Alike t.vm → post r u → B u t → H.size ≤ H1.size → (∀ q : Nat, q < H.size → ¬ A1 q → H1[q]? = H[q]?) → va_S A0 H0 H1 locs1 → W p l e R s m args below meth c H1 locs1 (cells + mc) (slots + ms) Q (F0 m (pc + 3) ls (.float r :: rest))) : W p l e R s m args below meth c H locs cells slots Q (F0 m pc ls st0) := by
  intro T hT X
  rcases hr T hT X with ⟨v, st₀, t, T', L, h0, X', hL, e1, e2, ⟨⟨r, u, hv, hp, hb⟩, hF⟩, st⟩ | ⟨q, st₀, t, T', L, E, ce, h0, X', hL, e1, e2, ⟨u, hp, hb, hF⟩, hce, hcv, hcl, st⟩
  · cases hv
    obtain ⟨k1, k2, k3⟩ := vx_keep h0 e1 hS hA hf hL hF
    obtain ⟨t2, a1, b1⟩ := kk r u t T'.heap (locs ++ L) e1.symm (by rw [← e2]; exact X'.warmed.alike) hp hb k1 k2 k3 T' rfl X'
    exact ⟨t2, st t2 a1, b1⟩
  · obtain ⟨k1, k2, k3⟩ := vx_keep h0 e1 hS hAX hf hL hF
    obtain ⟨t2, a1, b1⟩ := kx E ce q u t T'.heap (locs ++ L) e1.symm (by rw [← e2]; exact X'.warmed.alike) hp hb k1 k2 k3 (by rw [e1]; exact hce) hcv hcl T' rfl X'
    exact ⟨t2, st.trans a1, b1⟩
theorem vx_calld {S SX : Type} {post : UInt64 → S → Prop} {px : SX → Prop} {B : S → State → Prop} {BX : String → SX → State → Prop} {AX : Nat → Prop} (hr : vx_Run p l e R s m args below meth c H locs cells slots mc ms (F0 m pc ls st0) rest (va_Qd post B A1 a) (vx_X px BX AX) free) (hS : va_S A0 H0 H locs) (hA : ∀ q, q < H.size → A1 q → A0 q) (hf : ∀ q, free q → A0 q) (hAX : ∀ q, q < H.size → AX q → A0 q)
    (kx : ∀ (E : String) (ce : Cell) (q9 : Addr) (u : SX) (t : State) (H1 : Heap) (locs1 : List Loc), t.heap = H1 → s.vm.Alike t.vm → px u → BX E u t → H.size ≤ H1.size → (∀ q : Nat, q < H.size → ¬ AX q → H1[q]? = H[q]?) → va_S A0 H0 H1 locs1 → H1[q9]? = some ce → ce.vm = .none → s.vm.findClass E = some ce.cls → vx_W p l e R s m args below meth c H1 locs1 (cells + mc) (slots + ms) Q (F0 m pc ls rest) q9)
    (kk : ∀ (r : UInt64) (u : S) (t : State) (H1 : Heap) (locs1 : List Loc), t.heap = H1 → s.vm.Alike t.vm → post r u → B u t → H.size ≤ H1.size → (∀ q : Nat, q < H.size → ¬ A1 q → H1[q]? = H[q]?) → va_S A0 H0 H1 locs1 → W p l e R s m args below meth c H1 locs1 (cells + mc) (slots + ms) Q (F0 m (pc + 3) ls (.double r :: rest))) : W p l e R s m args below meth c H locs cells slots Q (F0 m pc ls st0) := by
  intro T hT X
  rcases hr T hT X with ⟨v, st₀, t, T', L, h0, X', hL, e1, e2, ⟨⟨r, u, hv, hp, hb⟩, hF⟩, st⟩ | ⟨q, st₀, t, T', L, E, ce, h0, X', hL, e1, e2, ⟨u, hp, hb, hF⟩, hce, hcv, hcl, st⟩
  · cases hv
    obtain ⟨k1, k2, k3⟩ := vx_keep h0 e1 hS hA hf hL hF
    obtain ⟨t2, a1, b1⟩ := kk r u t T'.heap (locs ++ L) e1.symm (by rw [← e2]; exact X'.warmed.alike) hp hb k1 k2 k3 T' rfl X'
    exact ⟨t2, st t2 a1, b1⟩
  · obtain ⟨k1, k2, k3⟩ := vx_keep h0 e1 hS hAX hf hL hF
    obtain ⟨t2, a1, b1⟩ := kx E ce q u t T'.heap (locs ++ L) e1.symm (by rw [← e2]; exact X'.warmed.alike) hp hb k1 k2 k3 (by rw [e1]; exact hce) hcv hcl T' rfl X'
    exact ⟨t2, st.trans a1, b1⟩
theorem vx_callv {S SX : Type} {post : S → Prop} {px : SX → Prop} {B : S → State → Prop} {BX : String → SX → State → Prop} {AX : Nat → Prop} (hr : vx_Run p l e R s m args below meth c H locs cells slots mc ms (F0 m pc ls st0) rest (va_Qv post B A1 a) (vx_X px BX AX) free) (hS : va_S A0 H0 H locs) (hA : ∀ q, q < H.size → A1 q → A0 q) (hf : ∀ q, free q → A0 q) (hAX : ∀ q, q < H.size → AX q → A0 q)
    (kx : ∀ (E : String) (ce : Cell) (q9 : Addr) (u : SX) (t : State) (H1 : Heap) (locs1 : List Loc), t.heap = H1 → s.vm.Alike t.vm → px u → BX E u t → H.size ≤ H1.size → (∀ q : Nat, q < H.size → ¬ AX q → H1[q]? = H[q]?) → va_S A0 H0 H1 locs1 → H1[q9]? = some ce → ce.vm = .none → s.vm.findClass E = some ce.cls → vx_W p l e R s m args below meth c H1 locs1 (cells + mc) (slots + ms) Q (F0 m pc ls rest) q9)
    (kk : ∀ (u : S) (t : State) (H1 : Heap) (locs1 : List Loc), t.heap = H1 → s.vm.Alike t.vm → post u → B u t → H.size ≤ H1.size → (∀ q : Nat, q < H.size → ¬ A1 q → H1[q]? = H[q]?) → va_S A0 H0 H1 locs1 → W p l e R s m args below meth c H1 locs1 (cells + mc) (slots + ms) Q (F0 m (pc + 3) ls (rest))) : W p l e R s m args below meth c H locs cells slots Q (F0 m pc ls st0) := by
  intro T hT X
  rcases hr T hT X with ⟨v, st₀, t, T', L, h0, X', hL, e1, e2, ⟨⟨u, hv, hp, hb⟩, hF⟩, st⟩ | ⟨q, st₀, t, T', L, E, ce, h0, X', hL, e1, e2, ⟨u, hp, hb, hF⟩, hce, hcv, hcl, st⟩
  · cases hv
    obtain ⟨k1, k2, k3⟩ := vx_keep h0 e1 hS hA hf hL hF
    obtain ⟨t2, a1, b1⟩ := kk u t T'.heap (locs ++ L) e1.symm (by rw [← e2]; exact X'.warmed.alike) hp hb k1 k2 k3 T' rfl X'
    exact ⟨t2, st t2 a1, b1⟩
  · obtain ⟨k1, k2, k3⟩ := vx_keep h0 e1 hS hAX hf hL hF
    obtain ⟨t2, a1, b1⟩ := kx E ce q u t T'.heap (locs ++ L) e1.symm (by rw [← e2]; exact X'.warmed.alike) hp hb k1 k2 k3 (by rw [e1]; exact hce) hcv hcl T' rfl X'
    exact ⟨t2, st.trans a1, b1⟩
/-- caught by the row x of this method's table; the rows ahead don't take it -/
theorem vx_catch {own name : String} {E : String} {ce : Cell} {q : Addr} (hown : s.vm.findClass own = some m.cls) (pre : List ExceptionTableEntry) (x : ExceptionTableEntry) (suf : List ExceptionTableEntry) (hsplit : c.exceptionTable.toList = pre ++ x :: suf)
    (hpass : ∀ z ∈ pre, covers z pc = false ∨ (z.catchType ≠ 0 ∧ ∃ nm : String, (Cond.classLink own z.catchType nm).before args s = true ∧ va_Nc E nm s)) (hx : covers x pc = true) (h0 : x.catchType ≠ 0)
    (hlink : (Cond.classLink own x.catchType name).before args s = true) (hcast : (Cond.castable E name).before args s = true) (hcell : H[q]? = some ce) (hv : ce.vm = .none) (hcl : s.vm.findClass E = some ce.cls)
    (kk : W p l e R s m args below meth c H locs cells slots Q (F0 m x.handlerPc ls [.ref q])) : vx_W p l e R s m args below meth c H locs cells slots Q (F0 m pc ls rest) q := by
  intro T hT X
  have hpl : e.platform.magicAccessors = ({} : Platform).magicAccessors := by rw [X.admits.platform]
  obtain ⟨c3, c4, hc3, hc4, hasg⟩ := Cond.castable_spec hcast
  cases Option.some.inj (hc3.symm.trans hcl)
  obtain ⟨c5, hc5, hcl5⟩ := Cond.classLink_spec hown hlink e.platform hpl
  cases Option.some.inj (hc4.symm.trans hc5)
  obtain ⟨vm', X', st⟩ := X.thenCaughtThrough q (g := F0 m pc ls rest) rfl (Steps.refl _) (by rw [hT]; exact hcell) (by rw [hv]; rfl) (by obtain ⟨k9, h9, -⟩ := Vm.findClass_spec hcl; exact ⟨k9, h9⟩) pre x suf hsplit
    (fun z hz => by
      rcases hpass z hz with h | ⟨hz0, nm, hl1, hn1⟩
      · exact Or.inl h
      · obtain ⟨c6, hc6, hcl6⟩ := Cond.classLink_spec hown hl1 e.platform hpl
        obtain ⟨a8, b8, h1, h2, h3⟩ := hn1
        cases Option.some.inj (h1.symm.trans hcl)
        cases Option.some.inj (h2.symm.trans hc6)
        exact Or.inr ⟨hz0, _, hcl6, h3⟩) hx (Or.inr ⟨h0, c4, hcl5, hasg⟩)
  obtain ⟨t, a1, b1⟩ := kk (T.setVm vm') hT X'
  exact ⟨t, st.trans a1, b1⟩
end Rows
section Ends
variable {p : Program} {l : Launch} {e : Env} {R : Room} {s : State} {m : MethodId} {args : Array Value} {below : List Frame} {meth : Method} {c : Code} {H : Heap} {locs : List Loc} {cells slots : Nat} {Q : State → Prop}
variable {mc ms : Nat} {free : Addr → Prop} {A0 A1 : Nat → Prop} {H0 : Heap} {a : Array Value} {ls : Array Slot} {st0 rest : List Value}
variable {Qc : Array Value → State → Outcome → State → Prop} {XC : String → State → State → Prop}
/-- what a body that may throw owes at its end -/
def vx_MQ (below : List Frame) (Qc : Array Value → State → Outcome → State → Prop) (XC : String → State → State → Prop) (a : Array Value) (s : State) (mc ms : Nat) (free : Addr → Prop) : State → Prop := fun t =>
  ∃ o, t.status = .running ∧ Ended t below o ∧ vx_Q Qc XC mc ms free a s o t
theorem vx_ret {g : JFrame} {mc ms : Nat} (k : W p l e R s m args below meth c H locs cells slots (MQ below Qc args s mc ms free) g) : W p l e R s m args below meth c H locs cells slots (vx_MQ below Qc XC args s mc ms free) g := by
  intro T hT X
  obtain ⟨t, a1, o, b1, b2, b3, b4⟩ := k T hT X
  exact ⟨t, a1, o, b1, b2, Or.inl ⟨b3, b4⟩⟩
/-- not caught here: it goes on to the caller -/
theorem vx_widen {g : JFrame} {q : Addr} {k n : Nat} (h1 : cells ≤ k) (h2 : slots ≤ n) (kk : vx_W p l e R s m args below meth c H locs k n Q g q) : vx_W p l e R s m args below meth c H locs cells slots Q g q := fun T hT X => kk T hT (stand_widen X h1 h2)
theorem vx_out {pc : Nat} {E : String} {ce : Cell} {q : Addr} {mc ms : Nat} (hout : ∀ x ∈ c.exceptionTable.toList, covers x pc = false) (hlocks : meth.locks = false) (hcell : H[q]? = some ce) (hv : ce.vm = .none) (hcl : s.vm.findClass E = some ce.cls)
    (hx : ∀ t : State, t.heap = H → s.vm.Alike t.vm → XC E s t) (hf : ∀ z ∈ locs, free z.base) (hc : cells ≤ mc) (hs : slots ≤ ms) :
    vx_W p l e R s m args below meth c H locs cells slots (vx_MQ below Qc XC args s mc ms free) (F0 m pc ls rest) q := by
  intro T hT X
  obtain ⟨st1, hrun, hend, hW, hsm⟩ := X.leaveThrown q (g := F0 m pc ls rest) rfl rfl rfl hout hlocks
  have hcell9 : (T.setFrames (.throwing q :: below)).heap[q]? = some ce := by
    show T.heap[q]? = some ce
    rw [hT]; exact hcell
  exact ⟨_, st1, .threw q, hrun, hend, Or.inr ⟨q, rfl, E, ce, locs, hx _ hT hW.alike, hcell9, hv, hcl, hW, hsm.mono hc hs, hf⟩⟩
theorem vx_frame {U : State} {k n : Nat} (h : s.sameButNew ({ U with vm := s.vm } : State) locs k n) : s.heap.size ≤ U.heap.size ∧ ∀ q : Nat, q < s.heap.size → (∀ z ∈ locs, z.base ≠ q) → U.heap[q]? = s.heap[q]? := by
  obtain ⟨-, h2, -, -, -, h6⟩ := h
  refine ⟨h2, fun q hq hz => ?_⟩
  obtain ⟨c9, e1, e2, e3, e4⟩ := h6 q _ (Array.getElem?_eq_getElem hq)
  have hs : c9.slots = (s.heap[q]).slots := Array.ext_getElem? fun i => e4 i fun hm => hz _ hm rfl
  have h9 : c9 = s.heap[q] := by
    rw [hs] at e2
    exact e2
  have e5 : U.heap[q]? = some c9 := e1
  rw [e5, h9, Array.getElem?_eq_getElem hq]
/-- the words of a throw but the four that speak of the heap -/
def vx_no (w : Cond) : Bool := decide (w ≠ .isRef (.static Bundle.tN "UNASSIGNED_STACK" Bundle.steD)) && decide (w ≠ .isRef (.static Bundle.tN "SUPPRESSED_SENTINEL" Bundle.listD)) && decide (w ≠ .laysStatic Bundle.tN "UNASSIGNED_STACK" Bundle.steD) && decide (w ≠ .laysStatic Bundle.tN "SUPPRESSED_SENTINEL" Bundle.listD)
def vx_at0 (own : String) (ic : Nat) (X : String) (names : List String) : List Cond := (Bundle.ownAtoms0 own ic X names).filter vx_no
def vx_atS (own : String) (ic : Nat) (X : String) (names : List String) : List Cond := (Bundle.ownAtoms own ic X names).filter vx_no
/-- a word that the tables alone decide, or a good one -/
def vx_ot (w : Cond) : Bool := w.onTables || goodWord w
theorem vx_ot_at {args a' : Array Value} {s U : State} {w : Cond} (hW : s.WarmedH U.vm) (hvm : s.vm = U.vm) (hg : vx_ot w = true) (h : w.before args s = true) : w.before a' U = true := by
  simp only [vx_ot, Bool.or_eq_true] at hg
  rcases hg with hg | hg
  · exact va_tabs hg hvm h
  · exact word_at hW (good_of_word hg) h
/-- a list's words: the good ones out of the method's own list, the others by premises of their own -/
theorem vx_hat {args : Array Value} {s : State} {L B : List Cond} (h1 : ∀ w ∈ L.filter goodWord, w.before args s = true) (h2 : ∀ w ∈ L.filter (fun w => !goodWord w), w ∈ B) (h3 : ∀ w ∈ B, w.before args s = true) : ∀ w ∈ L, w.before args s = true := by
  intro w hw
  by_cases g : goodWord w = true
  · exact h1 w (List.mem_filter.mpr ⟨hw, g⟩)
  · refine h3 w (h2 w (List.mem_filter.mpr ⟨hw, ?_⟩))
    show (!goodWord w) = true
    cases hgw : goodWord w
    · rfl
    · exact absurd hgw g
theorem vx_c {args : Array Value} {s : State} {w : Cond} {B : List Cond} (h : w.before args s = true) (t : ∀ w ∈ B, w.before args s = true) : ∀ w' ∈ w :: B, w'.before args s = true := fun w' h' => (List.mem_cons.mp h').elim (fun e => by rw [e]; exact h) (t w')
theorem vx_n {args : Array Value} {s : State} : ∀ w ∈ ([] : List Cond), w.before args s = true := fun _ h => nomatch h
theorem vx_own {args : Array Value} {s : State} {L : List Cond} (h1 : ∀ w ∈ L.filter vx_no, w.before args s = true)
    (hU : (Cond.isRef (.static Bundle.tN "UNASSIGNED_STACK" Bundle.steD)).before args s = true) (hN : (Cond.isRef (.static Bundle.tN "SUPPRESSED_SENTINEL" Bundle.listD)).before args s = true)
    (lU : (Cond.laysStatic Bundle.tN "UNASSIGNED_STACK" Bundle.steD).before args s = true) (lN : (Cond.laysStatic Bundle.tN "SUPPRESSED_SENTINEL" Bundle.listD).before args s = true) : ∀ w ∈ L, w.before args s = true := by
  intro w hw
  by_cases e1 : w = .isRef (.static Bundle.tN "UNASSIGNED_STACK" Bundle.steD)
  · rw [e1]; exact hU
  · by_cases e2 : w = .isRef (.static Bundle.tN "SUPPRESSED_SENTINEL" Bundle.listD)
    · rw [e2]; exact hN
    · by_cases e3 : w = .laysStatic Bundle.tN "UNASSIGNED_STACK" Bundle.steD
      · rw [e3]; exact lU
      · by_cases e4 : w = .laysStatic Bundle.tN "SUPPRESSED_SENTINEL" Bundle.listD
        · rw [e4]; exact lN
        · exact h1 w (List.mem_filter.mpr ⟨hw, by unfold vx_no; rw [decide_eq_true e1, decide_eq_true e2, decide_eq_true e3, decide_eq_true e4]; rfl⟩)
/-- where a static field lies, its class's statics cell in H -/
def vx_L (C n d : String) (A : Nat → Prop) (U : State) (H : Heap) : Prop := ∃ (c : ClassId) (k : Class) (i : Nat) (f : Field) (a : Nat) (cell : Cell), U.vm.findClass C = some c ∧ U.fieldFound? C n d = some (c, k, i, f) ∧ f.isStatic = true ∧ k.statics = some a ∧ H[a]? = some cell ∧ cell.vm.isStatics = true ∧ cell.cls = c ∧ f.slot < cell.slots.size ∧ k.staticTypes[f.slot]? = some f.type ∧ ¬ A a
theorem vx_L.moved {C n d : String} {A : Nat → Prop} {u U : State} {H : Heap} (hvm : u.vm.Alike U.vm) (h : vx_L C n d A u H) : vx_L C n d A U H := by
  obtain ⟨c, k, i, f, a, cell, h1, h2, h3, h4, h5, h6, h7, h8, h9, h10⟩ := h
  obtain ⟨k', hi', he⟩ := State.fieldFound?_setVm hvm h2
  exact ⟨c, k', i, f, a, cell, by rw [hvm.findClass]; exact h1, hi', h3, by rw [he]; exact h4, h5, h6, h7, h8, by rw [he]; exact h9, h10⟩
theorem vx_L.kept {C n d : String} {A : Nat → Prop} {U : State} {H H1 : Heap} (h : vx_L C n d A U H) (hq : ∀ a : Nat, a < H.size → ¬ A a → H1[a]? = H[a]?) : vx_L C n d A U H1 := by
  obtain ⟨c, k, i, f, a, cell, h1, h2, h3, h4, h5, h6, h7, h8, h9, h10⟩ := h
  exact ⟨c, k, i, f, a, cell, h1, h2, h3, h4, by rw [hq a (Array.getElem?_eq_some_iff.mp h5).1 h10]; exact h5, h6, h7, h8, h9, h10⟩
theorem vx_L.narrow {C n d : String} {A B : Nat → Prop} {U : State} {H : Heap} (h : vx_L C n d A U H) (hAB : ∀ q, B q → A q) : vx_L C n d B U H := by
  obtain ⟨c, k, i, f, a, cell, h1, h2, h3, h4, h5, h6, h7, h8, h9, h10⟩ := h
  exact ⟨c, k, i, f, a, cell, h1, h2, h3, h4, h5, h6, h7, h8, h9, fun z => h10 (hAB _ z)⟩
theorem vx_L.word {C n d : String} {A : Nat → Prop} {s : State} {args : Array Value} (h : vx_L C n d A s s.heap) : (Cond.laysStatic C n d).before args s = true := by
  obtain ⟨c, k, i, f, a, cell, h1, h2, h3, h4, h5, h6, h7, h8, h9, -⟩ := h
  show (Cond.laysStatic C n d).holds args s none s [] = true
  exact Cond.laysStatic_of h1 h2 h3 h4 h5 h6 h7 h8 h9
/-- .. and what it holds: null or some reference -/
def vx_Zq (C n d : String) (A : Nat → Prop) (U : State) (H : Heap) : Prop := va_Zq C n d A U H ∧ vx_L C n d A U H
theorem vx_Zq.moved {C n d : String} {A : Nat → Prop} {u U : State} {H : Heap} (hvm : u.vm.Alike U.vm) (h : vx_Zq C n d A u H) : vx_Zq C n d A U H := ⟨va_Zq.moved hvm h.1, vx_L.moved hvm h.2⟩
theorem vx_Zq.kept {C n d : String} {A : Nat → Prop} {U : State} {H H1 : Heap} (h : vx_Zq C n d A U H) (hq : ∀ a : Nat, a < H.size → ¬ A a → H1[a]? = H[a]?) : vx_Zq C n d A U H1 := ⟨va_Zq.kept h.1 hq, vx_L.kept h.2 hq⟩
theorem vx_Zq.narrow {C n d : String} {A B : Nat → Prop} {U : State} {H : Heap} (h : vx_Zq C n d A U H) (hAB : ∀ q, B q → A q) : vx_Zq C n d B U H := ⟨va_Zq.narrow h.1 hAB, vx_L.narrow h.2 hAB⟩
theorem vx_Zqof {args : Array Value} {s : State} {C n d : String} {A : Nat → Prop} (hl : (Cond.laysStatic C n d).before args s = true) (hini : (Cond.initialized C).before args s = true) (h : (Cond.isRef (.static C n d)).before args s = true) (hA : ∀ a : Nat, a < s.heap.size → ¬ A a) : vx_Zq C n d A s s.heap := by
  refine ⟨va_Zqof hl hini h hA, ?_⟩
  obtain ⟨c, k, i, f, a, cell, h1, h2, h3, h4, h5, h6, h7, h8, h9⟩ := Cond.laysStatic_spec hl
  exact ⟨c, k, i, f, a, cell, h1, h2, h3, h4, h5, h6, h7, h8, h9, hA a (Array.getElem?_eq_some_iff.mp h5).1⟩
theorem vx_isRef {C n d : String} {v : Value} {A : Nat → Prop} {s : State} {args : Array Value} (h : va_Z C n d v A s s.heap) (hv : v.isRef = true) : (Cond.isRef (.static C n d)).before args s = true := by
  obtain ⟨cf, kf, fi, f, a, cell, h1, h2, h3, h4, h5, h6, h7, -⟩ := h
  have he : (Term.static C n d).eval args s none [] s = some v := by
    simp [Term.eval, State.fieldNamed?, h1, h2, h4, h5, h6, h7]
  simp only [Cond.before, Cond.holds, Cond.value, he]
  cases v <;> simp_all [Value.isRef]
theorem vx_isRefq {C n d : String} {A : Nat → Prop} {s : State} {args : Array Value} (h : va_Zq C n d A s s.heap) : (Cond.isRef (.static C n d)).before args s = true := by
  rcases h with h | ⟨t, h⟩
  · exact vx_isRef h rfl
  · exact vx_isRef h rfl
/-- the same frame, seen from here: as if the method were called anew in this heap -/
theorem vx_rebase {T : State} (X : Stand p l e R s m args below meth c T locs cells slots) {R' : Room} (hf : R'.frames ≤ R.frames) (hl : R'.locals ≤ R.locals) (hc : cells + R'.cells ≤ R.cells) (hs : slots + R'.slots ≤ R.slots) :
    Stand p l e R' ((T.setVm s.vm).setFrames (.invoking m args :: below)) m args below meth c T [] 0 0 := by
  have htop : (T.setVm s.vm).topJava?.isSome := X.here.top
  have hF : ((T.setVm s.vm).setFrames (.invoking m args :: below)).frames = .invoking m args :: below := State.frames_setFrames _ (State.cur_lt_of_top htop)
  obtain ⟨g₀, hg0⟩ := Option.isSome_iff_exists.mp htop
  obtain ⟨r, hr⟩ := State.topJava?_eq_some.mp hg0
  have hl9 : e.platform.stackLimits (T.setVm s.vm).me = e.platform.stackLimits s.me := X.limits
  have hb9 : (T.setVm s.vm).me.stackBytes = s.me.stackBytes := X.bytes
  refine ⟨X.admits, X.cas, X.clock, hF, ?_, X.hears, X.method, X.code, X.here, X.tail, X.warmed, ?_, ?_, ?_⟩
  · have h := X.room
    have hU : ((T.setVm s.vm).setFrames (.invoking m args :: below)).localsInUse = s.localsInUse := by
      rw [State.localsInUse_invoking hF (meth := meth) (c := c) X.method X.code, State.localsInUse_invoking X.frames X.method X.code]
    simp only [State.hasRoom, Bool.and_eq_true, decide_eq_true_eq] at h ⊢
    obtain ⟨⟨⟨⟨h1, h2, h3, h4, h5, h6⟩, h7⟩, h8⟩, h9⟩ := h
    rw [X.frames, List.length_cons] at h2 h3
    have q1 := X.heapSize
    have q2 := X.used
    simp only [hF, hU, List.length_cons, State.stackLimits_setFrames, State.stackBytes_setFrames, hl9, hb9]
    refine ⟨⟨⟨⟨by omega, by omega, by omega, by omega, by omega, h6⟩, ?_⟩, ?_⟩, X.book⟩
    · show T.heap.size + R'.cells ≤ e.platform.maxCells
      omega
    · show T.slotsUsed + R'.slots ≤ e.platform.maxSlots
      omega
  · rw [State.stackLimits_setFrames]; rfl
  · rw [State.stackBytes_setFrames]; rfl
  · refine ⟨?_, Nat.le_refl _, Nat.le_refl _, ?_, ?_, fun a c9 h9 => ⟨c9, h9, rfl, rfl, fun _ _ => rfl⟩⟩
    · obtain ⟨t, ht, -⟩ := State.frames_cons hr
      show T.setVm s.vm = { ((T.setVm s.vm).setFrames (.invoking m args :: below)).setFrames (T.setVm s.vm).frames with heap := T.heap, slotsUsed := T.slotsUsed }
      rw [State.setFrames_setFrames, State.setFrames_self ht]
      rfl
    · show T.slotsUsed = T.slotsUsed + ((T.heap.toList.drop T.heap.size).map (·.slots.size)).sum
      rw [List.drop_eq_nil_of_le (Nat.le_of_eq Array.length_toList)]
      rfl
    · show ((T.heap.toList.drop T.heap.size).map (·.slots.size)).sum ≤ 0
      rw [List.drop_eq_nil_of_le (Nat.le_of_eq Array.length_toList)]
      exact Nat.le_refl _
/-- 'throw new E()': new; dup; invokespecial; athrow -/
theorem vx_throw0 {cc : ByteArray} {pc : Nat} (hexec : p.tables.exec = Jvm.exec) (hb : c.code = cc) (hl : l.stackTraces = false) {own cls : String} {names : List String} {ik ic mc ms : Nat} {A : Nat → Prop}
    (hown : s.vm.findClass own = some m.cls) (hcls : Bundle.fit cls = true) (hnames : ∀ n ∈ names, Bundle.fit n = true)
    (hk : (Cond.classLink own ik cls).before args s = true) (hini : (Cond.initialized cls).before args s = true) (hat : ∀ w ∈ vx_at0 own ic cls names, w.before args s = true)
    (hgood : ∀ w ∈ Cond.classLink own ik cls :: Cond.initialized cls :: vx_at0 own ic cls names, vx_ot w = true)
    (hU : vx_Zq Bundle.tN "UNASSIGNED_STACK" Bundle.steD A s s.heap) (hN : vx_Zq Bundle.tN "SUPPRESSED_SENTINEL" Bundle.listD A s s.heap) (hS : va_S A s.heap H locs) (hsize : ls.size = c.maxLocals)
    (d0 : decode cc pc = .ok (.new ik, 3)) (d3 : decode cc (pc + 3) = .ok (.dup, 1)) (d4 : decode cc (pc + 4) = .ok (.invokespecial ic, 3)) (d7 : decode cc (pc + 7) = .ok (.athrow, 1))
    (hout : ∀ x ∈ c.exceptionTable.toList, covers x (pc + 7) = false)
    (hRframes : names.length + 3 < R.frames) (hRlocals : (rest.map fun v => v.category).sum + (13 * (names.length + 1) + 42) ≤ R.locals) (hRcells : cells + 1 ≤ R.cells) (hRslots : slots + 6 ≤ R.slots) (hlocks : meth.locks = false)
    (hx : ∀ t : State, s.vm.Alike t.vm → H.size ≤ t.heap.size → (∀ q : Nat, q < H.size → t.heap[q]? = H[q]?) → XC cls s t)
    (hf : ∀ z ∈ locs, free z.base) (hc : cells + 1 ≤ mc) (hs : slots + 6 ≤ ms) :
    W p l e R s m args below meth c H locs cells slots (vx_MQ below Qc XC args s mc ms free) (F0 m pc ls rest) := by
  intro T hT X
  have htr : e.platform.stackTraces = false := (show e.platform.stackTraces = l.stackTraces by rw [X.admits.platform]).trans hl
  have Y := vx_rebase X (R' := { frames := R.frames, locals := R.locals, cells := 1, slots := 6 }) (Nat.le_refl _) (Nat.le_refl _) hRcells hRslots
  obtain ⟨s', hA⟩ : ∃ z, z = (T.setVm s.vm).setFrames (.invoking m args :: below) := ⟨_, rfl⟩
  rw [← hA] at Y
  have hvm : s'.vm = s.vm := by rw [hA]; rfl
  have hhp : s'.heap = H := by rw [hA]; exact hT
  have hW0 : s.WarmedH s'.vm := by rw [hvm]; exact State.WarmedH.refl s
  have hat' : ∀ w ∈ vx_at0 own ic cls names, w.before args s' = true := fun w hw => vx_ot_at hW0 hvm.symm (hgood w (List.mem_cons_of_mem _ (List.mem_cons_of_mem _ hw))) (hat w hw)
  have hk' : (Cond.classLink own ik cls).before args s' = true := vx_ot_at hW0 hvm.symm (hgood _ List.mem_cons_self) hk
  have hini' : (Cond.initialized cls).before args s' = true := vx_ot_at hW0 hvm.symm (hgood _ (List.mem_cons_of_mem _ List.mem_cons_self)) hini
  have hU' : vx_Zq Bundle.tN "UNASSIGNED_STACK" Bundle.steD A s' s'.heap := by rw [hhp]; exact vx_Zq.moved hW0.alike (hU.kept hS.2.1)
  have hN' : vx_Zq Bundle.tN "SUPPRESSED_SENTINEL" Bundle.listD A s' s'.heap := by rw [hhp]; exact vx_Zq.moved hW0.alike (hN.kept hS.2.1)
  have h : ∀ w ∈ Bundle.ownAtoms0 own ic cls names, w.before args s' = true := vx_own hat' (vx_isRefq hU'.1) (vx_isRefq hN'.1) hU'.2.word hN'.2.word
  have hown' : s'.vm.findClass own = some m.cls := by rw [hvm]; exact hown
  have hins : (Cond.instantiable cls 6).before args s' = true := h _ (by simp [Bundle.ownAtoms0])
  obtain ⟨vm₁, cX, kX, hfX, hkX, -, -, X₁, st1⟩ := Y.newCold hexec (own := own) (C := cls) (index := ik) (n := 6) hown' hk' hins hini'
    (g := F0 m pc ls rest) rfl (by rw [hb]; exact d0) (Nat.le_refl _) (Nat.le_refl _)
  generalize hT1 : (T.setVm vm₁).pushCell { cls := cX, slots := kX.instanceTypes.map defaultValue, vm := .none } = T1 at X₁ st1
  have hcat : (Value.ref T.heap.size).category = 1 := rfl
  have hcellA : T1.heap[T.heap.size]? = some (freshCell cX kX) := by rw [← hT1]; exact State.heap_pushCell_size _ _
  have d3' : decode c.code (pc + 3) = .ok (.dup, 1) := by rw [hb]; exact d3
  obtain ⟨U, hsteps, hrun, hend, hW, hsame, ce, hce, hO⟩ := X₁.ctorThrow0 hexec htr (own := own) (cls := cls) (names := names) (ic := ic) hown' hcls hnames h (fun x hx => nomatch hx) hfX hkX hcellA (by rw [hhp, hT]; exact Nat.le_refl _)
    (g := { method := m, pc := pc + 4, locals := ls, stack := .ref T.heap.size :: .ref T.heap.size :: rest, locked := none }) rfl hsize rfl rfl (rest := rest) rfl
    (by rw [hb]; exact d4) (by rw [hb]; exact d7) hout hRframes (by simp only [List.map_cons, List.sum_cons, hcat]; omega) hlocks
  obtain ⟨f1, f2⟩ := vx_frame hsame
  rw [hhp] at f1 f2
  have hWs : s.WarmedH U.vm := State.WarmedH.trans hW0 hW
  have hcl : s.vm.findClass cls = some ce.cls := by
    have h9 := hO.cls
    rw [hvm] at h9
    exact h9
  have hall : s.sameButNew ({ U with vm := s.vm } : State) locs mc ms := by
    subst hA
    obtain ⟨e1, e2⟩ := hsame
    rw [State.setFrames_setFrames] at e1
    have h2 : (T.setVm s.vm).sameButNew ({ U with vm := s.vm } : State) [] (0 + 1) (0 + 6) := ⟨e1, e2⟩
    have h3 := X.same.trans h2
    rw [List.append_nil] at h3
    exact h3.mono hc hs
  refine ⟨U, ?_, .threw T.heap.size, hrun, hend, Or.inr ⟨T.heap.size, rfl, cls, ce, locs, hx U hWs.alike f1 (fun q hq => f2 q hq (fun z hz => nomatch hz)), hce, hO.vm, hcl, hWs, hall, hf⟩⟩
  refine st1 _ ?_
  show Steps p.tables e below (T1.setTop { method := m, pc := pc + 3, locals := ls, stack := .ref T.heap.size :: rest, locked := none }) _
  jvm_step X₁.here [X₁.here.top, hexec, d3', Value.category]
  exact hsteps
/-- 'throw new E("text")': new; dup; ldc; invokespecial; athrow -/
theorem vx_throwS {cc : ByteArray} {pc : Nat} (hexec : p.tables.exec = Jvm.exec) (hb : c.code = cc) (hl : l.stackTraces = false) {own cls text : String} {names : List String} {ik is ic mc ms sa : Nat} {A : Nat → Prop}
    (hown : s.vm.findClass own = some m.cls) (hcls : Bundle.fit cls = true) (hnames : ∀ n ∈ names, Bundle.fit n = true)
    (hk : (Cond.classLink own ik cls).before args s = true) (hini : (Cond.initialized cls).before args s = true) (hstr : vk_R own is text sa s) (hat : ∀ w ∈ vx_atS own ic cls names, w.before args s = true)
    (hgood : ∀ w ∈ Cond.classLink own ik cls :: Cond.initialized cls :: vx_atS own ic cls names, vx_ot w = true)
    (hU : vx_Zq Bundle.tN "UNASSIGNED_STACK" Bundle.steD A s s.heap) (hN : vx_Zq Bundle.tN "SUPPRESSED_SENTINEL" Bundle.listD A s s.heap) (hS : va_S A s.heap H locs) (hsize : ls.size = c.maxLocals)
    (d0 : decode cc pc = .ok (.new ik, 3)) (d3 : decode cc (pc + 3) = .ok (.dup, 1)) (d4 : decode cc (pc + 4) = .ok (.ldc is, 2)) (d6 : decode cc (pc + 6) = .ok (.invokespecial ic, 3)) (d9 : decode cc (pc + 9) = .ok (.athrow, 1))
    (hout : ∀ x ∈ c.exceptionTable.toList, covers x (pc + 9) = false)
    (hRframes : names.length + 3 < R.frames) (hRlocals : (rest.map fun v => v.category).sum + (13 * (names.length + 1) + 43) ≤ R.locals) (hRcells : cells + 1 ≤ R.cells) (hRslots : slots + 6 ≤ R.slots) (hlocks : meth.locks = false)
    (hx : ∀ t : State, s.vm.Alike t.vm → H.size ≤ t.heap.size → (∀ q : Nat, q < H.size → t.heap[q]? = H[q]?) → XC cls s t)
    (hf : ∀ z ∈ locs, free z.base) (hc : cells + 1 ≤ mc) (hs : slots + 6 ≤ ms) :
    W p l e R s m args below meth c H locs cells slots (vx_MQ below Qc XC args s mc ms free) (F0 m pc ls rest) := by
  intro T hT X
  have htr : e.platform.stackTraces = false := (show e.platform.stackTraces = l.stackTraces by rw [X.admits.platform]).trans hl
  have Y := vx_rebase X (R' := { frames := R.frames, locals := R.locals, cells := 1, slots := 6 }) (Nat.le_refl _) (Nat.le_refl _) hRcells hRslots
  obtain ⟨s', hA⟩ : ∃ z, z = (T.setVm s.vm).setFrames (.invoking m args :: below) := ⟨_, rfl⟩
  rw [← hA] at Y
  have hvm : s'.vm = s.vm := by rw [hA]; rfl
  have hhp : s'.heap = H := by rw [hA]; exact hT
  have hW0 : s.WarmedH s'.vm := by rw [hvm]; exact State.WarmedH.refl s
  have hat' : ∀ w ∈ vx_atS own ic cls names, w.before args s' = true := fun w hw => vx_ot_at hW0 hvm.symm (hgood w (List.mem_cons_of_mem _ (List.mem_cons_of_mem _ hw))) (hat w hw)
  have hk' : (Cond.classLink own ik cls).before args s' = true := vx_ot_at hW0 hvm.symm (hgood _ List.mem_cons_self) hk
  have hini' : (Cond.initialized cls).before args s' = true := vx_ot_at hW0 hvm.symm (hgood _ (List.mem_cons_of_mem _ List.mem_cons_self)) hini
  have hU' : vx_Zq Bundle.tN "UNASSIGNED_STACK" Bundle.steD A s' s'.heap := by rw [hhp]; exact vx_Zq.moved hW0.alike (hU.kept hS.2.1)
  have hN' : vx_Zq Bundle.tN "SUPPRESSED_SENTINEL" Bundle.listD A s' s'.heap := by rw [hhp]; exact vx_Zq.moved hW0.alike (hN.kept hS.2.1)
  have h : ∀ w ∈ Bundle.ownAtoms own ic cls names, w.before args s' = true := vx_own hat' (vx_isRefq hU'.1) (vx_isRefq hN'.1) hU'.2.word hN'.2.word
  have hown' : s'.vm.findClass own = some m.cls := by rw [hvm]; exact hown
  have hins : (Cond.instantiable cls 6).before args s' = true := h _ (by simp [Bundle.ownAtoms])
  obtain ⟨vm₁, cX, kX, hfX, hkX, -, -, X₁, st1⟩ := Y.newCold hexec (own := own) (C := cls) (index := ik) (n := 6) hown' hk' hins hini'
    (g := F0 m pc ls rest) rfl (by rw [hb]; exact d0) (Nat.le_refl _) (Nat.le_refl _)
  generalize hT1 : (T.setVm vm₁).pushCell { cls := cX, slots := kX.instanceTypes.map defaultValue, vm := .none } = T1 at X₁ st1
  have hcat : (Value.ref T.heap.size).category = 1 := rfl
  have hcellA : T1.heap[T.heap.size]? = some (freshCell cX kX) := by rw [← hT1]; exact State.heap_pushCell_size _ _
  have d3' : decode c.code (pc + 3) = .ok (.dup, 1) := by rw [hb]; exact d3
  have d4' : decode c.code (pc + 4) = .ok (.ldc is, 2) := by rw [hb]; exact d4
  have hstr' : vk_R own is text sa s' := vk_R.warm hW0 hstr
  obtain ⟨U, hsteps, hrun, hend, hW, hsame, ce, hce, hO⟩ := X₁.ctorThrowS hexec htr (own := own) (cls := cls) (names := names) (ic := ic) hown' hcls hnames h (fun x hx => nomatch hx) hfX hkX hcellA (by rw [hhp, hT]; exact Nat.le_refl _) (msg := .ref sa) rfl
    (g := { method := m, pc := pc + 6, locals := ls, stack := .ref sa :: .ref T.heap.size :: .ref T.heap.size :: rest, locked := none }) rfl hsize rfl rfl (rest := rest) rfl
    (by rw [hb]; exact d6) (by rw [hb]; exact d9) hout hRframes (by simp only [List.map_cons, List.sum_cons, hcat]; omega) hlocks
  obtain ⟨f1, f2⟩ := vx_frame hsame
  rw [hhp] at f1 f2
  have hWs : s.WarmedH U.vm := State.WarmedH.trans hW0 hW
  have hcl : s.vm.findClass cls = some ce.cls := by
    have h9 := hO.cls
    rw [hvm] at h9
    exact h9
  have hall : s.sameButNew ({ U with vm := s.vm } : State) locs mc ms := by
    subst hA
    obtain ⟨e1, e2⟩ := hsame
    rw [State.setFrames_setFrames] at e1
    have h2 : (T.setVm s.vm).sameButNew ({ U with vm := s.vm } : State) [] (0 + 1) (0 + 6) := ⟨e1, e2⟩
    have h3 := X.same.trans h2
    rw [List.append_nil] at h3
    exact h3.mono hc hs
  refine ⟨U, ?_, .threw T.heap.size, hrun, hend, Or.inr ⟨T.heap.size, rfl, cls, ce, locs, hx U hWs.alike f1 (fun q hq => f2 q hq (fun z hz => nomatch hz)), hce, hO.vm, hcl, hWs, hall, hf⟩⟩
  refine st1 _ ?_
  show Steps p.tables e below (T1.setTop { method := m, pc := pc + 3, locals := ls, stack := .ref T.heap.size :: rest, locked := none }) _
  jvm_step X₁.here [X₁.here.top, hexec, d3', Value.category]
  exact X₁.ldcString hexec (own := own) (text := text) (index := is) (a := sa) hown' hstr'.1 hstr'.2
    (g := { method := m, pc := pc + 4, locals := ls, stack := .ref T.heap.size :: .ref T.heap.size :: rest, locked := none }) rfl d4' _ hsteps
/-- 'throw new E("text")', the text by a wide index -/
theorem vx_throwSW {cc : ByteArray} {pc : Nat} (hexec : p.tables.exec = Jvm.exec) (hb : c.code = cc) (hl : l.stackTraces = false) {own cls text : String} {names : List String} {ik is ic mc ms sa : Nat} {A : Nat → Prop}
    (hown : s.vm.findClass own = some m.cls) (hcls : Bundle.fit cls = true) (hnames : ∀ n ∈ names, Bundle.fit n = true)
    (hk : (Cond.classLink own ik cls).before args s = true) (hini : (Cond.initialized cls).before args s = true) (hstr : vk_R own is text sa s) (hat : ∀ w ∈ vx_atS own ic cls names, w.before args s = true)
    (hgood : ∀ w ∈ Cond.classLink own ik cls :: Cond.initialized cls :: vx_atS own ic cls names, vx_ot w = true)
    (hU : vx_Zq Bundle.tN "UNASSIGNED_STACK" Bundle.steD A s s.heap) (hN : vx_Zq Bundle.tN "SUPPRESSED_SENTINEL" Bundle.listD A s s.heap) (hS : va_S A s.heap H locs) (hsize : ls.size = c.maxLocals)
    (d0 : decode cc pc = .ok (.new ik, 3)) (d3 : decode cc (pc + 3) = .ok (.dup, 1)) (d4 : decode cc (pc + 4) = .ok (.ldc_w is, 3)) (d7 : decode cc (pc + 7) = .ok (.invokespecial ic, 3)) (d10 : decode cc (pc + 10) = .ok (.athrow, 1))
    (hout : ∀ x ∈ c.exceptionTable.toList, covers x (pc + 10) = false)
    (hRframes : names.length + 3 < R.frames) (hRlocals : (rest.map fun v => v.category).sum + (13 * (names.length + 1) + 43) ≤ R.locals) (hRcells : cells + 1 ≤ R.cells) (hRslots : slots + 6 ≤ R.slots) (hlocks : meth.locks = false)
    (hx : ∀ t : State, s.vm.Alike t.vm → H.size ≤ t.heap.size → (∀ q : Nat, q < H.size → t.heap[q]? = H[q]?) → XC cls s t)
    (hf : ∀ z ∈ locs, free z.base) (hc : cells + 1 ≤ mc) (hs : slots + 6 ≤ ms) :
    W p l e R s m args below meth c H locs cells slots (vx_MQ below Qc XC args s mc ms free) (F0 m pc ls rest) := by
  intro T hT X
  have htr : e.platform.stackTraces = false := (show e.platform.stackTraces = l.stackTraces by rw [X.admits.platform]).trans hl
  have Y := vx_rebase X (R' := { frames := R.frames, locals := R.locals, cells := 1, slots := 6 }) (Nat.le_refl _) (Nat.le_refl _) hRcells hRslots
  obtain ⟨s', hA⟩ : ∃ z, z = (T.setVm s.vm).setFrames (.invoking m args :: below) := ⟨_, rfl⟩
  rw [← hA] at Y
  have hvm : s'.vm = s.vm := by rw [hA]; rfl
  have hhp : s'.heap = H := by rw [hA]; exact hT
  have hW0 : s.WarmedH s'.vm := by rw [hvm]; exact State.WarmedH.refl s
  have hat' : ∀ w ∈ vx_atS own ic cls names, w.before args s' = true := fun w hw => vx_ot_at hW0 hvm.symm (hgood w (List.mem_cons_of_mem _ (List.mem_cons_of_mem _ hw))) (hat w hw)
  have hk' : (Cond.classLink own ik cls).before args s' = true := vx_ot_at hW0 hvm.symm (hgood _ List.mem_cons_self) hk
  have hini' : (Cond.initialized cls).before args s' = true := vx_ot_at hW0 hvm.symm (hgood _ (List.mem_cons_of_mem _ List.mem_cons_self)) hini
  have hU' : vx_Zq Bundle.tN "UNASSIGNED_STACK" Bundle.steD A s' s'.heap := by rw [hhp]; exact vx_Zq.moved hW0.alike (hU.kept hS.2.1)
  have hN' : vx_Zq Bundle.tN "SUPPRESSED_SENTINEL" Bundle.listD A s' s'.heap := by rw [hhp]; exact vx_Zq.moved hW0.alike (hN.kept hS.2.1)
  have h : ∀ w ∈ Bundle.ownAtoms own ic cls names, w.before args s' = true := vx_own hat' (vx_isRefq hU'.1) (vx_isRefq hN'.1) hU'.2.word hN'.2.word
  have hown' : s'.vm.findClass own = some m.cls := by rw [hvm]; exact hown
  have hins : (Cond.instantiable cls 6).before args s' = true := h _ (by simp [Bundle.ownAtoms])
  obtain ⟨vm₁, cX, kX, hfX, hkX, -, -, X₁, st1⟩ := Y.newCold hexec (own := own) (C := cls) (index := ik) (n := 6) hown' hk' hins hini'
    (g := F0 m pc ls rest) rfl (by rw [hb]; exact d0) (Nat.le_refl _) (Nat.le_refl _)
  generalize hT1 : (T.setVm vm₁).pushCell { cls := cX, slots := kX.instanceTypes.map defaultValue, vm := .none } = T1 at X₁ st1
  have hcat : (Value.ref T.heap.size).category = 1 := rfl
  have hcellA : T1.heap[T.heap.size]? = some (freshCell cX kX) := by rw [← hT1]; exact State.heap_pushCell_size _ _
  have d3' : decode c.code (pc + 3) = .ok (.dup, 1) := by rw [hb]; exact d3
  have d4' : decode c.code (pc + 4) = .ok (.ldc_w is, 3) := by rw [hb]; exact d4
  have hstr' : vk_R own is text sa s' := vk_R.warm hW0 hstr
  obtain ⟨U, hsteps, hrun, hend, hW, hsame, ce, hce, hO⟩ := X₁.ctorThrowS hexec htr (own := own) (cls := cls) (names := names) (ic := ic) hown' hcls hnames h (fun x hx => nomatch hx) hfX hkX hcellA (by rw [hhp, hT]; exact Nat.le_refl _) (msg := .ref sa) rfl
    (g := { method := m, pc := pc + 7, locals := ls, stack := .ref sa :: .ref T.heap.size :: .ref T.heap.size :: rest, locked := none }) rfl hsize rfl rfl (rest := rest) rfl
    (by rw [hb]; exact d7) (by rw [hb]; exact d10) hout hRframes (by simp only [List.map_cons, List.sum_cons, hcat]; omega) hlocks
  obtain ⟨f1, f2⟩ := vx_frame hsame
  rw [hhp] at f1 f2
  have hWs : s.WarmedH U.vm := State.WarmedH.trans hW0 hW
  have hcl : s.vm.findClass cls = some ce.cls := by
    have h9 := hO.cls
    rw [hvm] at h9
    exact h9
  have hall : s.sameButNew ({ U with vm := s.vm } : State) locs mc ms := by
    subst hA
    obtain ⟨e1, e2⟩ := hsame
    rw [State.setFrames_setFrames] at e1
    have h2 : (T.setVm s.vm).sameButNew ({ U with vm := s.vm } : State) [] (0 + 1) (0 + 6) := ⟨e1, e2⟩
    have h3 := X.same.trans h2
    rw [List.append_nil] at h3
    exact h3.mono hc hs
  refine ⟨U, ?_, .threw T.heap.size, hrun, hend, Or.inr ⟨T.heap.size, rfl, cls, ce, locs, hx U hWs.alike f1 (fun q hq => f2 q hq (fun z hz => nomatch hz)), hce, hO.vm, hcl, hWs, hall, hf⟩⟩
  refine st1 _ ?_
  show Steps p.tables e below (T1.setTop { method := m, pc := pc + 3, locals := ls, stack := .ref T.heap.size :: rest, locked := none }) _
  jvm_step X₁.here [X₁.here.top, hexec, d3', Value.category]
  exact X₁.ldcStringW hexec (own := own) (text := text) (index := is) (a := sa) hown' hstr'.1 hstr'.2
    (g := { method := m, pc := pc + 4, locals := ls, stack := .ref T.heap.size :: .ref T.heap.size :: rest, locked := none }) rfl d4' _ hsteps
end Ends
section Bodies
variable {l : Launch}
theorem vx_ofW {y : MethodName} {ws ws' : List Cond} {rm : Room} {Pc : Array Value → State → Prop} {Qc : Array Value → State → Outcome → State → Prop} {XC : String → State → State → Prop} {mc ms : Nat} {free : Addr → Prop} {cc : ByteArray} {maxL : Nat} {ret : Option FieldType}
    (hy : plainName y.cls = true) (hw : ws = Cond.code y cc maxL ret :: ws')
    (body : ∀ p e s m args below meth c s₁, BodyLoose p l y (headSpec ws rm) cc maxL ret e s m args below meth c s₁ → c.maxLocals = maxL → (∀ x ∈ c.exceptionTable.toList, False) → Pc args s →
      W p l e (headSpec ws rm).room s m args below meth c s.heap [] 0 0 (vx_MQ below Qc XC args s mc ms free) (entryFrame m args maxL)) : vx_Met l y ws rm Pc Qc XC mc ms free := by
  refine MetFree.of_bodyS (code := cc) (maxLocals := maxL) (ret := ret) hy ?_ ?_
  · intro args s m h hn
    obtain ⟨meth, c, h1, h2, h3, h4, h5, h6, -, -⟩ := Cond.code_spec hn (atoms_spec (ws := ws) h _ (by rw [hw]; exact List.mem_cons_self))
    exact ⟨meth, c, h1, h2, h3, h4, h5, h6⟩
  · intro p e s m args below meth c s₁ B hml hP _
    have hh0 : s₁.heap = s.heap := by rw [B.state]; rfl
    have ht : ∀ x ∈ c.exceptionTable.toList, False := by
      obtain ⟨meth9, c9, h1, h2, -, -, -, -, h7, -⟩ := Cond.code_spec B.named (atoms_spec (ws := ws) B.pre _ (by rw [hw]; exact List.mem_cons_self))
      cases Option.some.inj (h1.symm.trans B.method)
      cases Option.some.inj (h2.symm.trans (Stand.of_body B).code)
      intro x hx
      rw [Array.isEmpty_iff.mp h7] at hx
      cases hx
    obtain ⟨t, a1, o, b1, b2, b3⟩ := body p e s m args below meth c s₁ B hml ht hP s₁ hh0 (Stand.of_body B)
    exact ⟨t, o, a1, b1, b2, b3⟩
/-- the table of a body with handlers -/
theorem vx_table {p : Program} {x y : MethodName} {S : Spec} {cc bytes : ByteArray} {maxL maxL' : Nat} {ret ret' : Option FieldType} {e : Env} {s s₁ : State} {m : MethodId} {args : Array Value} {below : List Frame} {meth : Method} {c : Code} {hh : List (Nat × Nat × Nat × Nat)}
    (B : BodyLoose p l y S cc maxL ret e s m args below meth c s₁) (h : (Cond.codeWith y bytes maxL' ret' hh).before args s = true) : c.exceptionTable.toList = tableOf hh := by
  obtain ⟨m9, meth9, c9, hn9, h1, h2, -, -, h6, -⟩ := Cond.codeWith_spec h
  cases Option.some.inj (hn9.symm.trans B.named)
  cases Option.some.inj (h1.symm.trans B.method)
  cases Option.some.inj (h2.symm.trans (Stand.of_body B).code)
  rw [← h6, table_eq]
end Bodies
end VXA
/-! ===== END ===== -/
/-! ===== BEGIN a static call of a method with an exception table ===== -/
section VXS
variable {p : Program} {l : Launch} {e : Env} {R : Room} {s : State} {m : MethodId} {args : Array Value} {below : List Frame} {meth : Method} {c : Code} {T : State} {H : Heap} {locs : List Loc} {cells slots : Nat}
abbrev vx_CSW (R : Room) (s : State) (args : Array Value) (own : String) (index : Nat) (y : MethodName) (bytes : ByteArray) (maxL : Nat) (ret : Option FieldType) (hh : List (Nat × Nat × Nat × Nat)) (ws : List Cond) (rm : Room) (mc ms n : Nat) : Prop :=
  (rm.cells = mc ∧ rm.slots = ms ∧ rm.frames + 1 ≤ R.frames ∧ 8 + (maxL + 11) + rm.locals ≤ R.locals ∧ (∀ w ∈ ws, ∀ (a' : Array Value) (U : State), s.WarmedH U.vm → w.before a' U = true) ∧ Cond.codeWith y bytes maxL ret hh ∈ ws) ∧
  (Cond.codeWith y bytes maxL ret hh).before args s = true ∧ (Cond.initialized y.cls).before args s = true ∧ (y.cls ≠ "java/lang/invoke/MethodHandle" ∧ y.cls ≠ "java/lang/invoke/VarHandle") ∧
  (∀ sig, parseMethodDescriptor y.desc = some sig → n = sig.parameters.length) ∧ (Cond.methodLink own index y).before args s = true ∧ (Cond.static y).before args s = true
theorem vx_cwSW {own : String} {index maxL mc ms : Nat} {y : MethodName} {bytes : ByteArray} {ret : Option FieldType} {hh : List (Nat × Nat × Nat × Nat)} {Ts ws ws' : List Cond} {rm : Room} (n : Nat) (ht : ∀ w ∈ Ts, w.before args s = true) (hT : GoodIn Ts (va_wsS own index y ws)) (hw : ws = Cond.codeWith y bytes maxL ret hh :: ws') (hrc : rm.cells = mc) (hrs : rm.slots = ms)
    (hd : y.cls ≠ "java/lang/invoke/MethodHandle" ∧ y.cls ≠ "java/lang/invoke/VarHandle" ∧ (parseMethodDescriptor y.desc).map (fun d => d.parameters.length) = some n) (hR : rm.frames + 1 ≤ R.frames ∧ 8 + (maxL + 11) + rm.locals ≤ R.locals) :
    vx_CSW R s args own index y bytes maxL ret hh ws rm mc ms n := by
  have ok : ∀ w ∈ va_wsS own index y ws, w.before args s = true := fun w h => ht w (hT w h).1
  have hG : GoodIn Ts ws := fun w h => hT w (by unfold va_wsS; exact List.mem_append_right _ h)
  have hc : Cond.codeWith y bytes maxL ret hh ∈ ws := by rw [hw]; exact List.mem_cons_self
  refine ⟨⟨hrc, hrs, hR.1, hR.2, pay_in ht hG, hc⟩, ht _ (hG _ hc).1, ok _ (by simp [va_wsS]), ⟨hd.1, hd.2.1⟩, fun sig h => ?_, ok _ (by simp [va_wsS]), ok _ (by simp [va_wsS])⟩
  have h2 := hd.2.2
  rw [h] at h2
  exact (Option.some.inj h2).symm
theorem vx_callSW (X : Stand p l e R s m args below meth c T locs cells slots) (hexec : p.tables.exec = Jvm.exec) {own : String} {index : Nat} {y : MethodName} {bytes : ByteArray} {maxL : Nat} {ret : Option FieldType} {hh : List (Nat × Nat × Nat × Nat)}
    (hown : s.vm.findClass own = some m.cls) (hlink : (Cond.methodLink own index y).before args s = true) (hstat : (Cond.static y).before args s = true) (hinit : (Cond.initialized y.cls).before args s = true)
    (hcode : (Cond.codeWith y bytes maxL ret hh).before args s = true) (hy : y.cls ≠ "java/lang/invoke/MethodHandle" ∧ y.cls ≠ "java/lang/invoke/VarHandle")
    {W9 : Nat} {Pre : Pt → Array Value → Prop} {Post : Pt → Array Value → Option Value → Pt → Prop} (hK : Back l R p e below s args y 3 W9 Pre Post)
    {g : JFrame} (hg : g.method = m) (hsize : g.locals.size = c.maxLocals) {argsL rest : List Value} (hlen : ∀ sig, parseMethodDescriptor y.desc = some sig → argsL.length = sig.parameters.length)
    (hstack : g.stack = argsL.reverse ++ rest) (hW : 2 * g.monitorRoom + (rest.map fun v => v.category).sum ≤ W9) (hdg : decode c.code g.pc = .ok (.invokestatic index, 3))
    (hpre : ∀ vm₁, s.WarmedH vm₁ → Pre ⟨T.setVm vm₁, locs, cells, slots⟩ argsL.toArray) :
    ∃ (v : Option Value) (vm₁ : Vm) (B : Pt), s.WarmedH vm₁ ∧ Stand p l e R s m args below meth c B.U B.locs B.cells B.slots ∧ Post ⟨T.setVm vm₁, locs, cells, slots⟩ argsL.toArray v B ∧
      ∀ target, Steps p.tables e below (B.U.setTop { g with pc := g.pc + 3, stack := v.toList ++ rest }) target → Steps p.tables e below (T.setTop g) target := by
  obtain ⟨mk, methM, cM, hnamed, hmethM, -, -, -, -, -, -, hsigM⟩ := Cond.codeWith_spec hcode
  have hstatic : methM.isStatic = true := Cond.static_spec hnamed hmethM hstat
  obtain ⟨kP, hkP, -⟩ := className_of_methodNamed hnamed
  have hinitP : kP.init = .initialized := Cond.initialized_spec (findClass_of_methodNamed hnamed) hkP hinit
  obtain ⟨vm₁, X₁, hstep₁⟩ := X.invokestatic hexec hown hlink hnamed hmethM hstatic hkP hinitP hy (g := g) hg (argsL := argsL) (rest := rest) (hlen _ hsigM) hstack hdg
  obtain ⟨v, B, X', hpost, hsteps⟩ := hK m meth c ⟨T.setVm vm₁, locs, cells, slots⟩ { g with stack := rest } (.invokestatic index) mk argsL.toArray X₁ hg hsize hdg hW (X₁.named hnamed) (hpre vm₁ X₁.warmed)
  exact ⟨v, vm₁, B, X₁.warmed, X', hpost, fun target h => hstep₁ _ fun acts => by rw [doInvoke_state]; exact hsteps.trans h⟩
theorem vx_runSW {y : MethodName} {bytes cc : ByteArray} {maxL nL mc ms n index : Nat} {ret : Option FieldType} {hh : List (Nat × Nat × Nat × Nat)} {ws : List Cond} {rm : Room} {Pc : Array Value → State → Prop} {Qc : Array Value → State → Outcome → State → Prop} {free : Addr → Prop} {Ts : List Cond} {own : String} {As rest : List Value} {g : JFrame}
    (S : CallFix p m c cc nL s args Ts own) (hM : Met l y ws rm Pc Qc mc ms free) (cw : vx_CSW R s args own index y bytes maxL ret hh ws rm mc ms n) (hp : PreS s H Pc As)
    (hg : g.method = m) (hn : As.length = n) (hsize : g.locals.size = nL) (hstack : g.stack = As.reverse ++ rest) (hW : 2 * g.monitorRoom + (rest.map fun v => v.category).sum ≤ 8) (hdg : decode cc g.pc = .ok (.invokestatic index, 3)) (hf : cells + mc ≤ R.cells ∧ slots + ms ≤ R.slots) :
    va_Run p l e R s m args below meth c H locs cells slots mc ms g rest (Qc As.toArray) (free) := by
  obtain ⟨⟨hrc, hrs, hfr, hlo, hws, hcw⟩, hcode, hini, hy, hlen, hl, hstt⟩ := cw
  have hK : Back l R p e below s args y 3 8 (PreOf R mc ms Pc) (PostOf Qc mc ms free) := va_backW (hh := hh) (bytes := bytes) (maxL := maxL) (ret := ret) hM hp.1 hrc hrs hfr hlo hws hcw (fun a' U hW => word_at hW (Or.inl (by first | rfl | simp [Cond.onTables, Cond.keeps, Cond.steady])) hini)
  obtain ⟨hx, hb, hml, ho, -⟩ := S
  intro T hT X
  obtain ⟨v, vm₁, ⟨U', l2, c2, s2⟩, hW₁, X', ⟨g', mk, t, L, e1, e2, hq, h1, hL, h2, h3⟩, st⟩ := vx_callSW X hx (hh := hh) (bytes := bytes) (maxL := maxL) (ret := ret) ho hl hstt hini hcode hy hK hg (hsize.trans hml.symm) (argsL := As) (rest := rest) (fun sig h => hn.trans (hlen sig h)) hstack hW (by rw [hb]; exact hdg)
    (fun vm₁ hW₁ => ⟨hf.1, hf.2, hp.2 (T.setVm vm₁) hT hW₁⟩)
  dsimp only [Pt.U, Pt.locs, Pt.cells, Pt.slots] at X' e1 e2 h1 h2 h3 st
  subst h1; subst h2; subst h3
  exact ⟨v, (T.setVm vm₁).calling g' mk As.toArray, t, U', L, hT, X', hL, e1, e2, hq, st⟩
/-- not caught here, past rows that name other classes: it goes on to the caller -/
theorem vx_outP {p : Program} {l : Launch} {e : Env} {R : Room} {s : State} {m : MethodId} {args : Array Value} {below : List Frame} {meth : Method} {c : Code} {H : Heap} {locs : List Loc} {cells slots : Nat} {free : Addr → Prop} {ls : Array Slot} {rest : List Value} {Qc : Array Value → State → Outcome → State → Prop} {XC : String → State → State → Prop}
    {pc : Nat} {own E : String} {ce : Cell} {q : Addr} {mc ms : Nat} (hown : s.vm.findClass own = some m.cls) (hlocks : meth.locks = false)
    (hpass : ∀ z ∈ c.exceptionTable.toList, covers z pc = false ∨ (z.catchType ≠ 0 ∧ ∃ nm : String, (Cond.classLink own z.catchType nm).before args s = true ∧ va_Nc E nm s)) (hcell : H[q]? = some ce) (hv : ce.vm = .none) (hcl : s.vm.findClass E = some ce.cls)
    (hx : ∀ t : State, t.heap = H → s.vm.Alike t.vm → XC E s t) (hf : ∀ z ∈ locs, free z.base) (hc : cells ≤ mc) (hs : slots ≤ ms) :
    vx_W p l e R s m args below meth c H locs cells slots (vx_MQ below Qc XC args s mc ms free) (F0 m pc ls rest) q := by
  intro T hT X
  have hpl : e.platform.magicAccessors = ({} : Platform).magicAccessors := by rw [X.admits.platform]
  obtain ⟨vm', hW', X', st⟩ := X.outThrough hlocks q (g := F0 m pc ls rest) rfl rfl rfl (cell := ce) (by rw [hT]; exact hcell) (by rw [hv]; rfl)
    (by obtain ⟨k9, h9, -⟩ := Vm.findClass_spec hcl; exact ⟨k9, h9⟩) (fun z hz => by
      rcases hpass z hz with h | ⟨hz0, nm, hl1, hn1⟩
      · exact Or.inl h
      · obtain ⟨c6, hc6, hcl6⟩ := Cond.classLink_spec hown hl1 e.platform hpl
        obtain ⟨a8, b8, h1, h2, h3⟩ := hn1
        cases Option.some.inj (h1.symm.trans hcl)
        cases Option.some.inj (h2.symm.trans hc6)
        exact Or.inr ⟨hz0, _, hcl6, h3⟩)
  obtain ⟨g₀, hfr⟩ := X'.frames_eq
  have hcell9 : ((T.setVm vm').setFrames (.throwing q :: below)).heap[q]? = some ce := by
    show T.heap[q]? = some ce
    rw [hT]; exact hcell
  have hend : Ended ((T.setVm vm').setFrames (.throwing q :: below)) below (.threw q) := State.frames_setFrames _ (State.cur_lt_of_frames hfr)
  refine ⟨(T.setVm vm').setFrames (.throwing q :: below), ?_, .threw q, X'.here.running, hend, Or.inr ⟨q, rfl, E, ce, locs, hx _ hT (X'.ends _).1.alike, hcell9, hv, hcl, (X'.ends _).1, (X'.ends _).2.mono hc hs, hf⟩⟩
  rw [X.pushThrowing_eq]
  exact st
/-- a thing of a world lies in the heap -/
theorem vx_lt {D : va_G} {cl : List vw_C} {ws : va_W} {H1 : Heap} (h : va_P D cl ws H1) {k : Nat} {q : Nat × va_E} (hk : ws[k]? = some q) : q.1 < H1.size := (h k q hk).lt
end VXS
/-! ===== END ===== -/
/-! ===== BEGIN methods with a table of their own: called by a name, returning or throwing ===== -/
section VXH
/-! vx_backW, vx_callVX, vx_callSX, vx_callVW, vx_runVW, vx_runVX, vx_runSX, vx_ofWH follow the same proofs as their sisters above (Free/Laws.lean, Shelf42/LK1.lean); vx_outP calls Shelf42/NT130.lean (outThrough). -/
section
variable {l : Launch} {R : Room} {p : Program} {e : Env} {below : List Frame} {s : State} {sargs : Array Value} {y : MethodName} {len W9 : Nat}
theorem vx_backW {ws : List Cond} {rm : Room} {Pc : Array Value → State → Prop} {Qc : Array Value → State → Outcome → State → Prop} {XC : String → State → State → Prop} {mc ms : Nat} {free : Addr → Prop} {bytes : ByteArray} {maxL : Nat} {ret : Option FieldType} {hh : List (Nat × Nat × Nat × Nat)}
    (hM : vx_Met l y ws rm Pc Qc XC mc ms free) (hblind : FrameBlind Pc) (hrc : rm.cells = mc) (hrs : rm.slots = ms)
    (hframes : rm.frames + 1 ≤ R.frames) (hlocals : W9 + (maxL + 11) + rm.locals ≤ R.locals)
    (hws : ∀ w ∈ ws, ∀ a' U, s.WarmedH U.vm → w.before a' U = true) (hcode : Cond.codeWith y bytes maxL ret hh ∈ ws) (hinit : ∀ a' U, s.WarmedH U.vm → (Cond.initialized y.cls).before a' U = true) :
    vx_Back l R p e below s sargs y len W9 (PreOf R mc ms Pc) (PostOf Qc mc ms free) (vx_Post XC mc ms free) := by
  intro m meth c A g ig mk a X hg hsize hdg hW hn hp
  have h1 : (headSpec ws rm).pre.before a A.U = true := atoms_intro fun w hw => hws w hw _ _ X.warmed
  have h2 : (Cond.codeWith y bytes maxL ret hh).before a A.U = true := hws _ hcode _ _ X.warmed
  have h3 : (Cond.initialized y.cls).before a A.U = true := hinit _ _ X.warmed
  have h4 : A.cells + (headSpec ws rm).room.cells ≤ R.cells := by rw [show (headSpec ws rm).room.cells = mc from hrc]; exact hp.1
  have h5 : A.slots + (headSpec ws rm).room.slots ≤ R.slots := by rw [show (headSpec ws rm).room.slots = ms from hrs]; exact hp.2.1
  have hPc : Pc a (A.U.calling g mk a) := hblind _ _ _ _ hp.2.2
  obtain ⟨U, Ls, c0, s0⟩ := A
  dsimp only [Pt.U, Pt.locs, Pt.cells, Pt.slots] at h1 h2 h3 h4 h5 X hn hPc ⊢
  obtain ⟨m9, methY, cY, hn9, hmY, hcY, -, hlY, -⟩ := Cond.codeWith_spec h2
  cases Option.some.inj (hn9.symm.trans hn)
  obtain ⟨kY, hkY, -⟩ := className_of_methodNamed hn
  have hinitY : kY.init = .initialized := Cond.initialized_spec (findClass_of_methodNamed hn) hkY h3
  have h : At U g.method c below := by rw [hg]; exact X.here
  have hlocals9 : W9 + (maxL + 11) + (headSpec ws rm).room.locals ≤ R.locals := hlocals
  have happ : (headSpec ws rm).appliesLoose y e.platform (U.calling g mk a) = true :=
    Spec.appliesLoose_calling (g := g) h hdg hn hkY hinitY
      (X.room_calling (g := g) (R' := (headSpec ws rm).room) hsize hmY hcY hframes (by rw [hlY]; omega) h4 h5) h1
  obtain ⟨mid, hmid⟩ := h.above
  have hfr : (U.setTop g).frames = (.java g :: mid) ++ below := by rw [State.frames_setTop' g h.top, hmid]; rfl
  obtain ⟨o, s₂, hsteps, -, hend, hq⟩ := Steps.callFree hM p X.admits X.cas X.clock (acts := []) hfr happ hPc trivial
  have hq' : vx_Q Qc XC mc ms free a (U.calling g mk a) o s₂ := hq
  rw [State.frames_setTop' g h.top] at hend
  obtain ⟨g₀, hg0⟩ := Option.isSome_iff_exists.mp h.top
  obtain ⟨r, hr⟩ := State.topJava?_eq_some.mp hg0
  have hr' : (({ U with heap := s₂.heap, slotsUsed := s₂.slotsUsed } : State).setVm s₂.vm).frames = .java g₀ :: r := hr
  rcases hq' with ⟨hqc, L, hfe, hL⟩ | ⟨q, rfl, E, ce, L, hx, hce, hcv, hcl, hW₂, hsm, hL⟩
  · obtain ⟨⟨v, rfl⟩, hW₂, e2, q2, q3, q4, q5, q6⟩ := id hfe
    have e3 : s₂ = ({ (U.calling g mk a).setFrames s₂.frames with heap := s₂.heap, slotsUsed := s₂.slotsUsed } : State).setVm s₂.vm := by
      have : s₂ = ({ s₂ with vm := (U.calling g mk a).vm } : State).setVm s₂.vm := rfl
      rw [e2] at this
      exact this
    obtain ⟨c₂, i₂, len₂, hc₂, hd₂, hf₂⟩ := hend
    have hW' : U.WarmedH s₂.vm := hW₂
    have hcc : c₂ = c := by
      have h1 : s₂.code? g.method = U.code? g.method := by
        rw [State.code?_eq, State.code?_eq, hW'.alike.method?]
      exact Option.some.inj (hc₂.symm.trans (h1.trans h.code))
    subst hcc
    have hlen : len₂ = len := by rw [hdg] at hd₂; cases hd₂; rfl
    subst hlen
    have hs₂ : s₂ = (({ U with heap := s₂.heap, slotsUsed := s₂.slotsUsed } : State).setVm s₂.vm).setTop { g with pc := g.pc + len₂, stack := v.toList ++ g.stack } := by
      refine e3.trans ?_
      rw [hf₂, State.calling_eq h.top, State.setFrames_setFrames, State.setTop_of_frames _ hr', hr]
      rfl
    have hsame : U.sameButNew ({ U with heap := s₂.heap, slotsUsed := s₂.slotsUsed } : State) L mc ms := by
      refine ⟨?_, q2, q3, q4, q5, q6⟩
      obtain ⟨t, ht, -⟩ := State.frames_cons hr
      show ({ U with heap := s₂.heap, slotsUsed := s₂.slotsUsed } : State) = { U.setFrames U.frames with heap := s₂.heap, slotsUsed := s₂.slotsUsed }
      rw [State.setFrames_self ht]
    subst hg
    refine Or.inl ⟨v, ⟨(({ U with heap := s₂.heap, slotsUsed := s₂.slotsUsed } : State).setVm s₂.vm), Ls ++ L, c0 + mc, s0 + ms⟩,
      ⟨X.admits, X.cas, X.clock, X.frames, X.room, X.hears, X.method, X.code, (X.here.setHeapUsed s₂.heap s₂.slotsUsed).setVm hW'.alike, X.tail, State.WarmedH.trans X.warmed hW', X.limits, X.bytes, X.same.trans (hsame.setVm s.vm)⟩,
      ⟨g, mk, s₂, L, rfl, rfl, hqc, rfl, hL, rfl, rfl⟩, ?_⟩
    show Steps p.tables e below _ ((({ U with heap := s₂.heap, slotsUsed := s₂.slotsUsed } : State).setVm s₂.vm).setTop { g with pc := g.pc + len₂, stack := v.toList ++ g.stack })
    rw [← hs₂]
    exact hsteps
  · obtain ⟨e2, q2, q3, q4, q5, q6⟩ := id hsm
    have e3 : s₂ = ({ (U.calling g mk a).setFrames s₂.frames with heap := s₂.heap, slotsUsed := s₂.slotsUsed } : State).setVm s₂.vm := by
      have : s₂ = ({ s₂ with vm := (U.calling g mk a).vm } : State).setVm s₂.vm := rfl
      rw [e2] at this
      exact this
    have hf₂ : s₂.frames = .throwing q :: .java g :: U.frames.tail := hend
    have hW' : U.WarmedH s₂.vm := hW₂
    have hs₂ : s₂ = ((({ U with heap := s₂.heap, slotsUsed := s₂.slotsUsed } : State).setVm s₂.vm).setTop g).pushFrame (.throwing q) := by
      refine e3.trans ?_
      rw [hf₂, State.calling_eq h.top, State.setFrames_setFrames, State.pushFrame, State.frames_setTop _ hr', State.setTop_of_frames _ hr', State.setFrames_setFrames, hr]
      rfl
    have hsame : U.sameButNew ({ U with heap := s₂.heap, slotsUsed := s₂.slotsUsed } : State) L mc ms := by
      refine ⟨?_, q2, q3, q4, q5, q6⟩
      obtain ⟨t, ht, -⟩ := State.frames_cons hr
      show ({ U with heap := s₂.heap, slotsUsed := s₂.slotsUsed } : State) = { U.setFrames U.frames with heap := s₂.heap, slotsUsed := s₂.slotsUsed }
      rw [State.setFrames_self ht]
    subst hg
    refine Or.inr ⟨q, ⟨(({ U with heap := s₂.heap, slotsUsed := s₂.slotsUsed } : State).setVm s₂.vm), Ls ++ L, c0 + mc, s0 + ms⟩,
      ⟨X.admits, X.cas, X.clock, X.frames, X.room, X.hears, X.method, X.code, (X.here.setHeapUsed s₂.heap s₂.slotsUsed).setVm hW'.alike, X.tail, State.WarmedH.trans X.warmed hW', X.limits, X.bytes, X.same.trans (hsame.setVm s.vm)⟩,
      ⟨g, mk, s₂, L, E, ce, rfl, rfl, hx, hce, hcv, hcl, rfl, hL, rfl, rfl⟩, ?_⟩
    show Steps p.tables e below _ (((({ U with heap := s₂.heap, slotsUsed := s₂.slotsUsed } : State).setVm s₂.vm).setTop g).pushFrame (.throwing q))
    rw [← hs₂]
    exact hsteps
end
variable {p : Program} {l : Launch} {e : Env} {R : Room} {s : State} {m : MethodId} {args : Array Value} {below : List Frame} {meth : Method} {c : Code} {T : State} {H : Heap} {locs : List Loc} {cells slots : Nat}
theorem vx_callVX (X : Stand p l e R s m args below meth c T locs cells slots) (hexec : p.tables.exec = Jvm.exec) {own C : String} {index : Nat} {y : MethodName} {bytes : ByteArray} {maxL : Nat} {ret : Option FieldType} {hh : List (Nat × Nat × Nat × Nat)}
    (hown : s.vm.findClass own = some m.cls) (hlink : (Cond.methodLink own index y).before args s = true) (hinst : (Cond.instanceMethod y).before args s = true) (hsel : (Cond.selects C y y).before args s = true)
    (hcode : (Cond.codeWith y bytes maxL ret hh).before args s = true) (hy : y.cls ≠ "java/lang/invoke/MethodHandle" ∧ y.cls ≠ "java/lang/invoke/VarHandle")
    {W9 : Nat} {Pre : Pt → Array Value → Prop} {Post : Pt → Array Value → Option Value → Pt → Prop} {PostX : Pt → Array Value → Addr → Pt → Prop} (hK : vx_Back l R p e below s args y 3 W9 Pre Post PostX)
    {b : Addr} {cellB : Cell} (hcell : T.heap[b]? = some cellB) (hobj : cellB.vm.isStatics = false) (hcls : s.vm.findClass C = some cellB.cls)
    {g : JFrame} (hg : g.method = m) (hsize : g.locals.size = c.maxLocals) {argsL rest : List Value} (hlen : ∀ sig, parseMethodDescriptor y.desc = some sig → argsL.length = sig.parameters.length)
    (hstack : g.stack = argsL.reverse ++ .ref b :: rest) (hW : 2 * g.monitorRoom + (rest.map fun v => v.category).sum ≤ W9) (hdg : decode c.code g.pc = .ok (.invokevirtual index, 3))
    (hpre : ∀ vm₁, s.WarmedH vm₁ → Pre ⟨T.setVm vm₁, locs, cells, slots⟩ (Value.ref b :: argsL).toArray) :
    (∃ (v : Option Value) (vm₁ : Vm) (B : Pt), s.WarmedH vm₁ ∧ Stand p l e R s m args below meth c B.U B.locs B.cells B.slots ∧ Post ⟨T.setVm vm₁, locs, cells, slots⟩ (Value.ref b :: argsL).toArray v B ∧
      ∀ target, Steps p.tables e below (B.U.setTop { g with pc := g.pc + 3, stack := v.toList ++ rest }) target → Steps p.tables e below (T.setTop g) target) ∨
    (∃ (q : Addr) (vm₁ : Vm) (B : Pt), s.WarmedH vm₁ ∧ Stand p l e R s m args below meth c B.U B.locs B.cells B.slots ∧ PostX ⟨T.setVm vm₁, locs, cells, slots⟩ (Value.ref b :: argsL).toArray q B ∧
      Steps p.tables e below (T.setTop g) ((B.U.setTop { g with stack := rest }).pushFrame (.throwing q))) := by
  obtain ⟨mk, methM, hnamed, hmethM, hstM, habM⟩ := Cond.instanceMethod_spec hinst
  obtain ⟨m8, methM', cM, hn8, hmethM', -, -, -, -, -, -, hsigM⟩ := Cond.codeWith_spec hcode
  cases Option.some.inj (hn8.symm.trans hnamed)
  cases hmethM.symm.trans hmethM'
  obtain ⟨c2, r2, m2, q1, q2, q3, q4, kP, hkP, hkPi⟩ := Cond.selects_spec hsel
  cases hcls.symm.trans q1
  cases (State.methodFound?_of_named hnamed hy).symm.trans q2
  cases hnamed.symm.trans q3
  have hselP : selectMethod e.platform s.vm cellB.cls mk = .method mk := by rw [Launch.admits_selectMethod X.admits]; exact q4
  obtain ⟨vm₁, X₁, hstep₁⟩ := X.invokevirtual hexec hown hlink hnamed hmethM hstM hkP hkPi hy (a := b) (cell := cellB) hcell
    (fun z h => by rw [h] at hobj; cases hobj) hselP hmethM habM hkP hkPi (g := g) hg (argsL := argsL) (rest := rest) (hlen _ hsigM) hstack hdg
  rcases hK m meth c ⟨T.setVm vm₁, locs, cells, slots⟩ { g with stack := rest } (.invokevirtual index) mk (Value.ref b :: argsL).toArray X₁ hg hsize hdg hW (X₁.named hnamed) (hpre vm₁ X₁.warmed) with ⟨v, B, X', hpost, hsteps⟩ | ⟨q, B, X', hpost, hsteps⟩
  · exact Or.inl ⟨v, vm₁, B, X₁.warmed, X', hpost, fun target h => hstep₁ _ fun acts => by rw [doInvoke_state]; exact hsteps.trans h⟩
  · exact Or.inr ⟨q, vm₁, B, X₁.warmed, X', hpost, hstep₁ _ fun acts => by rw [doInvoke_state]; exact hsteps⟩
theorem vx_callSX (X : Stand p l e R s m args below meth c T locs cells slots) (hexec : p.tables.exec = Jvm.exec) {own : String} {index : Nat} {y : MethodName} {bytes : ByteArray} {maxL : Nat} {ret : Option FieldType} {hh : List (Nat × Nat × Nat × Nat)}
    (hown : s.vm.findClass own = some m.cls) (hlink : (Cond.methodLink own index y).before args s = true) (hstat : (Cond.static y).before args s = true) (hinit : (Cond.initialized y.cls).before args s = true)
    (hcode : (Cond.codeWith y bytes maxL ret hh).before args s = true) (hy : y.cls ≠ "java/lang/invoke/MethodHandle" ∧ y.cls ≠ "java/lang/invoke/VarHandle")
    {W9 : Nat} {Pre : Pt → Array Value → Prop} {Post : Pt → Array Value → Option Value → Pt → Prop} {PostX : Pt → Array Value → Addr → Pt → Prop} (hK : vx_Back l R p e below s args y 3 W9 Pre Post PostX)
    {g : JFrame} (hg : g.method = m) (hsize : g.locals.size = c.maxLocals) {argsL rest : List Value} (hlen : ∀ sig, parseMethodDescriptor y.desc = some sig → argsL.length = sig.parameters.length)
    (hstack : g.stack = argsL.reverse ++ rest) (hW : 2 * g.monitorRoom + (rest.map fun v => v.category).sum ≤ W9) (hdg : decode c.code g.pc = .ok (.invokestatic index, 3))
    (hpre : ∀ vm₁, s.WarmedH vm₁ → Pre ⟨T.setVm vm₁, locs, cells, slots⟩ argsL.toArray) :
    (∃ (v : Option Value) (vm₁ : Vm) (B : Pt), s.WarmedH vm₁ ∧ Stand p l e R s m args below meth c B.U B.locs B.cells B.slots ∧ Post ⟨T.setVm vm₁, locs, cells, slots⟩ argsL.toArray v B ∧
      ∀ target, Steps p.tables e below (B.U.setTop { g with pc := g.pc + 3, stack := v.toList ++ rest }) target → Steps p.tables e below (T.setTop g) target) ∨
    (∃ (q : Addr) (vm₁ : Vm) (B : Pt), s.WarmedH vm₁ ∧ Stand p l e R s m args below meth c B.U B.locs B.cells B.slots ∧ PostX ⟨T.setVm vm₁, locs, cells, slots⟩ argsL.toArray q B ∧
      Steps p.tables e below (T.setTop g) ((B.U.setTop { g with stack := rest }).pushFrame (.throwing q))) := by
  obtain ⟨mk, methM, cM, hnamed, hmethM, -, -, -, -, -, -, hsigM⟩ := Cond.codeWith_spec hcode
  have hstatic : methM.isStatic = true := Cond.static_spec hnamed hmethM hstat
  obtain ⟨kP, hkP, -⟩ := className_of_methodNamed hnamed
  have hinitP : kP.init = .initialized := Cond.initialized_spec (findClass_of_methodNamed hnamed) hkP hinit
  obtain ⟨vm₁, X₁, hstep₁⟩ := X.invokestatic hexec hown hlink hnamed hmethM hstatic hkP hinitP hy (g := g) hg (argsL := argsL) (rest := rest) (hlen _ hsigM) hstack hdg
  rcases hK m meth c ⟨T.setVm vm₁, locs, cells, slots⟩ { g with stack := rest } (.invokestatic index) mk argsL.toArray X₁ hg hsize hdg hW (X₁.named hnamed) (hpre vm₁ X₁.warmed) with ⟨v, B, X', hpost, hsteps⟩ | ⟨q, B, X', hpost, hsteps⟩
  · exact Or.inl ⟨v, vm₁, B, X₁.warmed, X', hpost, fun target h => hstep₁ _ fun acts => by rw [doInvoke_state]; exact hsteps.trans h⟩
  · exact Or.inr ⟨q, vm₁, B, X₁.warmed, X', hpost, hstep₁ _ fun acts => by rw [doInvoke_state]; exact hsteps⟩
theorem vx_callVW (X : Stand p l e R s m args below meth c T locs cells slots) (hexec : p.tables.exec = Jvm.exec) {own C : String} {index : Nat} {y : MethodName} {bytes : ByteArray} {maxL : Nat} {ret : Option FieldType} {hh : List (Nat × Nat × Nat × Nat)}
    (hown : s.vm.findClass own = some m.cls) (hlink : (Cond.methodLink own index y).before args s = true) (hinst : (Cond.instanceMethod y).before args s = true) (hsel : (Cond.selects C y y).before args s = true)
    (hcode : (Cond.codeWith y bytes maxL ret hh).before args s = true) (hy : y.cls ≠ "java/lang/invoke/MethodHandle" ∧ y.cls ≠ "java/lang/invoke/VarHandle")
    {W9 : Nat} {Pre : Pt → Array Value → Prop} {Post : Pt → Array Value → Option Value → Pt → Prop} (hK : Back l R p e below s args y 3 W9 Pre Post)
    {b : Addr} {cellB : Cell} (hcell : T.heap[b]? = some cellB) (hobj : cellB.vm.isStatics = false) (hcls : s.vm.findClass C = some cellB.cls)
    {g : JFrame} (hg : g.method = m) (hsize : g.locals.size = c.maxLocals) {argsL rest : List Value} (hlen : ∀ sig, parseMethodDescriptor y.desc = some sig → argsL.length = sig.parameters.length)
    (hstack : g.stack = argsL.reverse ++ .ref b :: rest) (hW : 2 * g.monitorRoom + (rest.map fun v => v.category).sum ≤ W9) (hdg : decode c.code g.pc = .ok (.invokevirtual index, 3))
    (hpre : ∀ vm₁, s.WarmedH vm₁ → Pre ⟨T.setVm vm₁, locs, cells, slots⟩ (Value.ref b :: argsL).toArray) :
    ∃ (v : Option Value) (vm₁ : Vm) (B : Pt), s.WarmedH vm₁ ∧ Stand p l e R s m args below meth c B.U B.locs B.cells B.slots ∧ Post ⟨T.setVm vm₁, locs, cells, slots⟩ (Value.ref b :: argsL).toArray v B ∧
      ∀ target, Steps p.tables e below (B.U.setTop { g with pc := g.pc + 3, stack := v.toList ++ rest }) target → Steps p.tables e below (T.setTop g) target := by
  obtain ⟨mk, methM, hnamed, hmethM, hstM, habM⟩ := Cond.instanceMethod_spec hinst
  obtain ⟨m8, methM', cM, hn8, hmethM', -, -, -, -, -, -, hsigM⟩ := Cond.codeWith_spec hcode
  cases Option.some.inj (hn8.symm.trans hnamed)
  cases hmethM.symm.trans hmethM'
  obtain ⟨c2, r2, m2, q1, q2, q3, q4, kP, hkP, hkPi⟩ := Cond.selects_spec hsel
  cases hcls.symm.trans q1
  cases (State.methodFound?_of_named hnamed hy).symm.trans q2
  cases hnamed.symm.trans q3
  have hselP : selectMethod e.platform s.vm cellB.cls mk = .method mk := by rw [Launch.admits_selectMethod X.admits]; exact q4
  obtain ⟨vm₁, X₁, hstep₁⟩ := X.invokevirtual hexec hown hlink hnamed hmethM hstM hkP hkPi hy (a := b) (cell := cellB) hcell
    (fun z h => by rw [h] at hobj; cases hobj) hselP hmethM habM hkP hkPi (g := g) hg (argsL := argsL) (rest := rest) (hlen _ hsigM) hstack hdg
  obtain ⟨v, B, X', hpost, hsteps⟩ := hK m meth c ⟨T.setVm vm₁, locs, cells, slots⟩ { g with stack := rest } (.invokevirtual index) mk (Value.ref b :: argsL).toArray X₁ hg hsize hdg hW (X₁.named hnamed) (hpre vm₁ X₁.warmed)
  exact ⟨v, vm₁, B, X₁.warmed, X', hpost, fun target h => hstep₁ _ fun acts => by rw [doInvoke_state]; exact hsteps.trans h⟩
abbrev vx_CVW (R : Room) (s : State) (args : Array Value) (own C : String) (index : Nat) (y : MethodName) (bytes : ByteArray) (maxL : Nat) (ret : Option FieldType) (hh : List (Nat × Nat × Nat × Nat)) (ws : List Cond) (rm : Room) (mc ms n : Nat) : Prop :=
  (rm.cells = mc ∧ rm.slots = ms ∧ rm.frames + 1 ≤ R.frames ∧ 8 + (maxL + 11) + rm.locals ≤ R.locals ∧ (∀ w ∈ ws, ∀ (a' : Array Value) (U : State), s.WarmedH U.vm → w.before a' U = true) ∧ Cond.codeWith y bytes maxL ret hh ∈ ws) ∧
  (Cond.codeWith y bytes maxL ret hh).before args s = true ∧ (Cond.initialized y.cls).before args s = true ∧ (y.cls ≠ "java/lang/invoke/MethodHandle" ∧ y.cls ≠ "java/lang/invoke/VarHandle") ∧
  (∀ sig, parseMethodDescriptor y.desc = some sig → n = sig.parameters.length) ∧ (Cond.methodLink own index y).before args s = true ∧ (Cond.instanceMethod y).before args s = true ∧ (Cond.selects C y y).before args s = true
theorem vx_cwVW {own C : String} {index maxL mc ms : Nat} {y : MethodName} {bytes : ByteArray} {ret : Option FieldType} {hh : List (Nat × Nat × Nat × Nat)} {Ts ws ws' : List Cond} {rm : Room} (n : Nat) (ht : ∀ w ∈ Ts, w.before args s = true) (hT : GoodIn Ts (wsV own index C y ws)) (hw : ws = Cond.codeWith y bytes maxL ret hh :: ws') (hrc : rm.cells = mc) (hrs : rm.slots = ms)
    (hd : y.cls = C ∧ y.cls ≠ "java/lang/invoke/MethodHandle" ∧ y.cls ≠ "java/lang/invoke/VarHandle" ∧ (parseMethodDescriptor y.desc).map (fun d => d.parameters.length) = some n) (hR : rm.frames + 1 ≤ R.frames ∧ 8 + (maxL + 11) + rm.locals ≤ R.locals) :
    vx_CVW R s args own C index y bytes maxL ret hh ws rm mc ms n := by
  obtain ⟨hC, hd⟩ := hd
  subst hC
  have ok : ∀ w ∈ wsV own index y.cls y ws, w.before args s = true := fun w h => ht w (hT w h).1
  have hG : GoodIn Ts ws := fun w h => hT w (by unfold wsV; exact List.mem_append_right _ h)
  have hc : Cond.codeWith y bytes maxL ret hh ∈ ws := by rw [hw]; exact List.mem_cons_self
  refine ⟨⟨hrc, hrs, hR.1, hR.2, pay_in ht hG, hc⟩, ht _ (hG _ hc).1, ok _ (by simp [wsV]), ⟨hd.1, hd.2.1⟩, fun sig h => ?_, ok _ (by simp [wsV]), ok _ (by simp [wsV]), ok _ (by simp [wsV])⟩
  have h2 := hd.2.2
  rw [h] at h2
  exact (Option.some.inj h2).symm
theorem vx_runVW {y : MethodName} {bytes cc : ByteArray} {maxL nL mc ms n index : Nat} {ret : Option FieldType} {hh : List (Nat × Nat × Nat × Nat)} {ws : List Cond} {rm : Room} {Pc : Array Value → State → Prop} {Qc : Array Value → State → Outcome → State → Prop} {free : Addr → Prop} {Ts : List Cond} {own C : String} {b : Addr} {As rest : List Value} {g : JFrame}
    (S : CallFix p m c cc nL s args Ts own) (hM : Met l y ws rm Pc Qc mc ms free) (cw : vx_CVW R s args own C index y bytes maxL ret hh ws rm mc ms n) (hp : PreV s H C b Pc As)
    (hg : g.method = m) (hn : As.length = n) (hsize : g.locals.size = nL) (hstack : g.stack = As.reverse ++ .ref b :: rest) (hW : 2 * g.monitorRoom + (rest.map fun v => v.category).sum ≤ 8) (hdg : decode cc g.pc = .ok (.invokevirtual index, 3)) (hf : cells + mc ≤ R.cells ∧ slots + ms ≤ R.slots) :
    va_Run p l e R s m args below meth c H locs cells slots mc ms g rest (Qc (Value.ref b :: As).toArray) free := by
  obtain ⟨⟨hrc, hrs, hfr, hlo, hws, hcw⟩, hcode, hini, hy, hlen, hl, hin, hse⟩ := cw
  have hK : Back l R p e below s args y 3 8 (PreOf R mc ms Pc) (PostOf Qc mc ms free) := va_backW (hh := hh) (bytes := bytes) (maxL := maxL) (ret := ret) hM hp.1 hrc hrs hfr hlo hws hcw (fun a' U hW => word_at hW (Or.inl (by first | rfl | simp [Cond.onTables, Cond.keeps, Cond.steady])) hini)
  obtain ⟨hx, hb, hml, ho, -⟩ := S
  obtain ⟨-, ⟨cellB, hcB, hoB, hclB⟩, hPc⟩ := hp
  intro T hT X
  obtain ⟨v, vm₁, ⟨U', l2, c2, s2⟩, hW₁, X', ⟨g', mk, t, L, e1, e2, hq, h1, hL, h2, h3⟩, st⟩ := vx_callVW X hx (C := C) (hh := hh) (bytes := bytes) (maxL := maxL) (ret := ret) ho hl hin hse hcode hy hK (by rw [hT]; exact hcB) hoB hclB hg (hsize.trans hml.symm) (argsL := As) (rest := rest) (fun sig h => hn.trans (hlen sig h)) hstack hW (by rw [hb]; exact hdg)
    (fun vm₁ hW₁ => ⟨hf.1, hf.2, hPc (T.setVm vm₁) hT hW₁⟩)
  dsimp only [Pt.U, Pt.locs, Pt.cells, Pt.slots] at X' e1 e2 h1 h2 h3 st
  subst h1; subst h2; subst h3
  exact ⟨v, (T.setVm vm₁).calling g' mk (Value.ref b :: As).toArray, t, U', L, hT, X', hL, e1, e2, hq, st⟩
section
variable {y : MethodName} {bytes cc : ByteArray} {maxL nL mc ms n index : Nat} {ret : Option FieldType} {ws : List Cond} {rm : Room} {Pc : Array Value → State → Prop} {Qc : Array Value → State → Outcome → State → Prop} {XC : String → State → State → Prop} {free : Addr → Prop} {Ts : List Cond} {own C : String} {b : Addr} {As rest : List Value} {g : JFrame}
theorem vx_runVX {hh : List (Nat × Nat × Nat × Nat)} (S : CallFix p m c cc nL s args Ts own) (hM : vx_Met l y ws rm Pc Qc XC mc ms free) (cw : vx_CVW R s args own C index y bytes maxL ret hh ws rm mc ms n) (hp : PreV s H C b Pc As)
    (hg : g.method = m) (hn : As.length = n) (hsize : g.locals.size = nL) (hstack : g.stack = As.reverse ++ .ref b :: rest) (hW : 2 * g.monitorRoom + (rest.map fun v => v.category).sum ≤ 8) (hdg : decode cc g.pc = .ok (.invokevirtual index, 3)) (hf : cells + mc ≤ R.cells ∧ slots + ms ≤ R.slots) :
    vx_Run p l e R s m args below meth c H locs cells slots mc ms g rest (Qc (Value.ref b :: As).toArray) XC free := by
  obtain ⟨⟨hrc, hrs, hfr, hlo, hws, hcw⟩, hcode, hini, hy, hlen, hl, hin, hse⟩ := cw
  have hK : vx_Back l R p e below s args y 3 8 (PreOf R mc ms Pc) (PostOf Qc mc ms free) (vx_Post XC mc ms free) := vx_backW (hh := hh) (bytes := bytes) (maxL := maxL) (ret := ret) hM hp.1 hrc hrs hfr hlo hws hcw (fun a' U hW => word_at hW (Or.inl (by first | rfl | simp [Cond.onTables, Cond.keeps, Cond.steady])) hini)
  obtain ⟨hx, hb, hml, ho, -⟩ := S
  obtain ⟨-, ⟨cellB, hcB, hoB, hclB⟩, hPc⟩ := hp
  intro T hT X
  rcases vx_callVX X hx (C := C) (hh := hh) (bytes := bytes) (maxL := maxL) (ret := ret) ho hl hin hse hcode hy hK (by rw [hT]; exact hcB) hoB hclB hg (hsize.trans hml.symm) (argsL := As) (rest := rest) (fun sig h => hn.trans (hlen sig h)) hstack hW (by rw [hb]; exact hdg)
    (fun vm₁ hW₁ => ⟨hf.1, hf.2, hPc (T.setVm vm₁) hT hW₁⟩) with ⟨v, vm₁, ⟨U', l2, c2, s2⟩, hW₁, X', ⟨g', mk, t, L, e1, e2, hq, h1, hL, h2, h3⟩, st⟩ | ⟨q, vm₁, ⟨U', l2, c2, s2⟩, hW₁, X', ⟨g', mk, t, L, E, ce, e1, e2, hq, hce, hcv, hcl, h1, hL, h2, h3⟩, st⟩
  · dsimp only [Pt.U, Pt.locs, Pt.cells, Pt.slots] at X' e1 e2 h1 h2 h3 st
    subst h1; subst h2; subst h3
    exact Or.inl ⟨v, (T.setVm vm₁).calling g' mk (Value.ref b :: As).toArray, t, U', L, hT, X', hL, e1, e2, hq, st⟩
  · dsimp only [Pt.U, Pt.locs, Pt.cells, Pt.slots] at X' e1 e2 h1 h2 h3 st hcl
    subst h1; subst h2; subst h3
    exact Or.inr ⟨q, (T.setVm vm₁).calling g' mk (Value.ref b :: As).toArray, t, U', L, E, ce, hT, X', hL, e1, e2, hq, hce, hcv, vx_cls hW₁ hcl, st⟩
theorem vx_runSX {hh : List (Nat × Nat × Nat × Nat)} (S : CallFix p m c cc nL s args Ts own) (hM : vx_Met l y ws rm Pc Qc XC mc ms free) (cw : vx_CSW R s args own index y bytes maxL ret hh ws rm mc ms n) (hp : PreS s H Pc As)
    (hg : g.method = m) (hn : As.length = n) (hsize : g.locals.size = nL) (hstack : g.stack = As.reverse ++ rest) (hW : 2 * g.monitorRoom + (rest.map fun v => v.category).sum ≤ 8) (hdg : decode cc g.pc = .ok (.invokestatic index, 3)) (hf : cells + mc ≤ R.cells ∧ slots + ms ≤ R.slots) :
    vx_Run p l e R s m args below meth c H locs cells slots mc ms g rest (Qc As.toArray) XC free := by
  obtain ⟨⟨hrc, hrs, hfr, hlo, hws, hcw⟩, hcode, hini, hy, hlen, hl, hstt⟩ := cw
  have hK : vx_Back l R p e below s args y 3 8 (PreOf R mc ms Pc) (PostOf Qc mc ms free) (vx_Post XC mc ms free) := vx_backW (hh := hh) (bytes := bytes) (maxL := maxL) (ret := ret) hM hp.1 hrc hrs hfr hlo hws hcw (fun a' U hW => word_at hW (Or.inl (by first | rfl | simp [Cond.onTables, Cond.keeps, Cond.steady])) hini)
  obtain ⟨hx, hb, hml, ho, -⟩ := S
  intro T hT X
  rcases vx_callSX X hx (hh := hh) (bytes := bytes) (maxL := maxL) (ret := ret) ho hl hstt hini hcode hy hK hg (hsize.trans hml.symm) (argsL := As) (rest := rest) (fun sig h => hn.trans (hlen sig h)) hstack hW (by rw [hb]; exact hdg)
    (fun vm₁ hW₁ => ⟨hf.1, hf.2, hp.2 (T.setVm vm₁) hT hW₁⟩) with ⟨v, vm₁, ⟨U', l2, c2, s2⟩, hW₁, X', ⟨g', mk, t, L, e1, e2, hq, h1, hL, h2, h3⟩, st⟩ | ⟨q, vm₁, ⟨U', l2, c2, s2⟩, hW₁, X', ⟨g', mk, t, L, E, ce, e1, e2, hq, hce, hcv, hcl, h1, hL, h2, h3⟩, st⟩
  · dsimp only [Pt.U, Pt.locs, Pt.cells, Pt.slots] at X' e1 e2 h1 h2 h3 st
    subst h1; subst h2; subst h3
    exact Or.inl ⟨v, (T.setVm vm₁).calling g' mk As.toArray, t, U', L, hT, X', hL, e1, e2, hq, st⟩
  · dsimp only [Pt.U, Pt.locs, Pt.cells, Pt.slots] at X' e1 e2 h1 h2 h3 st hcl
    subst h1; subst h2; subst h3
    exact Or.inr ⟨q, (T.setVm vm₁).calling g' mk As.toArray, t, U', L, E, ce, hT, X', hL, e1, e2, hq, hce, hcv, vx_cls hW₁ hcl, st⟩
end
end VXH
theorem vx_ofWH {l : Launch} {y : MethodName} {ws ws' : List Cond} {rm : Room} {Pc : Array Value → State → Prop} {Qc : Array Value → State → Outcome → State → Prop} {XC : String → State → State → Prop} {mc ms : Nat} {free : Addr → Prop} {cc : ByteArray} {maxL : Nat} {ret : Option FieldType} {hh : List (Nat × Nat × Nat × Nat)}
    (hy : plainName y.cls = true) (hw : ws = Cond.codeWith y cc maxL ret hh :: ws')
    (body : ∀ p e s m args below meth c s₁, BodyLoose p l y (headSpec ws rm) cc maxL ret e s m args below meth c s₁ → c.maxLocals = maxL → Pc args s →
      W p l e (headSpec ws rm).room s m args below meth c s.heap [] 0 0 (vx_MQ below Qc XC args s mc ms free) (entryFrame m args maxL)) : vx_Met l y ws rm Pc Qc XC mc ms free := by
  refine MetFree.of_bodyS (code := cc) (maxLocals := maxL) (ret := ret) hy ?_ ?_
  · intro args s m h hn
    obtain ⟨m9, meth, c, hn9, h1, h2, h3, h4, -, h5, h6, -⟩ := Cond.codeWith_spec (atoms_spec (ws := ws) h _ (by rw [hw]; exact List.mem_cons_self))
    cases hn.symm.trans hn9
    exact ⟨meth, c, h1, h2, h3, h4, h5, h6⟩
  · intro p e s m args below meth c s₁ B hml hP _
    have hh0 : s₁.heap = s.heap := by rw [B.state]; rfl
    obtain ⟨t, a1, o, b1, b2, b3⟩ := body p e s m args below meth c s₁ B hml hP s₁ hh0 (Stand.of_body B)
    exact ⟨t, o, a1, b1, b2, b3⟩
/-! ===== END ===== -/

/-! ===== BEGIN what the machine throws by itself, no traces kept ===== -/
section VXM
set_option maxHeartbeats 1000000 in
/-- the machine throws cls with the message text, no traces kept: from its note over the frame g to 'throwing' over the same frame (follows the proofs of Stand.vmThrowsMessage, Shelf/KitTracedVmS.lean, and Stand.throwsMessageColdBareV, StandMessageColdV.lean, without the step out of the frame) -/
theorem vx_vmAt {p : Program} {l : Launch} {e : Env} {R : Room} {s : State} {m₀ : MethodId} {args : Array Value} {below : List Frame} {meth : Method} {c : Code} {W : State} {locs : List Loc} {cells slots : Nat}
    (X : Stand p l e R s m₀ args below meth c W locs cells slots) (hexec : p.tables.exec = Jvm.exec) (htr : e.platform.stackTraces = false) {cls : String} {names : List String} {text : String}
    (hcls : Bundle.fit cls = true) (hnames : ∀ n ∈ names, Bundle.fit n = true) (hsoe : (cls == "java/lang/StackOverflowError") = false) (hoom : (cls == "java/lang/OutOfMemoryError") = false)
    (h : ∀ a ∈ Bundle.messageArmAtoms cls names, a.before args s = true)
    (hlocs : ∀ x ∈ locs, ∀ cell, s.heap[x.base]? = some cell → cell.vm.isStatics = false)
    (htext : (text == notModelled) = false) (hlimit : ¬ (stringBytes (stringToUtf16 text)).size > e.platform.arrayLengthLimit) (hheap : ¬ (stringBytes (stringToUtf16 text)).size * componentBytes .byte > e.platform.maxHeapBytes)
    {g : JFrame} (hg : g.method = m₀) (hsize : g.locals.size = c.maxLocals)
    (hRframes : names.length + 4 < R.frames) (hRlocals : 2 * g.monitorRoom + (g.stack.map fun v => v.category).sum + 10240 ≤ R.locals) (hshort : 13 * names.length + 55 ≤ 10240)
    (hRcells : cells + 3 ≤ R.cells) (hRslots : slots + ((stringBytes (stringToUtf16 text)).size + 4 + 6) ≤ R.slots) (hlocks : meth.locks = false) :
    ∃ (S : State) (q : Addr) (ce : Cell), (∀ target, Steps p.tables e below ((S.setTop g).pushFrame (.throwing q)) target → Steps p.tables e below ((W.setTop g).pushFrame (.throwNew cls (some text) none)) target) ∧
      Stand p l e R s m₀ args below meth c S locs (cells + 3) (slots + ((stringBytes (stringToUtf16 text)).size + 4 + 6)) ∧ S.heap[q]? = some ce ∧ s.vm.findClass cls = some ce.cls ∧ ce.vm = .none := by
  have howns : e.platform.frameOwnsMonitors = true := by rw [X.admits.platform]
  have hfin : e.platform.finalization = false := by rw [X.admits.platform]
  have hpl : e.platform.magicAccessors = ({} : Platform).magicAccessors := by rw [X.admits.platform]
  have a : ∀ x, x ∈ Bundle.messageArmAtoms cls names → x.holds args s none s [] = true := fun x hx => h x hx
  obtain ⟨T, Z0, L, -, Y⟩ := ThrowableC.of_atoms (args := args) howns hfin hpl (fun x hx => h x (by simp [Bundle.messageArmAtoms, hx]))
  obtain ⟨Z, M, LZ, LM, hnZ⟩ := Init0T.ofS_atoms (args := args) hpl L Y (fun x hx => h x (by simp [Bundle.messageArmAtoms, hx]))
  obtain ⟨P1, Ps, hlen, L1, hL, hP1m, hlink1, hlink⟩ := Bundle.chainS (args := args) hpl hnZ names cls hcls hnames (fun x hx => h x (by simp [Bundle.messageArmAtoms, hx]))
  obtain ⟨Zs, LZs, hn4, hfitv, hfitc⟩ := StringT.of_atoms (args := args) (fun x hx => h x (by simp [Bundle.messageArmAtoms, hx]))
  have hfound : s.vm.findClass cls = some P1.m.cls := findClass_of_methodNamed hP1m
  obtain ⟨c1, kX, hc1, hk, hord, -, -, hn6⟩ := Cond.instantiable_spec (a (.instantiable cls 6) (by simp [Bundle.messageArmAtoms]))
  cases Option.some.inj (hc1.symm.trans hfound)
  have hinit := Cond.initialized_spec hfound hk (a (.initialized cls) (by simp [Bundle.messageArmAtoms]))
  have hctor : kX.findMethod "<init>" "(Ljava/lang/String;)V" = some P1.m.idx := findMethod_of_methodNamed hP1m hk
  have hsel0 : selectMethod e.platform s.vm P1.m.cls T.fill0 = .method T.fill0 := by
    obtain ⟨c2, r2, m2, q1, q2, q3, q4, -⟩ := Cond.selects_spec (a (.selects cls Bundle.tFill0 Bundle.tFill0) (by simp [Bundle.messageArmAtoms]))
    cases Option.some.inj (q1.symm.trans hfound)
    cases Option.some.inj (q2.symm.trans (State.methodFound?_of_named Y.fill0 (by decide)))
    cases Option.some.inj (q3.symm.trans Y.fill0)
    rw [Launch.admits_selectMethod X.admits]; exact q4
  have hselF : selectMethod e.platform s.vm P1.m.cls T.fill = .method T.fill := by
    obtain ⟨c2, r2, m2, q1, q2, q3, q4, -⟩ := Cond.selects_spec (a (.selects cls Bundle.tFill Bundle.tFill) (by simp [Bundle.messageArmAtoms]))
    cases Option.some.inj (q1.symm.trans hfound)
    cases Option.some.inj (q2.symm.trans (State.methodFound?_of_named Y.fill (by decide)))
    cases Option.some.inj (q3.symm.trans Y.fill)
    rw [Launch.admits_selectMethod X.admits]; exact q4
  obtain ⟨cellS0, hcS0, hiss⟩ := Y.statics
  obtain ⟨u0, hu0⟩ := Cond.staticRefV Y.unassigned L.unassignedStatic L.statics hcS0 hiss (a (.isRef (.static Bundle.tN "UNASSIGNED_STACK" Bundle.steD)) (by simp [Bundle.messageArmAtoms]))
  obtain ⟨sen, hsen⟩ := Cond.staticRefV Y.sentinel L.sentinelStatic L.statics hcS0 hiss (a (.isRef (.static Bundle.tN "SUPPRESSED_SENTINEL" Bundle.listD)) (by simp [Bundle.messageArmAtoms]))
  obtain ⟨ci198, i198, fB, hk198, hg198, ha198, hsB, -, hnB, htB, hffB⟩ := Cond.ownField (t := .object "java/lang/Object") Y.found L.cls (by decide +kernel) (a (.fieldLink Bundle.tN 198 Bundle.tN "backtrace" "Ljava/lang/Object;") (by simp [Bundle.messageArmAtoms])) (a (.lays Bundle.tN Bundle.tN "backtrace" "Ljava/lang/Object;") (by simp [Bundle.messageArmAtoms])) e.platform hpl
  obtain ⟨cellS, hcS', heS, -, hkeep⟩ := X.same.2.2.2.2.2 T.aS cellS0 hcS0
  have hcellS : W.heap[T.aS]? = some cellS := hcS'
  have hout' : ∀ i, (⟨T.aS, i⟩ : Loc) ∉ locs := fun i hmem => by
    have := hlocs _ hmem cellS0 hcS0
    rw [hiss] at this; cases this
  have hknownS : cellS.vm ≠ .unknown := by
    rw [heS]; intro hu
    rw [show cellS0.vm = .unknown from hu] at hiss
    cases hiss
  have hvU : cellS.slots[T.fUnassigned.slot]? = some u0.v := by rw [hkeep _ (hout' _)]; exact hu0
  have hvSen : cellS.slots[T.fSentinel.slot]? = some sen.v := by rw [hkeep _ (hout' _)]; exact hsen
  obtain ⟨iM, hffM⟩ := Y.msg
  obtain ⟨tyC, dC, hdC, hdnC⟩ := Cond.laysAt hfound hk Y.cause (a (.lays cls Bundle.tN "cause" "Ljava/lang/Throwable;") (by simp [Bundle.messageArmAtoms]))
  obtain ⟨tyS, dS, hdS, hdnS⟩ := Cond.laysAt hfound hk Y.stack (a (.lays cls Bundle.tN "stackTrace" Bundle.steD) (by simp [Bundle.messageArmAtoms]))
  obtain ⟨tyP, dP, hdP, hdnP⟩ := Cond.laysAt hfound hk Y.supp (a (.lays cls Bundle.tN "suppressedExceptions" Bundle.listD) (by simp [Bundle.messageArmAtoms]))
  obtain ⟨tyM, dM, hdM, hdnM⟩ := Cond.laysAt hfound hk hffM (a (.lays cls Bundle.tN "detailMessage" "Ljava/lang/String;") (by simp [Bundle.messageArmAtoms]))
  obtain ⟨tyB, dB, hdB, hdnB⟩ := Cond.laysAt hfound hk hffB (a (.lays cls Bundle.tN "backtrace" "Ljava/lang/Object;") (by simp [Bundle.messageArmAtoms]))
  have bC := Cond.laysApart hdB hdC hdnB hdnC (by rw [hnB, Y.causeName]; decide)
  have bS := Cond.laysApart hdB hdS hdnB hdnS (by rw [hnB, Y.stackName]; decide)
  have bP := Cond.laysApart hdB hdP hdnB hdnP (by rw [hnB, Y.suppName]; decide)
  have hbk : ((preparedCellV T.toThrowableT (freshCell P1.m.cls kX) (W.heap.size + 2) u0 sen).withEntry W.cur).slots[fB.slot]? = some .null := by
    have := fresh_default (c := P1.m.cls) tyB
    rw [htB] at this
    simpa [preparedCellV, Cell.setSlot, Cell.withEntry, Array.getElem?_setIfInBounds, bC, bS, bP, bC.symm, bS.symm, bP.symm, defaultValue] using this
  have tkC := Takes.of_laid (v := .ref (W.heap.size + 2)) hk hord tyC (by rw [Y.causeType]; rfl)
  have tkS := Takes.of_laid (v := u0.v) hk hord tyS (by rw [Y.stackType]; exact fits_refV_array _ u0)
  have tkP := Takes.of_laid (v := sen.v) hk hord tyP (by rw [Y.suppType]; exact fits_refV_object _ sen)
  have tkM := Takes.of_laid (v := .ref (W.heap.size + 1)) hk hord tyM (by rw [Y.msgType]; rfl)
  have hskip : SkipFacts T e.platform s (fun u => u) u0 ((preparedCellV T.toThrowableT (freshCell P1.m.cls kX) (W.heap.size + 2) u0 sen).withEntry W.cur) := ⟨{ ci198 := ci198, i198 := i198, fBack := fB }, ⟨hk198, hg198, ha198, hsB⟩, hbk, fun _ _ => rfl⟩
  have h0 : At W g.method c below := by rw [hg]; exact X.here
  obtain ⟨hbeyond, hfreeW⟩ := X.vmMayThrow hsize (.throwNew cls (some text) none) (fun f hf => by cases hf) rfl hRlocals
  have hfr' : W.frames.length + Ps.length + 4 < (e.platform.stackLimits W.me).1 := by have := X.framesAbove hRframes; omega
  have hwd' : (stackUse (.java g :: W.frames.tail)).2 + 13 * Ps.length + 55 ≤ (e.platform.stackLimits W.me).2 := by have := X.stackAbove hsize (K := 13 * Ps.length + 55) (by omega); omega
  have hslots : W.slotsUsed + (stringBytes (stringToUtf16 text)).size + Zs.kS.instanceTypes.size + kX.instanceTypes.size ≤ e.platform.maxSlots := by
    have := X.slotsAbove hRslots
    rw [hn4, hn6]
    omega
  obtain ⟨vm', hW', st⟩ := Steps.vmThrowsMessageColdByV p (s₀ := s) (S := W) (g := g) h0 hexec T L Z LZ M LM X.warmed (t := W.cur) rfl Zs LZs P1 L1 Ps hL hlink1 hlink hsoe hoom hfound hk hinit hord hctor
    (Launch.admits_hotImplicitExceptions X.admits) hbeyond hfreeW htext hlimit hheap (X.cellsAbove hRcells) hslots (hfitv _) (hfitc _)
    (Nn := fun u => u) heapOnly_id (fun _ _ => rfl) (fun _ => rfl) (fun u x y => setCell_twice _ _ _ _) (fun _ => Nat.le_refl _) (cN := ((preparedCellV T.toThrowableT (freshCell P1.m.cls kX) (W.heap.size + 2) u0 sen).withEntry W.cur))
    hsel0 hcellS hknownS hvU tkS (fun _ hu => hu) (fun _ hu => hu) rfl rfl rfl (by simp [preparedCellV, Cell.setSlot, Cell.withEntry]) hskip (fun _ _ hA hW _ hroom _ hrest => L.nativeOff p htr hA hW hroom hrest) hselF hvSen tkC tkP tkM Y.objLocals rfl hfr' hwd'
  rw [plainBareV_eq T.toThrowableT (W.heap.size + 2) u0 sen (.ref (W.heap.size + 1)) W.cur rfl rfl] at st
  obtain ⟨-, -, w3, w4, -, -, -⟩ := withThrown_facts e.platform W Zs text P1.m.cls kX
  have X3 := ((X.pushed (bytesOf Zs.cB (stringToUtf16 text))).pushed (stringAt Zs.cS Zs.kS Zs.fv Zs.fc (stringToUtf16 text) W.heap.size)).pushed (freshCell P1.m.cls kX)
  rw [← withString_eq] at X3
  have X4 := X3.noted hW'
  have ha : (W.heap.size + 2) < ((withThrown W Zs text P1.m.cls kX).setVm vm').heap.size := by show _ < (withThrown W Zs text P1.m.cls kX).heap.size; rw [w3]; omega
  have hcell : ((withThrown W Zs text P1.m.cls kX).setVm vm').heap[(W.heap.size + 2)]? = some (freshCell P1.m.cls kX) := w4
  have X5 := ((((X4.stored hcell T.fCause.slot (.ref (W.heap.size + 2))).storedAgain ha T.fStack.slot u0.v).storedAgain ha T.fSupp.slot sen.v).storedAgain ha T.fStack.slot u0.v).storedAgain ha T.fMsg.slot (.ref (W.heap.size + 1))
  obtain ⟨g₁, hfrM⟩ := X5.frames_eq
  have hU : ((((withThrown W Zs text P1.m.cls kX).setVm vm').setCell (W.heap.size + 2) (plainBareV T.toThrowableT (freshCell P1.m.cls kX) (W.heap.size + 2) u0 sen (.ref (W.heap.size + 1)))).setTop g).pushFrame (.throwing (W.heap.size + 2)) = (((withThrown W Zs text P1.m.cls kX).setVm vm').setCell (W.heap.size + 2) (plainBareV T.toThrowableT (freshCell P1.m.cls kX) (W.heap.size + 2) u0 sen (.ref (W.heap.size + 1)))).setFrames (.throwing (W.heap.size + 2) :: .java g :: below) := by
    rw [State.pushFrame, State.frames_setTop _ hfrM, State.setTop_of_frames _ hfrM, State.setFrames_setFrames]
  have b1 : (bytesOf Zs.cB (stringToUtf16 text)).slots.size = (stringBytes (stringToUtf16 text)).size := by
    rw [(Cell.writeAll_facts _ _).2.2]; simp [bytes0]
  have b2 : (stringAt Zs.cS Zs.kS Zs.fv Zs.fc (stringToUtf16 text) W.heap.size).slots.size = 4 := by simp [string0, Cell.setSlot, hn4]
  have b3 : (freshCell P1.m.cls kX).slots.size = 6 := by simp [hn6]
  rw [b1, b2, b3] at X5
  have e9 : slots + (stringBytes (stringToUtf16 text)).size + 4 + 6 = slots + ((stringBytes (stringToUtf16 text)).size + 4 + 6) := by omega
  rw [e9] at X5
  simp only [List.append_assoc, List.cons_append, List.nil_append] at X5
  refine ⟨((withThrown W Zs text P1.m.cls kX).setVm vm').setCell (W.heap.size + 2) (plainBareV T.toThrowableT (freshCell P1.m.cls kX) (W.heap.size + 2) u0 sen (.ref (W.heap.size + 1))), W.heap.size + 2, _, fun target ht => st _ (by rw [X.tail, ← hU]; exact ht),
    X5.forget (fun y hy => ?_), heapAt_setCell_self _ ha, hfound, rfl⟩
  simp only [List.mem_cons, List.not_mem_nil, or_false] at hy
  have hge : s.heap.size ≤ W.heap.size := X.same.2.1
  rcases hy with rfl | rfl | rfl | rfl | rfl <;> exact Nat.le_trans hge (Nat.le_add_right _ 2)
set_option maxHeartbeats 1000000 in
/-- the machine throws NullPointerException, no traces kept: from its note over the frame g to 'throwing' over the same frame (follows the proof of Stand.vmThrowsNpe, Shelf42/KT2.lean; throwsNpeColdBareVAt, Shelf42/NT91.lean, called) -/
theorem vx_npeAt {p : Program} {l : Launch} {e : Env} {R : Room} {s : State} {m₀ : MethodId} {args : Array Value} {below : List Frame} {meth : Method} {c : Code} {W : State} {locs : List Loc} {cells slots : Nat}
    (X : Stand p l e R s m₀ args below meth c W locs cells slots) (hexec : p.tables.exec = Jvm.exec) (htr : e.platform.stackTraces = false) {n : Nat}
    (h : ∀ a ∈ Bundle.npeArmAtoms n, a.before args s = true)
    (hlocs : ∀ x ∈ locs, ∀ cell, s.heap[x.base]? = some cell → cell.vm.isStatics = false)
    {g : JFrame} (hg : g.method = m₀) (hsize : g.locals.size = c.maxLocals)
    (hRframes : 7 < R.frames) (hRlocals : 2 * g.monitorRoom + (g.stack.map fun v => v.category).sum + 10240 ≤ R.locals)
    (hRcells : cells + 1 ≤ R.cells) (hRslots : slots + n ≤ R.slots) (hlocks : meth.locks = false) :
    ∃ (S : State) (q : Addr) (ce : Cell), (∀ target, Steps p.tables e below ((S.setTop g).pushFrame (.throwing q)) target → Steps p.tables e below ((W.setTop g).pushFrame (.throwNew "java/lang/NullPointerException" none none)) target) ∧
      Stand p l e R s m₀ args below meth c S locs (cells + 1) (slots + n) ∧ S.heap[q]? = some ce ∧ s.vm.findClass "java/lang/NullPointerException" = some ce.cls ∧ ce.vm = .none := by
  have howns : e.platform.frameOwnsMonitors = true := by rw [X.admits.platform]
  have hfin : e.platform.finalization = false := by rw [X.admits.platform]
  have hpl : e.platform.magicAccessors = ({} : Platform).magicAccessors := by rw [X.admits.platform]
  have hpl2 : e.platform.arrayCloneIsPublic = true := by rw [X.admits.platform]
  have a' : ∀ x, x ∈ Bundle.npeArmAtoms n → x.holds args s none s [] = true := fun x hx => h x hx
  obtain ⟨T, Z, L, LZ, Y⟩ := ThrowableC.of_atoms (args := args) howns hfin hpl (fun x hx => h x (by simp [Bundle.npeArmAtoms, hx]))
  obtain ⟨N, LN, hcN, hnNF, hordN, hffS⟩ := NpeC.of_atoms (args := args) hpl hpl2 L Y (fun x hx => h x (by simp [Bundle.npeArmAtoms, hx]))
  obtain ⟨P1, L1, hP1m, hP1s⟩ := PassC.of_atoms (args := args) (s := s) hpl (X := Bundle.nN) (Y := Bundle.rN) (by decide) (by decide) LibCode.NullPointerException.Init0.at_0 LibCode.NullPointerException.Init0.at_1 LibCode.NullPointerException.Init0.at_4 (fun x hx => h x (by simp [Bundle.npeArmAtoms, hx]))
  obtain ⟨PR, LR, hPRm, hPRs⟩ := PassC.of_atoms (args := args) (s := s) hpl (X := Bundle.rN) (Y := Bundle.eN) (by decide) (by decide) LibCode.RuntimeException.Init0.at_0 LibCode.RuntimeException.Init0.at_1 LibCode.RuntimeException.Init0.at_4 (fun x hx => h x (by simp [Bundle.npeArmAtoms, hx]))
  obtain ⟨PE, LEx, hPEm, hPEs⟩ := PassC.of_atoms (args := args) (s := s) hpl (X := Bundle.eN) (Y := Bundle.tN) (by decide) (by decide) LibCode.Exception.Init0.at_0 LibCode.Exception.Init0.at_1 LibCode.Exception.Init0.at_4 (fun x hx => h x (by simp [Bundle.npeArmAtoms, hx]))
  have hfound : s.vm.findClass Bundle.nN = some P1.m.cls := findClass_of_methodNamed hP1m
  have ecls : N.cN = P1.m.cls := Option.some.inj (hcN.symm.trans hfound)
  have hk : s.vm.classes[P1.m.cls]? = some N.kN := by rw [← ecls]; exact LN.cls
  have hinit := Cond.initialized_spec hfound hk (a' (.initialized Bundle.nN) (by simp [Bundle.npeArmAtoms]))
  have hctor : N.kN.findMethod "<init>" "()V" = some P1.m.idx := findMethod_of_methodNamed hP1m hk
  obtain ⟨c1, k1, hc1, hk1, -, -, -, hn⟩ := Cond.instantiable_spec (a' (.instantiable Bundle.nN n) (by simp [Bundle.npeArmAtoms]))
  cases Option.some.inj (hc1.symm.trans hfound)
  cases Option.some.inj (hk1.symm.trans hk)
  have hfsz : (freshCell P1.m.cls N.kN).slots.size = n := by simp [hn]
  have hlink1 : P1.sup = PR.m := Option.some.inj (hP1s.symm.trans hPRm)
  have hlinkR : PR.sup = PE.m := Option.some.inj (hPRs.symm.trans hPEm)
  have hlinkE : PE.sup = Z.m T.toThrowableT := Option.some.inj (hPEs.symm.trans Y.init0)
  have hLs : ∀ P, P ∈ [PR, PE] → P.Links0 e.platform s := fun P hP => by
    simp only [List.mem_cons, List.not_mem_nil, or_false] at hP
    rcases hP with rfl | rfl
    · exact LR
    · exact LEx
  have hsel0 : selectMethod e.platform s.vm P1.m.cls T.fill0 = .method T.fill0 := by
    obtain ⟨c2, r2, m2, q1, q2, q3, q4, -⟩ := Cond.selects_spec (a' (.selects Bundle.nN Bundle.tFill0 Bundle.tFill0) (by simp [Bundle.npeArmAtoms]))
    cases Option.some.inj (q1.symm.trans hfound)
    cases Option.some.inj (q2.symm.trans (State.methodFound?_of_named Y.fill0 (by decide)))
    cases Option.some.inj (q3.symm.trans Y.fill0)
    rw [Launch.admits_selectMethod X.admits]; exact q4
  have hselF : selectMethod e.platform s.vm P1.m.cls T.fill = .method N.fill := by
    obtain ⟨c2, r2, m2, q1, q2, q3, q4, -⟩ := Cond.selects_spec (a' (.selects Bundle.nN Bundle.tFill Bundle.nFill) (by simp [Bundle.npeArmAtoms]))
    cases Option.some.inj (q1.symm.trans hfound)
    cases Option.some.inj (q2.symm.trans (State.methodFound?_of_named Y.fill (by decide)))
    cases Option.some.inj (q3.symm.trans hnNF)
    rw [Launch.admits_selectMethod X.admits]; exact q4
  obtain ⟨cellS0, hcS0, hiss⟩ := Y.statics
  obtain ⟨u0, hu0⟩ := Cond.staticRefV Y.unassigned L.unassignedStatic L.statics hcS0 hiss (a' (.isRef (.static Bundle.tN "UNASSIGNED_STACK" Bundle.steD)) (by simp [Bundle.npeArmAtoms]))
  obtain ⟨sen, hsen⟩ := Cond.staticRefV Y.sentinel L.sentinelStatic L.statics hcS0 hiss (a' (.isRef (.static Bundle.tN "SUPPRESSED_SENTINEL" Bundle.listD)) (by simp [Bundle.npeArmAtoms]))
  obtain ⟨ci198, i198, fB, hk198, hg198, ha198, hsB, -, hnB, htB, hffB⟩ := Cond.ownField (t := .object "java/lang/Object") Y.found L.cls (by decide +kernel) (a' (.fieldLink Bundle.tN 198 Bundle.tN "backtrace" Bundle.objD) (by simp [Bundle.npeArmAtoms])) (a' (.lays Bundle.tN Bundle.tN "backtrace" Bundle.objD) (by simp [Bundle.npeArmAtoms])) e.platform hpl
  obtain ⟨cellS, hcS', heS, -, hkeep⟩ := X.same.2.2.2.2.2 T.aS cellS0 hcS0
  have hcellS : W.heap[T.aS]? = some cellS := hcS'
  have hout' : ∀ i, (⟨T.aS, i⟩ : Loc) ∉ locs := fun i hmem => by
    have := hlocs _ hmem cellS0 hcS0
    rw [hiss] at this; cases this
  have hknownS : cellS.vm ≠ .unknown := by
    rw [heS]; intro hu
    rw [show cellS0.vm = .unknown from hu] at hiss
    cases hiss
  have hvU : cellS.slots[T.fUnassigned.slot]? = some u0.v := by rw [hkeep _ (hout' _)]; exact hu0
  have hvSen : cellS.slots[T.fSentinel.slot]? = some sen.v := by rw [hkeep _ (hout' _)]; exact hsen
  obtain ⟨tyC, dC, hdC, hdnC⟩ := Cond.laysAt hfound hk Y.cause (a' (.lays Bundle.nN Bundle.tN "cause" "Ljava/lang/Throwable;") (by simp [Bundle.npeArmAtoms]))
  obtain ⟨tyS, dS, hdS, hdnS⟩ := Cond.laysAt hfound hk Y.stack (a' (.lays Bundle.nN Bundle.tN "stackTrace" Bundle.steD) (by simp [Bundle.npeArmAtoms]))
  obtain ⟨tyP, dP, hdP, hdnP⟩ := Cond.laysAt hfound hk Y.supp (a' (.lays Bundle.nN Bundle.tN "suppressedExceptions" Bundle.listD) (by simp [Bundle.npeArmAtoms]))
  obtain ⟨tyX, dX, hdX, hdnX⟩ := Cond.laysAt hfound hk hffS (a' (.lays Bundle.nN Bundle.nN "extendedMessageState" "I") (by simp [Bundle.npeArmAtoms, Bundle.npeAtoms]))
  obtain ⟨hnX, htX⟩ := State.fieldFound?_type hffS (t := .int) (by decide +kernel)
  have xC := Cond.laysApart hdC hdX hdnC hdnX (by rw [hnX, Y.causeName]; decide)
  have xS := Cond.laysApart hdS hdX hdnS hdnX (by rw [hnX, Y.stackName]; decide)
  have xP := Cond.laysApart hdP hdX hdnP hdnX (by rw [hnX, Y.suppName]; decide)
  have hv0 : (freshCell P1.m.cls N.kN).slots[N.fState.slot]? = some (.int 0) := by
    have := fresh_default (c := P1.m.cls) tyX
    rw [htX] at this; exact this
  obtain ⟨tyB, dB, hdB, hdnB⟩ := Cond.laysAt hfound hk hffB (a' (.lays Bundle.nN Bundle.tN "backtrace" Bundle.objD) (by simp [Bundle.npeArmAtoms]))
  have bC := Cond.laysApart hdB hdC hdnB hdnC (by rw [hnB, Y.causeName]; decide)
  have bS := Cond.laysApart hdB hdS hdnB hdnS (by rw [hnB, Y.stackName]; decide)
  have bP := Cond.laysApart hdB hdP hdnB hdnP (by rw [hnB, Y.suppName]; decide)
  have bX := Cond.laysApart hdB hdX hdnB hdnX (by rw [hnB, hnX]; decide)
  have hbk : ((npeCell N.toNpeT (preparedCellV T.toThrowableT (freshCell P1.m.cls N.kN) W.heap.size u0 sen) W.cur).withEntry W.cur).slots[fB.slot]? = some .null := by
    have := fresh_default (c := P1.m.cls) tyB
    rw [htB] at this
    simpa [npeCell, preparedCellV, Cell.setSlot, Cell.withEntry, Array.getElem?_setIfInBounds, bC, bS, bP, bX, bC.symm, bS.symm, bP.symm, bX.symm, defaultValue] using this
  have tkC := Takes.of_laid (v := .ref W.heap.size) hk hordN tyC (by rw [Y.causeType]; rfl)
  have tkS := Takes.of_laid (v := u0.v) hk hordN tyS (by rw [Y.stackType]; exact fits_refV_array _ u0)
  have tkP := Takes.of_laid (v := sen.v) hk hordN tyP (by rw [Y.suppType]; exact fits_refV_object _ sen)
  have tkX := Takes.of_laid (v := .int 1) hk hordN tyX (by rw [htX]; rfl)
  have hskip : SkipFacts T e.platform s (fun u => u) u0 ((npeCell N.toNpeT (preparedCellV T.toThrowableT (freshCell P1.m.cls N.kN) W.heap.size u0 sen) W.cur).withEntry W.cur) := ⟨{ ci198 := ci198, i198 := i198, fBack := fB }, ⟨hk198, hg198, ha198, hsB⟩, hbk, fun _ _ => rfl⟩
  obtain ⟨vm', X3, st, -⟩ := X.throwsNpeColdBareVAt hexec hg hsize T L Z LZ N LN P1 L1 [PR, PE] hLs hlink1 ⟨hlinkR, hlinkE, trivial⟩ hfound hk hinit hordN hctor hsel0 hselF hcellS hknownS hvU hvSen
    hv0 xC xS xP tkC tkS tkP tkX Y.objLocals hskip (fun _ _ hA hW _ hroom _ hrest => L.nativeOff p htr hA hW hroom hrest) (by simpa using hRframes) hRlocals (by simp) hRcells (by rw [hn]; exact hRslots)
  have hlt : W.heap.size < ((W.pushCell (freshCell P1.m.cls N.kN)).setVm vm').heap.size := by
    show W.heap.size < (W.pushCell (freshCell P1.m.cls N.kN)).heap.size
    rw [State.heap_size_pushCell]; omega
  rw [hfsz] at X3
  obtain ⟨g₁, hfrM⟩ := X3.frames_eq
  have hU : ((((W.pushCell (freshCell P1.m.cls N.kN)).setVm vm').setCell W.heap.size (npeBareV T.toThrowableT N.toNpeT (freshCell P1.m.cls N.kN) W.heap.size u0 sen)).setTop g).pushFrame (.throwing W.heap.size) = (((W.pushCell (freshCell P1.m.cls N.kN)).setVm vm').setCell W.heap.size (npeBareV T.toThrowableT N.toNpeT (freshCell P1.m.cls N.kN) W.heap.size u0 sen)).setFrames (.throwing W.heap.size :: .java g :: below) := by
    rw [State.pushFrame, State.frames_setTop _ hfrM, State.setTop_of_frames _ hfrM, State.setFrames_setFrames]
  refine ⟨_, W.heap.size, _, fun target ht => st.trans (by rw [← hU]; exact ht), X3.forget (fun y hy => ?_), heapAt_setCell_self _ hlt, hfound, rfl⟩
  simp only [List.mem_cons, List.not_mem_nil, or_false] at hy
  have hge : s.heap.size ≤ W.heap.size := X.same.2.1
  rcases hy with rfl | rfl | rfl | rfl | rfl <;> exact hge
/-- the words of a machine's NullPointerException, but the four that speak of the heap -/
def vx_atN (n : Nat) : List Cond := (Bundle.npeArmAtoms n).filter vx_no
/-- the words of a machine's throw with a message, but the four that speak of the heap -/
def vx_atM (X : String) (names : List String) : List Cond := (Bundle.messageArmAtoms X names).filter vx_no
section
variable {p : Program} {l : Launch} {e : Env} {R : Room} {s : State} {m : MethodId} {args : Array Value} {below : List Frame} {meth : Method} {c : Code} {H : Heap} {locs : List Loc} {cells slots : Nat}
/-- a frame seen from a rebased start, seen from the first start again -/
theorem vx_back9 {T S : State} {R' : Room} {k n : Nat} (X : Stand p l e R s m args below meth c T locs cells slots) (Y : Stand p l e R' ((T.setVm s.vm).setFrames (.invoking m args :: below)) m args below meth c T [] 0 0) (Z : Stand p l e R' ((T.setVm s.vm).setFrames (.invoking m args :: below)) m args below meth c S [] k n) :
    Stand p l e R s m args below meth c S locs (cells + k) (slots + n) := by
  have hW0 : s.WarmedH ((T.setVm s.vm).setFrames (.invoking m args :: below)).vm := State.WarmedH.refl s
  refine { admits := X.admits, cas := X.cas, clock := X.clock, frames := X.frames, room := X.room, hears := X.hears, method := X.method, code := X.code, here := Z.here, tail := Z.tail, warmed := State.WarmedH.trans hW0 Z.warmed, limits := Z.limits.trans (Y.limits.symm.trans X.limits), bytes := Z.bytes.trans (Y.bytes.symm.trans X.bytes), same := ?_ }
  obtain ⟨e1, e2⟩ := Z.same
  rw [State.setFrames_setFrames] at e1
  have h2 : (T.setVm s.vm).sameButNew (S.setVm s.vm) [] k n := ⟨e1, e2⟩
  have h3 := X.same.trans h2
  rw [List.append_nil] at h3
  exact h3
/-- from the machine's note that E is thrown here with this text -/
def vx_Note (p : Program) (l : Launch) (e : Env) (R : Room) (s : State) (m : MethodId) (args : Array Value) (below : List Frame) (meth : Method) (c : Code) (H : Heap) (locs : List Loc) (cells slots : Nat) (Q : State → Prop) (g : JFrame) (E text : String) : Prop :=
  ∀ T : State, T.heap = H → Stand p l e R s m args below meth c T locs cells slots → ∃ t, Steps p.tables e below ((T.setTop g).pushFrame (.throwNew E (some text) none)) t ∧ Q t
theorem vx_vm {pc : Nat} {ls : Array Slot} {rest : List Value} {Q : State → Prop} (hexec : p.tables.exec = Jvm.exec) (hl : l.stackTraces = false) {cls text : String} {names : List String} {nb : Nat} {A : Nat → Prop}
    (hcls : Bundle.fit cls = true) (hnames : ∀ n ∈ names, Bundle.fit n = true) (hsoe : (cls == "java/lang/StackOverflowError") = false) (hoom : (cls == "java/lang/OutOfMemoryError") = false)
    (hat : ∀ w ∈ vx_atM cls names, w.before args s = true) (hgood : ∀ w ∈ vx_atM cls names, vx_ot w = true)
    (hU : vx_Zq Bundle.tN "UNASSIGNED_STACK" Bundle.steD A s s.heap) (hN : vx_Zq Bundle.tN "SUPPRESSED_SENTINEL" Bundle.listD A s s.heap) (hS : va_S A s.heap H locs) (hsize : ls.size = c.maxLocals)
    (htext : (text == notModelled) = false) (hnb : (stringBytes (stringToUtf16 text)).size ≤ nb) (hnb1 : nb ≤ 1000)
    (hRframes : names.length + 4 < R.frames) (hRlocals : (rest.map fun v => v.category).sum + 10240 ≤ R.locals) (hshort : 13 * names.length + 55 ≤ 10240) (hRcells : cells + 3 ≤ R.cells) (hRslots : slots + (nb + 10) ≤ R.slots) (hlocks : meth.locks = false)
    (k : ∀ (H1 : Heap) (q9 : Addr) (ce : Cell), H.size ≤ H1.size → (∀ q : Nat, q < H.size → H1[q]? = H[q]?) → va_S A s.heap H1 locs → H1[q9]? = some ce → ce.vm = .none → s.vm.findClass cls = some ce.cls → vx_W p l e R s m args below meth c H1 locs (cells + 3) (slots + (nb + 10)) Q (F0 m pc ls rest) q9) :
    vx_Note p l e R s m args below meth c H locs cells slots Q (F0 m pc ls rest) cls text := by
  intro T hT X
  have htr : e.platform.stackTraces = false := (show e.platform.stackTraces = l.stackTraces by rw [X.admits.platform]).trans hl
  have Y := vx_rebase X (R' := { frames := R.frames, locals := R.locals, cells := 3, slots := nb + 10 }) (Nat.le_refl _) (Nat.le_refl _) hRcells hRslots
  have hhp : ((T.setVm s.vm).setFrames (.invoking m args :: below)).heap = H := hT
  have hW0 : s.WarmedH ((T.setVm s.vm).setFrames (.invoking m args :: below)).vm := State.WarmedH.refl s
  have hat' : ∀ w ∈ vx_atM cls names, w.before args ((T.setVm s.vm).setFrames (.invoking m args :: below)) = true := fun w hw => vx_ot_at hW0 rfl (hgood w hw) (hat w hw)
  have hU' : vx_Zq Bundle.tN "UNASSIGNED_STACK" Bundle.steD A ((T.setVm s.vm).setFrames (.invoking m args :: below)) ((T.setVm s.vm).setFrames (.invoking m args :: below)).heap := by rw [hhp]; exact vx_Zq.moved hW0.alike (hU.kept hS.2.1)
  have hN' : vx_Zq Bundle.tN "SUPPRESSED_SENTINEL" Bundle.listD A ((T.setVm s.vm).setFrames (.invoking m args :: below)) ((T.setVm s.vm).setFrames (.invoking m args :: below)).heap := by rw [hhp]; exact vx_Zq.moved hW0.alike (hN.kept hS.2.1)
  obtain ⟨S, q, ce, st, Z, hce, hcl', hv⟩ := vx_vmAt Y hexec htr (cls := cls) (names := names) (text := text) hcls hnames hsoe hoom (vx_own hat' (vx_isRefq hU'.1) (vx_isRefq hN'.1) hU'.2.word hN'.2.word) (fun x hx => nomatch hx) htext
    (by rw [Launch.admits_arrayLengthLimit X.admits]; omega) (by rw [Launch.admits_maxHeapBytes X.admits]; simp only [componentBytes]; omega)
    (g := F0 m pc ls rest) rfl hsize hRframes (by show 2 * 0 + (rest.map fun v => v.category).sum + 10240 ≤ R.locals; omega) hshort (by show 0 + 3 ≤ 3; omega) (by show 0 + (_ + 4 + 6) ≤ nb + 10; omega) hlocks
  obtain ⟨f1, f2⟩ := vx_frame Z.same
  have f1' : H.size ≤ S.heap.size := by rw [← hT]; exact f1
  have f2' : ∀ q : Nat, q < H.size → S.heap[q]? = H[q]? := fun q hq => by
    rw [← hT]
    exact f2 q (by rw [← hT] at hq; exact hq) (fun z hz => nomatch hz)
  have X5 := vx_back9 X Y Z
  have X6 : Stand p l e R s m args below meth c S locs (cells + 3) (slots + (nb + 10)) := { X5 with same := X5.same.mono (by omega) (by omega) }
  obtain ⟨t, a1, b1⟩ := k S.heap q ce f1' f2' ⟨Nat.le_trans hS.1 f1', fun q h1 h2 => (f2' q (Nat.lt_of_lt_of_le h1 hS.1)).trans (hS.2.1 q h1 h2), hS.2.2⟩ hce hv hcl' S rfl X6
  exact ⟨t, st t a1, b1⟩
/-- from the machine's note that NullPointerException is thrown here -/
def vx_NoteN (p : Program) (l : Launch) (e : Env) (R : Room) (s : State) (m : MethodId) (args : Array Value) (below : List Frame) (meth : Method) (c : Code) (H : Heap) (locs : List Loc) (cells slots : Nat) (Q : State → Prop) (g : JFrame) : Prop :=
  ∀ T : State, T.heap = H → Stand p l e R s m args below meth c T locs cells slots → ∃ t, Steps p.tables e below ((T.setTop g).pushFrame (.throwNew "java/lang/NullPointerException" none none)) t ∧ Q t
theorem vx_npe {pc : Nat} {ls : Array Slot} {rest : List Value} {Q : State → Prop} (hexec : p.tables.exec = Jvm.exec) (hl : l.stackTraces = false) {nb : Nat} {A : Nat → Prop}
    (hat : ∀ w ∈ vx_atN nb, w.before args s = true) (hgood : ∀ w ∈ vx_atN nb, vx_ot w = true)
    (hU : vx_Zq Bundle.tN "UNASSIGNED_STACK" Bundle.steD A s s.heap) (hN : vx_Zq Bundle.tN "SUPPRESSED_SENTINEL" Bundle.listD A s s.heap) (hS : va_S A s.heap H locs) (hsize : ls.size = c.maxLocals)
    (hRframes : 7 < R.frames) (hRlocals : (rest.map fun v => v.category).sum + 10240 ≤ R.locals) (hRcells : cells + 1 ≤ R.cells) (hRslots : slots + nb ≤ R.slots) (hlocks : meth.locks = false)
    (k : ∀ (H1 : Heap) (q9 : Addr) (ce : Cell), H.size ≤ H1.size → (∀ q : Nat, q < H.size → H1[q]? = H[q]?) → va_S A s.heap H1 locs → H1[q9]? = some ce → ce.vm = .none → s.vm.findClass "java/lang/NullPointerException" = some ce.cls → vx_W p l e R s m args below meth c H1 locs (cells + 1) (slots + nb) Q (F0 m pc ls rest) q9) :
    vx_NoteN p l e R s m args below meth c H locs cells slots Q (F0 m pc ls rest) := by
  intro T hT X
  have htr : e.platform.stackTraces = false := (show e.platform.stackTraces = l.stackTraces by rw [X.admits.platform]).trans hl
  have Y := vx_rebase X (R' := { frames := R.frames, locals := R.locals, cells := 1, slots := nb }) (Nat.le_refl _) (Nat.le_refl _) hRcells hRslots
  have hhp : ((T.setVm s.vm).setFrames (.invoking m args :: below)).heap = H := hT
  have hW0 : s.WarmedH ((T.setVm s.vm).setFrames (.invoking m args :: below)).vm := State.WarmedH.refl s
  have hat' : ∀ w ∈ vx_atN nb, w.before args ((T.setVm s.vm).setFrames (.invoking m args :: below)) = true := fun w hw => vx_ot_at hW0 rfl (hgood w hw) (hat w hw)
  have hU' : vx_Zq Bundle.tN "UNASSIGNED_STACK" Bundle.steD A ((T.setVm s.vm).setFrames (.invoking m args :: below)) ((T.setVm s.vm).setFrames (.invoking m args :: below)).heap := by rw [hhp]; exact vx_Zq.moved hW0.alike (hU.kept hS.2.1)
  have hN' : vx_Zq Bundle.tN "SUPPRESSED_SENTINEL" Bundle.listD A ((T.setVm s.vm).setFrames (.invoking m args :: below)) ((T.setVm s.vm).setFrames (.invoking m args :: below)).heap := by rw [hhp]; exact vx_Zq.moved hW0.alike (hN.kept hS.2.1)
  obtain ⟨S, q, ce, st, Z, hce, hcl', hv⟩ := vx_npeAt Y hexec htr (n := nb) (vx_own hat' (vx_isRefq hU'.1) (vx_isRefq hN'.1) hU'.2.word hN'.2.word) (fun x hx => nomatch hx)
    (g := F0 m pc ls rest) rfl hsize hRframes (by show 2 * 0 + (rest.map fun v => v.category).sum + 10240 ≤ R.locals; omega) (by show 0 + 1 ≤ 1; omega) (by show 0 + nb ≤ nb; omega) hlocks
  obtain ⟨f1, f2⟩ := vx_frame Z.same
  have f1' : H.size ≤ S.heap.size := by rw [← hT]; exact f1
  have f2' : ∀ q : Nat, q < H.size → S.heap[q]? = H[q]? := fun q hq => by
    rw [← hT]
    exact f2 q (by rw [← hT] at hq; exact hq) (fun z hz => nomatch hz)
  have X5 := vx_back9 X Y Z
  have X6 : Stand p l e R s m args below meth c S locs (cells + 1) (slots + nb) := { X5 with same := X5.same.mono (by omega) (by omega) }
  obtain ⟨t, a1, b1⟩ := k S.heap q ce f1' f2' ⟨Nat.le_trans hS.1 f1', fun q h1 h2 => (f2' q (Nat.lt_of_lt_of_le h1 hS.1)).trans (hS.2.1 q h1 h2), hS.2.2⟩ hce hv hcl' S rfl X6
  exact ⟨t, st t a1, b1⟩
variable {Q : State → Prop} {cc : ByteArray} {pc : Nat} {ls : Array Slot} {rest : List Value}
theorem vx_idivZ (hexec : p.tables.exec = Jvm.exec) (hb : c.code = cc) {a b : Int32} (h0 : b = 0) (d : decode cc pc = .ok (.idiv, 1)) (k : vx_Note p l e R s m args below meth c H locs cells slots Q (F0 m pc ls rest) "java/lang/ArithmeticException" "/ by zero") :
    W p l e R s m args below meth c H locs cells slots Q (F0 m pc ls (.int b :: .int a :: rest)) := by
  intro T hT X
  obtain ⟨t, st, q⟩ := k T hT X
  exact ⟨t, X.idivZero hexec (g := F0 m pc ls (.int b :: .int a :: rest)) rfl (a := a) (rest := rest) (by rw [h0]) (by rw [hb]; exact d) t st, q⟩
theorem vx_iremZ (hexec : p.tables.exec = Jvm.exec) (hb : c.code = cc) {a b : Int32} (h0 : b = 0) (d : decode cc pc = .ok (.irem, 1)) (k : vx_Note p l e R s m args below meth c H locs cells slots Q (F0 m pc ls rest) "java/lang/ArithmeticException" "/ by zero") :
    W p l e R s m args below meth c H locs cells slots Q (F0 m pc ls (.int b :: .int a :: rest)) := by
  intro T hT X
  obtain ⟨t, st, q⟩ := k T hT X
  exact ⟨t, X.iremZero hexec (g := F0 m pc ls (.int b :: .int a :: rest)) rfl (a := a) (rest := rest) (by rw [h0]) (by rw [hb]; exact d) t st, q⟩
theorem vx_ldivZ (hexec : p.tables.exec = Jvm.exec) (hb : c.code = cc) {a b : Int64} (h0 : b = 0) (d : decode cc pc = .ok (.ldiv, 1)) (k : vx_Note p l e R s m args below meth c H locs cells slots Q (F0 m pc ls rest) "java/lang/ArithmeticException" "/ by zero") :
    W p l e R s m args below meth c H locs cells slots Q (F0 m pc ls (.long b :: .long a :: rest)) := by
  intro T hT X
  obtain ⟨t, st, q⟩ := k T hT X
  exact ⟨t, X.ldivZero hexec (g := F0 m pc ls (.long b :: .long a :: rest)) rfl (a := a) (rest := rest) (by rw [h0]) (by rw [hb]; exact d) t st, q⟩
theorem vx_lremZ (hexec : p.tables.exec = Jvm.exec) (hb : c.code = cc) {a b : Int64} (h0 : b = 0) (d : decode cc pc = .ok (.lrem, 1)) (k : vx_Note p l e R s m args below meth c H locs cells slots Q (F0 m pc ls rest) "java/lang/ArithmeticException" "/ by zero") :
    W p l e R s m args below meth c H locs cells slots Q (F0 m pc ls (.long b :: .long a :: rest)) := by
  intro T hT X
  obtain ⟨t, st, q⟩ := k T hT X
  exact ⟨t, X.lremZero hexec (g := F0 m pc ls (.long b :: .long a :: rest)) rfl (a := a) (rest := rest) (by rw [h0]) (by rw [hb]; exact d) t st, q⟩
theorem vx_ialdZ {D : va_G} {cl : List vw_C} {ws : va_W} {tys : List (ClassId × FieldType)} {a : Nat} (hexec : p.tables.exec = Jvm.exec) (hb : c.code = cc) (hK : va_K D cl tys s) (hP : va_P D cl ws H) (q0 t0 : Nat) {cA : ClassId} {n : Nat} {f : Nat → Int32} (ha : ws[q0]? = some (a, .inl (cA, n, .inl f))) (ht : tys[t0]? = some (cA, .int)) {i : Int32} (hout : ¬ vp_in i n) (hdg : decode cc pc = .ok (.iaload, 1))
    (k : ∀ tx : String, tx = (toString "Index " ++ toString i ++ toString " out of bounds for length " ++ toString n : String) → vx_Note p l e R s m args below meth c H locs cells slots Q (F0 m pc ls rest) "java/lang/ArrayIndexOutOfBoundsException" tx) : W p l e R s m args below meth c H locs cells slots Q (F0 m pc ls (.int i :: .ref a :: rest)) := by
  intro T hT X
  obtain ⟨t, st, q⟩ := k _ rfl T hT X
  refine ⟨t, ?_, q⟩
  have h1 := X.ialoadOut hexec (by rw [hT]; exact hP q0 _ ha) ((hK.2 t0 _ ht).1 n (fun j => .int (f j))) (j := i) (by show (i < 0 ∨ (arrV _ _ _).slots.size ≤ _); rw [arrV_size]; exact Classical.byContradiction hout) (g := F0 m pc ls (.int i :: .ref a :: rest)) rfl (rest := rest) rfl (by rw [hb]; exact hdg) t
  simp only [arrV_size] at h1
  exact h1 st
theorem vx_iastZ {D : va_G} {cl : List vw_C} {ws : va_W} {tys : List (ClassId × FieldType)} {a : Nat} (hexec : p.tables.exec = Jvm.exec) (hb : c.code = cc) (hK : va_K D cl tys s) (hP : va_P D cl ws H) (q0 t0 : Nat) {cA : ClassId} {n : Nat} {f : Nat → Int32} (ha : ws[q0]? = some (a, .inl (cA, n, .inl f))) (ht : tys[t0]? = some (cA, .int)) {i : Int32} {x : Int32} (hout : ¬ vp_in i n) (hdg : decode cc pc = .ok (.iastore, 1))
    (k : ∀ tx : String, tx = (toString "Index " ++ toString i ++ toString " out of bounds for length " ++ toString n : String) → vx_Note p l e R s m args below meth c H locs cells slots Q (F0 m pc ls rest) "java/lang/ArrayIndexOutOfBoundsException" tx) : W p l e R s m args below meth c H locs cells slots Q (F0 m pc ls (.int x :: .int i :: .ref a :: rest)) := by
  intro T hT X
  obtain ⟨t, st, q⟩ := k _ rfl T hT X
  refine ⟨t, ?_, q⟩
  have h1 := X.iastoreOut hexec (by rw [hT]; exact hP q0 _ ha) ((hK.2 t0 _ ht).1 n (fun j => .int (f j))) (j := i) (by show (i < 0 ∨ (arrV _ _ _).slots.size ≤ _); rw [arrV_size]; exact Classical.byContradiction hout) (g := F0 m pc ls (.int x :: .int i :: .ref a :: rest)) rfl (rest := rest) rfl (by rw [hb]; exact hdg) t
  simp only [arrV_size] at h1
  exact h1 st
theorem vx_baldZ {D : va_G} {cl : List vw_C} {ws : va_W} {tys : List (ClassId × FieldType)} {a : Nat} (hexec : p.tables.exec = Jvm.exec) (hb : c.code = cc) (hK : va_K D cl tys s) (hP : va_P D cl ws H) (q0 t0 : Nat) {cA : ClassId} {n : Nat} {f : Nat → Int32} (ha : ws[q0]? = some (a, .inl (cA, n, .inl f))) (ht : tys[t0]? = some (cA, .byte)) {i : Int32} (hout : ¬ vp_in i n) (hdg : decode cc pc = .ok (.baload, 1))
    (k : ∀ tx : String, tx = (toString "Index " ++ toString i ++ toString " out of bounds for length " ++ toString n : String) → vx_Note p l e R s m args below meth c H locs cells slots Q (F0 m pc ls rest) "java/lang/ArrayIndexOutOfBoundsException" tx) : W p l e R s m args below meth c H locs cells slots Q (F0 m pc ls (.int i :: .ref a :: rest)) := by
  intro T hT X
  obtain ⟨t, st, q⟩ := k _ rfl T hT X
  refine ⟨t, ?_, q⟩
  have h1 := X.baloadOut hexec (by rw [hT]; exact hP q0 _ ha) ((hK.2 t0 _ ht).1 n (fun j => .int (f j))) (j := i) (by show (i < 0 ∨ (arrV _ _ _).slots.size ≤ _); rw [arrV_size]; exact Classical.byContradiction hout) (g := F0 m pc ls (.int i :: .ref a :: rest)) rfl (rest := rest) rfl (by rw [hb]; exact hdg) t
  simp only [arrV_size] at h1
  exact h1 st
theorem vx_bastZ {D : va_G} {cl : List vw_C} {ws : va_W} {tys : List (ClassId × FieldType)} {a : Nat} (hexec : p.tables.exec = Jvm.exec) (hb : c.code = cc) (hK : va_K D cl tys s) (hP : va_P D cl ws H) (q0 t0 : Nat) {cA : ClassId} {n : Nat} {f : Nat → Int32} (ha : ws[q0]? = some (a, .inl (cA, n, .inl f))) (ht : tys[t0]? = some (cA, .byte)) {i : Int32} {x : Int32} (hout : ¬ vp_in i n) (hdg : decode cc pc = .ok (.bastore, 1))
    (k : ∀ tx : String, tx = (toString "Index " ++ toString i ++ toString " out of bounds for length " ++ toString n : String) → vx_Note p l e R s m args below meth c H locs cells slots Q (F0 m pc ls rest) "java/lang/ArrayIndexOutOfBoundsException" tx) : W p l e R s m args below meth c H locs cells slots Q (F0 m pc ls (.int x :: .int i :: .ref a :: rest)) := by
  intro T hT X
  obtain ⟨t, st, q⟩ := k _ rfl T hT X
  refine ⟨t, ?_, q⟩
  have h1 := X.bastoreOut hexec (by rw [hT]; exact hP q0 _ ha) ((hK.2 t0 _ ht).1 n (fun j => .int (f j))) (j := i) (by show (i < 0 ∨ (arrV _ _ _).slots.size ≤ _); rw [arrV_size]; exact Classical.byContradiction hout) (g := F0 m pc ls (.int x :: .int i :: .ref a :: rest)) rfl (rest := rest) rfl (by rw [hb]; exact hdg) t
  simp only [arrV_size] at h1
  exact h1 st
theorem vx_zaldZ {D : va_G} {cl : List vw_C} {ws : va_W} {tys : List (ClassId × FieldType)} {a : Nat} (hexec : p.tables.exec = Jvm.exec) (hb : c.code = cc) (hK : va_K D cl tys s) (hP : va_P D cl ws H) (q0 t0 : Nat) {cA : ClassId} {n : Nat} {f : Nat → Int32} (ha : ws[q0]? = some (a, .inl (cA, n, .inl f))) (ht : tys[t0]? = some (cA, .boolean)) {i : Int32} (hout : ¬ vp_in i n) (hdg : decode cc pc = .ok (.baload, 1))
    (k : ∀ tx : String, tx = (toString "Index " ++ toString i ++ toString " out of bounds for length " ++ toString n : String) → vx_Note p l e R s m args below meth c H locs cells slots Q (F0 m pc ls rest) "java/lang/ArrayIndexOutOfBoundsException" tx) : W p l e R s m args below meth c H locs cells slots Q (F0 m pc ls (.int i :: .ref a :: rest)) := by
  intro T hT X
  obtain ⟨t, st, q⟩ := k _ rfl T hT X
  refine ⟨t, ?_, q⟩
  have h1 := X.baloadOut hexec (by rw [hT]; exact hP q0 _ ha) ((hK.2 t0 _ ht).1 n (fun j => .int (f j))) (j := i) (by show (i < 0 ∨ (arrV _ _ _).slots.size ≤ _); rw [arrV_size]; exact Classical.byContradiction hout) (g := F0 m pc ls (.int i :: .ref a :: rest)) rfl (rest := rest) rfl (by rw [hb]; exact hdg) t
  simp only [arrV_size] at h1
  exact h1 st
theorem vx_zastZ {D : va_G} {cl : List vw_C} {ws : va_W} {tys : List (ClassId × FieldType)} {a : Nat} (hexec : p.tables.exec = Jvm.exec) (hb : c.code = cc) (hK : va_K D cl tys s) (hP : va_P D cl ws H) (q0 t0 : Nat) {cA : ClassId} {n : Nat} {f : Nat → Int32} (ha : ws[q0]? = some (a, .inl (cA, n, .inl f))) (ht : tys[t0]? = some (cA, .boolean)) {i : Int32} {x : Int32} (hout : ¬ vp_in i n) (hdg : decode cc pc = .ok (.bastore, 1))
    (k : ∀ tx : String, tx = (toString "Index " ++ toString i ++ toString " out of bounds for length " ++ toString n : String) → vx_Note p l e R s m args below meth c H locs cells slots Q (F0 m pc ls rest) "java/lang/ArrayIndexOutOfBoundsException" tx) : W p l e R s m args below meth c H locs cells slots Q (F0 m pc ls (.int x :: .int i :: .ref a :: rest)) := by
  intro T hT X
  obtain ⟨t, st, q⟩ := k _ rfl T hT X
  refine ⟨t, ?_, q⟩
  have h1 := X.bastoreOut hexec (by rw [hT]; exact hP q0 _ ha) ((hK.2 t0 _ ht).1 n (fun j => .int (f j))) (j := i) (by show (i < 0 ∨ (arrV _ _ _).slots.size ≤ _); rw [arrV_size]; exact Classical.byContradiction hout) (g := F0 m pc ls (.int x :: .int i :: .ref a :: rest)) rfl (rest := rest) rfl (by rw [hb]; exact hdg) t
  simp only [arrV_size] at h1
  exact h1 st
theorem vx_caldZ {D : va_G} {cl : List vw_C} {ws : va_W} {tys : List (ClassId × FieldType)} {a : Nat} (hexec : p.tables.exec = Jvm.exec) (hb : c.code = cc) (hK : va_K D cl tys s) (hP : va_P D cl ws H) (q0 t0 : Nat) {cA : ClassId} {n : Nat} {f : Nat → Int32} (ha : ws[q0]? = some (a, .inl (cA, n, .inl f))) (ht : tys[t0]? = some (cA, .char)) {i : Int32} (hout : ¬ vp_in i n) (hdg : decode cc pc = .ok (.caload, 1))
    (k : ∀ tx : String, tx = (toString "Index " ++ toString i ++ toString " out of bounds for length " ++ toString n : String) → vx_Note p l e R s m args below meth c H locs cells slots Q (F0 m pc ls rest) "java/lang/ArrayIndexOutOfBoundsException" tx) : W p l e R s m args below meth c H locs cells slots Q (F0 m pc ls (.int i :: .ref a :: rest)) := by
  intro T hT X
  obtain ⟨t, st, q⟩ := k _ rfl T hT X
  refine ⟨t, ?_, q⟩
  have h1 := X.caloadOut hexec (by rw [hT]; exact hP q0 _ ha) ((hK.2 t0 _ ht).1 n (fun j => .int (f j))) (j := i) (by show (i < 0 ∨ (arrV _ _ _).slots.size ≤ _); rw [arrV_size]; exact Classical.byContradiction hout) (g := F0 m pc ls (.int i :: .ref a :: rest)) rfl (rest := rest) rfl (by rw [hb]; exact hdg) t
  simp only [arrV_size] at h1
  exact h1 st
theorem vx_castZ {D : va_G} {cl : List vw_C} {ws : va_W} {tys : List (ClassId × FieldType)} {a : Nat} (hexec : p.tables.exec = Jvm.exec) (hb : c.code = cc) (hK : va_K D cl tys s) (hP : va_P D cl ws H) (q0 t0 : Nat) {cA : ClassId} {n : Nat} {f : Nat → Int32} (ha : ws[q0]? = some (a, .inl (cA, n, .inl f))) (ht : tys[t0]? = some (cA, .char)) {i : Int32} {x : Int32} (hout : ¬ vp_in i n) (hdg : decode cc pc = .ok (.castore, 1))
    (k : ∀ tx : String, tx = (toString "Index " ++ toString i ++ toString " out of bounds for length " ++ toString n : String) → vx_Note p l e R s m args below meth c H locs cells slots Q (F0 m pc ls rest) "java/lang/ArrayIndexOutOfBoundsException" tx) : W p l e R s m args below meth c H locs cells slots Q (F0 m pc ls (.int x :: .int i :: .ref a :: rest)) := by
  intro T hT X
  obtain ⟨t, st, q⟩ := k _ rfl T hT X
  refine ⟨t, ?_, q⟩
  have h1 := X.castoreOut hexec (by rw [hT]; exact hP q0 _ ha) ((hK.2 t0 _ ht).1 n (fun j => .int (f j))) (j := i) (by show (i < 0 ∨ (arrV _ _ _).slots.size ≤ _); rw [arrV_size]; exact Classical.byContradiction hout) (g := F0 m pc ls (.int x :: .int i :: .ref a :: rest)) rfl (rest := rest) rfl (by rw [hb]; exact hdg) t
  simp only [arrV_size] at h1
  exact h1 st
theorem vx_saldZ {D : va_G} {cl : List vw_C} {ws : va_W} {tys : List (ClassId × FieldType)} {a : Nat} (hexec : p.tables.exec = Jvm.exec) (hb : c.code = cc) (hK : va_K D cl tys s) (hP : va_P D cl ws H) (q0 t0 : Nat) {cA : ClassId} {n : Nat} {f : Nat → Int32} (ha : ws[q0]? = some (a, .inl (cA, n, .inl f))) (ht : tys[t0]? = some (cA, .short)) {i : Int32} (hout : ¬ vp_in i n) (hdg : decode cc pc = .ok (.saload, 1))
    (k : ∀ tx : String, tx = (toString "Index " ++ toString i ++ toString " out of bounds for length " ++ toString n : String) → vx_Note p l e R s m args below meth c H locs cells slots Q (F0 m pc ls rest) "java/lang/ArrayIndexOutOfBoundsException" tx) : W p l e R s m args below meth c H locs cells slots Q (F0 m pc ls (.int i :: .ref a :: rest)) := by
  intro T hT X
  obtain ⟨t, st, q⟩ := k _ rfl T hT X
  refine ⟨t, ?_, q⟩
  have h1 := X.saloadOut hexec (by rw [hT]; exact hP q0 _ ha) ((hK.2 t0 _ ht).1 n (fun j => .int (f j))) (j := i) (by show (i < 0 ∨ (arrV _ _ _).slots.size ≤ _); rw [arrV_size]; exact Classical.byContradiction hout) (g := F0 m pc ls (.int i :: .ref a :: rest)) rfl (rest := rest) rfl (by rw [hb]; exact hdg) t
  simp only [arrV_size] at h1
  exact h1 st
theorem vx_sastZ {D : va_G} {cl : List vw_C} {ws : va_W} {tys : List (ClassId × FieldType)} {a : Nat} (hexec : p.tables.exec = Jvm.exec) (hb : c.code = cc) (hK : va_K D cl tys s) (hP : va_P D cl ws H) (q0 t0 : Nat) {cA : ClassId} {n : Nat} {f : Nat → Int32} (ha : ws[q0]? = some (a, .inl (cA, n, .inl f))) (ht : tys[t0]? = some (cA, .short)) {i : Int32} {x : Int32} (hout : ¬ vp_in i n) (hdg : decode cc pc = .ok (.sastore, 1))
    (k : ∀ tx : String, tx = (toString "Index " ++ toString i ++ toString " out of bounds for length " ++ toString n : String) → vx_Note p l e R s m args below meth c H locs cells slots Q (F0 m pc ls rest) "java/lang/ArrayIndexOutOfBoundsException" tx) : W p l e R s m args below meth c H locs cells slots Q (F0 m pc ls (.int x :: .int i :: .ref a :: rest)) := by
  intro T hT X
  obtain ⟨t, st, q⟩ := k _ rfl T hT X
  refine ⟨t, ?_, q⟩
  have h1 := X.sastoreOut hexec (by rw [hT]; exact hP q0 _ ha) ((hK.2 t0 _ ht).1 n (fun j => .int (f j))) (j := i) (by show (i < 0 ∨ (arrV _ _ _).slots.size ≤ _); rw [arrV_size]; exact Classical.byContradiction hout) (g := F0 m pc ls (.int x :: .int i :: .ref a :: rest)) rfl (rest := rest) rfl (by rw [hb]; exact hdg) t
  simp only [arrV_size] at h1
  exact h1 st
theorem vx_laldZ {D : va_G} {cl : List vw_C} {ws : va_W} {tys : List (ClassId × FieldType)} {a : Nat} (hexec : p.tables.exec = Jvm.exec) (hb : c.code = cc) (hK : va_K D cl tys s) (hP : va_P D cl ws H) (q0 t0 : Nat) {cA : ClassId} {n : Nat} {f : Nat → Int64} (ha : ws[q0]? = some (a, .inl (cA, n, .inr (.inl f)))) (ht : tys[t0]? = some (cA, .long)) {i : Int32} (hout : ¬ vp_in i n) (hdg : decode cc pc = .ok (.laload, 1))
    (k : ∀ tx : String, tx = (toString "Index " ++ toString i ++ toString " out of bounds for length " ++ toString n : String) → vx_Note p l e R s m args below meth c H locs cells slots Q (F0 m pc ls rest) "java/lang/ArrayIndexOutOfBoundsException" tx) : W p l e R s m args below meth c H locs cells slots Q (F0 m pc ls (.int i :: .ref a :: rest)) := by
  intro T hT X
  obtain ⟨t, st, q⟩ := k _ rfl T hT X
  refine ⟨t, ?_, q⟩
  have h1 := X.laloadOut hexec (by rw [hT]; exact hP q0 _ ha) ((hK.2 t0 _ ht).1 n (fun j => .long (f j))) (j := i) (by show (i < 0 ∨ (arrV _ _ _).slots.size ≤ _); rw [arrV_size]; exact Classical.byContradiction hout) (g := F0 m pc ls (.int i :: .ref a :: rest)) rfl (rest := rest) rfl (by rw [hb]; exact hdg) t
  simp only [arrV_size] at h1
  exact h1 st
theorem vx_lastZ {D : va_G} {cl : List vw_C} {ws : va_W} {tys : List (ClassId × FieldType)} {a : Nat} (hexec : p.tables.exec = Jvm.exec) (hb : c.code = cc) (hK : va_K D cl tys s) (hP : va_P D cl ws H) (q0 t0 : Nat) {cA : ClassId} {n : Nat} {f : Nat → Int64} (ha : ws[q0]? = some (a, .inl (cA, n, .inr (.inl f)))) (ht : tys[t0]? = some (cA, .long)) {i : Int32} {x : Int64} (hout : ¬ vp_in i n) (hdg : decode cc pc = .ok (.lastore, 1))
    (k : ∀ tx : String, tx = (toString "Index " ++ toString i ++ toString " out of bounds for length " ++ toString n : String) → vx_Note p l e R s m args below meth c H locs cells slots Q (F0 m pc ls rest) "java/lang/ArrayIndexOutOfBoundsException" tx) : W p l e R s m args below meth c H locs cells slots Q (F0 m pc ls (.long x :: .int i :: .ref a :: rest)) := by
  intro T hT X
  obtain ⟨t, st, q⟩ := k _ rfl T hT X
  refine ⟨t, ?_, q⟩
  have h1 := X.lastoreOut hexec (by rw [hT]; exact hP q0 _ ha) ((hK.2 t0 _ ht).1 n (fun j => .long (f j))) (j := i) (by show (i < 0 ∨ (arrV _ _ _).slots.size ≤ _); rw [arrV_size]; exact Classical.byContradiction hout) (g := F0 m pc ls (.long x :: .int i :: .ref a :: rest)) rfl (rest := rest) rfl (by rw [hb]; exact hdg) t
  simp only [arrV_size] at h1
  exact h1 st
theorem vx_faldZ {D : va_G} {cl : List vw_C} {ws : va_W} {tys : List (ClassId × FieldType)} {a : Nat} (hexec : p.tables.exec = Jvm.exec) (hb : c.code = cc) (hK : va_K D cl tys s) (hP : va_P D cl ws H) (q0 t0 : Nat) {cA : ClassId} {n : Nat} {f : Nat → UInt32} (ha : ws[q0]? = some (a, .inl (cA, n, .inr (.inr (.inl f))))) (ht : tys[t0]? = some (cA, .float)) {i : Int32} (hout : ¬ vp_in i n) (hdg : decode cc pc = .ok (.faload, 1))
    (k : ∀ tx : String, tx = (toString "Index " ++ toString i ++ toString " out of bounds for length " ++ toString n : String) → vx_Note p l e R s m args below meth c H locs cells slots Q (F0 m pc ls rest) "java/lang/ArrayIndexOutOfBoundsException" tx) : W p l e R s m args below meth c H locs cells slots Q (F0 m pc ls (.int i :: .ref a :: rest)) := by
  intro T hT X
  obtain ⟨t, st, q⟩ := k _ rfl T hT X
  refine ⟨t, ?_, q⟩
  have h1 := X.faloadOut hexec (by rw [hT]; exact hP q0 _ ha) ((hK.2 t0 _ ht).1 n (fun j => .float (f j))) (j := i) (by show (i < 0 ∨ (arrV _ _ _).slots.size ≤ _); rw [arrV_size]; exact Classical.byContradiction hout) (g := F0 m pc ls (.int i :: .ref a :: rest)) rfl (rest := rest) rfl (by rw [hb]; exact hdg) t
  simp only [arrV_size] at h1
  exact h1 st
theorem vx_fastZ {D : va_G} {cl : List vw_C} {ws : va_W} {tys : List (ClassId × FieldType)} {a : Nat} (hexec : p.tables.exec = Jvm.exec) (hb : c.code = cc) (hK : va_K D cl tys s) (hP : va_P D cl ws H) (q0 t0 : Nat) {cA : ClassId} {n : Nat} {f : Nat → UInt32} (ha : ws[q0]? = some (a, .inl (cA, n, .inr (.inr (.inl f))))) (ht : tys[t0]? = some (cA, .float)) {i : Int32} {x : UInt32} (hout : ¬ vp_in i n) (hdg : decode cc pc = .ok (.fastore, 1))
    (k : ∀ tx : String, tx = (toString "Index " ++ toString i ++ toString " out of bounds for length " ++ toString n : String) → vx_Note p l e R s m args below meth c H locs cells slots Q (F0 m pc ls rest) "java/lang/ArrayIndexOutOfBoundsException" tx) : W p l e R s m args below meth c H locs cells slots Q (F0 m pc ls (.float x :: .int i :: .ref a :: rest)) := by
  intro T hT X
  obtain ⟨t, st, q⟩ := k _ rfl T hT X
  refine ⟨t, ?_, q⟩
  have h1 := X.fastoreOut hexec (by rw [hT]; exact hP q0 _ ha) ((hK.2 t0 _ ht).1 n (fun j => .float (f j))) (j := i) (by show (i < 0 ∨ (arrV _ _ _).slots.size ≤ _); rw [arrV_size]; exact Classical.byContradiction hout) (g := F0 m pc ls (.float x :: .int i :: .ref a :: rest)) rfl (rest := rest) rfl (by rw [hb]; exact hdg) t
  simp only [arrV_size] at h1
  exact h1 st
theorem vx_daldZ {D : va_G} {cl : List vw_C} {ws : va_W} {tys : List (ClassId × FieldType)} {a : Nat} (hexec : p.tables.exec = Jvm.exec) (hb : c.code = cc) (hK : va_K D cl tys s) (hP : va_P D cl ws H) (q0 t0 : Nat) {cA : ClassId} {n : Nat} {f : Nat → UInt64} (ha : ws[q0]? = some (a, .inl (cA, n, .inr (.inr (.inr (.inl f)))))) (ht : tys[t0]? = some (cA, .double)) {i : Int32} (hout : ¬ vp_in i n) (hdg : decode cc pc = .ok (.daload, 1))
    (k : ∀ tx : String, tx = (toString "Index " ++ toString i ++ toString " out of bounds for length " ++ toString n : String) → vx_Note p l e R s m args below meth c H locs cells slots Q (F0 m pc ls rest) "java/lang/ArrayIndexOutOfBoundsException" tx) : W p l e R s m args below meth c H locs cells slots Q (F0 m pc ls (.int i :: .ref a :: rest)) := by
  intro T hT X
  obtain ⟨t, st, q⟩ := k _ rfl T hT X
  refine ⟨t, ?_, q⟩
  have h1 := X.daloadOut hexec (by rw [hT]; exact hP q0 _ ha) ((hK.2 t0 _ ht).1 n (fun j => .double (f j))) (j := i) (by show (i < 0 ∨ (arrV _ _ _).slots.size ≤ _); rw [arrV_size]; exact Classical.byContradiction hout) (g := F0 m pc ls (.int i :: .ref a :: rest)) rfl (rest := rest) rfl (by rw [hb]; exact hdg) t
  simp only [arrV_size] at h1
  exact h1 st
theorem vx_dastZ {D : va_G} {cl : List vw_C} {ws : va_W} {tys : List (ClassId × FieldType)} {a : Nat} (hexec : p.tables.exec = Jvm.exec) (hb : c.code = cc) (hK : va_K D cl tys s) (hP : va_P D cl ws H) (q0 t0 : Nat) {cA : ClassId} {n : Nat} {f : Nat → UInt64} (ha : ws[q0]? = some (a, .inl (cA, n, .inr (.inr (.inr (.inl f)))))) (ht : tys[t0]? = some (cA, .double)) {i : Int32} {x : UInt64} (hout : ¬ vp_in i n) (hdg : decode cc pc = .ok (.dastore, 1))
    (k : ∀ tx : String, tx = (toString "Index " ++ toString i ++ toString " out of bounds for length " ++ toString n : String) → vx_Note p l e R s m args below meth c H locs cells slots Q (F0 m pc ls rest) "java/lang/ArrayIndexOutOfBoundsException" tx) : W p l e R s m args below meth c H locs cells slots Q (F0 m pc ls (.double x :: .int i :: .ref a :: rest)) := by
  intro T hT X
  obtain ⟨t, st, q⟩ := k _ rfl T hT X
  refine ⟨t, ?_, q⟩
  have h1 := X.dastoreOut hexec (by rw [hT]; exact hP q0 _ ha) ((hK.2 t0 _ ht).1 n (fun j => .double (f j))) (j := i) (by show (i < 0 ∨ (arrV _ _ _).slots.size ≤ _); rw [arrV_size]; exact Classical.byContradiction hout) (g := F0 m pc ls (.double x :: .int i :: .ref a :: rest)) rfl (rest := rest) rfl (by rw [hb]; exact hdg) t
  simp only [arrV_size] at h1
  exact h1 st
theorem vx_arraylengthN (hexec : p.tables.exec = Jvm.exec) (hb : c.code = cc) (hdg : decode cc pc = .ok (.arraylength, 1)) (k : vx_NoteN p l e R s m args below meth c H locs cells slots Q (F0 m pc ls rest)) : W p l e R s m args below meth c H locs cells slots Q (F0 m pc ls (.null :: rest)) := by
  intro T hT X
  obtain ⟨t, st, q⟩ := k T hT X
  exact ⟨t, X.arraylengthNull hexec (g := F0 m pc ls (.null :: rest)) rfl (rest := rest) rfl (by rw [hb]; exact hdg) t st, q⟩
theorem vx_ialoadN (hexec : p.tables.exec = Jvm.exec) (hb : c.code = cc) {i : Int32} (hdg : decode cc pc = .ok (.iaload, 1)) (k : vx_NoteN p l e R s m args below meth c H locs cells slots Q (F0 m pc ls rest)) : W p l e R s m args below meth c H locs cells slots Q (F0 m pc ls (.int i :: .null :: rest)) := by
  intro T hT X
  obtain ⟨t, st, q⟩ := k T hT X
  exact ⟨t, X.ialoadNull hexec (g := F0 m pc ls (.int i :: .null :: rest)) rfl (rest := rest) rfl (by rw [hb]; exact hdg) t st, q⟩
theorem vx_laloadN (hexec : p.tables.exec = Jvm.exec) (hb : c.code = cc) {i : Int32} (hdg : decode cc pc = .ok (.laload, 1)) (k : vx_NoteN p l e R s m args below meth c H locs cells slots Q (F0 m pc ls rest)) : W p l e R s m args below meth c H locs cells slots Q (F0 m pc ls (.int i :: .null :: rest)) := by
  intro T hT X
  obtain ⟨t, st, q⟩ := k T hT X
  exact ⟨t, X.laloadNull hexec (g := F0 m pc ls (.int i :: .null :: rest)) rfl (rest := rest) rfl (by rw [hb]; exact hdg) t st, q⟩
theorem vx_faloadN (hexec : p.tables.exec = Jvm.exec) (hb : c.code = cc) {i : Int32} (hdg : decode cc pc = .ok (.faload, 1)) (k : vx_NoteN p l e R s m args below meth c H locs cells slots Q (F0 m pc ls rest)) : W p l e R s m args below meth c H locs cells slots Q (F0 m pc ls (.int i :: .null :: rest)) := by
  intro T hT X
  obtain ⟨t, st, q⟩ := k T hT X
  exact ⟨t, X.faloadNull hexec (g := F0 m pc ls (.int i :: .null :: rest)) rfl (rest := rest) rfl (by rw [hb]; exact hdg) t st, q⟩
theorem vx_daloadN (hexec : p.tables.exec = Jvm.exec) (hb : c.code = cc) {i : Int32} (hdg : decode cc pc = .ok (.daload, 1)) (k : vx_NoteN p l e R s m args below meth c H locs cells slots Q (F0 m pc ls rest)) : W p l e R s m args below meth c H locs cells slots Q (F0 m pc ls (.int i :: .null :: rest)) := by
  intro T hT X
  obtain ⟨t, st, q⟩ := k T hT X
  exact ⟨t, X.daloadNull hexec (g := F0 m pc ls (.int i :: .null :: rest)) rfl (rest := rest) rfl (by rw [hb]; exact hdg) t st, q⟩
theorem vx_aaloadN (hexec : p.tables.exec = Jvm.exec) (hb : c.code = cc) {i : Int32} (hdg : decode cc pc = .ok (.aaload, 1)) (k : vx_NoteN p l e R s m args below meth c H locs cells slots Q (F0 m pc ls rest)) : W p l e R s m args below meth c H locs cells slots Q (F0 m pc ls (.int i :: .null :: rest)) := by
  intro T hT X
  obtain ⟨t, st, q⟩ := k T hT X
  exact ⟨t, X.aaloadNull hexec (g := F0 m pc ls (.int i :: .null :: rest)) rfl (rest := rest) rfl (by rw [hb]; exact hdg) t st, q⟩
theorem vx_baloadN (hexec : p.tables.exec = Jvm.exec) (hb : c.code = cc) {i : Int32} (hdg : decode cc pc = .ok (.baload, 1)) (k : vx_NoteN p l e R s m args below meth c H locs cells slots Q (F0 m pc ls rest)) : W p l e R s m args below meth c H locs cells slots Q (F0 m pc ls (.int i :: .null :: rest)) := by
  intro T hT X
  obtain ⟨t, st, q⟩ := k T hT X
  exact ⟨t, X.baloadNull hexec (g := F0 m pc ls (.int i :: .null :: rest)) rfl (rest := rest) rfl (by rw [hb]; exact hdg) t st, q⟩
theorem vx_caloadN (hexec : p.tables.exec = Jvm.exec) (hb : c.code = cc) {i : Int32} (hdg : decode cc pc = .ok (.caload, 1)) (k : vx_NoteN p l e R s m args below meth c H locs cells slots Q (F0 m pc ls rest)) : W p l e R s m args below meth c H locs cells slots Q (F0 m pc ls (.int i :: .null :: rest)) := by
  intro T hT X
  obtain ⟨t, st, q⟩ := k T hT X
  exact ⟨t, X.caloadNull hexec (g := F0 m pc ls (.int i :: .null :: rest)) rfl (rest := rest) rfl (by rw [hb]; exact hdg) t st, q⟩
theorem vx_saloadN (hexec : p.tables.exec = Jvm.exec) (hb : c.code = cc) {i : Int32} (hdg : decode cc pc = .ok (.saload, 1)) (k : vx_NoteN p l e R s m args below meth c H locs cells slots Q (F0 m pc ls rest)) : W p l e R s m args below meth c H locs cells slots Q (F0 m pc ls (.int i :: .null :: rest)) := by
  intro T hT X
  obtain ⟨t, st, q⟩ := k T hT X
  exact ⟨t, X.saloadNull hexec (g := F0 m pc ls (.int i :: .null :: rest)) rfl (rest := rest) rfl (by rw [hb]; exact hdg) t st, q⟩
theorem vx_iastoreN (hexec : p.tables.exec = Jvm.exec) (hb : c.code = cc) {x : Int32} {i : Int32} (hdg : decode cc pc = .ok (.iastore, 1)) (k : vx_NoteN p l e R s m args below meth c H locs cells slots Q (F0 m pc ls rest)) : W p l e R s m args below meth c H locs cells slots Q (F0 m pc ls (.int x :: .int i :: .null :: rest)) := by
  intro T hT X
  obtain ⟨t, st, q⟩ := k T hT X
  exact ⟨t, X.iastoreNull hexec (g := F0 m pc ls (.int x :: .int i :: .null :: rest)) rfl (rest := rest) rfl (by rw [hb]; exact hdg) t st, q⟩
theorem vx_lastoreN (hexec : p.tables.exec = Jvm.exec) (hb : c.code = cc) {x : Int64} {i : Int32} (hdg : decode cc pc = .ok (.lastore, 1)) (k : vx_NoteN p l e R s m args below meth c H locs cells slots Q (F0 m pc ls rest)) : W p l e R s m args below meth c H locs cells slots Q (F0 m pc ls (.long x :: .int i :: .null :: rest)) := by
  intro T hT X
  obtain ⟨t, st, q⟩ := k T hT X
  exact ⟨t, X.lastoreNull hexec (g := F0 m pc ls (.long x :: .int i :: .null :: rest)) rfl (rest := rest) rfl (by rw [hb]; exact hdg) t st, q⟩
theorem vx_fastoreN (hexec : p.tables.exec = Jvm.exec) (hb : c.code = cc) {x : UInt32} {i : Int32} (hdg : decode cc pc = .ok (.fastore, 1)) (k : vx_NoteN p l e R s m args below meth c H locs cells slots Q (F0 m pc ls rest)) : W p l e R s m args below meth c H locs cells slots Q (F0 m pc ls (.float x :: .int i :: .null :: rest)) := by
  intro T hT X
  obtain ⟨t, st, q⟩ := k T hT X
  exact ⟨t, X.fastoreNull hexec (g := F0 m pc ls (.float x :: .int i :: .null :: rest)) rfl (rest := rest) rfl (by rw [hb]; exact hdg) t st, q⟩
theorem vx_dastoreN (hexec : p.tables.exec = Jvm.exec) (hb : c.code = cc) {x : UInt64} {i : Int32} (hdg : decode cc pc = .ok (.dastore, 1)) (k : vx_NoteN p l e R s m args below meth c H locs cells slots Q (F0 m pc ls rest)) : W p l e R s m args below meth c H locs cells slots Q (F0 m pc ls (.double x :: .int i :: .null :: rest)) := by
  intro T hT X
  obtain ⟨t, st, q⟩ := k T hT X
  exact ⟨t, X.dastoreNull hexec (g := F0 m pc ls (.double x :: .int i :: .null :: rest)) rfl (rest := rest) rfl (by rw [hb]; exact hdg) t st, q⟩
theorem vx_bastoreN (hexec : p.tables.exec = Jvm.exec) (hb : c.code = cc) {x : Int32} {i : Int32} (hdg : decode cc pc = .ok (.bastore, 1)) (k : vx_NoteN p l e R s m args below meth c H locs cells slots Q (F0 m pc ls rest)) : W p l e R s m args below meth c H locs cells slots Q (F0 m pc ls (.int x :: .int i :: .null :: rest)) := by
  intro T hT X
  obtain ⟨t, st, q⟩ := k T hT X
  exact ⟨t, X.bastoreNull hexec (g := F0 m pc ls (.int x :: .int i :: .null :: rest)) rfl (rest := rest) rfl (by rw [hb]; exact hdg) t st, q⟩
theorem vx_castoreN (hexec : p.tables.exec = Jvm.exec) (hb : c.code = cc) {x : Int32} {i : Int32} (hdg : decode cc pc = .ok (.castore, 1)) (k : vx_NoteN p l e R s m args below meth c H locs cells slots Q (F0 m pc ls rest)) : W p l e R s m args below meth c H locs cells slots Q (F0 m pc ls (.int x :: .int i :: .null :: rest)) := by
  intro T hT X
  obtain ⟨t, st, q⟩ := k T hT X
  exact ⟨t, X.castoreNull hexec (g := F0 m pc ls (.int x :: .int i :: .null :: rest)) rfl (rest := rest) rfl (by rw [hb]; exact hdg) t st, q⟩
theorem vx_sastoreN (hexec : p.tables.exec = Jvm.exec) (hb : c.code = cc) {x : Int32} {i : Int32} (hdg : decode cc pc = .ok (.sastore, 1)) (k : vx_NoteN p l e R s m args below meth c H locs cells slots Q (F0 m pc ls rest)) : W p l e R s m args below meth c H locs cells slots Q (F0 m pc ls (.int x :: .int i :: .null :: rest)) := by
  intro T hT X
  obtain ⟨t, st, q⟩ := k T hT X
  exact ⟨t, X.sastoreNull hexec (g := F0 m pc ls (.int x :: .int i :: .null :: rest)) rfl (rest := rest) rfl (by rw [hb]; exact hdg) t st, q⟩
theorem vx_invokeN {own C : String} {index maxL : Nat} {y : MethodName} {bytes : ByteArray} {ret : Option FieldType} (hexec : p.tables.exec = Jvm.exec) (hb : c.code = cc) (hown : s.vm.findClass own = some m.cls) (hlink : (Cond.methodLink own index y).before args s = true) (hinst : (Cond.instanceMethod y).before args s = true) (hcode : (Cond.code y bytes maxL ret).before args s = true) (hsel : (Cond.selects C y y).before args s = true)
    (hx : y.cls ≠ "java/lang/invoke/MethodHandle" ∧ y.cls ≠ "java/lang/invoke/VarHandle") {As : List Value} (hlen : (parseMethodDescriptor y.desc).map (fun d => d.parameters.length) = some As.length) (hdg : decode cc pc = .ok (.invokevirtual index, 3))
    (k : vx_NoteN p l e R s m args below meth c H locs cells slots Q (F0 m pc ls rest)) {st0 : List Value} (hst : st0 = As.reverse ++ .null :: rest) : W p l e R s m args below meth c H locs cells slots Q (F0 m pc ls st0) := by
  intro T hT X
  obtain ⟨r0, r, hn, hrm, hstR, hsigR⟩ := va_Decl.of hinst hcode
  obtain ⟨c2, r2, m2, q1, q2, q3, q4, kP, hkP, hkPi⟩ := Cond.selects_spec hsel
  cases hn.symm.trans q3
  have hl9 : As.length = r.sig.parameters.length := by
    rw [hsigR] at hlen
    exact (Option.some.inj hlen).symm
  obtain ⟨vm', X1, st1⟩ := X.invokevirtualNull hexec hown hlink hn hrm hstR hkP hkPi hx (g := F0 m pc ls st0) rfl (argsL := As) (rest := rest) hl9 hst (by rw [hb]; exact hdg)
  obtain ⟨t, st, q⟩ := k (T.setVm vm') hT X1
  exact ⟨t, st1 t st, q⟩
theorem vx_newarrayZ {atype : ArrayType} (hexec : p.tables.exec = Jvm.exec) (hb : c.code = cc) {n : Int32} (h0 : n < 0) (hdg : decode cc pc = .ok (.newarray atype, 2)) (k : ∀ tx : String, tx = toString n → vx_Note p l e R s m args below meth c H locs cells slots Q (F0 m pc ls rest) "java/lang/NegativeArraySizeException" tx) : W p l e R s m args below meth c H locs cells slots Q (F0 m pc ls (.int n :: rest)) := by
  intro T hT X
  obtain ⟨t, st, q⟩ := k _ rfl T hT X
  exact ⟨t, X.newarrayNegative hexec (g := F0 m pc ls (.int n :: rest)) rfl h0 (rest := rest) rfl (by rw [hb]; exact hdg) t st, q⟩
end
end VXM
/-! ===== END ===== -/
end
section
def RX0 : String := "ErrataPress$History"
def TX0 : u_T := fun k => match k with
  | 0 => ("ErrataPress$History", "rows", "[LErrataPress$State;", true)
  | 1 => ("ErrataPress$History", "next", "I", false)
  | _ => ("ErrataPress$History", "count", "I", false)
def tyX0 : Nat → FieldType := fun k => match k with
  | 0 => .array (.object "ErrataPress$State")
  | 1 => .int
  | _ => .int
abbrev wsX00 : List Cond := u_ws RX0 TX0 3
theorem nmX0 : ∀ a, a < 3 → ∀ b, b < 3 → a ≠ b → (TX0 a).2.1 ≠ (TX0 b).2.1 := by decide +kernel
theorem tyX0_ok : ∀ k, k < 3 → parseFieldDescriptor (TX0 k).2.2.1 = some (tyX0 k) := by decide +kernel
abbrev cX0_init : ByteArray := prog_2_method_1_code
def yX0_init : MethodName := ⟨RX0, "<init>", "()V"⟩
abbrev cX0_keep : ByteArray := prog_2_method_2_code
def yX0_keep : MethodName := ⟨RX0, "keep", "(LErrataPress$State;)V"⟩
abbrev cX0_takeBack : ByteArray := prog_2_method_3_code
def yX0_takeBack : MethodName := ⟨RX0, "takeBack", "(LErrataPress$State;)V"⟩
def RX1 : String := "ErrataPress$LineText"
def TX1 : u_T := fun k => match k with
  | 0 => ("ErrataPress$LineText", "signs", "[C", true)
  | _ => ("ErrataPress$LineText", "length", "I", false)
def tyX1 : Nat → FieldType := fun k => match k with
  | 0 => .array .char
  | _ => .int
abbrev wsX10 : List Cond := u_ws RX1 TX1 2
theorem nmX1 : ∀ a, a < 2 → ∀ b, b < 2 → a ≠ b → (TX1 a).2.1 ≠ (TX1 b).2.1 := by decide +kernel
theorem tyX1_ok : ∀ k, k < 2 → parseFieldDescriptor (TX1 k).2.2.1 = some (tyX1 k) := by decide +kernel
abbrev cX1_init : ByteArray := prog_3_method_1_code
def yX1_init : MethodName := ⟨RX1, "<init>", "()V"⟩
abbrev cX1_put : ByteArray := prog_3_method_2_code
def yX1_put : MethodName := ⟨RX1, "put", "(C)V"⟩
abbrev cX1_putNumber : ByteArray := prog_3_method_3_code
def yX1_putNumber : MethodName := ⟨RX1, "putNumber", "(I)V"⟩
def RX2 : String := "ErrataPress$OrderText"
def TX2 : u_T := fun k => match k with
  | 0 => ("ErrataPress$OrderText", "signs", "[C", true)
  | 1 => ("ErrataPress$OrderText", "length", "I", false)
  | 2 => ("ErrataPress$OrderText", "at", "I", false)
  | 3 => ("ErrataPress$OrderText", "order", "C", false)
  | 4 => ("ErrataPress$OrderText", "first", "I", false)
  | 5 => ("ErrataPress$OrderText", "second", "I", false)
  | _ => ("ErrataPress$OrderText", "letter", "C", false)
def tyX2 : Nat → FieldType := fun k => match k with
  | 0 => .array .char
  | 1 => .int
  | 2 => .int
  | 3 => .char
  | 4 => .int
  | 5 => .int
  | _ => .char
abbrev wsX20 : List Cond := u_ws RX2 TX2 7
theorem nmX2 : ∀ a, a < 7 → ∀ b, b < 7 → a ≠ b → (TX2 a).2.1 ≠ (TX2 b).2.1 := by decide +kernel
theorem tyX2_ok : ∀ k, k < 7 → parseFieldDescriptor (TX2 k).2.2.1 = some (tyX2 k) := by decide +kernel
abbrev cX2_init : ByteArray := prog_4_method_1_code
def yX2_init : MethodName := ⟨RX2, "<init>", "()V"⟩
abbrev cX2_findError : ByteArray := prog_4_method_2_code
def yX2_findError : MethodName := ⟨RX2, "findError", "()I"⟩
abbrev cX2_readNext : ByteArray := prog_4_method_3_code
def yX2_readNext : MethodName := ⟨RX2, "readNext", "()Z"⟩
abbrev cX2_readOrder : ByteArray := prog_4_method_4_code
def yX2_readOrder : MethodName := ⟨RX2, "readOrder", "()Z"⟩
abbrev cX2_isAhead : ByteArray := prog_4_method_5_code
def yX2_isAhead : MethodName := ⟨RX2, "isAhead", "(CC)Z"⟩
abbrev cX2_readSign : ByteArray := prog_4_method_6_code
def yX2_readSign : MethodName := ⟨RX2, "readSign", "(C)Z"⟩
abbrev cX2_readFirst : ByteArray := prog_4_method_7_code
def yX2_readFirst : MethodName := ⟨RX2, "readFirst", "()Z"⟩
abbrev cX2_readSecond : ByteArray := prog_4_method_8_code
def yX2_readSecond : MethodName := ⟨RX2, "readSecond", "()Z"⟩
abbrev cX2_readDigit : ByteArray := prog_4_method_9_code
def yX2_readDigit : MethodName := ⟨RX2, "readDigit", "()I"⟩
abbrev cX2_readCoins : ByteArray := prog_4_method_10_code
def yX2_readCoins : MethodName := ⟨RX2, "readCoins", "()Z"⟩
abbrev cX2_readLetter : ByteArray := prog_4_method_11_code
def yX2_readLetter : MethodName := ⟨RX2, "readLetter", "()Z"⟩
abbrev cX2_readWord : ByteArray := prog_4_method_12_code
def yX2_readWord : MethodName := ⟨RX2, "readWord", "()Z"⟩
def RX3 : String := "ErrataPress$Refusal"
def TX3 : u_T := fun k => match k with
  | 0 => ("ErrataPress$Refusal", "reason", "I", false)
  | 1 => ("ErrataPress$Refusal", "detail", "I", false)
  | 2 => ("ErrataPress$Refusal", "reasonBehind", "I", false)
  | _ => ("ErrataPress$Refusal", "detailBehind", "I", false)
def tyX3 : Nat → FieldType := fun k => match k with
  | 0 => .int
  | 1 => .int
  | 2 => .int
  | _ => .int
abbrev wsX30 : List Cond := u_ws RX3 TX3 4
theorem nmX3 : ∀ a, a < 4 → ∀ b, b < 4 → a ≠ b → (TX3 a).2.1 ≠ (TX3 b).2.1 := by decide +kernel
theorem tyX3_ok : ∀ k, k < 4 → parseFieldDescriptor (TX3 k).2.2.1 = some (tyX3 k) := by decide +kernel
abbrev cX3_init : ByteArray := prog_5_method_1_code
def yX3_init : MethodName := ⟨RX3, "<init>", "()V"⟩
abbrev cX3_become : ByteArray := prog_5_method_2_code
def yX3_become : MethodName := ⟨RX3, "become", "(II)V"⟩
abbrev cX3_standBehind : ByteArray := prog_5_method_3_code
def yX3_standBehind : MethodName := ⟨RX3, "standBehind", "(II)V"⟩
def RX4 : String := "ErrataPress$State"
def TX4 : u_T := fun k => match k with
  | 0 => ("ErrataPress$State", "houses", "I", false)
  | 1 => ("ErrataPress$State", "sheets", "I", false)
  | 2 => ("ErrataPress$State", "readers", "I", false)
  | 3 => ("ErrataPress$State", "days", "I", false)
  | 4 => ("ErrataPress$State", "editions", "I", false)
  | 5 => ("ErrataPress$State", "printed", "I", false)
  | 6 => ("ErrataPress$State", "laughs", "I", false)
  | 7 => ("ErrataPress$State", "licencesPaid", "I", false)
  | 8 => ("ErrataPress$State", "coins", "[I", true)
  | 9 => ("ErrataPress$State", "shame", "[I", true)
  | 10 => ("ErrataPress$State", "finesPaid", "[I", true)
  | 11 => ("ErrataPress$State", "owners", "[I", true)
  | 12 => ("ErrataPress$State", "lengths", "[I", true)
  | 13 => ("ErrataPress$State", "rights", "[I", true)
  | 14 => ("ErrataPress$State", "placed", "[I", true)
  | 15 => ("ErrataPress$State", "levels", "[I", true)
  | 16 => ("ErrataPress$State", "kinds", "[I", true)
  | _ => ("ErrataPress$State", "tastes", "[I", true)
def tyX4 : Nat → FieldType := fun k => match k with
  | 0 => .int
  | 1 => .int
  | 2 => .int
  | 3 => .int
  | 4 => .int
  | 5 => .int
  | 6 => .int
  | 7 => .int
  | 8 => .array .int
  | 9 => .array .int
  | 10 => .array .int
  | 11 => .array .int
  | 12 => .array .int
  | 13 => .array .int
  | 14 => .array .int
  | 15 => .array .int
  | 16 => .array .int
  | _ => .array .int
abbrev wsX40 : List Cond := u_ws RX4 TX4 18
theorem nmX4 : ∀ a, a < 18 → ∀ b, b < 18 → a ≠ b → (TX4 a).2.1 ≠ (TX4 b).2.1 := by decide +kernel
theorem tyX4_ok : ∀ k, k < 18 → parseFieldDescriptor (TX4 k).2.2.1 = some (tyX4 k) := by decide +kernel
abbrev cX4_init : ByteArray := prog_6_method_1_code
def yX4_init : MethodName := ⟨RX4, "<init>", "()V"⟩
abbrev cX4_copyFrom : ByteArray := prog_6_method_2_code
def yX4_copyFrom : MethodName := ⟨RX4, "copyFrom", "(LErrataPress$State;)V"⟩
abbrev cX4_hasHouse : ByteArray := prog_6_method_3_code
def yX4_hasHouse : MethodName := ⟨RX4, "hasHouse", "(I)Z"⟩
abbrev cX4_hasSheet : ByteArray := prog_6_method_4_code
def yX4_hasSheet : MethodName := ⟨RX4, "hasSheet", "(I)Z"⟩
abbrev cX4_hasPlace : ByteArray := prog_6_method_5_code
def yX4_hasPlace : MethodName := ⟨RX4, "hasPlace", "(II)Z"⟩
abbrev cX4_rightAt : ByteArray := prog_6_method_6_code
def yX4_rightAt : MethodName := ⟨RX4, "rightAt", "(II)I"⟩
abbrev cX4_placedAt : ByteArray := prog_6_method_7_code
def yX4_placedAt : MethodName := ⟨RX4, "placedAt", "(II)I"⟩
abbrev cX4_isMisprint : ByteArray := prog_6_method_8_code
def yX4_isMisprint : MethodName := ⟨RX4, "isMisprint", "(II)Z"⟩
abbrev cX4_levelAt : ByteArray := prog_6_method_9_code
def yX4_levelAt : MethodName := ⟨RX4, "levelAt", "(II)I"⟩
abbrev cX4_howBad : ByteArray := prog_6_method_10_code
def yX4_howBad : MethodName := ⟨RX4, "howBad", "(II)I"⟩
abbrev cX4_isAshamed : ByteArray := prog_6_method_11_code
def yX4_isAshamed : MethodName := ⟨RX4, "isAshamed", "(I)Z"⟩
abbrev cX4_countOnSheet : ByteArray := prog_6_method_12_code
def yX4_countOnSheet : MethodName := ⟨RX4, "countOnSheet", "(II)I"⟩
abbrev cX4_countOfHouse : ByteArray := prog_6_method_13_code
def yX4_countOfHouse : MethodName := ⟨RX4, "countOfHouse", "(II)I"⟩
abbrev cX4_countInAll : ByteArray := prog_6_method_14_code
def yX4_countInAll : MethodName := ⟨RX4, "countInAll", "(I)I"⟩
abbrev cX4_badness : ByteArray := prog_6_method_15_code
def yX4_badness : MethodName := ⟨RX4, "badness", "(I)I"⟩
abbrev cX4_sheetsOf : ByteArray := prog_6_method_16_code
def yX4_sheetsOf : MethodName := ⟨RX4, "sheetsOf", "(I)I"⟩
abbrev cX4_ashamedHouses : ByteArray := prog_6_method_17_code
def yX4_ashamedHouses : MethodName := ⟨RX4, "ashamedHouses", "()I"⟩
abbrev cX4_numberOfHouse : ByteArray := prog_6_method_18_code
def yX4_numberOfHouse : MethodName := ⟨RX4, "numberOfHouse", "(II)I"⟩
abbrev cX4_numberOfSheet : ByteArray := prog_6_method_19_code
def yX4_numberOfSheet : MethodName := ⟨RX4, "numberOfSheet", "(II)I"⟩
abbrev cX4_sumUp : ByteArray := prog_6_method_20_code
def yX4_sumUp : MethodName := ⟨RX4, "sumUp", "(I)I"⟩
abbrev cX4_sumOfHouses : ByteArray := prog_6_method_21_code
def yX4_sumOfHouses : MethodName := ⟨RX4, "sumOfHouses", "([I)I"⟩
abbrev cX4_licenceCost : ByteArray := prog_6_method_22_code
def yX4_licenceCost : MethodName := ⟨RX4, "licenceCost", "(I)I"⟩
abbrev cX4_canPayLicence : ByteArray := prog_6_method_23_code
def yX4_canPayLicence : MethodName := ⟨RX4, "canPayLicence", "(I)Z"⟩
abbrev cX4_fineByRules : ByteArray := prog_6_method_24_code
def yX4_fineByRules : MethodName := ⟨RX4, "fineByRules", "(II)I"⟩
abbrev cX4_fineAtOnce : ByteArray := prog_6_method_25_code
def yX4_fineAtOnce : MethodName := ⟨RX4, "fineAtOnce", "(II)I"⟩
abbrev cX4_finesByPlace : ByteArray := prog_6_method_26_code
def yX4_finesByPlace : MethodName := ⟨RX4, "finesByPlace", "(I)I"⟩
abbrev cX4_isLaughing : ByteArray := prog_6_method_27_code
def yX4_isLaughing : MethodName := ⟨RX4, "isLaughing", "(III)Z"⟩
abbrev cX4_laughersAt : ByteArray := prog_6_method_28_code
def yX4_laughersAt : MethodName := ⟨RX4, "laughersAt", "(II)I"⟩
abbrev cX4_laughsByMisprint : ByteArray := prog_6_method_29_code
def yX4_laughsByMisprint : MethodName := ⟨RX4, "laughsByMisprint", "()I"⟩
abbrev cX4_laughsByReader : ByteArray := prog_6_method_30_code
def yX4_laughsByReader : MethodName := ⟨RX4, "laughsByReader", "()I"⟩
abbrev cX4_laughsOf : ByteArray := prog_6_method_31_code
def yX4_laughsOf : MethodName := ⟨RX4, "laughsOf", "(I)I"⟩
abbrev cX4_shameToCome : ByteArray := prog_6_method_32_code
def yX4_shameToCome : MethodName := ⟨RX4, "shameToCome", "(I)I"⟩
abbrev cX4_unlike : ByteArray := prog_6_method_33_code
def yX4_unlike : MethodName := ⟨RX4, "unlike", "(II)I"⟩
abbrev cX4_rankOfHouse : ByteArray := prog_6_method_34_code
def yX4_rankOfHouse : MethodName := ⟨RX4, "rankOfHouse", "(I)I"⟩
abbrev cX4_isMoreAshamed : ByteArray := prog_6_method_35_code
def yX4_isMoreAshamed : MethodName := ⟨RX4, "isMoreAshamed", "(II)Z"⟩
abbrev cX4_rankOfSheet : ByteArray := prog_6_method_36_code
def yX4_rankOfSheet : MethodName := ⟨RX4, "rankOfSheet", "(I)I"⟩
abbrev cX4_isWorse : ByteArray := prog_6_method_37_code
def yX4_isWorse : MethodName := ⟨RX4, "isWorse", "(II)Z"⟩
abbrev cX4_appendHouse : ByteArray := prog_6_method_38_code
def yX4_appendHouse : MethodName := ⟨RX4, "appendHouse", "(I)I"⟩
abbrev cX4_appendSheet : ByteArray := prog_6_method_39_code
def yX4_appendSheet : MethodName := ⟨RX4, "appendSheet", "(III)I"⟩
abbrev cX4_appendReader : ByteArray := prog_6_method_40_code
def yX4_appendReader : MethodName := ⟨RX4, "appendReader", "(II)I"⟩
abbrev cX4_removeSheet : ByteArray := prog_6_method_41_code
def yX4_removeSheet : MethodName := ⟨RX4, "removeSheet", "(I)V"⟩
abbrev cX4_putLetter : ByteArray := prog_6_method_42_code
def yX4_putLetter : MethodName := ⟨RX4, "putLetter", "(III)V"⟩
abbrev cX4_printOne : ByteArray := prog_6_method_43_code
def yX4_printOne : MethodName := ⟨RX4, "printOne", "(II)I"⟩
abbrev cX4_passDay : ByteArray := prog_6_method_44_code
def yX4_passDay : MethodName := ⟨RX4, "passDay", "()I"⟩
def RX5 : String := "ErrataPress"
def TX5 : u_T := fun k => match k with
  | 0 => ("ErrataPress", "state", "LErrataPress$State;", true)
  | 1 => ("ErrataPress", "before", "LErrataPress$State;", true)
  | 2 => ("ErrataPress", "thought", "LErrataPress$State;", true)
  | 3 => ("ErrataPress", "snapshot", "LErrataPress$State;", true)
  | 4 => ("ErrataPress", "history", "LErrataPress$History;", true)
  | 5 => ("ErrataPress", "latestRefusal", "LErrataPress$Refusal;", true)
  | 6 => ("ErrataPress", "input", "LErrataPress$OrderText;", true)
  | 7 => ("ErrataPress", "written", "LErrataPress$LineText;", true)
  | 8 => ("ErrataPress", "hasSnapshot", "Z", false)
  | _ => ("ErrataPress", "errorOffset", "I", false)
def tyX5 : Nat → FieldType := fun k => match k with
  | 0 => .object "ErrataPress$State"
  | 1 => .object "ErrataPress$State"
  | 2 => .object "ErrataPress$State"
  | 3 => .object "ErrataPress$State"
  | 4 => .object "ErrataPress$History"
  | 5 => .object "ErrataPress$Refusal"
  | 6 => .object "ErrataPress$OrderText"
  | 7 => .object "ErrataPress$LineText"
  | 8 => .boolean
  | _ => .int
abbrev wsX50 : List Cond := u_ws RX5 TX5 10
theorem nmX5 : ∀ a, a < 10 → ∀ b, b < 10 → a ≠ b → (TX5 a).2.1 ≠ (TX5 b).2.1 := by decide +kernel
theorem tyX5_ok : ∀ k, k < 10 → parseFieldDescriptor (TX5 k).2.2.1 = some (tyX5 k) := by decide +kernel
abbrev cX5_init : ByteArray := prog_1_method_1_code
def yX5_init : MethodName := ⟨RX5, "<init>", "()V"⟩
abbrev cX5_house : ByteArray := prog_1_method_2_code
def yX5_house : MethodName := ⟨RX5, "house", "(I)I"⟩
abbrev cX5_sheet : ByteArray := prog_1_method_3_code
def yX5_sheet : MethodName := ⟨RX5, "sheet", "(II)I"⟩
abbrev cX5_take : ByteArray := prog_1_method_4_code
def yX5_take : MethodName := ⟨RX5, "take", "(I)I"⟩
abbrev cX5_set : ByteArray := prog_1_method_5_code
def yX5_set : MethodName := ⟨RX5, "set", "(IIC)I"⟩
abbrev cX5_license : ByteArray := prog_1_method_6_code
def yX5_license : MethodName := ⟨RX5, "license", "(II)I"⟩
abbrev cX5_correct : ByteArray := prog_1_method_7_code
def yX5_correct : MethodName := ⟨RX5, "correct", "(II)I"⟩
abbrev cX5_reader : ByteArray := prog_1_method_8_code
def yX5_reader : MethodName := ⟨RX5, "reader", "(II)I"⟩
abbrev cX5_edition : ByteArray := prog_1_method_9_code
def yX5_edition : MethodName := ⟨RX5, "edition", "()I"⟩
abbrev cX5_day : ByteArray := prog_1_method_10_code
def yX5_day : MethodName := ⟨RX5, "day", "()I"⟩
abbrev cX5_houseOf : ByteArray := prog_1_method_11_code
def yX5_houseOf : MethodName := ⟨RX5, "houseOf", "(II)I"⟩
abbrev cX5_sheetOf : ByteArray := prog_1_method_12_code
def yX5_sheetOf : MethodName := ⟨RX5, "sheetOf", "(II)I"⟩
abbrev cX5_letterAt : ByteArray := prog_1_method_13_code
def yX5_letterAt : MethodName := ⟨RX5, "letterAt", "(IIZ)C"⟩
abbrev cX5_markAt : ByteArray := prog_1_method_14_code
def yX5_markAt : MethodName := ⟨RX5, "markAt", "(II)I"⟩
abbrev cX5_fine : ByteArray := prog_1_method_15_code
def yX5_fine : MethodName := ⟨RX5, "fine", "(IIZ)I"⟩
abbrev cX5_fines : ByteArray := prog_1_method_16_code
def yX5_fines : MethodName := ⟨RX5, "fines", "(IZ)I"⟩
abbrev cX5_canMend : ByteArray := prog_1_method_17_code
def yX5_canMend : MethodName := ⟨RX5, "canMend", "(I)Z"⟩
abbrev cX5_laughing : ByteArray := prog_1_method_18_code
def yX5_laughing : MethodName := ⟨RX5, "laughing", "(II)I"⟩
abbrev cX5_bargain : ByteArray := prog_1_method_19_code
def yX5_bargain : MethodName := ⟨RX5, "bargain", "(Z)I"⟩
abbrev cX5_wouldShame : ByteArray := prog_1_method_20_code
def yX5_wouldShame : MethodName := ⟨RX5, "wouldShame", "(I)I"⟩
abbrev cX5_wouldLaugh : ByteArray := prog_1_method_21_code
def yX5_wouldLaugh : MethodName := ⟨RX5, "wouldLaugh", "(Z)I"⟩
abbrev cX5_nearest : ByteArray := prog_1_method_22_code
def yX5_nearest : MethodName := ⟨RX5, "nearest", "(I)I"⟩
abbrev cX5_calmIn : ByteArray := prog_1_method_23_code
def yX5_calmIn : MethodName := ⟨RX5, "calmIn", "(I)I"⟩
abbrev cX5_ashamed : ByteArray := prog_1_method_24_code
def yX5_ashamed : MethodName := ⟨RX5, "ashamed", "(I)I"⟩
abbrev cX5_worst : ByteArray := prog_1_method_25_code
def yX5_worst : MethodName := ⟨RX5, "worst", "(I)I"⟩
abbrev cX5_line : ByteArray := prog_1_method_26_code
def yX5_line : MethodName := ⟨RX5, "line", "(I)I"⟩
abbrev cX5_houseLine : ByteArray := prog_1_method_27_code
def yX5_houseLine : MethodName := ⟨RX5, "houseLine", "(I)I"⟩
abbrev cX5_character : ByteArray := prog_1_method_28_code
def yX5_character : MethodName := ⟨RX5, "character", "(I)C"⟩
abbrev cX5_append : ByteArray := prog_1_method_29_code
def yX5_append : MethodName := ⟨RX5, "append", "(C)I"⟩
abbrev cX5_run : ByteArray := prog_1_method_30_code
def yX5_run : MethodName := ⟨RX5, "run", "()I"⟩
abbrev cX5_errorPosition : ByteArray := prog_1_method_31_code
def yX5_errorPosition : MethodName := ⟨RX5, "errorPosition", "()I"⟩
abbrev cX5_refusal : ByteArray := prog_1_method_32_code
def yX5_refusal : MethodName := ⟨RX5, "refusal", "(ZZ)I"⟩
abbrev cX5_account : ByteArray := prog_1_method_33_code
def yX5_account : MethodName := ⟨RX5, "account", "(I)I"⟩
abbrev cX5_isWell : ByteArray := prog_1_method_34_code
def yX5_isWell : MethodName := ⟨RX5, "isWell", "()Z"⟩
abbrev cX5_meanShame : ByteArray := prog_1_method_35_code
def yX5_meanShame : MethodName := ⟨RX5, "meanShame", "()D"⟩
abbrev cX5_errorShare : ByteArray := prog_1_method_36_code
def yX5_errorShare : MethodName := ⟨RX5, "errorShare", "()F"⟩
abbrev cX5_undo : ByteArray := prog_1_method_37_code
def yX5_undo : MethodName := ⟨RX5, "undo", "()I"⟩
abbrev cX5_save : ByteArray := prog_1_method_38_code
def yX5_save : MethodName := ⟨RX5, "save", "()I"⟩
abbrev cX5_restore : ByteArray := prog_1_method_39_code
def yX5_restore : MethodName := ⟨RX5, "restore", "()I"⟩
abbrev cX5_settle : ByteArray := prog_1_method_40_code
def yX5_settle : MethodName := ⟨RX5, "settle", "(I)I"⟩
abbrev cX5_refuse : ByteArray := prog_1_method_41_code
def yX5_refuse : MethodName := ⟨RX5, "refuse", "(II)I"⟩
abbrev cX5_addHouse : ByteArray := prog_1_method_42_code
def yX5_addHouse : MethodName := ⟨RX5, "addHouse", "(I)I"⟩
abbrev cX5_addSheet : ByteArray := prog_1_method_43_code
def yX5_addSheet : MethodName := ⟨RX5, "addSheet", "(II)I"⟩
abbrev cX5_takeSheet : ByteArray := prog_1_method_44_code
def yX5_takeSheet : MethodName := ⟨RX5, "takeSheet", "(I)I"⟩
abbrev cX5_setLetter : ByteArray := prog_1_method_45_code
def yX5_setLetter : MethodName := ⟨RX5, "setLetter", "(IIC)I"⟩
abbrev cX5_sellLicence : ByteArray := prog_1_method_46_code
def yX5_sellLicence : MethodName := ⟨RX5, "sellLicence", "(II)I"⟩
abbrev cX5_takeFine : ByteArray := prog_1_method_47_code
def yX5_takeFine : MethodName := ⟨RX5, "takeFine", "(II)I"⟩
abbrev cX5_addReader : ByteArray := prog_1_method_48_code
def yX5_addReader : MethodName := ⟨RX5, "addReader", "(II)I"⟩
abbrev cX5_printEdition : ByteArray := prog_1_method_49_code
def yX5_printEdition : MethodName := ⟨RX5, "printEdition", "()I"⟩
abbrev cX5_carryOutAll : ByteArray := prog_1_method_50_code
def yX5_carryOutAll : MethodName := ⟨RX5, "carryOutAll", "()I"⟩
abbrev cX5_carryOutOrder : ByteArray := prog_1_method_51_code
def yX5_carryOutOrder : MethodName := ⟨RX5, "carryOutOrder", "()I"⟩
abbrev cX5_finesInThought : ByteArray := prog_1_method_52_code
def yX5_finesInThought : MethodName := ⟨RX5, "finesInThought", "(I)I"⟩
abbrev cX5_isSheetWell : ByteArray := prog_1_method_53_code
def yX5_isSheetWell : MethodName := ⟨RX5, "isSheetWell", "(I)Z"⟩
abbrev cX5_bestBargain : ByteArray := prog_1_method_54_code
def yX5_bestBargain : MethodName := ⟨RX5, "bestBargain", "()I"⟩
abbrev cX5_writePlace : ByteArray := prog_1_method_55_code
def yX5_writePlace : MethodName := ⟨RX5, "writePlace", "(II)V"⟩
abbrev cX5_lettersIn : ByteArray := prog_1_method_56_code
def yX5_lettersIn : MethodName := ⟨RX5, "lettersIn", "(I)I"⟩
abbrev cX5_letterOf : ByteArray := prog_1_method_57_code
def yX5_letterOf : MethodName := ⟨RX5, "letterOf", "(I)C"⟩
abbrev cX5_atMostKept : ByteArray := prog_1_method_58_code
def yX5_atMostKept : MethodName := ⟨RX5, "atMostKept", "(I)I"⟩
def RX6 : String := "ErrataPressModel"
def TX6 : u_T := fun k => match k with
  | 0 => ("ErrataPressModel", "g", "[I", true)
  | 1 => ("ErrataPressModel", "kept", "[I", true)
  | 2 => ("ErrataPressModel", "saved", "[I", true)
  | 3 => ("ErrataPressModel", "before", "[I", true)
  | 4 => ("ErrataPressModel", "isSaved", "Z", false)
  | 5 => ("ErrataPressModel", "changes", "I", false)
  | 6 => ("ErrataPressModel", "isWithin", "Z", false)
  | 7 => ("ErrataPressModel", "isRefused", "Z", false)
  | 8 => ("ErrataPressModel", "code", "I", false)
  | 9 => ("ErrataPressModel", "why", "I", false)
  | 10 => ("ErrataPressModel", "detail", "I", false)
  | 11 => ("ErrataPressModel", "whyBehind", "I", false)
  | 12 => ("ErrataPressModel", "detailBehind", "I", false)
  | 13 => ("ErrataPressModel", "input", "[I", true)
  | 14 => ("ErrataPressModel", "length", "I", false)
  | 15 => ("ErrataPressModel", "error", "I", false)
  | 16 => ("ErrataPressModel", "signs", "[C", true)
  | 17 => ("ErrataPressModel", "signMany", "I", false)
  | 18 => ("ErrataPressModel", "at", "I", false)
  | 19 => ("ErrataPressModel", "told", "[I", true)
  | _ => ("ErrataPressModel", "toldMany", "I", false)
def tyX6 : Nat → FieldType := fun k => match k with
  | 0 => .array .int
  | 1 => .array .int
  | 2 => .array .int
  | 3 => .array .int
  | 4 => .boolean
  | 5 => .int
  | 6 => .boolean
  | 7 => .boolean
  | 8 => .int
  | 9 => .int
  | 10 => .int
  | 11 => .int
  | 12 => .int
  | 13 => .array .int
  | 14 => .int
  | 15 => .int
  | 16 => .array .char
  | 17 => .int
  | 18 => .int
  | 19 => .array .int
  | _ => .int
abbrev wsX60 : List Cond := u_ws RX6 TX6 21
theorem nmX6 : ∀ a, a < 21 → ∀ b, b < 21 → a ≠ b → (TX6 a).2.1 ≠ (TX6 b).2.1 := by decide +kernel
theorem tyX6_ok : ∀ k, k < 21 → parseFieldDescriptor (TX6 k).2.2.1 = some (tyX6 k) := by decide +kernel
abbrev cX6_init : ByteArray := prog_8_method_1_code
def yX6_init : MethodName := ⟨RX6, "<init>", "()V"⟩
abbrev cX6_thrown : ByteArray := prog_8_method_2_code
def yX6_thrown : MethodName := ⟨RX6, "thrown", "()I"⟩
abbrev cX6_fails : ByteArray := prog_8_method_3_code
def yX6_fails : MethodName := ⟨RX6, "fails", "(I)Z"⟩
abbrev cX6_refuses : ByteArray := prog_8_method_4_code
def yX6_refuses : MethodName := ⟨RX6, "refuses", "(III)I"⟩
abbrev cX6_in : ByteArray := prog_8_method_5_code
def yX6_in : MethodName := ⟨RX6, "in", "(III)Z"⟩
abbrev cX6_atMost : ByteArray := prog_8_method_6_code
def yX6_atMost : MethodName := ⟨RX6, "atMost", "(II)I"⟩
abbrev cX6_apart : ByteArray := prog_8_method_7_code
def yX6_apart : MethodName := ⟨RX6, "apart", "(II)I"⟩
abbrev cX6_copies : ByteArray := prog_8_method_8_code
def yX6_copies : MethodName := ⟨RX6, "copies", "([II[II)V"⟩
abbrev cX6_keeps : ByteArray := prog_8_method_9_code
def yX6_keeps : MethodName := ⟨RX6, "keeps", "([I)V"⟩
abbrev cX6_by : ByteArray := prog_8_method_10_code
def yX6_by : MethodName := ⟨RX6, "by", "(II)I"⟩
abbrev cX6_adds : ByteArray := prog_8_method_11_code
def yX6_adds : MethodName := ⟨RX6, "adds", "(III)V"⟩
abbrev cX6_gets : ByteArray := prog_8_method_12_code
def yX6_gets : MethodName := ⟨RX6, "gets", "(III)V"⟩
abbrev cX6_of : ByteArray := prog_8_method_13_code
def yX6_of : MethodName := ⟨RX6, "of", "(II)I"⟩
abbrev cX6_lays : ByteArray := prog_8_method_14_code
def yX6_lays : MethodName := ⟨RX6, "lays", "(III)V"⟩
abbrev cX6_isHouse : ByteArray := prog_8_method_15_code
def yX6_isHouse : MethodName := ⟨RX6, "isHouse", "(I)Z"⟩
abbrev cX6_isSheet : ByteArray := prog_8_method_16_code
def yX6_isSheet : MethodName := ⟨RX6, "isSheet", "(I)Z"⟩
abbrev cX6_isPlace : ByteArray := prog_8_method_17_code
def yX6_isPlace : MethodName := ⟨RX6, "isPlace", "(II)Z"⟩
abbrev cX6_mark : ByteArray := prog_8_method_18_code
def yX6_mark : MethodName := ⟨RX6, "mark", "(II)I"⟩
abbrev cX6_bad : ByteArray := prog_8_method_19_code
def yX6_bad : MethodName := ⟨RX6, "bad", "(II)I"⟩
abbrev cX6_house : ByteArray := prog_8_method_20_code
def yX6_house : MethodName := ⟨RX6, "house", "(I)I"⟩
abbrev cX6_letters : ByteArray := prog_8_method_21_code
def yX6_letters : MethodName := ⟨RX6, "letters", "(I)I"⟩
abbrev cX6_sheet : ByteArray := prog_8_method_22_code
def yX6_sheet : MethodName := ⟨RX6, "sheet", "(II)I"⟩
abbrev cX6_take : ByteArray := prog_8_method_23_code
def yX6_take : MethodName := ⟨RX6, "take", "(I)I"⟩
abbrev cX6_misprints : ByteArray := prog_8_method_24_code
def yX6_misprints : MethodName := ⟨RX6, "misprints", "(II)I"⟩
abbrev cX6_set : ByteArray := prog_8_method_25_code
def yX6_set : MethodName := ⟨RX6, "set", "(IIC)I"⟩
abbrev cX6_ofHouse : ByteArray := prog_8_method_26_code
def yX6_ofHouse : MethodName := ⟨RX6, "ofHouse", "(II)I"⟩
abbrev cX6_price : ByteArray := prog_8_method_27_code
def yX6_price : MethodName := ⟨RX6, "price", "(I)I"⟩
abbrev cX6_isAshamed : ByteArray := prog_8_method_28_code
def yX6_isAshamed : MethodName := ⟨RX6, "isAshamed", "(I)Z"⟩
abbrev cX6_license : ByteArray := prog_8_method_29_code
def yX6_license : MethodName := ⟨RX6, "license", "(II)I"⟩
abbrev cX6_fineAt : ByteArray := prog_8_method_30_code
def yX6_fineAt : MethodName := ⟨RX6, "fineAt", "(II)I"⟩
abbrev cX6_correct : ByteArray := prog_8_method_31_code
def yX6_correct : MethodName := ⟨RX6, "correct", "(II)I"⟩
abbrev cX6_reader : ByteArray := prog_8_method_32_code
def yX6_reader : MethodName := ⟨RX6, "reader", "(II)I"⟩
abbrev cX6_laughers : ByteArray := prog_8_method_33_code
def yX6_laughers : MethodName := ⟨RX6, "laughers", "(II)I"⟩
abbrev cX6_laughs : ByteArray := prog_8_method_34_code
def yX6_laughs : MethodName := ⟨RX6, "laughs", "(II)I"⟩
abbrev cX6_printable : ByteArray := prog_8_method_35_code
def yX6_printable : MethodName := ⟨RX6, "printable", "()I"⟩
abbrev cX6_edition : ByteArray := prog_8_method_36_code
def yX6_edition : MethodName := ⟨RX6, "edition", "()I"⟩
abbrev cX6_day : ByteArray := prog_8_method_37_code
def yX6_day : MethodName := ⟨RX6, "day", "()I"⟩
abbrev cX6_sheetsOf : ByteArray := prog_8_method_38_code
def yX6_sheetsOf : MethodName := ⟨RX6, "sheetsOf", "(I)I"⟩
abbrev cX6_houseOf : ByteArray := prog_8_method_39_code
def yX6_houseOf : MethodName := ⟨RX6, "houseOf", "(II)I"⟩
abbrev cX6_badOf : ByteArray := prog_8_method_40_code
def yX6_badOf : MethodName := ⟨RX6, "badOf", "(I)I"⟩
abbrev cX6_sheetOf : ByteArray := prog_8_method_41_code
def yX6_sheetOf : MethodName := ⟨RX6, "sheetOf", "(II)I"⟩
abbrev cX6_isNowhere : ByteArray := prog_8_method_42_code
def yX6_isNowhere : MethodName := ⟨RX6, "isNowhere", "(II)Z"⟩
abbrev cX6_letterAt : ByteArray := prog_8_method_43_code
def yX6_letterAt : MethodName := ⟨RX6, "letterAt", "(IIZ)C"⟩
abbrev cX6_markAt : ByteArray := prog_8_method_44_code
def yX6_markAt : MethodName := ⟨RX6, "markAt", "(II)I"⟩
abbrev cX6_fine : ByteArray := prog_8_method_45_code
def yX6_fine : MethodName := ⟨RX6, "fine", "(IIZ)I"⟩
abbrev cX6_finesOf : ByteArray := prog_8_method_46_code
def yX6_finesOf : MethodName := ⟨RX6, "finesOf", "(I)I"⟩
abbrev cX6_fines : ByteArray := prog_8_method_47_code
def yX6_fines : MethodName := ⟨RX6, "fines", "(IZ)I"⟩
abbrev cX6_canMend : ByteArray := prog_8_method_48_code
def yX6_canMend : MethodName := ⟨RX6, "canMend", "(I)Z"⟩
abbrev cX6_laughing : ByteArray := prog_8_method_49_code
def yX6_laughing : MethodName := ⟨RX6, "laughing", "(II)I"⟩
abbrev cX6_canLicense : ByteArray := prog_8_method_50_code
def yX6_canLicense : MethodName := ⟨RX6, "canLicense", "(II)Z"⟩
abbrev cX6_bargain : ByteArray := prog_8_method_51_code
def yX6_bargain : MethodName := ⟨RX6, "bargain", "(Z)I"⟩
abbrev cX6_wouldShame : ByteArray := prog_8_method_52_code
def yX6_wouldShame : MethodName := ⟨RX6, "wouldShame", "(I)I"⟩
abbrev cX6_wouldLaugh : ByteArray := prog_8_method_53_code
def yX6_wouldLaugh : MethodName := ⟨RX6, "wouldLaugh", "(Z)I"⟩
abbrev cX6_far : ByteArray := prog_8_method_54_code
def yX6_far : MethodName := ⟨RX6, "far", "(II)I"⟩
abbrev cX6_nearest : ByteArray := prog_8_method_55_code
def yX6_nearest : MethodName := ⟨RX6, "nearest", "(I)I"⟩
abbrev cX6_calmIn : ByteArray := prog_8_method_56_code
def yX6_calmIn : MethodName := ⟨RX6, "calmIn", "(I)I"⟩
abbrev cX6_isMoreAshamed : ByteArray := prog_8_method_57_code
def yX6_isMoreAshamed : MethodName := ⟨RX6, "isMoreAshamed", "(II)Z"⟩
abbrev cX6_ashamed : ByteArray := prog_8_method_58_code
def yX6_ashamed : MethodName := ⟨RX6, "ashamed", "(I)I"⟩
abbrev cX6_isWorse : ByteArray := prog_8_method_59_code
def yX6_isWorse : MethodName := ⟨RX6, "isWorse", "(II)Z"⟩
abbrev cX6_worst : ByteArray := prog_8_method_60_code
def yX6_worst : MethodName := ⟨RX6, "worst", "(I)I"⟩
abbrev cX6_writes : ByteArray := prog_8_method_61_code
def yX6_writes : MethodName := ⟨RX6, "writes", "(I)V"⟩
abbrev cX6_writesNumber : ByteArray := prog_8_method_62_code
def yX6_writesNumber : MethodName := ⟨RX6, "writesNumber", "(I)V"⟩
abbrev cX6_line : ByteArray := prog_8_method_63_code
def yX6_line : MethodName := ⟨RX6, "line", "(I)I"⟩
abbrev cX6_houseLine : ByteArray := prog_8_method_64_code
def yX6_houseLine : MethodName := ⟨RX6, "houseLine", "(I)I"⟩
abbrev cX6_character : ByteArray := prog_8_method_65_code
def yX6_character : MethodName := ⟨RX6, "character", "(I)C"⟩
abbrev cX6_append : ByteArray := prog_8_method_66_code
def yX6_append : MethodName := ⟨RX6, "append", "(C)I"⟩
abbrev cX6_here : ByteArray := prog_8_method_67_code
def yX6_here : MethodName := ⟨RX6, "here", "()I"⟩
abbrev cX6_skips : ByteArray := prog_8_method_68_code
def yX6_skips : MethodName := ⟨RX6, "skips", "(I)Z"⟩
abbrev cX6_figures : ByteArray := prog_8_method_69_code
def yX6_figures : MethodName := ⟨RX6, "figures", "(II)Z"⟩
abbrev cX6_wordHere : ByteArray := prog_8_method_70_code
def yX6_wordHere : MethodName := ⟨RX6, "wordHere", "(III)Z"⟩
abbrev cX6_orderHere : ByteArray := prog_8_method_71_code
def yX6_orderHere : MethodName := ⟨RX6, "orderHere", "()Z"⟩
abbrev cX6_isText : ByteArray := prog_8_method_72_code
def yX6_isText : MethodName := ⟨RX6, "isText", "()Z"⟩
abbrev cX6_carries : ByteArray := prog_8_method_73_code
def yX6_carries : MethodName := ⟨RX6, "carries", "(I)I"⟩
abbrev cX6_refusesRun : ByteArray := prog_8_method_74_code
def yX6_refusesRun : MethodName := ⟨RX6, "refusesRun", "(I)I"⟩
abbrev cX6_run : ByteArray := prog_8_method_75_code
def yX6_run : MethodName := ⟨RX6, "run", "()I"⟩
abbrev cX6_errorPosition : ByteArray := prog_8_method_76_code
def yX6_errorPosition : MethodName := ⟨RX6, "errorPosition", "()I"⟩
abbrev cX6_refusal : ByteArray := prog_8_method_77_code
def yX6_refusal : MethodName := ⟨RX6, "refusal", "(ZZ)I"⟩
abbrev cX6_all : ByteArray := prog_8_method_78_code
def yX6_all : MethodName := ⟨RX6, "all", "(I)I"⟩
abbrev cX6_summed : ByteArray := prog_8_method_79_code
def yX6_summed : MethodName := ⟨RX6, "summed", "(I)I"⟩
abbrev cX6_account : ByteArray := prog_8_method_80_code
def yX6_account : MethodName := ⟨RX6, "account", "(I)I"⟩
abbrev cX6_isWell : ByteArray := prog_8_method_81_code
def yX6_isWell : MethodName := ⟨RX6, "isWell", "()Z"⟩
abbrev cX6_meanShame : ByteArray := prog_8_method_82_code
def yX6_meanShame : MethodName := ⟨RX6, "meanShame", "()D"⟩
abbrev cX6_errorShare : ByteArray := prog_8_method_83_code
def yX6_errorShare : MethodName := ⟨RX6, "errorShare", "()F"⟩
abbrev cX6_undo : ByteArray := prog_8_method_84_code
def yX6_undo : MethodName := ⟨RX6, "undo", "()I"⟩
abbrev cX6_save : ByteArray := prog_8_method_85_code
def yX6_save : MethodName := ⟨RX6, "save", "()I"⟩
abbrev cX6_restore : ByteArray := prog_8_method_86_code
def yX6_restore : MethodName := ⟨RX6, "restore", "()I"⟩
def RJx145de : String := "java/io/Serializable"
def TJx145de : u_T := fun k => match k with
  | _ => ("", "", "", false)
def tyJx145de : Nat → FieldType := fun k => match k with
  | _ => .int
abbrev wsJx145de0 : List Cond := u_ws RJx145de TJx145de 0
theorem nmJx145de : ∀ a, a < 0 → ∀ b, b < 0 → a ≠ b → (TJx145de a).2.1 ≠ (TJx145de b).2.1 := by decide +kernel
theorem tyJx145de_ok : ∀ k, k < 0 → parseFieldDescriptor (TJx145de k).2.2.1 = some (tyJx145de k) := by decide +kernel
def RJx00060 : String := "java/lang/ArrayIndexOutOfBoundsException"
def TJx00060 : u_T := fun k => match k with
  | 0 => ("java/lang/Throwable", "backtrace", "Ljava/lang/Object;", false)
  | 1 => ("java/lang/Throwable", "detailMessage", "Ljava/lang/String;", false)
  | 2 => ("java/lang/Throwable", "cause", "Ljava/lang/Throwable;", false)
  | 3 => ("java/lang/Throwable", "stackTrace", "[Ljava/lang/StackTraceElement;", false)
  | 4 => ("java/lang/Throwable", "depth", "I", false)
  | _ => ("java/lang/Throwable", "suppressedExceptions", "Ljava/util/List;", false)
def tyJx00060 : Nat → FieldType := fun k => match k with
  | 0 => .object "java/lang/Object"
  | 1 => .object "java/lang/String"
  | 2 => .object "java/lang/Throwable"
  | 3 => .array (.object "java/lang/StackTraceElement")
  | 4 => .int
  | _ => .object "java/util/List"
abbrev wsJx000600 : List Cond := u_ws RJx00060 TJx00060 6
theorem nmJx00060 : ∀ a, a < 6 → ∀ b, b < 6 → a ≠ b → (TJx00060 a).2.1 ≠ (TJx00060 b).2.1 := by decide +kernel
theorem tyJx00060_ok : ∀ k, k < 6 → parseFieldDescriptor (TJx00060 k).2.2.1 = some (tyJx00060 k) := by decide +kernel
abbrev cJx00060_init_a7421 : ByteArray := prog_11_method_2_code
def yJx00060_init_a7421 : MethodName := ⟨RJx00060, "<init>", "(Ljava/lang/String;)V"⟩
def RJ6 : String := "java/lang/Integer"
def TJ6 : u_T := fun k => match k with
  | _ => ("", "", "", false)
def tyJ6 : Nat → FieldType := fun k => match k with
  | _ => .int
abbrev wsJ60 : List Cond := u_ws RJ6 TJ6 0
theorem nmJ6 : ∀ a, a < 0 → ∀ b, b < 0 → a ≠ b → (TJ6 a).2.1 ≠ (TJ6 b).2.1 := by decide +kernel
theorem tyJ6_ok : ∀ k, k < 0 → parseFieldDescriptor (TJ6 k).2.2.1 = some (tyJ6 k) := by decide +kernel
abbrev cJ6_bitCount_0f7a4 : ByteArray := prog_16_method_49_code
def yJ6_bitCount_0f7a4 : MethodName := ⟨RJ6, "bitCount", "(I)I"⟩
def RJ9 : String := "java/lang/Math"
def TJ9 : u_T := fun k => match k with
  | _ => ("", "", "", false)
def tyJ9 : Nat → FieldType := fun k => match k with
  | _ => .int
abbrev wsJ90 : List Cond := u_ws RJ9 TJ9 0
theorem nmJ9 : ∀ a, a < 0 → ∀ b, b < 0 → a ≠ b → (TJ9 a).2.1 ≠ (TJ9 b).2.1 := by decide +kernel
theorem tyJ9_ok : ∀ k, k < 0 → parseFieldDescriptor (TJ9 k).2.2.1 = some (tyJ9 k) := by decide +kernel
abbrev cJ9_abs_0f7a4 : ByteArray := prog_17_method_59_code
def yJ9_abs_0f7a4 : MethodName := ⟨RJ9, "abs", "(I)I"⟩
abbrev cJ9_max_7cf53 : ByteArray := prog_17_method_65_code
def yJ9_max_7cf53 : MethodName := ⟨RJ9, "max", "(II)I"⟩
abbrev cJ9_min_7cf53 : ByteArray := prog_17_method_69_code
def yJ9_min_7cf53 : MethodName := ⟨RJ9, "min", "(II)I"⟩
def RJ0 : String := "java/lang/String"
def TJ0 : u_T := fun k => match k with
  | 0 => ("java/lang/String", "value", "[B", true)
  | _ => ("java/lang/String", "coder", "B", true)
def tyJ0 : Nat → FieldType := fun k => match k with
  | 0 => .array .byte
  | _ => .byte
abbrev wsJ00 : List Cond := u_ws RJ0 TJ0 2
theorem nmJ0 : ∀ a, a < 2 → ∀ b, b < 2 → a ≠ b → (TJ0 a).2.1 ≠ (TJ0 b).2.1 := by decide +kernel
theorem tyJ0_ok : ∀ k, k < 2 → parseFieldDescriptor (TJ0 k).2.2.1 = some (tyJ0 k) := by decide +kernel
def RJ10 : String := "java/lang/System"
def TJ10 : u_T := fun k => match k with
  | _ => ("", "", "", false)
def tyJ10 : Nat → FieldType := fun k => match k with
  | _ => .int
abbrev wsJ100 : List Cond := u_ws RJ10 TJ10 0
theorem nmJ10 : ∀ a, a < 0 → ∀ b, b < 0 → a ≠ b → (TJ10 a).2.1 ≠ (TJ10 b).2.1 := by decide +kernel
theorem tyJ10_ok : ∀ k, k < 0 → parseFieldDescriptor (TJ10 k).2.2.1 = some (tyJ10 k) := by decide +kernel
def RL : String := "ErrataPressLaw"
abbrev cL_house : ByteArray := method_3_code
def yL_house : MethodName := ⟨RL, "house", "(LErrataPress;I[J)I"⟩
abbrev cL_sheet : ByteArray := method_4_code
def yL_sheet : MethodName := ⟨RL, "sheet", "(LErrataPress;II[J)I"⟩
abbrev cL_take : ByteArray := method_5_code
def yL_take : MethodName := ⟨RL, "take", "(LErrataPress;I[J)I"⟩
abbrev cL_set : ByteArray := method_6_code
def yL_set : MethodName := ⟨RL, "set", "(LErrataPress;IIC[J)I"⟩
abbrev cL_license : ByteArray := method_7_code
def yL_license : MethodName := ⟨RL, "license", "(LErrataPress;II[J)I"⟩
abbrev cL_correct : ByteArray := method_8_code
def yL_correct : MethodName := ⟨RL, "correct", "(LErrataPress;II[J)I"⟩
abbrev cL_reader : ByteArray := method_9_code
def yL_reader : MethodName := ⟨RL, "reader", "(LErrataPress;II[J)I"⟩
abbrev cL_edition : ByteArray := method_10_code
def yL_edition : MethodName := ⟨RL, "edition", "(LErrataPress;[J)I"⟩
abbrev cL_houseOf : ByteArray := method_11_code
def yL_houseOf : MethodName := ⟨RL, "houseOf", "(LErrataPress;II[J)I"⟩
abbrev cL_sheetOf : ByteArray := method_12_code
def yL_sheetOf : MethodName := ⟨RL, "sheetOf", "(LErrataPress;II[J)I"⟩
abbrev cL_letterAt : ByteArray := method_13_code
def yL_letterAt : MethodName := ⟨RL, "letterAt", "(LErrataPress;IIZ[J)I"⟩
abbrev cL_markAt : ByteArray := method_14_code
def yL_markAt : MethodName := ⟨RL, "markAt", "(LErrataPress;II[J)I"⟩
abbrev cL_fine : ByteArray := method_15_code
def yL_fine : MethodName := ⟨RL, "fine", "(LErrataPress;IIZ[J)I"⟩
abbrev cL_fines : ByteArray := method_16_code
def yL_fines : MethodName := ⟨RL, "fines", "(LErrataPress;IZ[J)I"⟩
abbrev cL_canMend : ByteArray := method_17_code
def yL_canMend : MethodName := ⟨RL, "canMend", "(LErrataPress;I[J)I"⟩
abbrev cL_laughing : ByteArray := method_18_code
def yL_laughing : MethodName := ⟨RL, "laughing", "(LErrataPress;II[J)I"⟩
abbrev cL_bargain : ByteArray := method_19_code
def yL_bargain : MethodName := ⟨RL, "bargain", "(LErrataPress;Z[J)I"⟩
abbrev cL_wouldShame : ByteArray := method_20_code
def yL_wouldShame : MethodName := ⟨RL, "wouldShame", "(LErrataPress;I[J)I"⟩
abbrev cL_nearest : ByteArray := method_21_code
def yL_nearest : MethodName := ⟨RL, "nearest", "(LErrataPress;I[J)I"⟩
abbrev cL_calmIn : ByteArray := method_22_code
def yL_calmIn : MethodName := ⟨RL, "calmIn", "(LErrataPress;I[J)I"⟩
abbrev cL_ashamed : ByteArray := method_23_code
def yL_ashamed : MethodName := ⟨RL, "ashamed", "(LErrataPress;I[J)I"⟩
abbrev cL_worst : ByteArray := method_24_code
def yL_worst : MethodName := ⟨RL, "worst", "(LErrataPress;I[J)I"⟩
abbrev cL_line : ByteArray := method_25_code
def yL_line : MethodName := ⟨RL, "line", "(LErrataPress;I[J)I"⟩
abbrev cL_houseLine : ByteArray := method_26_code
def yL_houseLine : MethodName := ⟨RL, "houseLine", "(LErrataPress;I[J)I"⟩
abbrev cL_character : ByteArray := method_27_code
def yL_character : MethodName := ⟨RL, "character", "(LErrataPress;I[J)I"⟩
abbrev cL_append : ByteArray := method_28_code
def yL_append : MethodName := ⟨RL, "append", "(LErrataPress;C[J)I"⟩
abbrev cL_run : ByteArray := method_29_code
def yL_run : MethodName := ⟨RL, "run", "(LErrataPress;[J)I"⟩
abbrev cL_refusal : ByteArray := method_30_code
def yL_refusal : MethodName := ⟨RL, "refusal", "(LErrataPress;ZZ[J)I"⟩
abbrev cL_account : ByteArray := method_31_code
def yL_account : MethodName := ⟨RL, "account", "(LErrataPress;I[J)I"⟩
abbrev cL_meanShame : ByteArray := method_32_code
def yL_meanShame : MethodName := ⟨RL, "meanShame", "(LErrataPress;[D)I"⟩
abbrev cL_errorShare : ByteArray := method_33_code
def yL_errorShare : MethodName := ⟨RL, "errorShare", "(LErrataPress;[D)I"⟩
abbrev cL_undo : ByteArray := method_34_code
def yL_undo : MethodName := ⟨RL, "undo", "(LErrataPress;[J)I"⟩
abbrev cL_restore : ByteArray := method_35_code
def yL_restore : MethodName := ⟨RL, "restore", "(LErrataPress;[J)I"⟩
abbrev cL_law : ByteArray := code
def yL_law : MethodName := ⟨RL, "law", "([I)Z"⟩
theorem inX0 : ∀ w ∈ wsX00, w ∈ lw_tbl := by decide +kernel
theorem inX1 : ∀ w ∈ wsX10, w ∈ lw_tbl := by decide +kernel
theorem inX2 : ∀ w ∈ wsX20, w ∈ lw_tbl := by decide +kernel
theorem inX3 : ∀ w ∈ wsX30, w ∈ lw_tbl := by decide +kernel
theorem inX4 : ∀ w ∈ wsX40, w ∈ lw_tbl := by decide +kernel
theorem inX5 : ∀ w ∈ wsX50, w ∈ lw_tbl := by decide +kernel
theorem inX6 : ∀ w ∈ wsX60, w ∈ lw_tbl := by decide +kernel
theorem inJx145de : ∀ w ∈ wsJx145de0, w ∈ lw_tbl := by decide +kernel
theorem inJx00060 : ∀ w ∈ wsJx000600, w ∈ lw_tbl := by decide +kernel
theorem inJ6 : ∀ w ∈ wsJ60, w ∈ lw_tbl := by decide +kernel
theorem inJ9 : ∀ w ∈ wsJ90, w ∈ lw_tbl := by decide +kernel
theorem inJ0 : ∀ w ∈ wsJ00, w ∈ lw_tbl := by decide +kernel
theorem inJ10 : ∀ w ∈ wsJ100, w ∈ lw_tbl := by decide +kernel
abbrev vwCl : List vw_C := [(RJ0, TJ0, 2), (RJx00060, TJx00060, 6), (RX0, TX0, 3), (RX1, TX1, 2), (RX2, TX2, 7), (RX3, TX3, 4), (RX4, TX4, 18), (RX5, TX5, 10), (RX6, TX6, 21)]
theorem wsL_law_x1 : ∀ w ∈ (vx_atS RX5 103 "java/lang/IndexOutOfBoundsException" ["java/lang/RuntimeException", "java/lang/Exception"]).filter goodWord, w ∈ lw_tbl := by decide +kernel
theorem wsL_law_x2 : ∀ w ∈ (vx_atS RX5 110 "java/lang/IllegalArgumentException" ["java/lang/RuntimeException", "java/lang/Exception"]).filter goodWord, w ∈ lw_tbl := by decide +kernel
theorem wsL_law_x3 : ∀ w ∈ (vx_atS RX5 252 "java/lang/UnsupportedOperationException" ["java/lang/RuntimeException", "java/lang/Exception"]).filter goodWord, w ∈ lw_tbl := by decide +kernel
theorem wsL_law_x5 : ∀ w ∈ (vx_atS RX5 240 "java/lang/IllegalStateException" ["java/lang/RuntimeException", "java/lang/Exception"]).filter goodWord, w ∈ lw_tbl := by decide +kernel
theorem wsL_law_x6 : ∀ w ∈ (vx_atS RX5 287 "java/lang/ArithmeticException" ["java/lang/RuntimeException", "java/lang/Exception"]).filter goodWord, w ∈ lw_tbl := by decide +kernel
end
section
theorem dX0_init_0 : decode cX0_init 0 = .ok (.aload_n 0, 1) := by decide +kernel
theorem dX0_init_1 : decode cX0_init 1 = .ok (.invokespecial 3, 3) := by decide +kernel
theorem dX0_init_4 : decode cX0_init 4 = .ok (.aload_n 0, 1) := by decide +kernel
theorem dX0_init_5 : decode cX0_init 5 = .ok (.bipush 8, 2) := by decide +kernel
theorem dX0_init_7 : decode cX0_init 7 = .ok (.anewarray 9, 3) := by decide +kernel
theorem dX0_init_10 : decode cX0_init 10 = .ok (.putfield 11, 3) := by decide +kernel
theorem dX0_init_13 : decode cX0_init 13 = .ok (.iconst 0, 1) := by decide +kernel
theorem dX0_init_14 : decode cX0_init 14 = .ok (.istore_n 1, 1) := by decide +kernel
theorem dX0_init_15 : decode cX0_init 15 = .ok (.iload_n 1, 1) := by decide +kernel
theorem dX0_init_16 : decode cX0_init 16 = .ok (.bipush 8, 2) := by decide +kernel
theorem dX0_init_18 : decode cX0_init 18 = .ok (.if_icmp .ge 22, 3) := by decide +kernel
theorem dX0_init_21 : decode cX0_init 21 = .ok (.aload_n 0, 1) := by decide +kernel
theorem dX0_init_22 : decode cX0_init 22 = .ok (.getfield 11, 3) := by decide +kernel
theorem dX0_init_25 : decode cX0_init 25 = .ok (.iload_n 1, 1) := by decide +kernel
theorem dX0_init_26 : decode cX0_init 26 = .ok (.new 9, 3) := by decide +kernel
theorem dX0_init_29 : decode cX0_init 29 = .ok (.dup, 1) := by decide +kernel
theorem dX0_init_30 : decode cX0_init 30 = .ok (.invokespecial 17, 3) := by decide +kernel
theorem dX0_init_33 : decode cX0_init 33 = .ok (.aastore, 1) := by decide +kernel
theorem dX0_init_34 : decode cX0_init 34 = .ok (.iinc 1 1, 3) := by decide +kernel
theorem dX0_init_37 : decode cX0_init 37 = .ok (.goto (-22), 3) := by decide +kernel
theorem dX0_init_40 : decode cX0_init 40 = .ok (.return_, 1) := by decide +kernel
theorem dX0_keep_0 : decode cX0_keep 0 = .ok (.aload_n 0, 1) := by decide +kernel
theorem dX0_keep_1 : decode cX0_keep 1 = .ok (.getfield 11, 3) := by decide +kernel
theorem dX0_keep_4 : decode cX0_keep 4 = .ok (.aload_n 0, 1) := by decide +kernel
theorem dX0_keep_5 : decode cX0_keep 5 = .ok (.getfield 18, 3) := by decide +kernel
theorem dX0_keep_8 : decode cX0_keep 8 = .ok (.aaload, 1) := by decide +kernel
theorem dX0_keep_9 : decode cX0_keep 9 = .ok (.aload_n 1, 1) := by decide +kernel
theorem dX0_keep_10 : decode cX0_keep 10 = .ok (.invokevirtual 22, 3) := by decide +kernel
theorem dX0_keep_13 : decode cX0_keep 13 = .ok (.aload_n 0, 1) := by decide +kernel
theorem dX0_keep_14 : decode cX0_keep 14 = .ok (.aload_n 0, 1) := by decide +kernel
theorem dX0_keep_15 : decode cX0_keep 15 = .ok (.getfield 18, 3) := by decide +kernel
theorem dX0_keep_18 : decode cX0_keep 18 = .ok (.iconst 1, 1) := by decide +kernel
theorem dX0_keep_19 : decode cX0_keep 19 = .ok (.iadd, 1) := by decide +kernel
theorem dX0_keep_20 : decode cX0_keep 20 = .ok (.bipush 8, 2) := by decide +kernel
theorem dX0_keep_22 : decode cX0_keep 22 = .ok (.irem, 1) := by decide +kernel
theorem dX0_keep_23 : decode cX0_keep 23 = .ok (.putfield 18, 3) := by decide +kernel
theorem dX0_keep_26 : decode cX0_keep 26 = .ok (.aload_n 0, 1) := by decide +kernel
theorem dX0_keep_27 : decode cX0_keep 27 = .ok (.bipush 8, 2) := by decide +kernel
theorem dX0_keep_29 : decode cX0_keep 29 = .ok (.aload_n 0, 1) := by decide +kernel
theorem dX0_keep_30 : decode cX0_keep 30 = .ok (.getfield 26, 3) := by decide +kernel
theorem dX0_keep_33 : decode cX0_keep 33 = .ok (.iconst 1, 1) := by decide +kernel
theorem dX0_keep_34 : decode cX0_keep 34 = .ok (.iadd, 1) := by decide +kernel
theorem dX0_keep_35 : decode cX0_keep 35 = .ok (.invokestatic 29, 3) := by decide +kernel
theorem dX0_keep_38 : decode cX0_keep 38 = .ok (.putfield 26, 3) := by decide +kernel
theorem dX0_keep_41 : decode cX0_keep 41 = .ok (.return_, 1) := by decide +kernel
theorem dX0_takeBack_0 : decode cX0_takeBack 0 = .ok (.aload_n 0, 1) := by decide +kernel
theorem dX0_takeBack_1 : decode cX0_takeBack 1 = .ok (.aload_n 0, 1) := by decide +kernel
theorem dX0_takeBack_2 : decode cX0_takeBack 2 = .ok (.getfield 18, 3) := by decide +kernel
theorem dX0_takeBack_5 : decode cX0_takeBack 5 = .ok (.bipush 8, 2) := by decide +kernel
theorem dX0_takeBack_7 : decode cX0_takeBack 7 = .ok (.iadd, 1) := by decide +kernel
theorem dX0_takeBack_8 : decode cX0_takeBack 8 = .ok (.iconst 1, 1) := by decide +kernel
theorem dX0_takeBack_9 : decode cX0_takeBack 9 = .ok (.isub, 1) := by decide +kernel
theorem dX0_takeBack_10 : decode cX0_takeBack 10 = .ok (.bipush 8, 2) := by decide +kernel
theorem dX0_takeBack_12 : decode cX0_takeBack 12 = .ok (.irem, 1) := by decide +kernel
theorem dX0_takeBack_13 : decode cX0_takeBack 13 = .ok (.putfield 18, 3) := by decide +kernel
theorem dX0_takeBack_16 : decode cX0_takeBack 16 = .ok (.aload_n 1, 1) := by decide +kernel
theorem dX0_takeBack_17 : decode cX0_takeBack 17 = .ok (.aload_n 0, 1) := by decide +kernel
theorem dX0_takeBack_18 : decode cX0_takeBack 18 = .ok (.getfield 11, 3) := by decide +kernel
theorem dX0_takeBack_21 : decode cX0_takeBack 21 = .ok (.aload_n 0, 1) := by decide +kernel
theorem dX0_takeBack_22 : decode cX0_takeBack 22 = .ok (.getfield 18, 3) := by decide +kernel
theorem dX0_takeBack_25 : decode cX0_takeBack 25 = .ok (.aaload, 1) := by decide +kernel
theorem dX0_takeBack_26 : decode cX0_takeBack 26 = .ok (.invokevirtual 22, 3) := by decide +kernel
theorem dX0_takeBack_29 : decode cX0_takeBack 29 = .ok (.aload_n 0, 1) := by decide +kernel
theorem dX0_takeBack_30 : decode cX0_takeBack 30 = .ok (.dup, 1) := by decide +kernel
theorem dX0_takeBack_31 : decode cX0_takeBack 31 = .ok (.getfield 26, 3) := by decide +kernel
theorem dX0_takeBack_34 : decode cX0_takeBack 34 = .ok (.iconst 1, 1) := by decide +kernel
theorem dX0_takeBack_35 : decode cX0_takeBack 35 = .ok (.isub, 1) := by decide +kernel
theorem dX0_takeBack_36 : decode cX0_takeBack 36 = .ok (.putfield 26, 3) := by decide +kernel
theorem dX0_takeBack_39 : decode cX0_takeBack 39 = .ok (.return_, 1) := by decide +kernel
theorem dX1_init_0 : decode cX1_init 0 = .ok (.aload_n 0, 1) := by decide +kernel
theorem dX1_init_1 : decode cX1_init 1 = .ok (.invokespecial 3, 3) := by decide +kernel
theorem dX1_init_4 : decode cX1_init 4 = .ok (.aload_n 0, 1) := by decide +kernel
theorem dX1_init_5 : decode cX1_init 5 = .ok (.bipush 18, 2) := by decide +kernel
theorem dX1_init_7 : decode cX1_init 7 = .ok (.newarray .char, 2) := by decide +kernel
theorem dX1_init_9 : decode cX1_init 9 = .ok (.putfield 9, 3) := by decide +kernel
theorem dX1_init_12 : decode cX1_init 12 = .ok (.return_, 1) := by decide +kernel
theorem dX1_put_0 : decode cX1_put 0 = .ok (.aload_n 0, 1) := by decide +kernel
theorem dX1_put_1 : decode cX1_put 1 = .ok (.getfield 15, 3) := by decide +kernel
theorem dX1_put_4 : decode cX1_put 4 = .ok (.bipush 18, 2) := by decide +kernel
theorem dX1_put_6 : decode cX1_put 6 = .ok (.if_icmp .ge 23, 3) := by decide +kernel
theorem dX1_put_9 : decode cX1_put 9 = .ok (.aload_n 0, 1) := by decide +kernel
theorem dX1_put_10 : decode cX1_put 10 = .ok (.getfield 9, 3) := by decide +kernel
theorem dX1_put_13 : decode cX1_put 13 = .ok (.aload_n 0, 1) := by decide +kernel
theorem dX1_put_14 : decode cX1_put 14 = .ok (.getfield 15, 3) := by decide +kernel
theorem dX1_put_17 : decode cX1_put 17 = .ok (.iload_n 1, 1) := by decide +kernel
theorem dX1_put_18 : decode cX1_put 18 = .ok (.castore, 1) := by decide +kernel
theorem dX1_put_19 : decode cX1_put 19 = .ok (.aload_n 0, 1) := by decide +kernel
theorem dX1_put_20 : decode cX1_put 20 = .ok (.dup, 1) := by decide +kernel
theorem dX1_put_21 : decode cX1_put 21 = .ok (.getfield 15, 3) := by decide +kernel
theorem dX1_put_24 : decode cX1_put 24 = .ok (.iconst 1, 1) := by decide +kernel
theorem dX1_put_25 : decode cX1_put 25 = .ok (.iadd, 1) := by decide +kernel
theorem dX1_put_26 : decode cX1_put 26 = .ok (.putfield 15, 3) := by decide +kernel
theorem dX1_put_29 : decode cX1_put 29 = .ok (.return_, 1) := by decide +kernel
theorem dX1_putNumber_0 : decode cX1_putNumber 0 = .ok (.iload_n 1, 1) := by decide +kernel
theorem dX1_putNumber_1 : decode cX1_putNumber 1 = .ok (.bipush 10, 2) := by decide +kernel
theorem dX1_putNumber_3 : decode cX1_putNumber 3 = .ok (.if_icmp .lt 15, 3) := by decide +kernel
theorem dX1_putNumber_6 : decode cX1_putNumber 6 = .ok (.aload_n 0, 1) := by decide +kernel
theorem dX1_putNumber_7 : decode cX1_putNumber 7 = .ok (.bipush 48, 2) := by decide +kernel
theorem dX1_putNumber_9 : decode cX1_putNumber 9 = .ok (.iload_n 1, 1) := by decide +kernel
theorem dX1_putNumber_10 : decode cX1_putNumber 10 = .ok (.bipush 10, 2) := by decide +kernel
theorem dX1_putNumber_12 : decode cX1_putNumber 12 = .ok (.idiv, 1) := by decide +kernel
theorem dX1_putNumber_13 : decode cX1_putNumber 13 = .ok (.iadd, 1) := by decide +kernel
theorem dX1_putNumber_14 : decode cX1_putNumber 14 = .ok (.i2c, 1) := by decide +kernel
theorem dX1_putNumber_15 : decode cX1_putNumber 15 = .ok (.invokevirtual 19, 3) := by decide +kernel
theorem dX1_putNumber_18 : decode cX1_putNumber 18 = .ok (.aload_n 0, 1) := by decide +kernel
theorem dX1_putNumber_19 : decode cX1_putNumber 19 = .ok (.bipush 48, 2) := by decide +kernel
theorem dX1_putNumber_21 : decode cX1_putNumber 21 = .ok (.iload_n 1, 1) := by decide +kernel
theorem dX1_putNumber_22 : decode cX1_putNumber 22 = .ok (.bipush 10, 2) := by decide +kernel
theorem dX1_putNumber_24 : decode cX1_putNumber 24 = .ok (.irem, 1) := by decide +kernel
theorem dX1_putNumber_25 : decode cX1_putNumber 25 = .ok (.iadd, 1) := by decide +kernel
theorem dX1_putNumber_26 : decode cX1_putNumber 26 = .ok (.i2c, 1) := by decide +kernel
theorem dX1_putNumber_27 : decode cX1_putNumber 27 = .ok (.invokevirtual 19, 3) := by decide +kernel
theorem dX1_putNumber_30 : decode cX1_putNumber 30 = .ok (.return_, 1) := by decide +kernel
theorem dX2_init_0 : decode cX2_init 0 = .ok (.aload_n 0, 1) := by decide +kernel
theorem dX2_init_1 : decode cX2_init 1 = .ok (.invokespecial 3, 3) := by decide +kernel
theorem dX2_init_4 : decode cX2_init 4 = .ok (.aload_n 0, 1) := by decide +kernel
theorem dX2_init_5 : decode cX2_init 5 = .ok (.bipush 60, 2) := by decide +kernel
theorem dX2_init_7 : decode cX2_init 7 = .ok (.newarray .char, 2) := by decide +kernel
theorem dX2_init_9 : decode cX2_init 9 = .ok (.putfield 9, 3) := by decide +kernel
theorem dX2_init_12 : decode cX2_init 12 = .ok (.return_, 1) := by decide +kernel
theorem dX2_findError_0 : decode cX2_findError 0 = .ok (.aload_n 0, 1) := by decide +kernel
theorem dX2_findError_1 : decode cX2_findError 1 = .ok (.iconst 0, 1) := by decide +kernel
theorem dX2_findError_2 : decode cX2_findError 2 = .ok (.putfield 15, 3) := by decide +kernel
theorem dX2_findError_5 : decode cX2_findError 5 = .ok (.iconst 0, 1) := by decide +kernel
theorem dX2_findError_6 : decode cX2_findError 6 = .ok (.istore_n 1, 1) := by decide +kernel
theorem dX2_findError_7 : decode cX2_findError 7 = .ok (.iload_n 1, 1) := by decide +kernel
theorem dX2_findError_8 : decode cX2_findError 8 = .ok (.bipush 60, 2) := by decide +kernel
theorem dX2_findError_10 : decode cX2_findError 10 = .ok (.if_icmp .ge 34, 3) := by decide +kernel
theorem dX2_findError_13 : decode cX2_findError 13 = .ok (.aload_n 0, 1) := by decide +kernel
theorem dX2_findError_14 : decode cX2_findError 14 = .ok (.invokevirtual 19, 3) := by decide +kernel
theorem dX2_findError_17 : decode cX2_findError 17 = .ok (.ifCond .ne 8, 3) := by decide +kernel
theorem dX2_findError_20 : decode cX2_findError 20 = .ok (.aload_n 0, 1) := by decide +kernel
theorem dX2_findError_21 : decode cX2_findError 21 = .ok (.getfield 15, 3) := by decide +kernel
theorem dX2_findError_24 : decode cX2_findError 24 = .ok (.ireturn, 1) := by decide +kernel
theorem dX2_findError_25 : decode cX2_findError 25 = .ok (.aload_n 0, 1) := by decide +kernel
theorem dX2_findError_26 : decode cX2_findError 26 = .ok (.getfield 15, 3) := by decide +kernel
theorem dX2_findError_29 : decode cX2_findError 29 = .ok (.aload_n 0, 1) := by decide +kernel
theorem dX2_findError_30 : decode cX2_findError 30 = .ok (.getfield 23, 3) := by decide +kernel
theorem dX2_findError_33 : decode cX2_findError 33 = .ok (.if_icmp .lt 5, 3) := by decide +kernel
theorem dX2_findError_36 : decode cX2_findError 36 = .ok (.iconst (-1), 1) := by decide +kernel
theorem dX2_findError_37 : decode cX2_findError 37 = .ok (.ireturn, 1) := by decide +kernel
theorem dX2_findError_38 : decode cX2_findError 38 = .ok (.iinc 1 1, 3) := by decide +kernel
theorem dX2_findError_41 : decode cX2_findError 41 = .ok (.goto (-34), 3) := by decide +kernel
theorem dX2_findError_44 : decode cX2_findError 44 = .ok (.aload_n 0, 1) := by decide +kernel
theorem dX2_findError_45 : decode cX2_findError 45 = .ok (.getfield 15, 3) := by decide +kernel
theorem dX2_findError_48 : decode cX2_findError 48 = .ok (.ireturn, 1) := by decide +kernel
theorem dX2_readNext_0 : decode cX2_readNext 0 = .ok (.aload_n 0, 1) := by decide +kernel
theorem dX2_readNext_1 : decode cX2_readNext 1 = .ok (.getfield 15, 3) := by decide +kernel
theorem dX2_readNext_4 : decode cX2_readNext 4 = .ok (.ifCond .le 14, 3) := by decide +kernel
theorem dX2_readNext_7 : decode cX2_readNext 7 = .ok (.aload_n 0, 1) := by decide +kernel
theorem dX2_readNext_8 : decode cX2_readNext 8 = .ok (.bipush 59, 2) := by decide +kernel
theorem dX2_readNext_10 : decode cX2_readNext 10 = .ok (.invokevirtual 26, 3) := by decide +kernel
theorem dX2_readNext_13 : decode cX2_readNext 13 = .ok (.ifCond .ne 5, 3) := by decide +kernel
theorem dX2_readNext_16 : decode cX2_readNext 16 = .ok (.iconst 0, 1) := by decide +kernel
theorem dX2_readNext_17 : decode cX2_readNext 17 = .ok (.ireturn, 1) := by decide +kernel
theorem dX2_readNext_18 : decode cX2_readNext 18 = .ok (.aload_n 0, 1) := by decide +kernel
theorem dX2_readNext_19 : decode cX2_readNext 19 = .ok (.getfield 15, 3) := by decide +kernel
theorem dX2_readNext_22 : decode cX2_readNext 22 = .ok (.aload_n 0, 1) := by decide +kernel
theorem dX2_readNext_23 : decode cX2_readNext 23 = .ok (.getfield 23, 3) := by decide +kernel
theorem dX2_readNext_26 : decode cX2_readNext 26 = .ok (.if_icmp .ge 12, 3) := by decide +kernel
theorem dX2_readNext_29 : decode cX2_readNext 29 = .ok (.aload_n 0, 1) := by decide +kernel
theorem dX2_readNext_30 : decode cX2_readNext 30 = .ok (.getfield 15, 3) := by decide +kernel
theorem dX2_readNext_33 : decode cX2_readNext 33 = .ok (.bipush 60, 2) := by decide +kernel
theorem dX2_readNext_35 : decode cX2_readNext 35 = .ok (.if_icmp .lt 5, 3) := by decide +kernel
theorem dX2_readNext_38 : decode cX2_readNext 38 = .ok (.iconst 0, 1) := by decide +kernel
theorem dX2_readNext_39 : decode cX2_readNext 39 = .ok (.ireturn, 1) := by decide +kernel
theorem dX2_readNext_40 : decode cX2_readNext 40 = .ok (.aload_n 0, 1) := by decide +kernel
theorem dX2_readNext_41 : decode cX2_readNext 41 = .ok (.aload_n 0, 1) := by decide +kernel
theorem dX2_readNext_42 : decode cX2_readNext 42 = .ok (.getfield 9, 3) := by decide +kernel
theorem dX2_readNext_45 : decode cX2_readNext 45 = .ok (.aload_n 0, 1) := by decide +kernel
theorem dX2_readNext_46 : decode cX2_readNext 46 = .ok (.getfield 15, 3) := by decide +kernel
theorem dX2_readNext_49 : decode cX2_readNext 49 = .ok (.caload, 1) := by decide +kernel
theorem dX2_readNext_50 : decode cX2_readNext 50 = .ok (.putfield 30, 3) := by decide +kernel
theorem dX2_readNext_53 : decode cX2_readNext 53 = .ok (.aload_n 0, 1) := by decide +kernel
theorem dX2_readNext_54 : decode cX2_readNext 54 = .ok (.invokevirtual 34, 3) := by decide +kernel
theorem dX2_readNext_57 : decode cX2_readNext 57 = .ok (.ireturn, 1) := by decide +kernel
theorem dX2_readOrder_0 : decode cX2_readOrder 0 = .ok (.aload_n 0, 1) := by decide +kernel
theorem dX2_readOrder_1 : decode cX2_readOrder 1 = .ok (.getfield 30, 3) := by decide +kernel
theorem dX2_readOrder_4 : decode cX2_readOrder 4 = .ok (.tableswitch 252 99 120 #[195, 240, 240, 252, 252, 104, 252, 252, 252, 195, 158, 252, 252, 252, 252, 195, 119, 252, 252, 252, 252, 225], 104) := by decide +kernel
theorem dX2_readOrder_108 : decode cX2_readOrder 108 = .ok (.aload_n 0, 1) := by decide +kernel
theorem dX2_readOrder_109 : decode cX2_readOrder 109 = .ok (.dup, 1) := by decide +kernel
theorem dX2_readOrder_110 : decode cX2_readOrder 110 = .ok (.getfield 15, 3) := by decide +kernel
theorem dX2_readOrder_113 : decode cX2_readOrder 113 = .ok (.iconst 1, 1) := by decide +kernel
theorem dX2_readOrder_114 : decode cX2_readOrder 114 = .ok (.iadd, 1) := by decide +kernel
theorem dX2_readOrder_115 : decode cX2_readOrder 115 = .ok (.putfield 15, 3) := by decide +kernel
theorem dX2_readOrder_118 : decode cX2_readOrder 118 = .ok (.aload_n 0, 1) := by decide +kernel
theorem dX2_readOrder_119 : decode cX2_readOrder 119 = .ok (.invokevirtual 37, 3) := by decide +kernel
theorem dX2_readOrder_122 : decode cX2_readOrder 122 = .ok (.ireturn, 1) := by decide +kernel
theorem dX2_readOrder_123 : decode cX2_readOrder 123 = .ok (.aload_n 0, 1) := by decide +kernel
theorem dX2_readOrder_124 : decode cX2_readOrder 124 = .ok (.dup, 1) := by decide +kernel
theorem dX2_readOrder_125 : decode cX2_readOrder 125 = .ok (.getfield 15, 3) := by decide +kernel
theorem dX2_readOrder_128 : decode cX2_readOrder 128 = .ok (.iconst 1, 1) := by decide +kernel
theorem dX2_readOrder_129 : decode cX2_readOrder 129 = .ok (.iadd, 1) := by decide +kernel
theorem dX2_readOrder_130 : decode cX2_readOrder 130 = .ok (.putfield 15, 3) := by decide +kernel
theorem dX2_readOrder_133 : decode cX2_readOrder 133 = .ok (.aload_n 0, 1) := by decide +kernel
theorem dX2_readOrder_134 : decode cX2_readOrder 134 = .ok (.invokevirtual 40, 3) := by decide +kernel
theorem dX2_readOrder_137 : decode cX2_readOrder 137 = .ok (.ifCond .eq 23, 3) := by decide +kernel
theorem dX2_readOrder_140 : decode cX2_readOrder 140 = .ok (.aload_n 0, 1) := by decide +kernel
theorem dX2_readOrder_141 : decode cX2_readOrder 141 = .ok (.bipush 61, 2) := by decide +kernel
theorem dX2_readOrder_143 : decode cX2_readOrder 143 = .ok (.invokevirtual 26, 3) := by decide +kernel
theorem dX2_readOrder_146 : decode cX2_readOrder 146 = .ok (.ifCond .eq 14, 3) := by decide +kernel
theorem dX2_readOrder_149 : decode cX2_readOrder 149 = .ok (.aload_n 0, 1) := by decide +kernel
theorem dX2_readOrder_150 : decode cX2_readOrder 150 = .ok (.invokevirtual 43, 3) := by decide +kernel
theorem dX2_readOrder_153 : decode cX2_readOrder 153 = .ok (.ifCond .eq 7, 3) := by decide +kernel
theorem dX2_readOrder_156 : decode cX2_readOrder 156 = .ok (.iconst 1, 1) := by decide +kernel
theorem dX2_readOrder_157 : decode cX2_readOrder 157 = .ok (.goto 4, 3) := by decide +kernel
theorem dX2_readOrder_160 : decode cX2_readOrder 160 = .ok (.iconst 0, 1) := by decide +kernel
theorem dX2_readOrder_161 : decode cX2_readOrder 161 = .ok (.ireturn, 1) := by decide +kernel
theorem dX2_readOrder_162 : decode cX2_readOrder 162 = .ok (.aload_n 0, 1) := by decide +kernel
theorem dX2_readOrder_163 : decode cX2_readOrder 163 = .ok (.dup, 1) := by decide +kernel
theorem dX2_readOrder_164 : decode cX2_readOrder 164 = .ok (.getfield 15, 3) := by decide +kernel
theorem dX2_readOrder_167 : decode cX2_readOrder 167 = .ok (.iconst 1, 1) := by decide +kernel
theorem dX2_readOrder_168 : decode cX2_readOrder 168 = .ok (.iadd, 1) := by decide +kernel
theorem dX2_readOrder_169 : decode cX2_readOrder 169 = .ok (.putfield 15, 3) := by decide +kernel
theorem dX2_readOrder_172 : decode cX2_readOrder 172 = .ok (.aload_n 0, 1) := by decide +kernel
theorem dX2_readOrder_173 : decode cX2_readOrder 173 = .ok (.invokevirtual 40, 3) := by decide +kernel
theorem dX2_readOrder_176 : decode cX2_readOrder 176 = .ok (.ifCond .eq 21, 3) := by decide +kernel
theorem dX2_readOrder_179 : decode cX2_readOrder 179 = .ok (.aload_n 0, 1) := by decide +kernel
theorem dX2_readOrder_180 : decode cX2_readOrder 180 = .ok (.invokevirtual 46, 3) := by decide +kernel
theorem dX2_readOrder_183 : decode cX2_readOrder 183 = .ok (.ifCond .eq 14, 3) := by decide +kernel
theorem dX2_readOrder_186 : decode cX2_readOrder 186 = .ok (.aload_n 0, 1) := by decide +kernel
theorem dX2_readOrder_187 : decode cX2_readOrder 187 = .ok (.invokevirtual 49, 3) := by decide +kernel
theorem dX2_readOrder_190 : decode cX2_readOrder 190 = .ok (.ifCond .eq 7, 3) := by decide +kernel
theorem dX2_readOrder_193 : decode cX2_readOrder 193 = .ok (.iconst 1, 1) := by decide +kernel
theorem dX2_readOrder_194 : decode cX2_readOrder 194 = .ok (.goto 4, 3) := by decide +kernel
theorem dX2_readOrder_197 : decode cX2_readOrder 197 = .ok (.iconst 0, 1) := by decide +kernel
theorem dX2_readOrder_198 : decode cX2_readOrder 198 = .ok (.ireturn, 1) := by decide +kernel
theorem dX2_readOrder_199 : decode cX2_readOrder 199 = .ok (.aload_n 0, 1) := by decide +kernel
theorem dX2_readOrder_200 : decode cX2_readOrder 200 = .ok (.dup, 1) := by decide +kernel
theorem dX2_readOrder_201 : decode cX2_readOrder 201 = .ok (.getfield 15, 3) := by decide +kernel
theorem dX2_readOrder_204 : decode cX2_readOrder 204 = .ok (.iconst 1, 1) := by decide +kernel
theorem dX2_readOrder_205 : decode cX2_readOrder 205 = .ok (.iadd, 1) := by decide +kernel
theorem dX2_readOrder_206 : decode cX2_readOrder 206 = .ok (.putfield 15, 3) := by decide +kernel
theorem dX2_readOrder_209 : decode cX2_readOrder 209 = .ok (.aload_n 0, 1) := by decide +kernel
theorem dX2_readOrder_210 : decode cX2_readOrder 210 = .ok (.invokevirtual 40, 3) := by decide +kernel
theorem dX2_readOrder_213 : decode cX2_readOrder 213 = .ok (.ifCond .eq 14, 3) := by decide +kernel
theorem dX2_readOrder_216 : decode cX2_readOrder 216 = .ok (.aload_n 0, 1) := by decide +kernel
theorem dX2_readOrder_217 : decode cX2_readOrder 217 = .ok (.invokevirtual 46, 3) := by decide +kernel
theorem dX2_readOrder_220 : decode cX2_readOrder 220 = .ok (.ifCond .eq 7, 3) := by decide +kernel
theorem dX2_readOrder_223 : decode cX2_readOrder 223 = .ok (.iconst 1, 1) := by decide +kernel
theorem dX2_readOrder_224 : decode cX2_readOrder 224 = .ok (.goto 4, 3) := by decide +kernel
theorem dX2_readOrder_227 : decode cX2_readOrder 227 = .ok (.iconst 0, 1) := by decide +kernel
theorem dX2_readOrder_228 : decode cX2_readOrder 228 = .ok (.ireturn, 1) := by decide +kernel
theorem dX2_readOrder_229 : decode cX2_readOrder 229 = .ok (.aload_n 0, 1) := by decide +kernel
theorem dX2_readOrder_230 : decode cX2_readOrder 230 = .ok (.dup, 1) := by decide +kernel
theorem dX2_readOrder_231 : decode cX2_readOrder 231 = .ok (.getfield 15, 3) := by decide +kernel
theorem dX2_readOrder_234 : decode cX2_readOrder 234 = .ok (.iconst 1, 1) := by decide +kernel
theorem dX2_readOrder_235 : decode cX2_readOrder 235 = .ok (.iadd, 1) := by decide +kernel
theorem dX2_readOrder_236 : decode cX2_readOrder 236 = .ok (.putfield 15, 3) := by decide +kernel
theorem dX2_readOrder_239 : decode cX2_readOrder 239 = .ok (.aload_n 0, 1) := by decide +kernel
theorem dX2_readOrder_240 : decode cX2_readOrder 240 = .ok (.invokevirtual 40, 3) := by decide +kernel
theorem dX2_readOrder_243 : decode cX2_readOrder 243 = .ok (.ireturn, 1) := by decide +kernel
theorem dX2_readOrder_244 : decode cX2_readOrder 244 = .ok (.aload_n 0, 1) := by decide +kernel
theorem dX2_readOrder_245 : decode cX2_readOrder 245 = .ok (.dup, 1) := by decide +kernel
theorem dX2_readOrder_246 : decode cX2_readOrder 246 = .ok (.getfield 15, 3) := by decide +kernel
theorem dX2_readOrder_249 : decode cX2_readOrder 249 = .ok (.iconst 1, 1) := by decide +kernel
theorem dX2_readOrder_250 : decode cX2_readOrder 250 = .ok (.iadd, 1) := by decide +kernel
theorem dX2_readOrder_251 : decode cX2_readOrder 251 = .ok (.putfield 15, 3) := by decide +kernel
theorem dX2_readOrder_254 : decode cX2_readOrder 254 = .ok (.iconst 1, 1) := by decide +kernel
theorem dX2_readOrder_255 : decode cX2_readOrder 255 = .ok (.ireturn, 1) := by decide +kernel
theorem dX2_readOrder_256 : decode cX2_readOrder 256 = .ok (.iconst 0, 1) := by decide +kernel
theorem dX2_readOrder_257 : decode cX2_readOrder 257 = .ok (.ireturn, 1) := by decide +kernel
theorem dX2_isAhead_0 : decode cX2_isAhead 0 = .ok (.aload_n 0, 1) := by decide +kernel
theorem dX2_isAhead_1 : decode cX2_isAhead 1 = .ok (.getfield 15, 3) := by decide +kernel
theorem dX2_isAhead_4 : decode cX2_isAhead 4 = .ok (.aload_n 0, 1) := by decide +kernel
theorem dX2_isAhead_5 : decode cX2_isAhead 5 = .ok (.getfield 23, 3) := by decide +kernel
theorem dX2_isAhead_8 : decode cX2_isAhead 8 = .ok (.if_icmp .ge 42, 3) := by decide +kernel
theorem dX2_isAhead_11 : decode cX2_isAhead 11 = .ok (.aload_n 0, 1) := by decide +kernel
theorem dX2_isAhead_12 : decode cX2_isAhead 12 = .ok (.getfield 15, 3) := by decide +kernel
theorem dX2_isAhead_15 : decode cX2_isAhead 15 = .ok (.bipush 60, 2) := by decide +kernel
theorem dX2_isAhead_17 : decode cX2_isAhead 17 = .ok (.if_icmp .ge 33, 3) := by decide +kernel
theorem dX2_isAhead_20 : decode cX2_isAhead 20 = .ok (.aload_n 0, 1) := by decide +kernel
theorem dX2_isAhead_21 : decode cX2_isAhead 21 = .ok (.getfield 9, 3) := by decide +kernel
theorem dX2_isAhead_24 : decode cX2_isAhead 24 = .ok (.aload_n 0, 1) := by decide +kernel
theorem dX2_isAhead_25 : decode cX2_isAhead 25 = .ok (.getfield 15, 3) := by decide +kernel
theorem dX2_isAhead_28 : decode cX2_isAhead 28 = .ok (.caload, 1) := by decide +kernel
theorem dX2_isAhead_29 : decode cX2_isAhead 29 = .ok (.iload_n 1, 1) := by decide +kernel
theorem dX2_isAhead_30 : decode cX2_isAhead 30 = .ok (.if_icmp .lt 20, 3) := by decide +kernel
theorem dX2_isAhead_33 : decode cX2_isAhead 33 = .ok (.aload_n 0, 1) := by decide +kernel
theorem dX2_isAhead_34 : decode cX2_isAhead 34 = .ok (.getfield 9, 3) := by decide +kernel
theorem dX2_isAhead_37 : decode cX2_isAhead 37 = .ok (.aload_n 0, 1) := by decide +kernel
theorem dX2_isAhead_38 : decode cX2_isAhead 38 = .ok (.getfield 15, 3) := by decide +kernel
theorem dX2_isAhead_41 : decode cX2_isAhead 41 = .ok (.caload, 1) := by decide +kernel
theorem dX2_isAhead_42 : decode cX2_isAhead 42 = .ok (.iload_n 2, 1) := by decide +kernel
theorem dX2_isAhead_43 : decode cX2_isAhead 43 = .ok (.if_icmp .gt 7, 3) := by decide +kernel
theorem dX2_isAhead_46 : decode cX2_isAhead 46 = .ok (.iconst 1, 1) := by decide +kernel
theorem dX2_isAhead_47 : decode cX2_isAhead 47 = .ok (.goto 4, 3) := by decide +kernel
theorem dX2_isAhead_50 : decode cX2_isAhead 50 = .ok (.iconst 0, 1) := by decide +kernel
theorem dX2_isAhead_51 : decode cX2_isAhead 51 = .ok (.ireturn, 1) := by decide +kernel
theorem dX2_readSign_0 : decode cX2_readSign 0 = .ok (.aload_n 0, 1) := by decide +kernel
theorem dX2_readSign_1 : decode cX2_readSign 1 = .ok (.iload_n 1, 1) := by decide +kernel
theorem dX2_readSign_2 : decode cX2_readSign 2 = .ok (.iload_n 1, 1) := by decide +kernel
theorem dX2_readSign_3 : decode cX2_readSign 3 = .ok (.invokevirtual 52, 3) := by decide +kernel
theorem dX2_readSign_6 : decode cX2_readSign 6 = .ok (.ifCond .ne 5, 3) := by decide +kernel
theorem dX2_readSign_9 : decode cX2_readSign 9 = .ok (.iconst 0, 1) := by decide +kernel
theorem dX2_readSign_10 : decode cX2_readSign 10 = .ok (.ireturn, 1) := by decide +kernel
theorem dX2_readSign_11 : decode cX2_readSign 11 = .ok (.aload_n 0, 1) := by decide +kernel
theorem dX2_readSign_12 : decode cX2_readSign 12 = .ok (.dup, 1) := by decide +kernel
theorem dX2_readSign_13 : decode cX2_readSign 13 = .ok (.getfield 15, 3) := by decide +kernel
theorem dX2_readSign_16 : decode cX2_readSign 16 = .ok (.iconst 1, 1) := by decide +kernel
theorem dX2_readSign_17 : decode cX2_readSign 17 = .ok (.iadd, 1) := by decide +kernel
theorem dX2_readSign_18 : decode cX2_readSign 18 = .ok (.putfield 15, 3) := by decide +kernel
theorem dX2_readSign_21 : decode cX2_readSign 21 = .ok (.iconst 1, 1) := by decide +kernel
theorem dX2_readSign_22 : decode cX2_readSign 22 = .ok (.ireturn, 1) := by decide +kernel
theorem dX2_readFirst_0 : decode cX2_readFirst 0 = .ok (.aload_n 0, 1) := by decide +kernel
theorem dX2_readFirst_1 : decode cX2_readFirst 1 = .ok (.aload_n 0, 1) := by decide +kernel
theorem dX2_readFirst_2 : decode cX2_readFirst 2 = .ok (.invokevirtual 56, 3) := by decide +kernel
theorem dX2_readFirst_5 : decode cX2_readFirst 5 = .ok (.putfield 60, 3) := by decide +kernel
theorem dX2_readFirst_8 : decode cX2_readFirst 8 = .ok (.aload_n 0, 1) := by decide +kernel
theorem dX2_readFirst_9 : decode cX2_readFirst 9 = .ok (.getfield 60, 3) := by decide +kernel
theorem dX2_readFirst_12 : decode cX2_readFirst 12 = .ok (.iconst (-1), 1) := by decide +kernel
theorem dX2_readFirst_13 : decode cX2_readFirst 13 = .ok (.if_icmp .eq 7, 3) := by decide +kernel
theorem dX2_readFirst_16 : decode cX2_readFirst 16 = .ok (.iconst 1, 1) := by decide +kernel
theorem dX2_readFirst_17 : decode cX2_readFirst 17 = .ok (.goto 4, 3) := by decide +kernel
theorem dX2_readFirst_20 : decode cX2_readFirst 20 = .ok (.iconst 0, 1) := by decide +kernel
theorem dX2_readFirst_21 : decode cX2_readFirst 21 = .ok (.ireturn, 1) := by decide +kernel
theorem dX2_readSecond_0 : decode cX2_readSecond 0 = .ok (.aload_n 0, 1) := by decide +kernel
theorem dX2_readSecond_1 : decode cX2_readSecond 1 = .ok (.aload_n 0, 1) := by decide +kernel
theorem dX2_readSecond_2 : decode cX2_readSecond 2 = .ok (.invokevirtual 56, 3) := by decide +kernel
theorem dX2_readSecond_5 : decode cX2_readSecond 5 = .ok (.putfield 63, 3) := by decide +kernel
theorem dX2_readSecond_8 : decode cX2_readSecond 8 = .ok (.aload_n 0, 1) := by decide +kernel
theorem dX2_readSecond_9 : decode cX2_readSecond 9 = .ok (.getfield 63, 3) := by decide +kernel
theorem dX2_readSecond_12 : decode cX2_readSecond 12 = .ok (.iconst (-1), 1) := by decide +kernel
theorem dX2_readSecond_13 : decode cX2_readSecond 13 = .ok (.if_icmp .eq 7, 3) := by decide +kernel
theorem dX2_readSecond_16 : decode cX2_readSecond 16 = .ok (.iconst 1, 1) := by decide +kernel
theorem dX2_readSecond_17 : decode cX2_readSecond 17 = .ok (.goto 4, 3) := by decide +kernel
theorem dX2_readSecond_20 : decode cX2_readSecond 20 = .ok (.iconst 0, 1) := by decide +kernel
theorem dX2_readSecond_21 : decode cX2_readSecond 21 = .ok (.ireturn, 1) := by decide +kernel
theorem dX2_readDigit_0 : decode cX2_readDigit 0 = .ok (.aload_n 0, 1) := by decide +kernel
theorem dX2_readDigit_1 : decode cX2_readDigit 1 = .ok (.bipush 48, 2) := by decide +kernel
theorem dX2_readDigit_3 : decode cX2_readDigit 3 = .ok (.bipush 57, 2) := by decide +kernel
theorem dX2_readDigit_5 : decode cX2_readDigit 5 = .ok (.invokevirtual 52, 3) := by decide +kernel
theorem dX2_readDigit_8 : decode cX2_readDigit 8 = .ok (.ifCond .ne 5, 3) := by decide +kernel
theorem dX2_readDigit_11 : decode cX2_readDigit 11 = .ok (.iconst (-1), 1) := by decide +kernel
theorem dX2_readDigit_12 : decode cX2_readDigit 12 = .ok (.ireturn, 1) := by decide +kernel
theorem dX2_readDigit_13 : decode cX2_readDigit 13 = .ok (.aload_n 0, 1) := by decide +kernel
theorem dX2_readDigit_14 : decode cX2_readDigit 14 = .ok (.getfield 9, 3) := by decide +kernel
theorem dX2_readDigit_17 : decode cX2_readDigit 17 = .ok (.aload_n 0, 1) := by decide +kernel
theorem dX2_readDigit_18 : decode cX2_readDigit 18 = .ok (.getfield 15, 3) := by decide +kernel
theorem dX2_readDigit_21 : decode cX2_readDigit 21 = .ok (.caload, 1) := by decide +kernel
theorem dX2_readDigit_22 : decode cX2_readDigit 22 = .ok (.bipush 48, 2) := by decide +kernel
theorem dX2_readDigit_24 : decode cX2_readDigit 24 = .ok (.isub, 1) := by decide +kernel
theorem dX2_readDigit_25 : decode cX2_readDigit 25 = .ok (.istore_n 1, 1) := by decide +kernel
theorem dX2_readDigit_26 : decode cX2_readDigit 26 = .ok (.aload_n 0, 1) := by decide +kernel
theorem dX2_readDigit_27 : decode cX2_readDigit 27 = .ok (.dup, 1) := by decide +kernel
theorem dX2_readDigit_28 : decode cX2_readDigit 28 = .ok (.getfield 15, 3) := by decide +kernel
theorem dX2_readDigit_31 : decode cX2_readDigit 31 = .ok (.iconst 1, 1) := by decide +kernel
theorem dX2_readDigit_32 : decode cX2_readDigit 32 = .ok (.iadd, 1) := by decide +kernel
theorem dX2_readDigit_33 : decode cX2_readDigit 33 = .ok (.putfield 15, 3) := by decide +kernel
theorem dX2_readDigit_36 : decode cX2_readDigit 36 = .ok (.iload_n 1, 1) := by decide +kernel
theorem dX2_readDigit_37 : decode cX2_readDigit 37 = .ok (.ireturn, 1) := by decide +kernel
theorem dX2_readCoins_0 : decode cX2_readCoins 0 = .ok (.aload_n 0, 1) := by decide +kernel
theorem dX2_readCoins_1 : decode cX2_readCoins 1 = .ok (.aload_n 0, 1) := by decide +kernel
theorem dX2_readCoins_2 : decode cX2_readCoins 2 = .ok (.invokevirtual 56, 3) := by decide +kernel
theorem dX2_readCoins_5 : decode cX2_readCoins 5 = .ok (.putfield 60, 3) := by decide +kernel
theorem dX2_readCoins_8 : decode cX2_readCoins 8 = .ok (.aload_n 0, 1) := by decide +kernel
theorem dX2_readCoins_9 : decode cX2_readCoins 9 = .ok (.getfield 60, 3) := by decide +kernel
theorem dX2_readCoins_12 : decode cX2_readCoins 12 = .ok (.iconst (-1), 1) := by decide +kernel
theorem dX2_readCoins_13 : decode cX2_readCoins 13 = .ok (.if_icmp .eq 30, 3) := by decide +kernel
theorem dX2_readCoins_16 : decode cX2_readCoins 16 = .ok (.aload_n 0, 1) := by decide +kernel
theorem dX2_readCoins_17 : decode cX2_readCoins 17 = .ok (.bipush 48, 2) := by decide +kernel
theorem dX2_readCoins_19 : decode cX2_readCoins 19 = .ok (.bipush 57, 2) := by decide +kernel
theorem dX2_readCoins_21 : decode cX2_readCoins 21 = .ok (.invokevirtual 52, 3) := by decide +kernel
theorem dX2_readCoins_24 : decode cX2_readCoins 24 = .ok (.ifCond .eq 19, 3) := by decide +kernel
theorem dX2_readCoins_27 : decode cX2_readCoins 27 = .ok (.aload_n 0, 1) := by decide +kernel
theorem dX2_readCoins_28 : decode cX2_readCoins 28 = .ok (.aload_n 0, 1) := by decide +kernel
theorem dX2_readCoins_29 : decode cX2_readCoins 29 = .ok (.getfield 60, 3) := by decide +kernel
theorem dX2_readCoins_32 : decode cX2_readCoins 32 = .ok (.bipush 10, 2) := by decide +kernel
theorem dX2_readCoins_34 : decode cX2_readCoins 34 = .ok (.imul, 1) := by decide +kernel
theorem dX2_readCoins_35 : decode cX2_readCoins 35 = .ok (.aload_n 0, 1) := by decide +kernel
theorem dX2_readCoins_36 : decode cX2_readCoins 36 = .ok (.invokevirtual 56, 3) := by decide +kernel
theorem dX2_readCoins_39 : decode cX2_readCoins 39 = .ok (.iadd, 1) := by decide +kernel
theorem dX2_readCoins_40 : decode cX2_readCoins 40 = .ok (.putfield 60, 3) := by decide +kernel
theorem dX2_readCoins_43 : decode cX2_readCoins 43 = .ok (.aload_n 0, 1) := by decide +kernel
theorem dX2_readCoins_44 : decode cX2_readCoins 44 = .ok (.getfield 60, 3) := by decide +kernel
theorem dX2_readCoins_47 : decode cX2_readCoins 47 = .ok (.iconst (-1), 1) := by decide +kernel
theorem dX2_readCoins_48 : decode cX2_readCoins 48 = .ok (.if_icmp .eq 7, 3) := by decide +kernel
theorem dX2_readCoins_51 : decode cX2_readCoins 51 = .ok (.iconst 1, 1) := by decide +kernel
theorem dX2_readCoins_52 : decode cX2_readCoins 52 = .ok (.goto 4, 3) := by decide +kernel
theorem dX2_readCoins_55 : decode cX2_readCoins 55 = .ok (.iconst 0, 1) := by decide +kernel
theorem dX2_readCoins_56 : decode cX2_readCoins 56 = .ok (.ireturn, 1) := by decide +kernel
theorem dX2_readLetter_0 : decode cX2_readLetter 0 = .ok (.aload_n 0, 1) := by decide +kernel
theorem dX2_readLetter_1 : decode cX2_readLetter 1 = .ok (.bipush 97, 2) := by decide +kernel
theorem dX2_readLetter_3 : decode cX2_readLetter 3 = .ok (.bipush 102, 2) := by decide +kernel
theorem dX2_readLetter_5 : decode cX2_readLetter 5 = .ok (.invokevirtual 52, 3) := by decide +kernel
theorem dX2_readLetter_8 : decode cX2_readLetter 8 = .ok (.ifCond .ne 5, 3) := by decide +kernel
theorem dX2_readLetter_11 : decode cX2_readLetter 11 = .ok (.iconst 0, 1) := by decide +kernel
theorem dX2_readLetter_12 : decode cX2_readLetter 12 = .ok (.ireturn, 1) := by decide +kernel
theorem dX2_readLetter_13 : decode cX2_readLetter 13 = .ok (.aload_n 0, 1) := by decide +kernel
theorem dX2_readLetter_14 : decode cX2_readLetter 14 = .ok (.aload_n 0, 1) := by decide +kernel
theorem dX2_readLetter_15 : decode cX2_readLetter 15 = .ok (.getfield 9, 3) := by decide +kernel
theorem dX2_readLetter_18 : decode cX2_readLetter 18 = .ok (.aload_n 0, 1) := by decide +kernel
theorem dX2_readLetter_19 : decode cX2_readLetter 19 = .ok (.getfield 15, 3) := by decide +kernel
theorem dX2_readLetter_22 : decode cX2_readLetter 22 = .ok (.caload, 1) := by decide +kernel
theorem dX2_readLetter_23 : decode cX2_readLetter 23 = .ok (.putfield 66, 3) := by decide +kernel
theorem dX2_readLetter_26 : decode cX2_readLetter 26 = .ok (.aload_n 0, 1) := by decide +kernel
theorem dX2_readLetter_27 : decode cX2_readLetter 27 = .ok (.dup, 1) := by decide +kernel
theorem dX2_readLetter_28 : decode cX2_readLetter 28 = .ok (.getfield 15, 3) := by decide +kernel
theorem dX2_readLetter_31 : decode cX2_readLetter 31 = .ok (.iconst 1, 1) := by decide +kernel
theorem dX2_readLetter_32 : decode cX2_readLetter 32 = .ok (.iadd, 1) := by decide +kernel
theorem dX2_readLetter_33 : decode cX2_readLetter 33 = .ok (.putfield 15, 3) := by decide +kernel
theorem dX2_readLetter_36 : decode cX2_readLetter 36 = .ok (.iconst 1, 1) := by decide +kernel
theorem dX2_readLetter_37 : decode cX2_readLetter 37 = .ok (.ireturn, 1) := by decide +kernel
theorem dX2_readWord_0 : decode cX2_readWord 0 = .ok (.iconst 0, 1) := by decide +kernel
theorem dX2_readWord_1 : decode cX2_readWord 1 = .ok (.istore_n 1, 1) := by decide +kernel
theorem dX2_readWord_2 : decode cX2_readWord 2 = .ok (.aload_n 0, 1) := by decide +kernel
theorem dX2_readWord_3 : decode cX2_readWord 3 = .ok (.iconst 0, 1) := by decide +kernel
theorem dX2_readWord_4 : decode cX2_readWord 4 = .ok (.putfield 63, 3) := by decide +kernel
theorem dX2_readWord_7 : decode cX2_readWord 7 = .ok (.iload_n 1, 1) := by decide +kernel
theorem dX2_readWord_8 : decode cX2_readWord 8 = .ok (.bipush 8, 2) := by decide +kernel
theorem dX2_readWord_10 : decode cX2_readWord 10 = .ok (.if_icmp .ge 37, 3) := by decide +kernel
theorem dX2_readWord_13 : decode cX2_readWord 13 = .ok (.aload_n 0, 1) := by decide +kernel
theorem dX2_readWord_14 : decode cX2_readWord 14 = .ok (.invokevirtual 49, 3) := by decide +kernel
theorem dX2_readWord_17 : decode cX2_readWord 17 = .ok (.ifCond .eq 30, 3) := by decide +kernel
theorem dX2_readWord_20 : decode cX2_readWord 20 = .ok (.aload_n 0, 1) := by decide +kernel
theorem dX2_readWord_21 : decode cX2_readWord 21 = .ok (.aload_n 0, 1) := by decide +kernel
theorem dX2_readWord_22 : decode cX2_readWord 22 = .ok (.getfield 63, 3) := by decide +kernel
theorem dX2_readWord_25 : decode cX2_readWord 25 = .ok (.bipush 10, 2) := by decide +kernel
theorem dX2_readWord_27 : decode cX2_readWord 27 = .ok (.imul, 1) := by decide +kernel
theorem dX2_readWord_28 : decode cX2_readWord 28 = .ok (.aload_n 0, 1) := by decide +kernel
theorem dX2_readWord_29 : decode cX2_readWord 29 = .ok (.getfield 66, 3) := by decide +kernel
theorem dX2_readWord_32 : decode cX2_readWord 32 = .ok (.iadd, 1) := by decide +kernel
theorem dX2_readWord_33 : decode cX2_readWord 33 = .ok (.bipush 97, 2) := by decide +kernel
theorem dX2_readWord_35 : decode cX2_readWord 35 = .ok (.isub, 1) := by decide +kernel
theorem dX2_readWord_36 : decode cX2_readWord 36 = .ok (.iconst 1, 1) := by decide +kernel
theorem dX2_readWord_37 : decode cX2_readWord 37 = .ok (.iadd, 1) := by decide +kernel
theorem dX2_readWord_38 : decode cX2_readWord 38 = .ok (.putfield 63, 3) := by decide +kernel
theorem dX2_readWord_41 : decode cX2_readWord 41 = .ok (.iinc 1 1, 3) := by decide +kernel
theorem dX2_readWord_44 : decode cX2_readWord 44 = .ok (.goto (-37), 3) := by decide +kernel
theorem dX2_readWord_47 : decode cX2_readWord 47 = .ok (.iload_n 1, 1) := by decide +kernel
theorem dX2_readWord_48 : decode cX2_readWord 48 = .ok (.iconst 3, 1) := by decide +kernel
theorem dX2_readWord_49 : decode cX2_readWord 49 = .ok (.if_icmp .lt 7, 3) := by decide +kernel
theorem dX2_readWord_52 : decode cX2_readWord 52 = .ok (.iconst 1, 1) := by decide +kernel
theorem dX2_readWord_53 : decode cX2_readWord 53 = .ok (.goto 4, 3) := by decide +kernel
theorem dX2_readWord_56 : decode cX2_readWord 56 = .ok (.iconst 0, 1) := by decide +kernel
theorem dX2_readWord_57 : decode cX2_readWord 57 = .ok (.ireturn, 1) := by decide +kernel
theorem dX3_init_0 : decode cX3_init 0 = .ok (.aload_n 0, 1) := by decide +kernel
theorem dX3_init_1 : decode cX3_init 1 = .ok (.invokespecial 3, 3) := by decide +kernel
theorem dX3_init_4 : decode cX3_init 4 = .ok (.aload_n 0, 1) := by decide +kernel
theorem dX3_init_5 : decode cX3_init 5 = .ok (.iconst 0, 1) := by decide +kernel
theorem dX3_init_6 : decode cX3_init 6 = .ok (.putfield 9, 3) := by decide +kernel
theorem dX3_init_9 : decode cX3_init 9 = .ok (.aload_n 0, 1) := by decide +kernel
theorem dX3_init_10 : decode cX3_init 10 = .ok (.iconst 0, 1) := by decide +kernel
theorem dX3_init_11 : decode cX3_init 11 = .ok (.putfield 15, 3) := by decide +kernel
theorem dX3_init_14 : decode cX3_init 14 = .ok (.return_, 1) := by decide +kernel
theorem dX3_become_0 : decode cX3_become 0 = .ok (.aload_n 0, 1) := by decide +kernel
theorem dX3_become_1 : decode cX3_become 1 = .ok (.iload_n 1, 1) := by decide +kernel
theorem dX3_become_2 : decode cX3_become 2 = .ok (.putfield 9, 3) := by decide +kernel
theorem dX3_become_5 : decode cX3_become 5 = .ok (.aload_n 0, 1) := by decide +kernel
theorem dX3_become_6 : decode cX3_become 6 = .ok (.iload_n 2, 1) := by decide +kernel
theorem dX3_become_7 : decode cX3_become 7 = .ok (.putfield 18, 3) := by decide +kernel
theorem dX3_become_10 : decode cX3_become 10 = .ok (.aload_n 0, 1) := by decide +kernel
theorem dX3_become_11 : decode cX3_become 11 = .ok (.iconst 0, 1) := by decide +kernel
theorem dX3_become_12 : decode cX3_become 12 = .ok (.putfield 15, 3) := by decide +kernel
theorem dX3_become_15 : decode cX3_become 15 = .ok (.aload_n 0, 1) := by decide +kernel
theorem dX3_become_16 : decode cX3_become 16 = .ok (.iconst 0, 1) := by decide +kernel
theorem dX3_become_17 : decode cX3_become 17 = .ok (.putfield 21, 3) := by decide +kernel
theorem dX3_become_20 : decode cX3_become 20 = .ok (.return_, 1) := by decide +kernel
theorem dX3_standBehind_0 : decode cX3_standBehind 0 = .ok (.aload_n 0, 1) := by decide +kernel
theorem dX3_standBehind_1 : decode cX3_standBehind 1 = .ok (.aload_n 0, 1) := by decide +kernel
theorem dX3_standBehind_2 : decode cX3_standBehind 2 = .ok (.getfield 9, 3) := by decide +kernel
theorem dX3_standBehind_5 : decode cX3_standBehind 5 = .ok (.putfield 15, 3) := by decide +kernel
theorem dX3_standBehind_8 : decode cX3_standBehind 8 = .ok (.aload_n 0, 1) := by decide +kernel
theorem dX3_standBehind_9 : decode cX3_standBehind 9 = .ok (.aload_n 0, 1) := by decide +kernel
theorem dX3_standBehind_10 : decode cX3_standBehind 10 = .ok (.getfield 18, 3) := by decide +kernel
theorem dX3_standBehind_13 : decode cX3_standBehind 13 = .ok (.putfield 21, 3) := by decide +kernel
theorem dX3_standBehind_16 : decode cX3_standBehind 16 = .ok (.aload_n 0, 1) := by decide +kernel
theorem dX3_standBehind_17 : decode cX3_standBehind 17 = .ok (.iload_n 1, 1) := by decide +kernel
theorem dX3_standBehind_18 : decode cX3_standBehind 18 = .ok (.putfield 9, 3) := by decide +kernel
theorem dX3_standBehind_21 : decode cX3_standBehind 21 = .ok (.aload_n 0, 1) := by decide +kernel
theorem dX3_standBehind_22 : decode cX3_standBehind 22 = .ok (.iload_n 2, 1) := by decide +kernel
theorem dX3_standBehind_23 : decode cX3_standBehind 23 = .ok (.putfield 18, 3) := by decide +kernel
theorem dX3_standBehind_26 : decode cX3_standBehind 26 = .ok (.return_, 1) := by decide +kernel
theorem dJx00060_init_a7421_0 : decode cJx00060_init_a7421 0 = .ok (.aload_n 0, 1) := by decide +kernel
theorem dJx00060_init_a7421_1 : decode cJx00060_init_a7421 1 = .ok (.aload_n 1, 1) := by decide +kernel
theorem dJx00060_init_a7421_2 : decode cJx00060_init_a7421 2 = .ok (.invokespecial 7, 3) := by decide +kernel
theorem dJx00060_init_a7421_5 : decode cJx00060_init_a7421 5 = .ok (.return_, 1) := by decide +kernel
theorem dJ6_bitCount_0f7a4_0 : decode cJ6_bitCount_0f7a4 0 = .ok (.iload_n 0, 1) := by decide +kernel
theorem dJ6_bitCount_0f7a4_1 : decode cJ6_bitCount_0f7a4 1 = .ok (.iload_n 0, 1) := by decide +kernel
theorem dJ6_bitCount_0f7a4_2 : decode cJ6_bitCount_0f7a4 2 = .ok (.iconst 1, 1) := by decide +kernel
theorem dJ6_bitCount_0f7a4_3 : decode cJ6_bitCount_0f7a4 3 = .ok (.iushr, 1) := by decide +kernel
theorem dJ6_bitCount_0f7a4_4 : decode cJ6_bitCount_0f7a4 4 = .ok (.ldc_w 265, 3) := by decide +kernel
theorem dJ6_bitCount_0f7a4_7 : decode cJ6_bitCount_0f7a4 7 = .ok (.iand, 1) := by decide +kernel
theorem dJ6_bitCount_0f7a4_8 : decode cJ6_bitCount_0f7a4 8 = .ok (.isub, 1) := by decide +kernel
theorem dJ6_bitCount_0f7a4_9 : decode cJ6_bitCount_0f7a4 9 = .ok (.istore_n 0, 1) := by decide +kernel
theorem dJ6_bitCount_0f7a4_10 : decode cJ6_bitCount_0f7a4 10 = .ok (.iload_n 0, 1) := by decide +kernel
theorem dJ6_bitCount_0f7a4_11 : decode cJ6_bitCount_0f7a4 11 = .ok (.ldc_w 266, 3) := by decide +kernel
theorem dJ6_bitCount_0f7a4_14 : decode cJ6_bitCount_0f7a4 14 = .ok (.iand, 1) := by decide +kernel
theorem dJ6_bitCount_0f7a4_15 : decode cJ6_bitCount_0f7a4 15 = .ok (.iload_n 0, 1) := by decide +kernel
theorem dJ6_bitCount_0f7a4_16 : decode cJ6_bitCount_0f7a4 16 = .ok (.iconst 2, 1) := by decide +kernel
theorem dJ6_bitCount_0f7a4_17 : decode cJ6_bitCount_0f7a4 17 = .ok (.iushr, 1) := by decide +kernel
theorem dJ6_bitCount_0f7a4_18 : decode cJ6_bitCount_0f7a4 18 = .ok (.ldc_w 266, 3) := by decide +kernel
theorem dJ6_bitCount_0f7a4_21 : decode cJ6_bitCount_0f7a4 21 = .ok (.iand, 1) := by decide +kernel
theorem dJ6_bitCount_0f7a4_22 : decode cJ6_bitCount_0f7a4 22 = .ok (.iadd, 1) := by decide +kernel
theorem dJ6_bitCount_0f7a4_23 : decode cJ6_bitCount_0f7a4 23 = .ok (.istore_n 0, 1) := by decide +kernel
theorem dJ6_bitCount_0f7a4_24 : decode cJ6_bitCount_0f7a4 24 = .ok (.iload_n 0, 1) := by decide +kernel
theorem dJ6_bitCount_0f7a4_25 : decode cJ6_bitCount_0f7a4 25 = .ok (.iload_n 0, 1) := by decide +kernel
theorem dJ6_bitCount_0f7a4_26 : decode cJ6_bitCount_0f7a4 26 = .ok (.iconst 4, 1) := by decide +kernel
theorem dJ6_bitCount_0f7a4_27 : decode cJ6_bitCount_0f7a4 27 = .ok (.iushr, 1) := by decide +kernel
theorem dJ6_bitCount_0f7a4_28 : decode cJ6_bitCount_0f7a4 28 = .ok (.iadd, 1) := by decide +kernel
theorem dJ6_bitCount_0f7a4_29 : decode cJ6_bitCount_0f7a4 29 = .ok (.ldc_w 267, 3) := by decide +kernel
theorem dJ6_bitCount_0f7a4_32 : decode cJ6_bitCount_0f7a4 32 = .ok (.iand, 1) := by decide +kernel
theorem dJ6_bitCount_0f7a4_33 : decode cJ6_bitCount_0f7a4 33 = .ok (.istore_n 0, 1) := by decide +kernel
theorem dJ6_bitCount_0f7a4_34 : decode cJ6_bitCount_0f7a4 34 = .ok (.iload_n 0, 1) := by decide +kernel
theorem dJ6_bitCount_0f7a4_35 : decode cJ6_bitCount_0f7a4 35 = .ok (.iload_n 0, 1) := by decide +kernel
theorem dJ6_bitCount_0f7a4_36 : decode cJ6_bitCount_0f7a4 36 = .ok (.bipush 8, 2) := by decide +kernel
theorem dJ6_bitCount_0f7a4_38 : decode cJ6_bitCount_0f7a4 38 = .ok (.iushr, 1) := by decide +kernel
theorem dJ6_bitCount_0f7a4_39 : decode cJ6_bitCount_0f7a4 39 = .ok (.iadd, 1) := by decide +kernel
theorem dJ6_bitCount_0f7a4_40 : decode cJ6_bitCount_0f7a4 40 = .ok (.istore_n 0, 1) := by decide +kernel
theorem dJ6_bitCount_0f7a4_41 : decode cJ6_bitCount_0f7a4 41 = .ok (.iload_n 0, 1) := by decide +kernel
theorem dJ6_bitCount_0f7a4_42 : decode cJ6_bitCount_0f7a4 42 = .ok (.iload_n 0, 1) := by decide +kernel
theorem dJ6_bitCount_0f7a4_43 : decode cJ6_bitCount_0f7a4 43 = .ok (.bipush 16, 2) := by decide +kernel
theorem dJ6_bitCount_0f7a4_45 : decode cJ6_bitCount_0f7a4 45 = .ok (.iushr, 1) := by decide +kernel
theorem dJ6_bitCount_0f7a4_46 : decode cJ6_bitCount_0f7a4 46 = .ok (.iadd, 1) := by decide +kernel
theorem dJ6_bitCount_0f7a4_47 : decode cJ6_bitCount_0f7a4 47 = .ok (.istore_n 0, 1) := by decide +kernel
theorem dJ6_bitCount_0f7a4_48 : decode cJ6_bitCount_0f7a4 48 = .ok (.iload_n 0, 1) := by decide +kernel
theorem dJ6_bitCount_0f7a4_49 : decode cJ6_bitCount_0f7a4 49 = .ok (.bipush 63, 2) := by decide +kernel
theorem dJ6_bitCount_0f7a4_51 : decode cJ6_bitCount_0f7a4 51 = .ok (.iand, 1) := by decide +kernel
theorem dJ6_bitCount_0f7a4_52 : decode cJ6_bitCount_0f7a4 52 = .ok (.ireturn, 1) := by decide +kernel
theorem dJ9_abs_0f7a4_0 : decode cJ9_abs_0f7a4 0 = .ok (.iload_n 0, 1) := by decide +kernel
theorem dJ9_abs_0f7a4_1 : decode cJ9_abs_0f7a4 1 = .ok (.ifCond .ge 8, 3) := by decide +kernel
theorem dJ9_abs_0f7a4_4 : decode cJ9_abs_0f7a4 4 = .ok (.iload_n 0, 1) := by decide +kernel
theorem dJ9_abs_0f7a4_5 : decode cJ9_abs_0f7a4 5 = .ok (.ineg, 1) := by decide +kernel
theorem dJ9_abs_0f7a4_6 : decode cJ9_abs_0f7a4 6 = .ok (.goto 4, 3) := by decide +kernel
theorem dJ9_abs_0f7a4_9 : decode cJ9_abs_0f7a4 9 = .ok (.iload_n 0, 1) := by decide +kernel
theorem dJ9_abs_0f7a4_10 : decode cJ9_abs_0f7a4 10 = .ok (.ireturn, 1) := by decide +kernel
theorem dJ9_max_7cf53_0 : decode cJ9_max_7cf53 0 = .ok (.iload_n 0, 1) := by decide +kernel
theorem dJ9_max_7cf53_1 : decode cJ9_max_7cf53 1 = .ok (.iload_n 1, 1) := by decide +kernel
theorem dJ9_max_7cf53_2 : decode cJ9_max_7cf53 2 = .ok (.if_icmp .lt 7, 3) := by decide +kernel
theorem dJ9_max_7cf53_5 : decode cJ9_max_7cf53 5 = .ok (.iload_n 0, 1) := by decide +kernel
theorem dJ9_max_7cf53_6 : decode cJ9_max_7cf53 6 = .ok (.goto 4, 3) := by decide +kernel
theorem dJ9_max_7cf53_9 : decode cJ9_max_7cf53 9 = .ok (.iload_n 1, 1) := by decide +kernel
theorem dJ9_max_7cf53_10 : decode cJ9_max_7cf53 10 = .ok (.ireturn, 1) := by decide +kernel
theorem dJ9_min_7cf53_0 : decode cJ9_min_7cf53 0 = .ok (.iload_n 0, 1) := by decide +kernel
theorem dJ9_min_7cf53_1 : decode cJ9_min_7cf53 1 = .ok (.iload_n 1, 1) := by decide +kernel
theorem dJ9_min_7cf53_2 : decode cJ9_min_7cf53 2 = .ok (.if_icmp .gt 7, 3) := by decide +kernel
theorem dJ9_min_7cf53_5 : decode cJ9_min_7cf53 5 = .ok (.iload_n 0, 1) := by decide +kernel
theorem dJ9_min_7cf53_6 : decode cJ9_min_7cf53 6 = .ok (.goto 4, 3) := by decide +kernel
theorem dJ9_min_7cf53_9 : decode cJ9_min_7cf53 9 = .ok (.iload_n 1, 1) := by decide +kernel
theorem dJ9_min_7cf53_10 : decode cJ9_min_7cf53 10 = .ok (.ireturn, 1) := by decide +kernel
end
section
theorem dX4_init_0 : decode cX4_init 0 = .ok (.aload_n 0, 1) := by decide +kernel
theorem dX4_init_1 : decode cX4_init 1 = .ok (.invokespecial 3, 3) := by decide +kernel
theorem dX4_init_4 : decode cX4_init 4 = .ok (.aload_n 0, 1) := by decide +kernel
theorem dX4_init_5 : decode cX4_init 5 = .ok (.iconst 4, 1) := by decide +kernel
theorem dX4_init_6 : decode cX4_init 6 = .ok (.newarray .int, 2) := by decide +kernel
theorem dX4_init_8 : decode cX4_init 8 = .ok (.putfield 9, 3) := by decide +kernel
theorem dX4_init_11 : decode cX4_init 11 = .ok (.aload_n 0, 1) := by decide +kernel
theorem dX4_init_12 : decode cX4_init 12 = .ok (.iconst 4, 1) := by decide +kernel
theorem dX4_init_13 : decode cX4_init 13 = .ok (.newarray .int, 2) := by decide +kernel
theorem dX4_init_15 : decode cX4_init 15 = .ok (.putfield 15, 3) := by decide +kernel
theorem dX4_init_18 : decode cX4_init 18 = .ok (.aload_n 0, 1) := by decide +kernel
theorem dX4_init_19 : decode cX4_init 19 = .ok (.iconst 4, 1) := by decide +kernel
theorem dX4_init_20 : decode cX4_init 20 = .ok (.newarray .int, 2) := by decide +kernel
theorem dX4_init_22 : decode cX4_init 22 = .ok (.putfield 18, 3) := by decide +kernel
theorem dX4_init_25 : decode cX4_init 25 = .ok (.aload_n 0, 1) := by decide +kernel
theorem dX4_init_26 : decode cX4_init 26 = .ok (.bipush 8, 2) := by decide +kernel
theorem dX4_init_28 : decode cX4_init 28 = .ok (.newarray .int, 2) := by decide +kernel
theorem dX4_init_30 : decode cX4_init 30 = .ok (.putfield 21, 3) := by decide +kernel
theorem dX4_init_33 : decode cX4_init 33 = .ok (.aload_n 0, 1) := by decide +kernel
theorem dX4_init_34 : decode cX4_init 34 = .ok (.bipush 8, 2) := by decide +kernel
theorem dX4_init_36 : decode cX4_init 36 = .ok (.newarray .int, 2) := by decide +kernel
theorem dX4_init_38 : decode cX4_init 38 = .ok (.putfield 24, 3) := by decide +kernel
theorem dX4_init_41 : decode cX4_init 41 = .ok (.aload_n 0, 1) := by decide +kernel
theorem dX4_init_42 : decode cX4_init 42 = .ok (.bipush 64, 2) := by decide +kernel
theorem dX4_init_44 : decode cX4_init 44 = .ok (.newarray .int, 2) := by decide +kernel
theorem dX4_init_46 : decode cX4_init 46 = .ok (.putfield 27, 3) := by decide +kernel
theorem dX4_init_49 : decode cX4_init 49 = .ok (.aload_n 0, 1) := by decide +kernel
theorem dX4_init_50 : decode cX4_init 50 = .ok (.bipush 64, 2) := by decide +kernel
theorem dX4_init_52 : decode cX4_init 52 = .ok (.newarray .int, 2) := by decide +kernel
theorem dX4_init_54 : decode cX4_init 54 = .ok (.putfield 30, 3) := by decide +kernel
theorem dX4_init_57 : decode cX4_init 57 = .ok (.aload_n 0, 1) := by decide +kernel
theorem dX4_init_58 : decode cX4_init 58 = .ok (.bipush 64, 2) := by decide +kernel
theorem dX4_init_60 : decode cX4_init 60 = .ok (.newarray .int, 2) := by decide +kernel
theorem dX4_init_62 : decode cX4_init 62 = .ok (.putfield 33, 3) := by decide +kernel
theorem dX4_init_65 : decode cX4_init 65 = .ok (.aload_n 0, 1) := by decide +kernel
theorem dX4_init_66 : decode cX4_init 66 = .ok (.iconst 5, 1) := by decide +kernel
theorem dX4_init_67 : decode cX4_init 67 = .ok (.newarray .int, 2) := by decide +kernel
theorem dX4_init_69 : decode cX4_init 69 = .ok (.putfield 36, 3) := by decide +kernel
theorem dX4_init_72 : decode cX4_init 72 = .ok (.aload_n 0, 1) := by decide +kernel
theorem dX4_init_73 : decode cX4_init 73 = .ok (.iconst 5, 1) := by decide +kernel
theorem dX4_init_74 : decode cX4_init 74 = .ok (.newarray .int, 2) := by decide +kernel
theorem dX4_init_76 : decode cX4_init 76 = .ok (.putfield 39, 3) := by decide +kernel
theorem dX4_init_79 : decode cX4_init 79 = .ok (.return_, 1) := by decide +kernel
theorem dX4_copyFrom_0 : decode cX4_copyFrom 0 = .ok (.aload_n 0, 1) := by decide +kernel
theorem dX4_copyFrom_1 : decode cX4_copyFrom 1 = .ok (.aload_n 1, 1) := by decide +kernel
theorem dX4_copyFrom_2 : decode cX4_copyFrom 2 = .ok (.getfield 42, 3) := by decide +kernel
theorem dX4_copyFrom_5 : decode cX4_copyFrom 5 = .ok (.putfield 42, 3) := by decide +kernel
theorem dX4_copyFrom_8 : decode cX4_copyFrom 8 = .ok (.aload_n 0, 1) := by decide +kernel
theorem dX4_copyFrom_9 : decode cX4_copyFrom 9 = .ok (.aload_n 1, 1) := by decide +kernel
theorem dX4_copyFrom_10 : decode cX4_copyFrom 10 = .ok (.getfield 46, 3) := by decide +kernel
theorem dX4_copyFrom_13 : decode cX4_copyFrom 13 = .ok (.putfield 46, 3) := by decide +kernel
theorem dX4_copyFrom_16 : decode cX4_copyFrom 16 = .ok (.aload_n 0, 1) := by decide +kernel
theorem dX4_copyFrom_17 : decode cX4_copyFrom 17 = .ok (.aload_n 1, 1) := by decide +kernel
theorem dX4_copyFrom_18 : decode cX4_copyFrom 18 = .ok (.getfield 49, 3) := by decide +kernel
theorem dX4_copyFrom_21 : decode cX4_copyFrom 21 = .ok (.putfield 49, 3) := by decide +kernel
theorem dX4_copyFrom_24 : decode cX4_copyFrom 24 = .ok (.aload_n 0, 1) := by decide +kernel
theorem dX4_copyFrom_25 : decode cX4_copyFrom 25 = .ok (.aload_n 1, 1) := by decide +kernel
theorem dX4_copyFrom_26 : decode cX4_copyFrom 26 = .ok (.getfield 52, 3) := by decide +kernel
theorem dX4_copyFrom_29 : decode cX4_copyFrom 29 = .ok (.putfield 52, 3) := by decide +kernel
theorem dX4_copyFrom_32 : decode cX4_copyFrom 32 = .ok (.aload_n 0, 1) := by decide +kernel
theorem dX4_copyFrom_33 : decode cX4_copyFrom 33 = .ok (.aload_n 1, 1) := by decide +kernel
theorem dX4_copyFrom_34 : decode cX4_copyFrom 34 = .ok (.getfield 55, 3) := by decide +kernel
theorem dX4_copyFrom_37 : decode cX4_copyFrom 37 = .ok (.putfield 55, 3) := by decide +kernel
theorem dX4_copyFrom_40 : decode cX4_copyFrom 40 = .ok (.aload_n 0, 1) := by decide +kernel
theorem dX4_copyFrom_41 : decode cX4_copyFrom 41 = .ok (.aload_n 1, 1) := by decide +kernel
theorem dX4_copyFrom_42 : decode cX4_copyFrom 42 = .ok (.getfield 58, 3) := by decide +kernel
theorem dX4_copyFrom_45 : decode cX4_copyFrom 45 = .ok (.putfield 58, 3) := by decide +kernel
theorem dX4_copyFrom_48 : decode cX4_copyFrom 48 = .ok (.aload_n 0, 1) := by decide +kernel
theorem dX4_copyFrom_49 : decode cX4_copyFrom 49 = .ok (.aload_n 1, 1) := by decide +kernel
theorem dX4_copyFrom_50 : decode cX4_copyFrom 50 = .ok (.getfield 61, 3) := by decide +kernel
theorem dX4_copyFrom_53 : decode cX4_copyFrom 53 = .ok (.putfield 61, 3) := by decide +kernel
theorem dX4_copyFrom_56 : decode cX4_copyFrom 56 = .ok (.aload_n 0, 1) := by decide +kernel
theorem dX4_copyFrom_57 : decode cX4_copyFrom 57 = .ok (.aload_n 1, 1) := by decide +kernel
theorem dX4_copyFrom_58 : decode cX4_copyFrom 58 = .ok (.getfield 64, 3) := by decide +kernel
theorem dX4_copyFrom_61 : decode cX4_copyFrom 61 = .ok (.putfield 64, 3) := by decide +kernel
theorem dX4_copyFrom_64 : decode cX4_copyFrom 64 = .ok (.aload_n 1, 1) := by decide +kernel
theorem dX4_copyFrom_65 : decode cX4_copyFrom 65 = .ok (.getfield 9, 3) := by decide +kernel
theorem dX4_copyFrom_68 : decode cX4_copyFrom 68 = .ok (.iconst 0, 1) := by decide +kernel
theorem dX4_copyFrom_69 : decode cX4_copyFrom 69 = .ok (.aload_n 0, 1) := by decide +kernel
theorem dX4_copyFrom_70 : decode cX4_copyFrom 70 = .ok (.getfield 9, 3) := by decide +kernel
theorem dX4_copyFrom_73 : decode cX4_copyFrom 73 = .ok (.iconst 0, 1) := by decide +kernel
theorem dX4_copyFrom_74 : decode cX4_copyFrom 74 = .ok (.iconst 4, 1) := by decide +kernel
theorem dX4_copyFrom_75 : decode cX4_copyFrom 75 = .ok (.invokestatic 67, 3) := by decide +kernel
theorem dX4_copyFrom_78 : decode cX4_copyFrom 78 = .ok (.aload_n 1, 1) := by decide +kernel
theorem dX4_copyFrom_79 : decode cX4_copyFrom 79 = .ok (.getfield 15, 3) := by decide +kernel
theorem dX4_copyFrom_82 : decode cX4_copyFrom 82 = .ok (.iconst 0, 1) := by decide +kernel
theorem dX4_copyFrom_83 : decode cX4_copyFrom 83 = .ok (.aload_n 0, 1) := by decide +kernel
theorem dX4_copyFrom_84 : decode cX4_copyFrom 84 = .ok (.getfield 15, 3) := by decide +kernel
theorem dX4_copyFrom_87 : decode cX4_copyFrom 87 = .ok (.iconst 0, 1) := by decide +kernel
theorem dX4_copyFrom_88 : decode cX4_copyFrom 88 = .ok (.iconst 4, 1) := by decide +kernel
theorem dX4_copyFrom_89 : decode cX4_copyFrom 89 = .ok (.invokestatic 67, 3) := by decide +kernel
theorem dX4_copyFrom_92 : decode cX4_copyFrom 92 = .ok (.aload_n 1, 1) := by decide +kernel
theorem dX4_copyFrom_93 : decode cX4_copyFrom 93 = .ok (.getfield 18, 3) := by decide +kernel
theorem dX4_copyFrom_96 : decode cX4_copyFrom 96 = .ok (.iconst 0, 1) := by decide +kernel
theorem dX4_copyFrom_97 : decode cX4_copyFrom 97 = .ok (.aload_n 0, 1) := by decide +kernel
theorem dX4_copyFrom_98 : decode cX4_copyFrom 98 = .ok (.getfield 18, 3) := by decide +kernel
theorem dX4_copyFrom_101 : decode cX4_copyFrom 101 = .ok (.iconst 0, 1) := by decide +kernel
theorem dX4_copyFrom_102 : decode cX4_copyFrom 102 = .ok (.iconst 4, 1) := by decide +kernel
theorem dX4_copyFrom_103 : decode cX4_copyFrom 103 = .ok (.invokestatic 67, 3) := by decide +kernel
theorem dX4_copyFrom_106 : decode cX4_copyFrom 106 = .ok (.aload_n 1, 1) := by decide +kernel
theorem dX4_copyFrom_107 : decode cX4_copyFrom 107 = .ok (.getfield 21, 3) := by decide +kernel
theorem dX4_copyFrom_110 : decode cX4_copyFrom 110 = .ok (.iconst 0, 1) := by decide +kernel
theorem dX4_copyFrom_111 : decode cX4_copyFrom 111 = .ok (.aload_n 0, 1) := by decide +kernel
theorem dX4_copyFrom_112 : decode cX4_copyFrom 112 = .ok (.getfield 21, 3) := by decide +kernel
theorem dX4_copyFrom_115 : decode cX4_copyFrom 115 = .ok (.iconst 0, 1) := by decide +kernel
theorem dX4_copyFrom_116 : decode cX4_copyFrom 116 = .ok (.bipush 8, 2) := by decide +kernel
theorem dX4_copyFrom_118 : decode cX4_copyFrom 118 = .ok (.invokestatic 67, 3) := by decide +kernel
theorem dX4_copyFrom_121 : decode cX4_copyFrom 121 = .ok (.aload_n 1, 1) := by decide +kernel
theorem dX4_copyFrom_122 : decode cX4_copyFrom 122 = .ok (.getfield 24, 3) := by decide +kernel
theorem dX4_copyFrom_125 : decode cX4_copyFrom 125 = .ok (.iconst 0, 1) := by decide +kernel
theorem dX4_copyFrom_126 : decode cX4_copyFrom 126 = .ok (.aload_n 0, 1) := by decide +kernel
theorem dX4_copyFrom_127 : decode cX4_copyFrom 127 = .ok (.getfield 24, 3) := by decide +kernel
theorem dX4_copyFrom_130 : decode cX4_copyFrom 130 = .ok (.iconst 0, 1) := by decide +kernel
theorem dX4_copyFrom_131 : decode cX4_copyFrom 131 = .ok (.bipush 8, 2) := by decide +kernel
theorem dX4_copyFrom_133 : decode cX4_copyFrom 133 = .ok (.invokestatic 67, 3) := by decide +kernel
theorem dX4_copyFrom_136 : decode cX4_copyFrom 136 = .ok (.aload_n 1, 1) := by decide +kernel
theorem dX4_copyFrom_137 : decode cX4_copyFrom 137 = .ok (.getfield 27, 3) := by decide +kernel
theorem dX4_copyFrom_140 : decode cX4_copyFrom 140 = .ok (.iconst 0, 1) := by decide +kernel
theorem dX4_copyFrom_141 : decode cX4_copyFrom 141 = .ok (.aload_n 0, 1) := by decide +kernel
theorem dX4_copyFrom_142 : decode cX4_copyFrom 142 = .ok (.getfield 27, 3) := by decide +kernel
theorem dX4_copyFrom_145 : decode cX4_copyFrom 145 = .ok (.iconst 0, 1) := by decide +kernel
theorem dX4_copyFrom_146 : decode cX4_copyFrom 146 = .ok (.bipush 64, 2) := by decide +kernel
theorem dX4_copyFrom_148 : decode cX4_copyFrom 148 = .ok (.invokestatic 67, 3) := by decide +kernel
theorem dX4_copyFrom_151 : decode cX4_copyFrom 151 = .ok (.aload_n 1, 1) := by decide +kernel
theorem dX4_copyFrom_152 : decode cX4_copyFrom 152 = .ok (.getfield 30, 3) := by decide +kernel
theorem dX4_copyFrom_155 : decode cX4_copyFrom 155 = .ok (.iconst 0, 1) := by decide +kernel
theorem dX4_copyFrom_156 : decode cX4_copyFrom 156 = .ok (.aload_n 0, 1) := by decide +kernel
theorem dX4_copyFrom_157 : decode cX4_copyFrom 157 = .ok (.getfield 30, 3) := by decide +kernel
theorem dX4_copyFrom_160 : decode cX4_copyFrom 160 = .ok (.iconst 0, 1) := by decide +kernel
theorem dX4_copyFrom_161 : decode cX4_copyFrom 161 = .ok (.bipush 64, 2) := by decide +kernel
theorem dX4_copyFrom_163 : decode cX4_copyFrom 163 = .ok (.invokestatic 67, 3) := by decide +kernel
theorem dX4_copyFrom_166 : decode cX4_copyFrom 166 = .ok (.aload_n 1, 1) := by decide +kernel
theorem dX4_copyFrom_167 : decode cX4_copyFrom 167 = .ok (.getfield 33, 3) := by decide +kernel
theorem dX4_copyFrom_170 : decode cX4_copyFrom 170 = .ok (.iconst 0, 1) := by decide +kernel
theorem dX4_copyFrom_171 : decode cX4_copyFrom 171 = .ok (.aload_n 0, 1) := by decide +kernel
theorem dX4_copyFrom_172 : decode cX4_copyFrom 172 = .ok (.getfield 33, 3) := by decide +kernel
theorem dX4_copyFrom_175 : decode cX4_copyFrom 175 = .ok (.iconst 0, 1) := by decide +kernel
theorem dX4_copyFrom_176 : decode cX4_copyFrom 176 = .ok (.bipush 64, 2) := by decide +kernel
theorem dX4_copyFrom_178 : decode cX4_copyFrom 178 = .ok (.invokestatic 67, 3) := by decide +kernel
theorem dX4_copyFrom_181 : decode cX4_copyFrom 181 = .ok (.aload_n 1, 1) := by decide +kernel
theorem dX4_copyFrom_182 : decode cX4_copyFrom 182 = .ok (.getfield 36, 3) := by decide +kernel
theorem dX4_copyFrom_185 : decode cX4_copyFrom 185 = .ok (.iconst 0, 1) := by decide +kernel
theorem dX4_copyFrom_186 : decode cX4_copyFrom 186 = .ok (.aload_n 0, 1) := by decide +kernel
theorem dX4_copyFrom_187 : decode cX4_copyFrom 187 = .ok (.getfield 36, 3) := by decide +kernel
theorem dX4_copyFrom_190 : decode cX4_copyFrom 190 = .ok (.iconst 0, 1) := by decide +kernel
theorem dX4_copyFrom_191 : decode cX4_copyFrom 191 = .ok (.iconst 5, 1) := by decide +kernel
theorem dX4_copyFrom_192 : decode cX4_copyFrom 192 = .ok (.invokestatic 67, 3) := by decide +kernel
theorem dX4_copyFrom_195 : decode cX4_copyFrom 195 = .ok (.aload_n 1, 1) := by decide +kernel
theorem dX4_copyFrom_196 : decode cX4_copyFrom 196 = .ok (.getfield 39, 3) := by decide +kernel
theorem dX4_copyFrom_199 : decode cX4_copyFrom 199 = .ok (.iconst 0, 1) := by decide +kernel
theorem dX4_copyFrom_200 : decode cX4_copyFrom 200 = .ok (.aload_n 0, 1) := by decide +kernel
theorem dX4_copyFrom_201 : decode cX4_copyFrom 201 = .ok (.getfield 39, 3) := by decide +kernel
theorem dX4_copyFrom_204 : decode cX4_copyFrom 204 = .ok (.iconst 0, 1) := by decide +kernel
theorem dX4_copyFrom_205 : decode cX4_copyFrom 205 = .ok (.iconst 5, 1) := by decide +kernel
theorem dX4_copyFrom_206 : decode cX4_copyFrom 206 = .ok (.invokestatic 67, 3) := by decide +kernel
theorem dX4_copyFrom_209 : decode cX4_copyFrom 209 = .ok (.return_, 1) := by decide +kernel
theorem dX4_hasHouse_0 : decode cX4_hasHouse 0 = .ok (.iload_n 1, 1) := by decide +kernel
theorem dX4_hasHouse_1 : decode cX4_hasHouse 1 = .ok (.ifCond .lt 15, 3) := by decide +kernel
theorem dX4_hasHouse_4 : decode cX4_hasHouse 4 = .ok (.iload_n 1, 1) := by decide +kernel
theorem dX4_hasHouse_5 : decode cX4_hasHouse 5 = .ok (.aload_n 0, 1) := by decide +kernel
theorem dX4_hasHouse_6 : decode cX4_hasHouse 6 = .ok (.getfield 42, 3) := by decide +kernel
theorem dX4_hasHouse_9 : decode cX4_hasHouse 9 = .ok (.if_icmp .ge 7, 3) := by decide +kernel
theorem dX4_hasHouse_12 : decode cX4_hasHouse 12 = .ok (.iconst 1, 1) := by decide +kernel
theorem dX4_hasHouse_13 : decode cX4_hasHouse 13 = .ok (.goto 4, 3) := by decide +kernel
theorem dX4_hasHouse_16 : decode cX4_hasHouse 16 = .ok (.iconst 0, 1) := by decide +kernel
theorem dX4_hasHouse_17 : decode cX4_hasHouse 17 = .ok (.ireturn, 1) := by decide +kernel
theorem dX4_hasSheet_0 : decode cX4_hasSheet 0 = .ok (.iload_n 1, 1) := by decide +kernel
theorem dX4_hasSheet_1 : decode cX4_hasSheet 1 = .ok (.ifCond .lt 15, 3) := by decide +kernel
theorem dX4_hasSheet_4 : decode cX4_hasSheet 4 = .ok (.iload_n 1, 1) := by decide +kernel
theorem dX4_hasSheet_5 : decode cX4_hasSheet 5 = .ok (.aload_n 0, 1) := by decide +kernel
theorem dX4_hasSheet_6 : decode cX4_hasSheet 6 = .ok (.getfield 46, 3) := by decide +kernel
theorem dX4_hasSheet_9 : decode cX4_hasSheet 9 = .ok (.if_icmp .ge 7, 3) := by decide +kernel
theorem dX4_hasSheet_12 : decode cX4_hasSheet 12 = .ok (.iconst 1, 1) := by decide +kernel
theorem dX4_hasSheet_13 : decode cX4_hasSheet 13 = .ok (.goto 4, 3) := by decide +kernel
theorem dX4_hasSheet_16 : decode cX4_hasSheet 16 = .ok (.iconst 0, 1) := by decide +kernel
theorem dX4_hasSheet_17 : decode cX4_hasSheet 17 = .ok (.ireturn, 1) := by decide +kernel
theorem dX4_hasPlace_0 : decode cX4_hasPlace 0 = .ok (.aload_n 0, 1) := by decide +kernel
theorem dX4_hasPlace_1 : decode cX4_hasPlace 1 = .ok (.iload_n 1, 1) := by decide +kernel
theorem dX4_hasPlace_2 : decode cX4_hasPlace 2 = .ok (.invokevirtual 73, 3) := by decide +kernel
theorem dX4_hasPlace_5 : decode cX4_hasPlace 5 = .ok (.ifCond .eq 21, 3) := by decide +kernel
theorem dX4_hasPlace_8 : decode cX4_hasPlace 8 = .ok (.iload_n 2, 1) := by decide +kernel
theorem dX4_hasPlace_9 : decode cX4_hasPlace 9 = .ok (.ifCond .lt 17, 3) := by decide +kernel
theorem dX4_hasPlace_12 : decode cX4_hasPlace 12 = .ok (.iload_n 2, 1) := by decide +kernel
theorem dX4_hasPlace_13 : decode cX4_hasPlace 13 = .ok (.aload_n 0, 1) := by decide +kernel
theorem dX4_hasPlace_14 : decode cX4_hasPlace 14 = .ok (.getfield 24, 3) := by decide +kernel
theorem dX4_hasPlace_17 : decode cX4_hasPlace 17 = .ok (.iload_n 1, 1) := by decide +kernel
theorem dX4_hasPlace_18 : decode cX4_hasPlace 18 = .ok (.iaload, 1) := by decide +kernel
theorem dX4_hasPlace_19 : decode cX4_hasPlace 19 = .ok (.if_icmp .ge 7, 3) := by decide +kernel
theorem dX4_hasPlace_22 : decode cX4_hasPlace 22 = .ok (.iconst 1, 1) := by decide +kernel
theorem dX4_hasPlace_23 : decode cX4_hasPlace 23 = .ok (.goto 4, 3) := by decide +kernel
theorem dX4_hasPlace_26 : decode cX4_hasPlace 26 = .ok (.iconst 0, 1) := by decide +kernel
theorem dX4_hasPlace_27 : decode cX4_hasPlace 27 = .ok (.ireturn, 1) := by decide +kernel
theorem dX4_rightAt_0 : decode cX4_rightAt 0 = .ok (.aload_n 0, 1) := by decide +kernel
theorem dX4_rightAt_1 : decode cX4_rightAt 1 = .ok (.getfield 27, 3) := by decide +kernel
theorem dX4_rightAt_4 : decode cX4_rightAt 4 = .ok (.iload_n 1, 1) := by decide +kernel
theorem dX4_rightAt_5 : decode cX4_rightAt 5 = .ok (.bipush 8, 2) := by decide +kernel
theorem dX4_rightAt_7 : decode cX4_rightAt 7 = .ok (.imul, 1) := by decide +kernel
theorem dX4_rightAt_8 : decode cX4_rightAt 8 = .ok (.iload_n 2, 1) := by decide +kernel
theorem dX4_rightAt_9 : decode cX4_rightAt 9 = .ok (.iadd, 1) := by decide +kernel
theorem dX4_rightAt_10 : decode cX4_rightAt 10 = .ok (.iaload, 1) := by decide +kernel
theorem dX4_rightAt_11 : decode cX4_rightAt 11 = .ok (.ireturn, 1) := by decide +kernel
theorem dX4_placedAt_0 : decode cX4_placedAt 0 = .ok (.aload_n 0, 1) := by decide +kernel
theorem dX4_placedAt_1 : decode cX4_placedAt 1 = .ok (.getfield 30, 3) := by decide +kernel
theorem dX4_placedAt_4 : decode cX4_placedAt 4 = .ok (.iload_n 1, 1) := by decide +kernel
theorem dX4_placedAt_5 : decode cX4_placedAt 5 = .ok (.bipush 8, 2) := by decide +kernel
theorem dX4_placedAt_7 : decode cX4_placedAt 7 = .ok (.imul, 1) := by decide +kernel
theorem dX4_placedAt_8 : decode cX4_placedAt 8 = .ok (.iload_n 2, 1) := by decide +kernel
theorem dX4_placedAt_9 : decode cX4_placedAt 9 = .ok (.iadd, 1) := by decide +kernel
theorem dX4_placedAt_10 : decode cX4_placedAt 10 = .ok (.iaload, 1) := by decide +kernel
theorem dX4_placedAt_11 : decode cX4_placedAt 11 = .ok (.ireturn, 1) := by decide +kernel
theorem dX4_isMisprint_0 : decode cX4_isMisprint 0 = .ok (.aload_n 0, 1) := by decide +kernel
theorem dX4_isMisprint_1 : decode cX4_isMisprint 1 = .ok (.iload_n 1, 1) := by decide +kernel
theorem dX4_isMisprint_2 : decode cX4_isMisprint 2 = .ok (.iload_n 2, 1) := by decide +kernel
theorem dX4_isMisprint_3 : decode cX4_isMisprint 3 = .ok (.invokevirtual 77, 3) := by decide +kernel
theorem dX4_isMisprint_6 : decode cX4_isMisprint 6 = .ok (.aload_n 0, 1) := by decide +kernel
theorem dX4_isMisprint_7 : decode cX4_isMisprint 7 = .ok (.iload_n 1, 1) := by decide +kernel
theorem dX4_isMisprint_8 : decode cX4_isMisprint 8 = .ok (.iload_n 2, 1) := by decide +kernel
theorem dX4_isMisprint_9 : decode cX4_isMisprint 9 = .ok (.invokevirtual 81, 3) := by decide +kernel
theorem dX4_isMisprint_12 : decode cX4_isMisprint 12 = .ok (.if_icmp .eq 7, 3) := by decide +kernel
theorem dX4_isMisprint_15 : decode cX4_isMisprint 15 = .ok (.iconst 1, 1) := by decide +kernel
theorem dX4_isMisprint_16 : decode cX4_isMisprint 16 = .ok (.goto 4, 3) := by decide +kernel
theorem dX4_isMisprint_19 : decode cX4_isMisprint 19 = .ok (.iconst 0, 1) := by decide +kernel
theorem dX4_isMisprint_20 : decode cX4_isMisprint 20 = .ok (.ireturn, 1) := by decide +kernel
theorem dX4_levelAt_0 : decode cX4_levelAt 0 = .ok (.aload_n 0, 1) := by decide +kernel
theorem dX4_levelAt_1 : decode cX4_levelAt 1 = .ok (.getfield 33, 3) := by decide +kernel
theorem dX4_levelAt_4 : decode cX4_levelAt 4 = .ok (.iload_n 1, 1) := by decide +kernel
theorem dX4_levelAt_5 : decode cX4_levelAt 5 = .ok (.bipush 8, 2) := by decide +kernel
theorem dX4_levelAt_7 : decode cX4_levelAt 7 = .ok (.imul, 1) := by decide +kernel
theorem dX4_levelAt_8 : decode cX4_levelAt 8 = .ok (.iload_n 2, 1) := by decide +kernel
theorem dX4_levelAt_9 : decode cX4_levelAt 9 = .ok (.iadd, 1) := by decide +kernel
theorem dX4_levelAt_10 : decode cX4_levelAt 10 = .ok (.iaload, 1) := by decide +kernel
theorem dX4_levelAt_11 : decode cX4_levelAt 11 = .ok (.ireturn, 1) := by decide +kernel
theorem dX4_howBad_0 : decode cX4_howBad 0 = .ok (.iload_n 1, 1) := by decide +kernel
theorem dX4_howBad_1 : decode cX4_howBad 1 = .ok (.bipush 8, 2) := by decide +kernel
theorem dX4_howBad_3 : decode cX4_howBad 3 = .ok (.imul, 1) := by decide +kernel
theorem dX4_howBad_4 : decode cX4_howBad 4 = .ok (.iload_n 2, 1) := by decide +kernel
theorem dX4_howBad_5 : decode cX4_howBad 5 = .ok (.iadd, 1) := by decide +kernel
theorem dX4_howBad_6 : decode cX4_howBad 6 = .ok (.istore_n 3, 1) := by decide +kernel
theorem dX4_howBad_7 : decode cX4_howBad 7 = .ok (.aload_n 0, 1) := by decide +kernel
theorem dX4_howBad_8 : decode cX4_howBad 8 = .ok (.getfield 30, 3) := by decide +kernel
theorem dX4_howBad_11 : decode cX4_howBad 11 = .ok (.iload_n 3, 1) := by decide +kernel
theorem dX4_howBad_12 : decode cX4_howBad 12 = .ok (.iaload, 1) := by decide +kernel
theorem dX4_howBad_13 : decode cX4_howBad 13 = .ok (.aload_n 0, 1) := by decide +kernel
theorem dX4_howBad_14 : decode cX4_howBad 14 = .ok (.getfield 27, 3) := by decide +kernel
theorem dX4_howBad_17 : decode cX4_howBad 17 = .ok (.iload_n 3, 1) := by decide +kernel
theorem dX4_howBad_18 : decode cX4_howBad 18 = .ok (.iaload, 1) := by decide +kernel
theorem dX4_howBad_19 : decode cX4_howBad 19 = .ok (.isub, 1) := by decide +kernel
theorem dX4_howBad_20 : decode cX4_howBad 20 = .ok (.invokestatic 84, 3) := by decide +kernel
theorem dX4_howBad_23 : decode cX4_howBad 23 = .ok (.ireturn, 1) := by decide +kernel
theorem dX4_isAshamed_0 : decode cX4_isAshamed 0 = .ok (.aload_n 0, 1) := by decide +kernel
theorem dX4_isAshamed_1 : decode cX4_isAshamed 1 = .ok (.getfield 15, 3) := by decide +kernel
theorem dX4_isAshamed_4 : decode cX4_isAshamed 4 = .ok (.iload_n 1, 1) := by decide +kernel
theorem dX4_isAshamed_5 : decode cX4_isAshamed 5 = .ok (.iaload, 1) := by decide +kernel
theorem dX4_isAshamed_6 : decode cX4_isAshamed 6 = .ok (.bipush 20, 2) := by decide +kernel
theorem dX4_isAshamed_8 : decode cX4_isAshamed 8 = .ok (.if_icmp .le 7, 3) := by decide +kernel
theorem dX4_isAshamed_11 : decode cX4_isAshamed 11 = .ok (.iconst 1, 1) := by decide +kernel
theorem dX4_isAshamed_12 : decode cX4_isAshamed 12 = .ok (.goto 4, 3) := by decide +kernel
theorem dX4_isAshamed_15 : decode cX4_isAshamed 15 = .ok (.iconst 0, 1) := by decide +kernel
theorem dX4_isAshamed_16 : decode cX4_isAshamed 16 = .ok (.ireturn, 1) := by decide +kernel
theorem dX4_countOnSheet_0 : decode cX4_countOnSheet 0 = .ok (.iconst 0, 1) := by decide +kernel
theorem dX4_countOnSheet_1 : decode cX4_countOnSheet 1 = .ok (.istore_n 3, 1) := by decide +kernel
theorem dX4_countOnSheet_2 : decode cX4_countOnSheet 2 = .ok (.iconst 0, 1) := by decide +kernel
theorem dX4_countOnSheet_3 : decode cX4_countOnSheet 3 = .ok (.istore 4, 2) := by decide +kernel
theorem dX4_countOnSheet_5 : decode cX4_countOnSheet 5 = .ok (.iload 4, 2) := by decide +kernel
theorem dX4_countOnSheet_7 : decode cX4_countOnSheet 7 = .ok (.aload_n 0, 1) := by decide +kernel
theorem dX4_countOnSheet_8 : decode cX4_countOnSheet 8 = .ok (.getfield 24, 3) := by decide +kernel
theorem dX4_countOnSheet_11 : decode cX4_countOnSheet 11 = .ok (.iload_n 1, 1) := by decide +kernel
theorem dX4_countOnSheet_12 : decode cX4_countOnSheet 12 = .ok (.iaload, 1) := by decide +kernel
theorem dX4_countOnSheet_13 : decode cX4_countOnSheet 13 = .ok (.if_icmp .ge 28, 3) := by decide +kernel
theorem dX4_countOnSheet_16 : decode cX4_countOnSheet 16 = .ok (.aload_n 0, 1) := by decide +kernel
theorem dX4_countOnSheet_17 : decode cX4_countOnSheet 17 = .ok (.getfield 33, 3) := by decide +kernel
theorem dX4_countOnSheet_20 : decode cX4_countOnSheet 20 = .ok (.iload_n 1, 1) := by decide +kernel
theorem dX4_countOnSheet_21 : decode cX4_countOnSheet 21 = .ok (.bipush 8, 2) := by decide +kernel
theorem dX4_countOnSheet_23 : decode cX4_countOnSheet 23 = .ok (.imul, 1) := by decide +kernel
theorem dX4_countOnSheet_24 : decode cX4_countOnSheet 24 = .ok (.iload 4, 2) := by decide +kernel
theorem dX4_countOnSheet_26 : decode cX4_countOnSheet 26 = .ok (.iadd, 1) := by decide +kernel
theorem dX4_countOnSheet_27 : decode cX4_countOnSheet 27 = .ok (.iaload, 1) := by decide +kernel
theorem dX4_countOnSheet_28 : decode cX4_countOnSheet 28 = .ok (.iload_n 2, 1) := by decide +kernel
theorem dX4_countOnSheet_29 : decode cX4_countOnSheet 29 = .ok (.if_icmp .lt 6, 3) := by decide +kernel
theorem dX4_countOnSheet_32 : decode cX4_countOnSheet 32 = .ok (.iinc 3 1, 3) := by decide +kernel
theorem dX4_countOnSheet_35 : decode cX4_countOnSheet 35 = .ok (.iinc 4 1, 3) := by decide +kernel
theorem dX4_countOnSheet_38 : decode cX4_countOnSheet 38 = .ok (.goto (-33), 3) := by decide +kernel
theorem dX4_countOnSheet_41 : decode cX4_countOnSheet 41 = .ok (.iload_n 3, 1) := by decide +kernel
theorem dX4_countOnSheet_42 : decode cX4_countOnSheet 42 = .ok (.ireturn, 1) := by decide +kernel
theorem dX4_countOfHouse_0 : decode cX4_countOfHouse 0 = .ok (.iconst 0, 1) := by decide +kernel
theorem dX4_countOfHouse_1 : decode cX4_countOfHouse 1 = .ok (.istore_n 3, 1) := by decide +kernel
theorem dX4_countOfHouse_2 : decode cX4_countOfHouse 2 = .ok (.iconst 0, 1) := by decide +kernel
theorem dX4_countOfHouse_3 : decode cX4_countOfHouse 3 = .ok (.istore 4, 2) := by decide +kernel
theorem dX4_countOfHouse_5 : decode cX4_countOfHouse 5 = .ok (.iload 4, 2) := by decide +kernel
theorem dX4_countOfHouse_7 : decode cX4_countOfHouse 7 = .ok (.aload_n 0, 1) := by decide +kernel
theorem dX4_countOfHouse_8 : decode cX4_countOfHouse 8 = .ok (.getfield 46, 3) := by decide +kernel
theorem dX4_countOfHouse_11 : decode cX4_countOfHouse 11 = .ok (.if_icmp .ge 30, 3) := by decide +kernel
theorem dX4_countOfHouse_14 : decode cX4_countOfHouse 14 = .ok (.aload_n 0, 1) := by decide +kernel
theorem dX4_countOfHouse_15 : decode cX4_countOfHouse 15 = .ok (.getfield 21, 3) := by decide +kernel
theorem dX4_countOfHouse_18 : decode cX4_countOfHouse 18 = .ok (.iload 4, 2) := by decide +kernel
theorem dX4_countOfHouse_20 : decode cX4_countOfHouse 20 = .ok (.iaload, 1) := by decide +kernel
theorem dX4_countOfHouse_21 : decode cX4_countOfHouse 21 = .ok (.iload_n 1, 1) := by decide +kernel
theorem dX4_countOfHouse_22 : decode cX4_countOfHouse 22 = .ok (.if_icmp .ne 13, 3) := by decide +kernel
theorem dX4_countOfHouse_25 : decode cX4_countOfHouse 25 = .ok (.iload_n 3, 1) := by decide +kernel
theorem dX4_countOfHouse_26 : decode cX4_countOfHouse 26 = .ok (.aload_n 0, 1) := by decide +kernel
theorem dX4_countOfHouse_27 : decode cX4_countOfHouse 27 = .ok (.iload 4, 2) := by decide +kernel
theorem dX4_countOfHouse_29 : decode cX4_countOfHouse 29 = .ok (.iload_n 2, 1) := by decide +kernel
theorem dX4_countOfHouse_30 : decode cX4_countOfHouse 30 = .ok (.invokevirtual 90, 3) := by decide +kernel
theorem dX4_countOfHouse_33 : decode cX4_countOfHouse 33 = .ok (.iadd, 1) := by decide +kernel
theorem dX4_countOfHouse_34 : decode cX4_countOfHouse 34 = .ok (.istore_n 3, 1) := by decide +kernel
theorem dX4_countOfHouse_35 : decode cX4_countOfHouse 35 = .ok (.iinc 4 1, 3) := by decide +kernel
theorem dX4_countOfHouse_38 : decode cX4_countOfHouse 38 = .ok (.goto (-33), 3) := by decide +kernel
theorem dX4_countOfHouse_41 : decode cX4_countOfHouse 41 = .ok (.iload_n 3, 1) := by decide +kernel
theorem dX4_countOfHouse_42 : decode cX4_countOfHouse 42 = .ok (.ireturn, 1) := by decide +kernel
theorem dX4_countInAll_0 : decode cX4_countInAll 0 = .ok (.iconst 0, 1) := by decide +kernel
theorem dX4_countInAll_1 : decode cX4_countInAll 1 = .ok (.istore_n 2, 1) := by decide +kernel
theorem dX4_countInAll_2 : decode cX4_countInAll 2 = .ok (.iconst 0, 1) := by decide +kernel
theorem dX4_countInAll_3 : decode cX4_countInAll 3 = .ok (.istore_n 3, 1) := by decide +kernel
theorem dX4_countInAll_4 : decode cX4_countInAll 4 = .ok (.iload_n 3, 1) := by decide +kernel
theorem dX4_countInAll_5 : decode cX4_countInAll 5 = .ok (.aload_n 0, 1) := by decide +kernel
theorem dX4_countInAll_6 : decode cX4_countInAll 6 = .ok (.getfield 46, 3) := by decide +kernel
theorem dX4_countInAll_9 : decode cX4_countInAll 9 = .ok (.if_icmp .ge 18, 3) := by decide +kernel
theorem dX4_countInAll_12 : decode cX4_countInAll 12 = .ok (.iload_n 2, 1) := by decide +kernel
theorem dX4_countInAll_13 : decode cX4_countInAll 13 = .ok (.aload_n 0, 1) := by decide +kernel
theorem dX4_countInAll_14 : decode cX4_countInAll 14 = .ok (.iload_n 3, 1) := by decide +kernel
theorem dX4_countInAll_15 : decode cX4_countInAll 15 = .ok (.iload_n 1, 1) := by decide +kernel
theorem dX4_countInAll_16 : decode cX4_countInAll 16 = .ok (.invokevirtual 90, 3) := by decide +kernel
theorem dX4_countInAll_19 : decode cX4_countInAll 19 = .ok (.iadd, 1) := by decide +kernel
theorem dX4_countInAll_20 : decode cX4_countInAll 20 = .ok (.istore_n 2, 1) := by decide +kernel
theorem dX4_countInAll_21 : decode cX4_countInAll 21 = .ok (.iinc 3 1, 3) := by decide +kernel
theorem dX4_countInAll_24 : decode cX4_countInAll 24 = .ok (.goto (-20), 3) := by decide +kernel
theorem dX4_countInAll_27 : decode cX4_countInAll 27 = .ok (.iload_n 2, 1) := by decide +kernel
theorem dX4_countInAll_28 : decode cX4_countInAll 28 = .ok (.ireturn, 1) := by decide +kernel
theorem dX4_badness_0 : decode cX4_badness 0 = .ok (.iconst 0, 1) := by decide +kernel
theorem dX4_badness_1 : decode cX4_badness 1 = .ok (.istore_n 2, 1) := by decide +kernel
theorem dX4_badness_2 : decode cX4_badness 2 = .ok (.iconst 0, 1) := by decide +kernel
theorem dX4_badness_3 : decode cX4_badness 3 = .ok (.istore_n 3, 1) := by decide +kernel
theorem dX4_badness_4 : decode cX4_badness 4 = .ok (.iload_n 3, 1) := by decide +kernel
theorem dX4_badness_5 : decode cX4_badness 5 = .ok (.aload_n 0, 1) := by decide +kernel
theorem dX4_badness_6 : decode cX4_badness 6 = .ok (.getfield 24, 3) := by decide +kernel
theorem dX4_badness_9 : decode cX4_badness 9 = .ok (.iload_n 1, 1) := by decide +kernel
theorem dX4_badness_10 : decode cX4_badness 10 = .ok (.iaload, 1) := by decide +kernel
theorem dX4_badness_11 : decode cX4_badness 11 = .ok (.if_icmp .ge 18, 3) := by decide +kernel
theorem dX4_badness_14 : decode cX4_badness 14 = .ok (.iload_n 2, 1) := by decide +kernel
theorem dX4_badness_15 : decode cX4_badness 15 = .ok (.aload_n 0, 1) := by decide +kernel
theorem dX4_badness_16 : decode cX4_badness 16 = .ok (.iload_n 1, 1) := by decide +kernel
theorem dX4_badness_17 : decode cX4_badness 17 = .ok (.iload_n 3, 1) := by decide +kernel
theorem dX4_badness_18 : decode cX4_badness 18 = .ok (.invokevirtual 93, 3) := by decide +kernel
theorem dX4_badness_21 : decode cX4_badness 21 = .ok (.iadd, 1) := by decide +kernel
theorem dX4_badness_22 : decode cX4_badness 22 = .ok (.istore_n 2, 1) := by decide +kernel
theorem dX4_badness_23 : decode cX4_badness 23 = .ok (.iinc 3 1, 3) := by decide +kernel
theorem dX4_badness_26 : decode cX4_badness 26 = .ok (.goto (-22), 3) := by decide +kernel
theorem dX4_badness_29 : decode cX4_badness 29 = .ok (.iload_n 2, 1) := by decide +kernel
theorem dX4_badness_30 : decode cX4_badness 30 = .ok (.ireturn, 1) := by decide +kernel
theorem dX4_sheetsOf_0 : decode cX4_sheetsOf 0 = .ok (.iconst 0, 1) := by decide +kernel
theorem dX4_sheetsOf_1 : decode cX4_sheetsOf 1 = .ok (.istore_n 2, 1) := by decide +kernel
theorem dX4_sheetsOf_2 : decode cX4_sheetsOf 2 = .ok (.iconst 0, 1) := by decide +kernel
theorem dX4_sheetsOf_3 : decode cX4_sheetsOf 3 = .ok (.istore_n 3, 1) := by decide +kernel
theorem dX4_sheetsOf_4 : decode cX4_sheetsOf 4 = .ok (.iload_n 3, 1) := by decide +kernel
theorem dX4_sheetsOf_5 : decode cX4_sheetsOf 5 = .ok (.aload_n 0, 1) := by decide +kernel
theorem dX4_sheetsOf_6 : decode cX4_sheetsOf 6 = .ok (.getfield 46, 3) := by decide +kernel
theorem dX4_sheetsOf_9 : decode cX4_sheetsOf 9 = .ok (.if_icmp .ge 22, 3) := by decide +kernel
theorem dX4_sheetsOf_12 : decode cX4_sheetsOf 12 = .ok (.aload_n 0, 1) := by decide +kernel
theorem dX4_sheetsOf_13 : decode cX4_sheetsOf 13 = .ok (.getfield 21, 3) := by decide +kernel
theorem dX4_sheetsOf_16 : decode cX4_sheetsOf 16 = .ok (.iload_n 3, 1) := by decide +kernel
theorem dX4_sheetsOf_17 : decode cX4_sheetsOf 17 = .ok (.iaload, 1) := by decide +kernel
theorem dX4_sheetsOf_18 : decode cX4_sheetsOf 18 = .ok (.iload_n 1, 1) := by decide +kernel
theorem dX4_sheetsOf_19 : decode cX4_sheetsOf 19 = .ok (.if_icmp .ne 6, 3) := by decide +kernel
theorem dX4_sheetsOf_22 : decode cX4_sheetsOf 22 = .ok (.iinc 2 1, 3) := by decide +kernel
theorem dX4_sheetsOf_25 : decode cX4_sheetsOf 25 = .ok (.iinc 3 1, 3) := by decide +kernel
theorem dX4_sheetsOf_28 : decode cX4_sheetsOf 28 = .ok (.goto (-24), 3) := by decide +kernel
theorem dX4_sheetsOf_31 : decode cX4_sheetsOf 31 = .ok (.iload_n 2, 1) := by decide +kernel
theorem dX4_sheetsOf_32 : decode cX4_sheetsOf 32 = .ok (.ireturn, 1) := by decide +kernel
theorem dX4_ashamedHouses_0 : decode cX4_ashamedHouses 0 = .ok (.iconst 0, 1) := by decide +kernel
theorem dX4_ashamedHouses_1 : decode cX4_ashamedHouses 1 = .ok (.istore_n 1, 1) := by decide +kernel
theorem dX4_ashamedHouses_2 : decode cX4_ashamedHouses 2 = .ok (.iconst 0, 1) := by decide +kernel
theorem dX4_ashamedHouses_3 : decode cX4_ashamedHouses 3 = .ok (.istore_n 2, 1) := by decide +kernel
theorem dX4_ashamedHouses_4 : decode cX4_ashamedHouses 4 = .ok (.iload_n 2, 1) := by decide +kernel
theorem dX4_ashamedHouses_5 : decode cX4_ashamedHouses 5 = .ok (.aload_n 0, 1) := by decide +kernel
theorem dX4_ashamedHouses_6 : decode cX4_ashamedHouses 6 = .ok (.getfield 42, 3) := by decide +kernel
theorem dX4_ashamedHouses_9 : decode cX4_ashamedHouses 9 = .ok (.if_icmp .ge 20, 3) := by decide +kernel
theorem dX4_ashamedHouses_12 : decode cX4_ashamedHouses 12 = .ok (.aload_n 0, 1) := by decide +kernel
theorem dX4_ashamedHouses_13 : decode cX4_ashamedHouses 13 = .ok (.iload_n 2, 1) := by decide +kernel
theorem dX4_ashamedHouses_14 : decode cX4_ashamedHouses 14 = .ok (.invokevirtual 96, 3) := by decide +kernel
theorem dX4_ashamedHouses_17 : decode cX4_ashamedHouses 17 = .ok (.ifCond .eq 6, 3) := by decide +kernel
theorem dX4_ashamedHouses_20 : decode cX4_ashamedHouses 20 = .ok (.iinc 1 1, 3) := by decide +kernel
theorem dX4_ashamedHouses_23 : decode cX4_ashamedHouses 23 = .ok (.iinc 2 1, 3) := by decide +kernel
theorem dX4_ashamedHouses_26 : decode cX4_ashamedHouses 26 = .ok (.goto (-22), 3) := by decide +kernel
theorem dX4_ashamedHouses_29 : decode cX4_ashamedHouses 29 = .ok (.iload_n 1, 1) := by decide +kernel
theorem dX4_ashamedHouses_30 : decode cX4_ashamedHouses 30 = .ok (.ireturn, 1) := by decide +kernel
theorem dX4_numberOfHouse_0 : decode cX4_numberOfHouse 0 = .ok (.iload_n 2, 1) := by decide +kernel
theorem dX4_numberOfHouse_1 : decode cX4_numberOfHouse 1 = .ok (.tableswitch 79 0 5 #[39, 46, 53, 59, 66, 73], 39) := by decide +kernel
theorem dX4_numberOfHouse_40 : decode cX4_numberOfHouse 40 = .ok (.aload_n 0, 1) := by decide +kernel
theorem dX4_numberOfHouse_41 : decode cX4_numberOfHouse 41 = .ok (.getfield 9, 3) := by decide +kernel
theorem dX4_numberOfHouse_44 : decode cX4_numberOfHouse 44 = .ok (.iload_n 1, 1) := by decide +kernel
theorem dX4_numberOfHouse_45 : decode cX4_numberOfHouse 45 = .ok (.iaload, 1) := by decide +kernel
theorem dX4_numberOfHouse_46 : decode cX4_numberOfHouse 46 = .ok (.ireturn, 1) := by decide +kernel
theorem dX4_numberOfHouse_47 : decode cX4_numberOfHouse 47 = .ok (.aload_n 0, 1) := by decide +kernel
theorem dX4_numberOfHouse_48 : decode cX4_numberOfHouse 48 = .ok (.getfield 15, 3) := by decide +kernel
theorem dX4_numberOfHouse_51 : decode cX4_numberOfHouse 51 = .ok (.iload_n 1, 1) := by decide +kernel
theorem dX4_numberOfHouse_52 : decode cX4_numberOfHouse 52 = .ok (.iaload, 1) := by decide +kernel
theorem dX4_numberOfHouse_53 : decode cX4_numberOfHouse 53 = .ok (.ireturn, 1) := by decide +kernel
theorem dX4_numberOfHouse_54 : decode cX4_numberOfHouse 54 = .ok (.aload_n 0, 1) := by decide +kernel
theorem dX4_numberOfHouse_55 : decode cX4_numberOfHouse 55 = .ok (.iload_n 1, 1) := by decide +kernel
theorem dX4_numberOfHouse_56 : decode cX4_numberOfHouse 56 = .ok (.invokevirtual 99, 3) := by decide +kernel
theorem dX4_numberOfHouse_59 : decode cX4_numberOfHouse 59 = .ok (.ireturn, 1) := by decide +kernel
theorem dX4_numberOfHouse_60 : decode cX4_numberOfHouse 60 = .ok (.aload_n 0, 1) := by decide +kernel
theorem dX4_numberOfHouse_61 : decode cX4_numberOfHouse 61 = .ok (.iload_n 1, 1) := by decide +kernel
theorem dX4_numberOfHouse_62 : decode cX4_numberOfHouse 62 = .ok (.iconst 1, 1) := by decide +kernel
theorem dX4_numberOfHouse_63 : decode cX4_numberOfHouse 63 = .ok (.invokevirtual 102, 3) := by decide +kernel
theorem dX4_numberOfHouse_66 : decode cX4_numberOfHouse 66 = .ok (.ireturn, 1) := by decide +kernel
theorem dX4_numberOfHouse_67 : decode cX4_numberOfHouse 67 = .ok (.aload_n 0, 1) := by decide +kernel
theorem dX4_numberOfHouse_68 : decode cX4_numberOfHouse 68 = .ok (.iload_n 1, 1) := by decide +kernel
theorem dX4_numberOfHouse_69 : decode cX4_numberOfHouse 69 = .ok (.iconst 2, 1) := by decide +kernel
theorem dX4_numberOfHouse_70 : decode cX4_numberOfHouse 70 = .ok (.invokevirtual 102, 3) := by decide +kernel
theorem dX4_numberOfHouse_73 : decode cX4_numberOfHouse 73 = .ok (.ireturn, 1) := by decide +kernel
theorem dX4_numberOfHouse_74 : decode cX4_numberOfHouse 74 = .ok (.aload_n 0, 1) := by decide +kernel
theorem dX4_numberOfHouse_75 : decode cX4_numberOfHouse 75 = .ok (.iload_n 1, 1) := by decide +kernel
theorem dX4_numberOfHouse_76 : decode cX4_numberOfHouse 76 = .ok (.invokevirtual 105, 3) := by decide +kernel
theorem dX4_numberOfHouse_79 : decode cX4_numberOfHouse 79 = .ok (.ireturn, 1) := by decide +kernel
theorem dX4_numberOfHouse_80 : decode cX4_numberOfHouse 80 = .ok (.aload_n 0, 1) := by decide +kernel
theorem dX4_numberOfHouse_81 : decode cX4_numberOfHouse 81 = .ok (.getfield 18, 3) := by decide +kernel
theorem dX4_numberOfHouse_84 : decode cX4_numberOfHouse 84 = .ok (.iload_n 1, 1) := by decide +kernel
theorem dX4_numberOfHouse_85 : decode cX4_numberOfHouse 85 = .ok (.iaload, 1) := by decide +kernel
theorem dX4_numberOfHouse_86 : decode cX4_numberOfHouse 86 = .ok (.ireturn, 1) := by decide +kernel
theorem dX4_numberOfSheet_0 : decode cX4_numberOfSheet 0 = .ok (.iload_n 2, 1) := by decide +kernel
theorem dX4_numberOfSheet_1 : decode cX4_numberOfSheet 1 = .ok (.tableswitch 70 0 4 #[35, 42, 49, 56, 63], 35) := by decide +kernel
theorem dX4_numberOfSheet_36 : decode cX4_numberOfSheet 36 = .ok (.aload_n 0, 1) := by decide +kernel
theorem dX4_numberOfSheet_37 : decode cX4_numberOfSheet 37 = .ok (.getfield 21, 3) := by decide +kernel
theorem dX4_numberOfSheet_40 : decode cX4_numberOfSheet 40 = .ok (.iload_n 1, 1) := by decide +kernel
theorem dX4_numberOfSheet_41 : decode cX4_numberOfSheet 41 = .ok (.iaload, 1) := by decide +kernel
theorem dX4_numberOfSheet_42 : decode cX4_numberOfSheet 42 = .ok (.ireturn, 1) := by decide +kernel
theorem dX4_numberOfSheet_43 : decode cX4_numberOfSheet 43 = .ok (.aload_n 0, 1) := by decide +kernel
theorem dX4_numberOfSheet_44 : decode cX4_numberOfSheet 44 = .ok (.getfield 24, 3) := by decide +kernel
theorem dX4_numberOfSheet_47 : decode cX4_numberOfSheet 47 = .ok (.iload_n 1, 1) := by decide +kernel
theorem dX4_numberOfSheet_48 : decode cX4_numberOfSheet 48 = .ok (.iaload, 1) := by decide +kernel
theorem dX4_numberOfSheet_49 : decode cX4_numberOfSheet 49 = .ok (.ireturn, 1) := by decide +kernel
theorem dX4_numberOfSheet_50 : decode cX4_numberOfSheet 50 = .ok (.aload_n 0, 1) := by decide +kernel
theorem dX4_numberOfSheet_51 : decode cX4_numberOfSheet 51 = .ok (.iload_n 1, 1) := by decide +kernel
theorem dX4_numberOfSheet_52 : decode cX4_numberOfSheet 52 = .ok (.iconst 1, 1) := by decide +kernel
theorem dX4_numberOfSheet_53 : decode cX4_numberOfSheet 53 = .ok (.invokevirtual 90, 3) := by decide +kernel
theorem dX4_numberOfSheet_56 : decode cX4_numberOfSheet 56 = .ok (.ireturn, 1) := by decide +kernel
theorem dX4_numberOfSheet_57 : decode cX4_numberOfSheet 57 = .ok (.aload_n 0, 1) := by decide +kernel
theorem dX4_numberOfSheet_58 : decode cX4_numberOfSheet 58 = .ok (.iload_n 1, 1) := by decide +kernel
theorem dX4_numberOfSheet_59 : decode cX4_numberOfSheet 59 = .ok (.iconst 2, 1) := by decide +kernel
theorem dX4_numberOfSheet_60 : decode cX4_numberOfSheet 60 = .ok (.invokevirtual 90, 3) := by decide +kernel
theorem dX4_numberOfSheet_63 : decode cX4_numberOfSheet 63 = .ok (.ireturn, 1) := by decide +kernel
theorem dX4_numberOfSheet_64 : decode cX4_numberOfSheet 64 = .ok (.aload_n 0, 1) := by decide +kernel
theorem dX4_numberOfSheet_65 : decode cX4_numberOfSheet 65 = .ok (.iload_n 1, 1) := by decide +kernel
theorem dX4_numberOfSheet_66 : decode cX4_numberOfSheet 66 = .ok (.iconst 3, 1) := by decide +kernel
theorem dX4_numberOfSheet_67 : decode cX4_numberOfSheet 67 = .ok (.invokevirtual 90, 3) := by decide +kernel
theorem dX4_numberOfSheet_70 : decode cX4_numberOfSheet 70 = .ok (.ireturn, 1) := by decide +kernel
theorem dX4_numberOfSheet_71 : decode cX4_numberOfSheet 71 = .ok (.aload_n 0, 1) := by decide +kernel
theorem dX4_numberOfSheet_72 : decode cX4_numberOfSheet 72 = .ok (.iload_n 1, 1) := by decide +kernel
theorem dX4_numberOfSheet_73 : decode cX4_numberOfSheet 73 = .ok (.invokevirtual 108, 3) := by decide +kernel
theorem dX4_numberOfSheet_76 : decode cX4_numberOfSheet 76 = .ok (.ireturn, 1) := by decide +kernel
theorem dX4_sumUp_0 : decode cX4_sumUp 0 = .ok (.iload_n 1, 1) := by decide +kernel
theorem dX4_sumUp_1 : decode cX4_sumUp 1 = .ok (.tableswitch 130 0 11 #[63, 68, 73, 78, 83, 88, 94, 100, 106, 111, 116, 121], 63) := by decide +kernel
theorem dX4_sumUp_64 : decode cX4_sumUp 64 = .ok (.aload_n 0, 1) := by decide +kernel
theorem dX4_sumUp_65 : decode cX4_sumUp 65 = .ok (.getfield 42, 3) := by decide +kernel
theorem dX4_sumUp_68 : decode cX4_sumUp 68 = .ok (.ireturn, 1) := by decide +kernel
theorem dX4_sumUp_69 : decode cX4_sumUp 69 = .ok (.aload_n 0, 1) := by decide +kernel
theorem dX4_sumUp_70 : decode cX4_sumUp 70 = .ok (.getfield 46, 3) := by decide +kernel
theorem dX4_sumUp_73 : decode cX4_sumUp 73 = .ok (.ireturn, 1) := by decide +kernel
theorem dX4_sumUp_74 : decode cX4_sumUp 74 = .ok (.aload_n 0, 1) := by decide +kernel
theorem dX4_sumUp_75 : decode cX4_sumUp 75 = .ok (.getfield 49, 3) := by decide +kernel
theorem dX4_sumUp_78 : decode cX4_sumUp 78 = .ok (.ireturn, 1) := by decide +kernel
theorem dX4_sumUp_79 : decode cX4_sumUp 79 = .ok (.aload_n 0, 1) := by decide +kernel
theorem dX4_sumUp_80 : decode cX4_sumUp 80 = .ok (.getfield 52, 3) := by decide +kernel
theorem dX4_sumUp_83 : decode cX4_sumUp 83 = .ok (.ireturn, 1) := by decide +kernel
theorem dX4_sumUp_84 : decode cX4_sumUp 84 = .ok (.aload_n 0, 1) := by decide +kernel
theorem dX4_sumUp_85 : decode cX4_sumUp 85 = .ok (.getfield 55, 3) := by decide +kernel
theorem dX4_sumUp_88 : decode cX4_sumUp 88 = .ok (.ireturn, 1) := by decide +kernel
theorem dX4_sumUp_89 : decode cX4_sumUp 89 = .ok (.aload_n 0, 1) := by decide +kernel
theorem dX4_sumUp_90 : decode cX4_sumUp 90 = .ok (.iconst 1, 1) := by decide +kernel
theorem dX4_sumUp_91 : decode cX4_sumUp 91 = .ok (.invokevirtual 111, 3) := by decide +kernel
theorem dX4_sumUp_94 : decode cX4_sumUp 94 = .ok (.ireturn, 1) := by decide +kernel
theorem dX4_sumUp_95 : decode cX4_sumUp 95 = .ok (.aload_n 0, 1) := by decide +kernel
theorem dX4_sumUp_96 : decode cX4_sumUp 96 = .ok (.iconst 2, 1) := by decide +kernel
theorem dX4_sumUp_97 : decode cX4_sumUp 97 = .ok (.invokevirtual 111, 3) := by decide +kernel
theorem dX4_sumUp_100 : decode cX4_sumUp 100 = .ok (.ireturn, 1) := by decide +kernel
theorem dX4_sumUp_101 : decode cX4_sumUp 101 = .ok (.aload_n 0, 1) := by decide +kernel
theorem dX4_sumUp_102 : decode cX4_sumUp 102 = .ok (.iconst 3, 1) := by decide +kernel
theorem dX4_sumUp_103 : decode cX4_sumUp 103 = .ok (.invokevirtual 111, 3) := by decide +kernel
theorem dX4_sumUp_106 : decode cX4_sumUp 106 = .ok (.ireturn, 1) := by decide +kernel
theorem dX4_sumUp_107 : decode cX4_sumUp 107 = .ok (.aload_n 0, 1) := by decide +kernel
theorem dX4_sumUp_108 : decode cX4_sumUp 108 = .ok (.getfield 58, 3) := by decide +kernel
theorem dX4_sumUp_111 : decode cX4_sumUp 111 = .ok (.ireturn, 1) := by decide +kernel
theorem dX4_sumUp_112 : decode cX4_sumUp 112 = .ok (.aload_n 0, 1) := by decide +kernel
theorem dX4_sumUp_113 : decode cX4_sumUp 113 = .ok (.getfield 61, 3) := by decide +kernel
theorem dX4_sumUp_116 : decode cX4_sumUp 116 = .ok (.ireturn, 1) := by decide +kernel
theorem dX4_sumUp_117 : decode cX4_sumUp 117 = .ok (.aload_n 0, 1) := by decide +kernel
theorem dX4_sumUp_118 : decode cX4_sumUp 118 = .ok (.getfield 64, 3) := by decide +kernel
theorem dX4_sumUp_121 : decode cX4_sumUp 121 = .ok (.ireturn, 1) := by decide +kernel
theorem dX4_sumUp_122 : decode cX4_sumUp 122 = .ok (.aload_n 0, 1) := by decide +kernel
theorem dX4_sumUp_123 : decode cX4_sumUp 123 = .ok (.aload_n 0, 1) := by decide +kernel
theorem dX4_sumUp_124 : decode cX4_sumUp 124 = .ok (.getfield 18, 3) := by decide +kernel
theorem dX4_sumUp_127 : decode cX4_sumUp 127 = .ok (.invokevirtual 114, 3) := by decide +kernel
theorem dX4_sumUp_130 : decode cX4_sumUp 130 = .ok (.ireturn, 1) := by decide +kernel
theorem dX4_sumUp_131 : decode cX4_sumUp 131 = .ok (.aload_n 0, 1) := by decide +kernel
theorem dX4_sumUp_132 : decode cX4_sumUp 132 = .ok (.aload_n 0, 1) := by decide +kernel
theorem dX4_sumUp_133 : decode cX4_sumUp 133 = .ok (.getfield 9, 3) := by decide +kernel
theorem dX4_sumUp_136 : decode cX4_sumUp 136 = .ok (.invokevirtual 114, 3) := by decide +kernel
theorem dX4_sumUp_139 : decode cX4_sumUp 139 = .ok (.ireturn, 1) := by decide +kernel
theorem dX4_sumOfHouses_0 : decode cX4_sumOfHouses 0 = .ok (.iconst 0, 1) := by decide +kernel
theorem dX4_sumOfHouses_1 : decode cX4_sumOfHouses 1 = .ok (.istore_n 2, 1) := by decide +kernel
theorem dX4_sumOfHouses_2 : decode cX4_sumOfHouses 2 = .ok (.iconst 0, 1) := by decide +kernel
theorem dX4_sumOfHouses_3 : decode cX4_sumOfHouses 3 = .ok (.istore_n 3, 1) := by decide +kernel
theorem dX4_sumOfHouses_4 : decode cX4_sumOfHouses 4 = .ok (.iload_n 3, 1) := by decide +kernel
theorem dX4_sumOfHouses_5 : decode cX4_sumOfHouses 5 = .ok (.aload_n 0, 1) := by decide +kernel
theorem dX4_sumOfHouses_6 : decode cX4_sumOfHouses 6 = .ok (.getfield 42, 3) := by decide +kernel
theorem dX4_sumOfHouses_9 : decode cX4_sumOfHouses 9 = .ok (.if_icmp .ge 21, 3) := by decide +kernel
theorem dX4_sumOfHouses_12 : decode cX4_sumOfHouses 12 = .ok (.iload_n 3, 1) := by decide +kernel
theorem dX4_sumOfHouses_13 : decode cX4_sumOfHouses 13 = .ok (.aload_n 1, 1) := by decide +kernel
theorem dX4_sumOfHouses_14 : decode cX4_sumOfHouses 14 = .ok (.arraylength, 1) := by decide +kernel
theorem dX4_sumOfHouses_15 : decode cX4_sumOfHouses 15 = .ok (.if_icmp .ge 15, 3) := by decide +kernel
theorem dX4_sumOfHouses_18 : decode cX4_sumOfHouses 18 = .ok (.iload_n 2, 1) := by decide +kernel
theorem dX4_sumOfHouses_19 : decode cX4_sumOfHouses 19 = .ok (.aload_n 1, 1) := by decide +kernel
theorem dX4_sumOfHouses_20 : decode cX4_sumOfHouses 20 = .ok (.iload_n 3, 1) := by decide +kernel
theorem dX4_sumOfHouses_21 : decode cX4_sumOfHouses 21 = .ok (.iaload, 1) := by decide +kernel
theorem dX4_sumOfHouses_22 : decode cX4_sumOfHouses 22 = .ok (.iadd, 1) := by decide +kernel
theorem dX4_sumOfHouses_23 : decode cX4_sumOfHouses 23 = .ok (.istore_n 2, 1) := by decide +kernel
theorem dX4_sumOfHouses_24 : decode cX4_sumOfHouses 24 = .ok (.iinc 3 1, 3) := by decide +kernel
theorem dX4_sumOfHouses_27 : decode cX4_sumOfHouses 27 = .ok (.goto (-23), 3) := by decide +kernel
theorem dX4_sumOfHouses_30 : decode cX4_sumOfHouses 30 = .ok (.iload_n 2, 1) := by decide +kernel
theorem dX4_sumOfHouses_31 : decode cX4_sumOfHouses 31 = .ok (.ireturn, 1) := by decide +kernel
theorem dX4_licenceCost_0 : decode cX4_licenceCost 0 = .ok (.iconst 2, 1) := by decide +kernel
theorem dX4_licenceCost_1 : decode cX4_licenceCost 1 = .ok (.aload_n 0, 1) := by decide +kernel
theorem dX4_licenceCost_2 : decode cX4_licenceCost 2 = .ok (.iload_n 1, 1) := by decide +kernel
theorem dX4_licenceCost_3 : decode cX4_licenceCost 3 = .ok (.iconst 2, 1) := by decide +kernel
theorem dX4_licenceCost_4 : decode cX4_licenceCost 4 = .ok (.invokevirtual 102, 3) := by decide +kernel
theorem dX4_licenceCost_7 : decode cX4_licenceCost 7 = .ok (.iadd, 1) := by decide +kernel
theorem dX4_licenceCost_8 : decode cX4_licenceCost 8 = .ok (.ireturn, 1) := by decide +kernel
theorem dX4_canPayLicence_0 : decode cX4_canPayLicence 0 = .ok (.aload_n 0, 1) := by decide +kernel
theorem dX4_canPayLicence_1 : decode cX4_canPayLicence 1 = .ok (.iload_n 1, 1) := by decide +kernel
theorem dX4_canPayLicence_2 : decode cX4_canPayLicence 2 = .ok (.invokevirtual 96, 3) := by decide +kernel
theorem dX4_canPayLicence_5 : decode cX4_canPayLicence 5 = .ok (.ifCond .ne 21, 3) := by decide +kernel
theorem dX4_canPayLicence_8 : decode cX4_canPayLicence 8 = .ok (.aload_n 0, 1) := by decide +kernel
theorem dX4_canPayLicence_9 : decode cX4_canPayLicence 9 = .ok (.getfield 9, 3) := by decide +kernel
theorem dX4_canPayLicence_12 : decode cX4_canPayLicence 12 = .ok (.iload_n 1, 1) := by decide +kernel
theorem dX4_canPayLicence_13 : decode cX4_canPayLicence 13 = .ok (.iaload, 1) := by decide +kernel
theorem dX4_canPayLicence_14 : decode cX4_canPayLicence 14 = .ok (.aload_n 0, 1) := by decide +kernel
theorem dX4_canPayLicence_15 : decode cX4_canPayLicence 15 = .ok (.iload_n 1, 1) := by decide +kernel
theorem dX4_canPayLicence_16 : decode cX4_canPayLicence 16 = .ok (.invokevirtual 105, 3) := by decide +kernel
theorem dX4_canPayLicence_19 : decode cX4_canPayLicence 19 = .ok (.if_icmp .lt 7, 3) := by decide +kernel
theorem dX4_canPayLicence_22 : decode cX4_canPayLicence 22 = .ok (.iconst 1, 1) := by decide +kernel
theorem dX4_canPayLicence_23 : decode cX4_canPayLicence 23 = .ok (.goto 4, 3) := by decide +kernel
theorem dX4_canPayLicence_26 : decode cX4_canPayLicence 26 = .ok (.iconst 0, 1) := by decide +kernel
theorem dX4_canPayLicence_27 : decode cX4_canPayLicence 27 = .ok (.ireturn, 1) := by decide +kernel
theorem dX4_fineByRules_0 : decode cX4_fineByRules 0 = .ok (.aload_n 0, 1) := by decide +kernel
theorem dX4_fineByRules_1 : decode cX4_fineByRules 1 = .ok (.iload_n 1, 1) := by decide +kernel
theorem dX4_fineByRules_2 : decode cX4_fineByRules 2 = .ok (.iload_n 2, 1) := by decide +kernel
theorem dX4_fineByRules_3 : decode cX4_fineByRules 3 = .ok (.invokevirtual 118, 3) := by decide +kernel
theorem dX4_fineByRules_6 : decode cX4_fineByRules 6 = .ok (.istore_n 3, 1) := by decide +kernel
theorem dX4_fineByRules_7 : decode cX4_fineByRules 7 = .ok (.iload_n 3, 1) := by decide +kernel
theorem dX4_fineByRules_8 : decode cX4_fineByRules 8 = .ok (.ifCond .ne 5, 3) := by decide +kernel
theorem dX4_fineByRules_11 : decode cX4_fineByRules 11 = .ok (.iconst 0, 1) := by decide +kernel
theorem dX4_fineByRules_12 : decode cX4_fineByRules 12 = .ok (.ireturn, 1) := by decide +kernel
theorem dX4_fineByRules_13 : decode cX4_fineByRules 13 = .ok (.iconst 1, 1) := by decide +kernel
theorem dX4_fineByRules_14 : decode cX4_fineByRules 14 = .ok (.aload_n 0, 1) := by decide +kernel
theorem dX4_fineByRules_15 : decode cX4_fineByRules 15 = .ok (.iload_n 1, 1) := by decide +kernel
theorem dX4_fineByRules_16 : decode cX4_fineByRules 16 = .ok (.iload_n 2, 1) := by decide +kernel
theorem dX4_fineByRules_17 : decode cX4_fineByRules 17 = .ok (.invokevirtual 93, 3) := by decide +kernel
theorem dX4_fineByRules_20 : decode cX4_fineByRules 20 = .ok (.iadd, 1) := by decide +kernel
theorem dX4_fineByRules_21 : decode cX4_fineByRules 21 = .ok (.istore 4, 2) := by decide +kernel
theorem dX4_fineByRules_23 : decode cX4_fineByRules 23 = .ok (.iload_n 3, 1) := by decide +kernel
theorem dX4_fineByRules_24 : decode cX4_fineByRules 24 = .ok (.iconst 2, 1) := by decide +kernel
theorem dX4_fineByRules_25 : decode cX4_fineByRules 25 = .ok (.if_icmp .lt 6, 3) := by decide +kernel
theorem dX4_fineByRules_28 : decode cX4_fineByRules 28 = .ok (.iinc 4 2, 3) := by decide +kernel
theorem dX4_fineByRules_31 : decode cX4_fineByRules 31 = .ok (.iload_n 3, 1) := by decide +kernel
theorem dX4_fineByRules_32 : decode cX4_fineByRules 32 = .ok (.iconst 3, 1) := by decide +kernel
theorem dX4_fineByRules_33 : decode cX4_fineByRules 33 = .ok (.if_icmp .ne 9, 3) := by decide +kernel
theorem dX4_fineByRules_36 : decode cX4_fineByRules 36 = .ok (.iload 4, 2) := by decide +kernel
theorem dX4_fineByRules_38 : decode cX4_fineByRules 38 = .ok (.iconst 2, 1) := by decide +kernel
theorem dX4_fineByRules_39 : decode cX4_fineByRules 39 = .ok (.imul, 1) := by decide +kernel
theorem dX4_fineByRules_40 : decode cX4_fineByRules 40 = .ok (.istore 4, 2) := by decide +kernel
theorem dX4_fineByRules_42 : decode cX4_fineByRules 42 = .ok (.iload 4, 2) := by decide +kernel
theorem dX4_fineByRules_44 : decode cX4_fineByRules 44 = .ok (.ireturn, 1) := by decide +kernel
theorem dX4_fineAtOnce_0 : decode cX4_fineAtOnce 0 = .ok (.aload_n 0, 1) := by decide +kernel
theorem dX4_fineAtOnce_1 : decode cX4_fineAtOnce 1 = .ok (.iload_n 1, 1) := by decide +kernel
theorem dX4_fineAtOnce_2 : decode cX4_fineAtOnce 2 = .ok (.iload_n 2, 1) := by decide +kernel
theorem dX4_fineAtOnce_3 : decode cX4_fineAtOnce 3 = .ok (.invokevirtual 118, 3) := by decide +kernel
theorem dX4_fineAtOnce_6 : decode cX4_fineAtOnce 6 = .ok (.tableswitch 56 1 3 #[26, 35, 44], 26) := by decide +kernel
theorem dX4_fineAtOnce_32 : decode cX4_fineAtOnce 32 = .ok (.aload_n 0, 1) := by decide +kernel
theorem dX4_fineAtOnce_33 : decode cX4_fineAtOnce 33 = .ok (.iload_n 1, 1) := by decide +kernel
theorem dX4_fineAtOnce_34 : decode cX4_fineAtOnce 34 = .ok (.iload_n 2, 1) := by decide +kernel
theorem dX4_fineAtOnce_35 : decode cX4_fineAtOnce 35 = .ok (.invokevirtual 93, 3) := by decide +kernel
theorem dX4_fineAtOnce_38 : decode cX4_fineAtOnce 38 = .ok (.iconst 1, 1) := by decide +kernel
theorem dX4_fineAtOnce_39 : decode cX4_fineAtOnce 39 = .ok (.iadd, 1) := by decide +kernel
theorem dX4_fineAtOnce_40 : decode cX4_fineAtOnce 40 = .ok (.ireturn, 1) := by decide +kernel
theorem dX4_fineAtOnce_41 : decode cX4_fineAtOnce 41 = .ok (.aload_n 0, 1) := by decide +kernel
theorem dX4_fineAtOnce_42 : decode cX4_fineAtOnce 42 = .ok (.iload_n 1, 1) := by decide +kernel
theorem dX4_fineAtOnce_43 : decode cX4_fineAtOnce 43 = .ok (.iload_n 2, 1) := by decide +kernel
theorem dX4_fineAtOnce_44 : decode cX4_fineAtOnce 44 = .ok (.invokevirtual 93, 3) := by decide +kernel
theorem dX4_fineAtOnce_47 : decode cX4_fineAtOnce 47 = .ok (.iconst 3, 1) := by decide +kernel
theorem dX4_fineAtOnce_48 : decode cX4_fineAtOnce 48 = .ok (.iadd, 1) := by decide +kernel
theorem dX4_fineAtOnce_49 : decode cX4_fineAtOnce 49 = .ok (.ireturn, 1) := by decide +kernel
theorem dX4_fineAtOnce_50 : decode cX4_fineAtOnce 50 = .ok (.iconst 2, 1) := by decide +kernel
theorem dX4_fineAtOnce_51 : decode cX4_fineAtOnce 51 = .ok (.aload_n 0, 1) := by decide +kernel
theorem dX4_fineAtOnce_52 : decode cX4_fineAtOnce 52 = .ok (.iload_n 1, 1) := by decide +kernel
theorem dX4_fineAtOnce_53 : decode cX4_fineAtOnce 53 = .ok (.iload_n 2, 1) := by decide +kernel
theorem dX4_fineAtOnce_54 : decode cX4_fineAtOnce 54 = .ok (.invokevirtual 93, 3) := by decide +kernel
theorem dX4_fineAtOnce_57 : decode cX4_fineAtOnce 57 = .ok (.imul, 1) := by decide +kernel
theorem dX4_fineAtOnce_58 : decode cX4_fineAtOnce 58 = .ok (.bipush 6, 2) := by decide +kernel
theorem dX4_fineAtOnce_60 : decode cX4_fineAtOnce 60 = .ok (.iadd, 1) := by decide +kernel
theorem dX4_fineAtOnce_61 : decode cX4_fineAtOnce 61 = .ok (.ireturn, 1) := by decide +kernel
theorem dX4_fineAtOnce_62 : decode cX4_fineAtOnce 62 = .ok (.iconst 0, 1) := by decide +kernel
theorem dX4_fineAtOnce_63 : decode cX4_fineAtOnce 63 = .ok (.ireturn, 1) := by decide +kernel
theorem dX4_finesByPlace_0 : decode cX4_finesByPlace 0 = .ok (.iconst 0, 1) := by decide +kernel
theorem dX4_finesByPlace_1 : decode cX4_finesByPlace 1 = .ok (.istore_n 2, 1) := by decide +kernel
theorem dX4_finesByPlace_2 : decode cX4_finesByPlace 2 = .ok (.iconst 0, 1) := by decide +kernel
theorem dX4_finesByPlace_3 : decode cX4_finesByPlace 3 = .ok (.istore_n 3, 1) := by decide +kernel
theorem dX4_finesByPlace_4 : decode cX4_finesByPlace 4 = .ok (.iload_n 3, 1) := by decide +kernel
theorem dX4_finesByPlace_5 : decode cX4_finesByPlace 5 = .ok (.aload_n 0, 1) := by decide +kernel
theorem dX4_finesByPlace_6 : decode cX4_finesByPlace 6 = .ok (.getfield 24, 3) := by decide +kernel
theorem dX4_finesByPlace_9 : decode cX4_finesByPlace 9 = .ok (.iload_n 1, 1) := by decide +kernel
theorem dX4_finesByPlace_10 : decode cX4_finesByPlace 10 = .ok (.iaload, 1) := by decide +kernel
theorem dX4_finesByPlace_11 : decode cX4_finesByPlace 11 = .ok (.if_icmp .ge 18, 3) := by decide +kernel
theorem dX4_finesByPlace_14 : decode cX4_finesByPlace 14 = .ok (.iload_n 2, 1) := by decide +kernel
theorem dX4_finesByPlace_15 : decode cX4_finesByPlace 15 = .ok (.aload_n 0, 1) := by decide +kernel
theorem dX4_finesByPlace_16 : decode cX4_finesByPlace 16 = .ok (.iload_n 1, 1) := by decide +kernel
theorem dX4_finesByPlace_17 : decode cX4_finesByPlace 17 = .ok (.iload_n 3, 1) := by decide +kernel
theorem dX4_finesByPlace_18 : decode cX4_finesByPlace 18 = .ok (.invokevirtual 121, 3) := by decide +kernel
theorem dX4_finesByPlace_21 : decode cX4_finesByPlace 21 = .ok (.iadd, 1) := by decide +kernel
theorem dX4_finesByPlace_22 : decode cX4_finesByPlace 22 = .ok (.istore_n 2, 1) := by decide +kernel
theorem dX4_finesByPlace_23 : decode cX4_finesByPlace 23 = .ok (.iinc 3 1, 3) := by decide +kernel
theorem dX4_finesByPlace_26 : decode cX4_finesByPlace 26 = .ok (.goto (-22), 3) := by decide +kernel
theorem dX4_finesByPlace_29 : decode cX4_finesByPlace 29 = .ok (.iload_n 2, 1) := by decide +kernel
theorem dX4_finesByPlace_30 : decode cX4_finesByPlace 30 = .ok (.ireturn, 1) := by decide +kernel
theorem dX4_isLaughing_0 : decode cX4_isLaughing 0 = .ok (.aload_n 0, 1) := by decide +kernel
theorem dX4_isLaughing_1 : decode cX4_isLaughing 1 = .ok (.getfield 36, 3) := by decide +kernel
theorem dX4_isLaughing_4 : decode cX4_isLaughing 4 = .ok (.iload_n 1, 1) := by decide +kernel
theorem dX4_isLaughing_5 : decode cX4_isLaughing 5 = .ok (.iaload, 1) := by decide +kernel
theorem dX4_isLaughing_6 : decode cX4_isLaughing 6 = .ok (.ifCond .ne 21, 3) := by decide +kernel
theorem dX4_isLaughing_9 : decode cX4_isLaughing 9 = .ok (.iload_n 2, 1) := by decide +kernel
theorem dX4_isLaughing_10 : decode cX4_isLaughing 10 = .ok (.aload_n 0, 1) := by decide +kernel
theorem dX4_isLaughing_11 : decode cX4_isLaughing 11 = .ok (.getfield 39, 3) := by decide +kernel
theorem dX4_isLaughing_14 : decode cX4_isLaughing 14 = .ok (.iload_n 1, 1) := by decide +kernel
theorem dX4_isLaughing_15 : decode cX4_isLaughing 15 = .ok (.iaload, 1) := by decide +kernel
theorem dX4_isLaughing_16 : decode cX4_isLaughing 16 = .ok (.if_icmp .ne 7, 3) := by decide +kernel
theorem dX4_isLaughing_19 : decode cX4_isLaughing 19 = .ok (.iconst 1, 1) := by decide +kernel
theorem dX4_isLaughing_20 : decode cX4_isLaughing 20 = .ok (.goto 22, 3) := by decide +kernel
theorem dX4_isLaughing_23 : decode cX4_isLaughing 23 = .ok (.iconst 0, 1) := by decide +kernel
theorem dX4_isLaughing_24 : decode cX4_isLaughing 24 = .ok (.goto 18, 3) := by decide +kernel
theorem dX4_isLaughing_27 : decode cX4_isLaughing 27 = .ok (.iload_n 3, 1) := by decide +kernel
theorem dX4_isLaughing_28 : decode cX4_isLaughing 28 = .ok (.aload_n 0, 1) := by decide +kernel
theorem dX4_isLaughing_29 : decode cX4_isLaughing 29 = .ok (.getfield 39, 3) := by decide +kernel
theorem dX4_isLaughing_32 : decode cX4_isLaughing 32 = .ok (.iload_n 1, 1) := by decide +kernel
theorem dX4_isLaughing_33 : decode cX4_isLaughing 33 = .ok (.iaload, 1) := by decide +kernel
theorem dX4_isLaughing_34 : decode cX4_isLaughing 34 = .ok (.if_icmp .lt 7, 3) := by decide +kernel
theorem dX4_isLaughing_37 : decode cX4_isLaughing 37 = .ok (.iconst 1, 1) := by decide +kernel
theorem dX4_isLaughing_38 : decode cX4_isLaughing 38 = .ok (.goto 4, 3) := by decide +kernel
theorem dX4_isLaughing_41 : decode cX4_isLaughing 41 = .ok (.iconst 0, 1) := by decide +kernel
theorem dX4_isLaughing_42 : decode cX4_isLaughing 42 = .ok (.ireturn, 1) := by decide +kernel
theorem dX4_laughersAt_0 : decode cX4_laughersAt 0 = .ok (.aload_n 0, 1) := by decide +kernel
theorem dX4_laughersAt_1 : decode cX4_laughersAt 1 = .ok (.iload_n 1, 1) := by decide +kernel
theorem dX4_laughersAt_2 : decode cX4_laughersAt 2 = .ok (.iload_n 2, 1) := by decide +kernel
theorem dX4_laughersAt_3 : decode cX4_laughersAt 3 = .ok (.invokevirtual 77, 3) := by decide +kernel
theorem dX4_laughersAt_6 : decode cX4_laughersAt 6 = .ok (.istore_n 3, 1) := by decide +kernel
theorem dX4_laughersAt_7 : decode cX4_laughersAt 7 = .ok (.aload_n 0, 1) := by decide +kernel
theorem dX4_laughersAt_8 : decode cX4_laughersAt 8 = .ok (.iload_n 1, 1) := by decide +kernel
theorem dX4_laughersAt_9 : decode cX4_laughersAt 9 = .ok (.iload_n 2, 1) := by decide +kernel
theorem dX4_laughersAt_10 : decode cX4_laughersAt 10 = .ok (.invokevirtual 93, 3) := by decide +kernel
theorem dX4_laughersAt_13 : decode cX4_laughersAt 13 = .ok (.istore 4, 2) := by decide +kernel
theorem dX4_laughersAt_15 : decode cX4_laughersAt 15 = .ok (.iconst 0, 1) := by decide +kernel
theorem dX4_laughersAt_16 : decode cX4_laughersAt 16 = .ok (.istore 5, 2) := by decide +kernel
theorem dX4_laughersAt_18 : decode cX4_laughersAt 18 = .ok (.iconst 0, 1) := by decide +kernel
theorem dX4_laughersAt_19 : decode cX4_laughersAt 19 = .ok (.istore 6, 2) := by decide +kernel
theorem dX4_laughersAt_21 : decode cX4_laughersAt 21 = .ok (.iload 4, 2) := by decide +kernel
theorem dX4_laughersAt_23 : decode cX4_laughersAt 23 = .ok (.ifCond .le 39, 3) := by decide +kernel
theorem dX4_laughersAt_26 : decode cX4_laughersAt 26 = .ok (.iload 6, 2) := by decide +kernel
theorem dX4_laughersAt_28 : decode cX4_laughersAt 28 = .ok (.aload_n 0, 1) := by decide +kernel
theorem dX4_laughersAt_29 : decode cX4_laughersAt 29 = .ok (.getfield 49, 3) := by decide +kernel
theorem dX4_laughersAt_32 : decode cX4_laughersAt 32 = .ok (.if_icmp .ge 30, 3) := by decide +kernel
theorem dX4_laughersAt_35 : decode cX4_laughersAt 35 = .ok (.aload_n 0, 1) := by decide +kernel
theorem dX4_laughersAt_36 : decode cX4_laughersAt 36 = .ok (.iload 6, 2) := by decide +kernel
theorem dX4_laughersAt_38 : decode cX4_laughersAt 38 = .ok (.iload_n 3, 1) := by decide +kernel
theorem dX4_laughersAt_39 : decode cX4_laughersAt 39 = .ok (.iload 4, 2) := by decide +kernel
theorem dX4_laughersAt_41 : decode cX4_laughersAt 41 = .ok (.invokevirtual 124, 3) := by decide +kernel
theorem dX4_laughersAt_44 : decode cX4_laughersAt 44 = .ok (.ifCond .eq 12, 3) := by decide +kernel
theorem dX4_laughersAt_47 : decode cX4_laughersAt 47 = .ok (.iload 5, 2) := by decide +kernel
theorem dX4_laughersAt_49 : decode cX4_laughersAt 49 = .ok (.iconst 1, 1) := by decide +kernel
theorem dX4_laughersAt_50 : decode cX4_laughersAt 50 = .ok (.iload 6, 2) := by decide +kernel
theorem dX4_laughersAt_52 : decode cX4_laughersAt 52 = .ok (.ishl, 1) := by decide +kernel
theorem dX4_laughersAt_53 : decode cX4_laughersAt 53 = .ok (.ior, 1) := by decide +kernel
theorem dX4_laughersAt_54 : decode cX4_laughersAt 54 = .ok (.istore 5, 2) := by decide +kernel
theorem dX4_laughersAt_56 : decode cX4_laughersAt 56 = .ok (.iinc 6 1, 3) := by decide +kernel
theorem dX4_laughersAt_59 : decode cX4_laughersAt 59 = .ok (.goto (-38), 3) := by decide +kernel
theorem dX4_laughersAt_62 : decode cX4_laughersAt 62 = .ok (.iload 5, 2) := by decide +kernel
theorem dX4_laughersAt_64 : decode cX4_laughersAt 64 = .ok (.ireturn, 1) := by decide +kernel
theorem dX4_laughsByMisprint_0 : decode cX4_laughsByMisprint 0 = .ok (.iconst 0, 1) := by decide +kernel
theorem dX4_laughsByMisprint_1 : decode cX4_laughsByMisprint 1 = .ok (.istore_n 1, 1) := by decide +kernel
theorem dX4_laughsByMisprint_2 : decode cX4_laughsByMisprint 2 = .ok (.iconst 0, 1) := by decide +kernel
theorem dX4_laughsByMisprint_3 : decode cX4_laughsByMisprint 3 = .ok (.istore_n 2, 1) := by decide +kernel
theorem dX4_laughsByMisprint_4 : decode cX4_laughsByMisprint 4 = .ok (.iload_n 2, 1) := by decide +kernel
theorem dX4_laughsByMisprint_5 : decode cX4_laughsByMisprint 5 = .ok (.aload_n 0, 1) := by decide +kernel
theorem dX4_laughsByMisprint_6 : decode cX4_laughsByMisprint 6 = .ok (.getfield 46, 3) := by decide +kernel
theorem dX4_laughsByMisprint_9 : decode cX4_laughsByMisprint 9 = .ok (.if_icmp .ge 49, 3) := by decide +kernel
theorem dX4_laughsByMisprint_12 : decode cX4_laughsByMisprint 12 = .ok (.iconst 0, 1) := by decide +kernel
theorem dX4_laughsByMisprint_13 : decode cX4_laughsByMisprint 13 = .ok (.istore_n 3, 1) := by decide +kernel
theorem dX4_laughsByMisprint_14 : decode cX4_laughsByMisprint 14 = .ok (.iload_n 3, 1) := by decide +kernel
theorem dX4_laughsByMisprint_15 : decode cX4_laughsByMisprint 15 = .ok (.aload_n 0, 1) := by decide +kernel
theorem dX4_laughsByMisprint_16 : decode cX4_laughsByMisprint 16 = .ok (.getfield 24, 3) := by decide +kernel
theorem dX4_laughsByMisprint_19 : decode cX4_laughsByMisprint 19 = .ok (.iload_n 2, 1) := by decide +kernel
theorem dX4_laughsByMisprint_20 : decode cX4_laughsByMisprint 20 = .ok (.iaload, 1) := by decide +kernel
theorem dX4_laughsByMisprint_21 : decode cX4_laughsByMisprint 21 = .ok (.if_icmp .ge 31, 3) := by decide +kernel
theorem dX4_laughsByMisprint_24 : decode cX4_laughsByMisprint 24 = .ok (.aload_n 0, 1) := by decide +kernel
theorem dX4_laughsByMisprint_25 : decode cX4_laughsByMisprint 25 = .ok (.iload_n 2, 1) := by decide +kernel
theorem dX4_laughsByMisprint_26 : decode cX4_laughsByMisprint 26 = .ok (.iload_n 3, 1) := by decide +kernel
theorem dX4_laughsByMisprint_27 : decode cX4_laughsByMisprint 27 = .ok (.invokevirtual 118, 3) := by decide +kernel
theorem dX4_laughsByMisprint_30 : decode cX4_laughsByMisprint 30 = .ok (.iconst 2, 1) := by decide +kernel
theorem dX4_laughsByMisprint_31 : decode cX4_laughsByMisprint 31 = .ok (.if_icmp .ne 15, 3) := by decide +kernel
theorem dX4_laughsByMisprint_34 : decode cX4_laughsByMisprint 34 = .ok (.iload_n 1, 1) := by decide +kernel
theorem dX4_laughsByMisprint_35 : decode cX4_laughsByMisprint 35 = .ok (.aload_n 0, 1) := by decide +kernel
theorem dX4_laughsByMisprint_36 : decode cX4_laughsByMisprint 36 = .ok (.iload_n 2, 1) := by decide +kernel
theorem dX4_laughsByMisprint_37 : decode cX4_laughsByMisprint 37 = .ok (.iload_n 3, 1) := by decide +kernel
theorem dX4_laughsByMisprint_38 : decode cX4_laughsByMisprint 38 = .ok (.invokevirtual 128, 3) := by decide +kernel
theorem dX4_laughsByMisprint_41 : decode cX4_laughsByMisprint 41 = .ok (.invokestatic 131, 3) := by decide +kernel
theorem dX4_laughsByMisprint_44 : decode cX4_laughsByMisprint 44 = .ok (.iadd, 1) := by decide +kernel
theorem dX4_laughsByMisprint_45 : decode cX4_laughsByMisprint 45 = .ok (.istore_n 1, 1) := by decide +kernel
theorem dX4_laughsByMisprint_46 : decode cX4_laughsByMisprint 46 = .ok (.iinc 3 1, 3) := by decide +kernel
theorem dX4_laughsByMisprint_49 : decode cX4_laughsByMisprint 49 = .ok (.goto (-35), 3) := by decide +kernel
theorem dX4_laughsByMisprint_52 : decode cX4_laughsByMisprint 52 = .ok (.iinc 2 1, 3) := by decide +kernel
theorem dX4_laughsByMisprint_55 : decode cX4_laughsByMisprint 55 = .ok (.goto (-51), 3) := by decide +kernel
theorem dX4_laughsByMisprint_58 : decode cX4_laughsByMisprint 58 = .ok (.iload_n 1, 1) := by decide +kernel
theorem dX4_laughsByMisprint_59 : decode cX4_laughsByMisprint 59 = .ok (.ireturn, 1) := by decide +kernel
theorem dX4_laughsByReader_0 : decode cX4_laughsByReader 0 = .ok (.iconst 0, 1) := by decide +kernel
theorem dX4_laughsByReader_1 : decode cX4_laughsByReader 1 = .ok (.istore_n 1, 1) := by decide +kernel
theorem dX4_laughsByReader_2 : decode cX4_laughsByReader 2 = .ok (.iconst 0, 1) := by decide +kernel
theorem dX4_laughsByReader_3 : decode cX4_laughsByReader 3 = .ok (.istore_n 2, 1) := by decide +kernel
theorem dX4_laughsByReader_4 : decode cX4_laughsByReader 4 = .ok (.iload_n 2, 1) := by decide +kernel
theorem dX4_laughsByReader_5 : decode cX4_laughsByReader 5 = .ok (.aload_n 0, 1) := by decide +kernel
theorem dX4_laughsByReader_6 : decode cX4_laughsByReader 6 = .ok (.getfield 49, 3) := by decide +kernel
theorem dX4_laughsByReader_9 : decode cX4_laughsByReader 9 = .ok (.if_icmp .ge 17, 3) := by decide +kernel
theorem dX4_laughsByReader_12 : decode cX4_laughsByReader 12 = .ok (.iload_n 1, 1) := by decide +kernel
theorem dX4_laughsByReader_13 : decode cX4_laughsByReader 13 = .ok (.aload_n 0, 1) := by decide +kernel
theorem dX4_laughsByReader_14 : decode cX4_laughsByReader 14 = .ok (.iload_n 2, 1) := by decide +kernel
theorem dX4_laughsByReader_15 : decode cX4_laughsByReader 15 = .ok (.invokevirtual 136, 3) := by decide +kernel
theorem dX4_laughsByReader_18 : decode cX4_laughsByReader 18 = .ok (.iadd, 1) := by decide +kernel
theorem dX4_laughsByReader_19 : decode cX4_laughsByReader 19 = .ok (.istore_n 1, 1) := by decide +kernel
theorem dX4_laughsByReader_20 : decode cX4_laughsByReader 20 = .ok (.iinc 2 1, 3) := by decide +kernel
theorem dX4_laughsByReader_23 : decode cX4_laughsByReader 23 = .ok (.goto (-19), 3) := by decide +kernel
theorem dX4_laughsByReader_26 : decode cX4_laughsByReader 26 = .ok (.iload_n 1, 1) := by decide +kernel
theorem dX4_laughsByReader_27 : decode cX4_laughsByReader 27 = .ok (.ireturn, 1) := by decide +kernel
theorem dX4_laughsOf_0 : decode cX4_laughsOf 0 = .ok (.iconst 0, 1) := by decide +kernel
theorem dX4_laughsOf_1 : decode cX4_laughsOf 1 = .ok (.istore_n 2, 1) := by decide +kernel
theorem dX4_laughsOf_2 : decode cX4_laughsOf 2 = .ok (.iconst 0, 1) := by decide +kernel
theorem dX4_laughsOf_3 : decode cX4_laughsOf 3 = .ok (.istore_n 3, 1) := by decide +kernel
theorem dX4_laughsOf_4 : decode cX4_laughsOf 4 = .ok (.iload_n 3, 1) := by decide +kernel
theorem dX4_laughsOf_5 : decode cX4_laughsOf 5 = .ok (.aload_n 0, 1) := by decide +kernel
theorem dX4_laughsOf_6 : decode cX4_laughsOf 6 = .ok (.getfield 46, 3) := by decide +kernel
theorem dX4_laughsOf_9 : decode cX4_laughsOf 9 = .ok (.if_icmp .ge 77, 3) := by decide +kernel
theorem dX4_laughsOf_12 : decode cX4_laughsOf 12 = .ok (.iconst 0, 1) := by decide +kernel
theorem dX4_laughsOf_13 : decode cX4_laughsOf 13 = .ok (.istore 4, 2) := by decide +kernel
theorem dX4_laughsOf_15 : decode cX4_laughsOf 15 = .ok (.iload 4, 2) := by decide +kernel
theorem dX4_laughsOf_17 : decode cX4_laughsOf 17 = .ok (.aload_n 0, 1) := by decide +kernel
theorem dX4_laughsOf_18 : decode cX4_laughsOf 18 = .ok (.getfield 24, 3) := by decide +kernel
theorem dX4_laughsOf_21 : decode cX4_laughsOf 21 = .ok (.iload_n 3, 1) := by decide +kernel
theorem dX4_laughsOf_22 : decode cX4_laughsOf 22 = .ok (.iaload, 1) := by decide +kernel
theorem dX4_laughsOf_23 : decode cX4_laughsOf 23 = .ok (.if_icmp .ge 57, 3) := by decide +kernel
theorem dX4_laughsOf_26 : decode cX4_laughsOf 26 = .ok (.aload_n 0, 1) := by decide +kernel
theorem dX4_laughsOf_27 : decode cX4_laughsOf 27 = .ok (.iload_n 3, 1) := by decide +kernel
theorem dX4_laughsOf_28 : decode cX4_laughsOf 28 = .ok (.iload 4, 2) := by decide +kernel
theorem dX4_laughsOf_30 : decode cX4_laughsOf 30 = .ok (.invokevirtual 118, 3) := by decide +kernel
theorem dX4_laughsOf_33 : decode cX4_laughsOf 33 = .ok (.iconst 2, 1) := by decide +kernel
theorem dX4_laughsOf_34 : decode cX4_laughsOf 34 = .ok (.if_icmp .ne 7, 3) := by decide +kernel
theorem dX4_laughsOf_37 : decode cX4_laughsOf 37 = .ok (.iconst 1, 1) := by decide +kernel
theorem dX4_laughsOf_38 : decode cX4_laughsOf 38 = .ok (.goto 4, 3) := by decide +kernel
theorem dX4_laughsOf_41 : decode cX4_laughsOf 41 = .ok (.iconst 0, 1) := by decide +kernel
theorem dX4_laughsOf_42 : decode cX4_laughsOf 42 = .ok (.istore 5, 2) := by decide +kernel
theorem dX4_laughsOf_44 : decode cX4_laughsOf 44 = .ok (.iload 5, 2) := by decide +kernel
theorem dX4_laughsOf_46 : decode cX4_laughsOf 46 = .ok (.ifCond .eq 28, 3) := by decide +kernel
theorem dX4_laughsOf_49 : decode cX4_laughsOf 49 = .ok (.aload_n 0, 1) := by decide +kernel
theorem dX4_laughsOf_50 : decode cX4_laughsOf 50 = .ok (.iload_n 1, 1) := by decide +kernel
theorem dX4_laughsOf_51 : decode cX4_laughsOf 51 = .ok (.aload_n 0, 1) := by decide +kernel
theorem dX4_laughsOf_52 : decode cX4_laughsOf 52 = .ok (.iload_n 3, 1) := by decide +kernel
theorem dX4_laughsOf_53 : decode cX4_laughsOf 53 = .ok (.iload 4, 2) := by decide +kernel
theorem dX4_laughsOf_55 : decode cX4_laughsOf 55 = .ok (.invokevirtual 77, 3) := by decide +kernel
theorem dX4_laughsOf_58 : decode cX4_laughsOf 58 = .ok (.aload_n 0, 1) := by decide +kernel
theorem dX4_laughsOf_59 : decode cX4_laughsOf 59 = .ok (.iload_n 3, 1) := by decide +kernel
theorem dX4_laughsOf_60 : decode cX4_laughsOf 60 = .ok (.iload 4, 2) := by decide +kernel
theorem dX4_laughsOf_62 : decode cX4_laughsOf 62 = .ok (.invokevirtual 93, 3) := by decide +kernel
theorem dX4_laughsOf_65 : decode cX4_laughsOf 65 = .ok (.invokevirtual 124, 3) := by decide +kernel
theorem dX4_laughsOf_68 : decode cX4_laughsOf 68 = .ok (.ifCond .eq 6, 3) := by decide +kernel
theorem dX4_laughsOf_71 : decode cX4_laughsOf 71 = .ok (.iinc 2 1, 3) := by decide +kernel
theorem dX4_laughsOf_74 : decode cX4_laughsOf 74 = .ok (.iinc 4 1, 3) := by decide +kernel
theorem dX4_laughsOf_77 : decode cX4_laughsOf 77 = .ok (.goto (-62), 3) := by decide +kernel
theorem dX4_laughsOf_80 : decode cX4_laughsOf 80 = .ok (.iinc 3 1, 3) := by decide +kernel
theorem dX4_laughsOf_83 : decode cX4_laughsOf 83 = .ok (.goto (-79), 3) := by decide +kernel
theorem dX4_laughsOf_86 : decode cX4_laughsOf 86 = .ok (.iload_n 2, 1) := by decide +kernel
theorem dX4_laughsOf_87 : decode cX4_laughsOf 87 = .ok (.ireturn, 1) := by decide +kernel
theorem dX4_shameToCome_0 : decode cX4_shameToCome 0 = .ok (.iconst 0, 1) := by decide +kernel
theorem dX4_shameToCome_1 : decode cX4_shameToCome 1 = .ok (.istore_n 2, 1) := by decide +kernel
theorem dX4_shameToCome_2 : decode cX4_shameToCome 2 = .ok (.iconst 0, 1) := by decide +kernel
theorem dX4_shameToCome_3 : decode cX4_shameToCome 3 = .ok (.istore_n 3, 1) := by decide +kernel
theorem dX4_shameToCome_4 : decode cX4_shameToCome 4 = .ok (.iload_n 3, 1) := by decide +kernel
theorem dX4_shameToCome_5 : decode cX4_shameToCome 5 = .ok (.aload_n 0, 1) := by decide +kernel
theorem dX4_shameToCome_6 : decode cX4_shameToCome 6 = .ok (.getfield 46, 3) := by decide +kernel
theorem dX4_shameToCome_9 : decode cX4_shameToCome 9 = .ok (.if_icmp .ge 60, 3) := by decide +kernel
theorem dX4_shameToCome_12 : decode cX4_shameToCome 12 = .ok (.iconst 0, 1) := by decide +kernel
theorem dX4_shameToCome_13 : decode cX4_shameToCome 13 = .ok (.istore 4, 2) := by decide +kernel
theorem dX4_shameToCome_15 : decode cX4_shameToCome 15 = .ok (.aload_n 0, 1) := by decide +kernel
theorem dX4_shameToCome_16 : decode cX4_shameToCome 16 = .ok (.getfield 21, 3) := by decide +kernel
theorem dX4_shameToCome_19 : decode cX4_shameToCome 19 = .ok (.iload_n 3, 1) := by decide +kernel
theorem dX4_shameToCome_20 : decode cX4_shameToCome 20 = .ok (.iaload, 1) := by decide +kernel
theorem dX4_shameToCome_21 : decode cX4_shameToCome 21 = .ok (.iload_n 1, 1) := by decide +kernel
theorem dX4_shameToCome_22 : decode cX4_shameToCome 22 = .ok (.if_icmp .ne 41, 3) := by decide +kernel
theorem dX4_shameToCome_25 : decode cX4_shameToCome 25 = .ok (.iload 4, 2) := by decide +kernel
theorem dX4_shameToCome_27 : decode cX4_shameToCome 27 = .ok (.aload_n 0, 1) := by decide +kernel
theorem dX4_shameToCome_28 : decode cX4_shameToCome 28 = .ok (.getfield 24, 3) := by decide +kernel
theorem dX4_shameToCome_31 : decode cX4_shameToCome 31 = .ok (.iload_n 3, 1) := by decide +kernel
theorem dX4_shameToCome_32 : decode cX4_shameToCome 32 = .ok (.iaload, 1) := by decide +kernel
theorem dX4_shameToCome_33 : decode cX4_shameToCome 33 = .ok (.if_icmp .ge 30, 3) := by decide +kernel
theorem dX4_shameToCome_36 : decode cX4_shameToCome 36 = .ok (.aload_n 0, 1) := by decide +kernel
theorem dX4_shameToCome_37 : decode cX4_shameToCome 37 = .ok (.iload_n 3, 1) := by decide +kernel
theorem dX4_shameToCome_38 : decode cX4_shameToCome 38 = .ok (.iload 4, 2) := by decide +kernel
theorem dX4_shameToCome_40 : decode cX4_shameToCome 40 = .ok (.invokevirtual 118, 3) := by decide +kernel
theorem dX4_shameToCome_43 : decode cX4_shameToCome 43 = .ok (.iconst 2, 1) := by decide +kernel
theorem dX4_shameToCome_44 : decode cX4_shameToCome 44 = .ok (.if_icmp .ne 13, 3) := by decide +kernel
theorem dX4_shameToCome_47 : decode cX4_shameToCome 47 = .ok (.iload_n 2, 1) := by decide +kernel
theorem dX4_shameToCome_48 : decode cX4_shameToCome 48 = .ok (.aload_n 0, 1) := by decide +kernel
theorem dX4_shameToCome_49 : decode cX4_shameToCome 49 = .ok (.iload_n 3, 1) := by decide +kernel
theorem dX4_shameToCome_50 : decode cX4_shameToCome 50 = .ok (.iload 4, 2) := by decide +kernel
theorem dX4_shameToCome_52 : decode cX4_shameToCome 52 = .ok (.invokevirtual 93, 3) := by decide +kernel
theorem dX4_shameToCome_55 : decode cX4_shameToCome 55 = .ok (.iadd, 1) := by decide +kernel
theorem dX4_shameToCome_56 : decode cX4_shameToCome 56 = .ok (.istore_n 2, 1) := by decide +kernel
theorem dX4_shameToCome_57 : decode cX4_shameToCome 57 = .ok (.iinc 4 1, 3) := by decide +kernel
theorem dX4_shameToCome_60 : decode cX4_shameToCome 60 = .ok (.goto (-45), 3) := by decide +kernel
theorem dX4_shameToCome_63 : decode cX4_shameToCome 63 = .ok (.iinc 3 1, 3) := by decide +kernel
theorem dX4_shameToCome_66 : decode cX4_shameToCome 66 = .ok (.goto (-62), 3) := by decide +kernel
theorem dX4_shameToCome_69 : decode cX4_shameToCome 69 = .ok (.iload_n 2, 1) := by decide +kernel
theorem dX4_shameToCome_70 : decode cX4_shameToCome 70 = .ok (.ireturn, 1) := by decide +kernel
theorem dX4_unlike_0 : decode cX4_unlike 0 = .ok (.aload_n 0, 1) := by decide +kernel
theorem dX4_unlike_1 : decode cX4_unlike 1 = .ok (.getfield 24, 3) := by decide +kernel
theorem dX4_unlike_4 : decode cX4_unlike 4 = .ok (.iload_n 1, 1) := by decide +kernel
theorem dX4_unlike_5 : decode cX4_unlike 5 = .ok (.iaload, 1) := by decide +kernel
theorem dX4_unlike_6 : decode cX4_unlike 6 = .ok (.aload_n 0, 1) := by decide +kernel
theorem dX4_unlike_7 : decode cX4_unlike 7 = .ok (.getfield 24, 3) := by decide +kernel
theorem dX4_unlike_10 : decode cX4_unlike 10 = .ok (.iload_n 2, 1) := by decide +kernel
theorem dX4_unlike_11 : decode cX4_unlike 11 = .ok (.iaload, 1) := by decide +kernel
theorem dX4_unlike_12 : decode cX4_unlike 12 = .ok (.invokestatic 139, 3) := by decide +kernel
theorem dX4_unlike_15 : decode cX4_unlike 15 = .ok (.istore_n 3, 1) := by decide +kernel
theorem dX4_unlike_16 : decode cX4_unlike 16 = .ok (.aload_n 0, 1) := by decide +kernel
theorem dX4_unlike_17 : decode cX4_unlike 17 = .ok (.getfield 24, 3) := by decide +kernel
theorem dX4_unlike_20 : decode cX4_unlike 20 = .ok (.iload_n 1, 1) := by decide +kernel
theorem dX4_unlike_21 : decode cX4_unlike 21 = .ok (.iaload, 1) := by decide +kernel
theorem dX4_unlike_22 : decode cX4_unlike 22 = .ok (.aload_n 0, 1) := by decide +kernel
theorem dX4_unlike_23 : decode cX4_unlike 23 = .ok (.getfield 24, 3) := by decide +kernel
theorem dX4_unlike_26 : decode cX4_unlike 26 = .ok (.iload_n 2, 1) := by decide +kernel
theorem dX4_unlike_27 : decode cX4_unlike 27 = .ok (.iaload, 1) := by decide +kernel
theorem dX4_unlike_28 : decode cX4_unlike 28 = .ok (.invokestatic 142, 3) := by decide +kernel
theorem dX4_unlike_31 : decode cX4_unlike 31 = .ok (.iload_n 3, 1) := by decide +kernel
theorem dX4_unlike_32 : decode cX4_unlike 32 = .ok (.isub, 1) := by decide +kernel
theorem dX4_unlike_33 : decode cX4_unlike 33 = .ok (.istore 4, 2) := by decide +kernel
theorem dX4_unlike_35 : decode cX4_unlike 35 = .ok (.iconst 0, 1) := by decide +kernel
theorem dX4_unlike_36 : decode cX4_unlike 36 = .ok (.istore 5, 2) := by decide +kernel
theorem dX4_unlike_38 : decode cX4_unlike 38 = .ok (.iload 5, 2) := by decide +kernel
theorem dX4_unlike_40 : decode cX4_unlike 40 = .ok (.iload_n 3, 1) := by decide +kernel
theorem dX4_unlike_41 : decode cX4_unlike 41 = .ok (.if_icmp .ge 29, 3) := by decide +kernel
theorem dX4_unlike_44 : decode cX4_unlike 44 = .ok (.aload_n 0, 1) := by decide +kernel
theorem dX4_unlike_45 : decode cX4_unlike 45 = .ok (.iload_n 1, 1) := by decide +kernel
theorem dX4_unlike_46 : decode cX4_unlike 46 = .ok (.iload 5, 2) := by decide +kernel
theorem dX4_unlike_48 : decode cX4_unlike 48 = .ok (.invokevirtual 77, 3) := by decide +kernel
theorem dX4_unlike_51 : decode cX4_unlike 51 = .ok (.aload_n 0, 1) := by decide +kernel
theorem dX4_unlike_52 : decode cX4_unlike 52 = .ok (.iload_n 2, 1) := by decide +kernel
theorem dX4_unlike_53 : decode cX4_unlike 53 = .ok (.iload 5, 2) := by decide +kernel
theorem dX4_unlike_55 : decode cX4_unlike 55 = .ok (.invokevirtual 81, 3) := by decide +kernel
theorem dX4_unlike_58 : decode cX4_unlike 58 = .ok (.if_icmp .eq 6, 3) := by decide +kernel
theorem dX4_unlike_61 : decode cX4_unlike 61 = .ok (.iinc 4 1, 3) := by decide +kernel
theorem dX4_unlike_64 : decode cX4_unlike 64 = .ok (.iinc 5 1, 3) := by decide +kernel
theorem dX4_unlike_67 : decode cX4_unlike 67 = .ok (.goto (-29), 3) := by decide +kernel
theorem dX4_unlike_70 : decode cX4_unlike 70 = .ok (.iload 4, 2) := by decide +kernel
theorem dX4_unlike_72 : decode cX4_unlike 72 = .ok (.ireturn, 1) := by decide +kernel
theorem dX4_rankOfHouse_0 : decode cX4_rankOfHouse 0 = .ok (.iconst 0, 1) := by decide +kernel
theorem dX4_rankOfHouse_1 : decode cX4_rankOfHouse 1 = .ok (.istore_n 2, 1) := by decide +kernel
theorem dX4_rankOfHouse_2 : decode cX4_rankOfHouse 2 = .ok (.iconst 0, 1) := by decide +kernel
theorem dX4_rankOfHouse_3 : decode cX4_rankOfHouse 3 = .ok (.istore_n 3, 1) := by decide +kernel
theorem dX4_rankOfHouse_4 : decode cX4_rankOfHouse 4 = .ok (.iload_n 3, 1) := by decide +kernel
theorem dX4_rankOfHouse_5 : decode cX4_rankOfHouse 5 = .ok (.aload_n 0, 1) := by decide +kernel
theorem dX4_rankOfHouse_6 : decode cX4_rankOfHouse 6 = .ok (.getfield 42, 3) := by decide +kernel
theorem dX4_rankOfHouse_9 : decode cX4_rankOfHouse 9 = .ok (.if_icmp .ge 21, 3) := by decide +kernel
theorem dX4_rankOfHouse_12 : decode cX4_rankOfHouse 12 = .ok (.aload_n 0, 1) := by decide +kernel
theorem dX4_rankOfHouse_13 : decode cX4_rankOfHouse 13 = .ok (.iload_n 3, 1) := by decide +kernel
theorem dX4_rankOfHouse_14 : decode cX4_rankOfHouse 14 = .ok (.iload_n 1, 1) := by decide +kernel
theorem dX4_rankOfHouse_15 : decode cX4_rankOfHouse 15 = .ok (.invokevirtual 145, 3) := by decide +kernel
theorem dX4_rankOfHouse_18 : decode cX4_rankOfHouse 18 = .ok (.ifCond .eq 6, 3) := by decide +kernel
theorem dX4_rankOfHouse_21 : decode cX4_rankOfHouse 21 = .ok (.iinc 2 1, 3) := by decide +kernel
theorem dX4_rankOfHouse_24 : decode cX4_rankOfHouse 24 = .ok (.iinc 3 1, 3) := by decide +kernel
theorem dX4_rankOfHouse_27 : decode cX4_rankOfHouse 27 = .ok (.goto (-23), 3) := by decide +kernel
theorem dX4_rankOfHouse_30 : decode cX4_rankOfHouse 30 = .ok (.iload_n 2, 1) := by decide +kernel
theorem dX4_rankOfHouse_31 : decode cX4_rankOfHouse 31 = .ok (.ireturn, 1) := by decide +kernel
theorem dX4_isMoreAshamed_0 : decode cX4_isMoreAshamed 0 = .ok (.aload_n 0, 1) := by decide +kernel
theorem dX4_isMoreAshamed_1 : decode cX4_isMoreAshamed 1 = .ok (.getfield 15, 3) := by decide +kernel
theorem dX4_isMoreAshamed_4 : decode cX4_isMoreAshamed 4 = .ok (.iload_n 1, 1) := by decide +kernel
theorem dX4_isMoreAshamed_5 : decode cX4_isMoreAshamed 5 = .ok (.iaload, 1) := by decide +kernel
theorem dX4_isMoreAshamed_6 : decode cX4_isMoreAshamed 6 = .ok (.aload_n 0, 1) := by decide +kernel
theorem dX4_isMoreAshamed_7 : decode cX4_isMoreAshamed 7 = .ok (.getfield 15, 3) := by decide +kernel
theorem dX4_isMoreAshamed_10 : decode cX4_isMoreAshamed 10 = .ok (.iload_n 2, 1) := by decide +kernel
theorem dX4_isMoreAshamed_11 : decode cX4_isMoreAshamed 11 = .ok (.iaload, 1) := by decide +kernel
theorem dX4_isMoreAshamed_12 : decode cX4_isMoreAshamed 12 = .ok (.if_icmp .eq 24, 3) := by decide +kernel
theorem dX4_isMoreAshamed_15 : decode cX4_isMoreAshamed 15 = .ok (.aload_n 0, 1) := by decide +kernel
theorem dX4_isMoreAshamed_16 : decode cX4_isMoreAshamed 16 = .ok (.getfield 15, 3) := by decide +kernel
theorem dX4_isMoreAshamed_19 : decode cX4_isMoreAshamed 19 = .ok (.iload_n 1, 1) := by decide +kernel
theorem dX4_isMoreAshamed_20 : decode cX4_isMoreAshamed 20 = .ok (.iaload, 1) := by decide +kernel
theorem dX4_isMoreAshamed_21 : decode cX4_isMoreAshamed 21 = .ok (.aload_n 0, 1) := by decide +kernel
theorem dX4_isMoreAshamed_22 : decode cX4_isMoreAshamed 22 = .ok (.getfield 15, 3) := by decide +kernel
theorem dX4_isMoreAshamed_25 : decode cX4_isMoreAshamed 25 = .ok (.iload_n 2, 1) := by decide +kernel
theorem dX4_isMoreAshamed_26 : decode cX4_isMoreAshamed 26 = .ok (.iaload, 1) := by decide +kernel
theorem dX4_isMoreAshamed_27 : decode cX4_isMoreAshamed 27 = .ok (.if_icmp .le 7, 3) := by decide +kernel
theorem dX4_isMoreAshamed_30 : decode cX4_isMoreAshamed 30 = .ok (.iconst 1, 1) := by decide +kernel
theorem dX4_isMoreAshamed_31 : decode cX4_isMoreAshamed 31 = .ok (.goto 4, 3) := by decide +kernel
theorem dX4_isMoreAshamed_34 : decode cX4_isMoreAshamed 34 = .ok (.iconst 0, 1) := by decide +kernel
theorem dX4_isMoreAshamed_35 : decode cX4_isMoreAshamed 35 = .ok (.ireturn, 1) := by decide +kernel
theorem dX4_isMoreAshamed_36 : decode cX4_isMoreAshamed 36 = .ok (.aload_n 0, 1) := by decide +kernel
theorem dX4_isMoreAshamed_37 : decode cX4_isMoreAshamed 37 = .ok (.getfield 9, 3) := by decide +kernel
theorem dX4_isMoreAshamed_40 : decode cX4_isMoreAshamed 40 = .ok (.iload_n 1, 1) := by decide +kernel
theorem dX4_isMoreAshamed_41 : decode cX4_isMoreAshamed 41 = .ok (.iaload, 1) := by decide +kernel
theorem dX4_isMoreAshamed_42 : decode cX4_isMoreAshamed 42 = .ok (.aload_n 0, 1) := by decide +kernel
theorem dX4_isMoreAshamed_43 : decode cX4_isMoreAshamed 43 = .ok (.getfield 9, 3) := by decide +kernel
theorem dX4_isMoreAshamed_46 : decode cX4_isMoreAshamed 46 = .ok (.iload_n 2, 1) := by decide +kernel
theorem dX4_isMoreAshamed_47 : decode cX4_isMoreAshamed 47 = .ok (.iaload, 1) := by decide +kernel
theorem dX4_isMoreAshamed_48 : decode cX4_isMoreAshamed 48 = .ok (.if_icmp .eq 24, 3) := by decide +kernel
theorem dX4_isMoreAshamed_51 : decode cX4_isMoreAshamed 51 = .ok (.aload_n 0, 1) := by decide +kernel
theorem dX4_isMoreAshamed_52 : decode cX4_isMoreAshamed 52 = .ok (.getfield 9, 3) := by decide +kernel
theorem dX4_isMoreAshamed_55 : decode cX4_isMoreAshamed 55 = .ok (.iload_n 1, 1) := by decide +kernel
theorem dX4_isMoreAshamed_56 : decode cX4_isMoreAshamed 56 = .ok (.iaload, 1) := by decide +kernel
theorem dX4_isMoreAshamed_57 : decode cX4_isMoreAshamed 57 = .ok (.aload_n 0, 1) := by decide +kernel
theorem dX4_isMoreAshamed_58 : decode cX4_isMoreAshamed 58 = .ok (.getfield 9, 3) := by decide +kernel
theorem dX4_isMoreAshamed_61 : decode cX4_isMoreAshamed 61 = .ok (.iload_n 2, 1) := by decide +kernel
theorem dX4_isMoreAshamed_62 : decode cX4_isMoreAshamed 62 = .ok (.iaload, 1) := by decide +kernel
theorem dX4_isMoreAshamed_63 : decode cX4_isMoreAshamed 63 = .ok (.if_icmp .ge 7, 3) := by decide +kernel
theorem dX4_isMoreAshamed_66 : decode cX4_isMoreAshamed 66 = .ok (.iconst 1, 1) := by decide +kernel
theorem dX4_isMoreAshamed_67 : decode cX4_isMoreAshamed 67 = .ok (.goto 4, 3) := by decide +kernel
theorem dX4_isMoreAshamed_70 : decode cX4_isMoreAshamed 70 = .ok (.iconst 0, 1) := by decide +kernel
theorem dX4_isMoreAshamed_71 : decode cX4_isMoreAshamed 71 = .ok (.ireturn, 1) := by decide +kernel
theorem dX4_isMoreAshamed_72 : decode cX4_isMoreAshamed 72 = .ok (.iload_n 1, 1) := by decide +kernel
theorem dX4_isMoreAshamed_73 : decode cX4_isMoreAshamed 73 = .ok (.iload_n 2, 1) := by decide +kernel
theorem dX4_isMoreAshamed_74 : decode cX4_isMoreAshamed 74 = .ok (.if_icmp .ge 7, 3) := by decide +kernel
theorem dX4_isMoreAshamed_77 : decode cX4_isMoreAshamed 77 = .ok (.iconst 1, 1) := by decide +kernel
theorem dX4_isMoreAshamed_78 : decode cX4_isMoreAshamed 78 = .ok (.goto 4, 3) := by decide +kernel
theorem dX4_isMoreAshamed_81 : decode cX4_isMoreAshamed 81 = .ok (.iconst 0, 1) := by decide +kernel
theorem dX4_isMoreAshamed_82 : decode cX4_isMoreAshamed 82 = .ok (.ireturn, 1) := by decide +kernel
theorem dX4_rankOfSheet_0 : decode cX4_rankOfSheet 0 = .ok (.iconst 0, 1) := by decide +kernel
theorem dX4_rankOfSheet_1 : decode cX4_rankOfSheet 1 = .ok (.istore_n 2, 1) := by decide +kernel
theorem dX4_rankOfSheet_2 : decode cX4_rankOfSheet 2 = .ok (.iconst 0, 1) := by decide +kernel
theorem dX4_rankOfSheet_3 : decode cX4_rankOfSheet 3 = .ok (.istore_n 3, 1) := by decide +kernel
theorem dX4_rankOfSheet_4 : decode cX4_rankOfSheet 4 = .ok (.iload_n 3, 1) := by decide +kernel
theorem dX4_rankOfSheet_5 : decode cX4_rankOfSheet 5 = .ok (.aload_n 0, 1) := by decide +kernel
theorem dX4_rankOfSheet_6 : decode cX4_rankOfSheet 6 = .ok (.getfield 46, 3) := by decide +kernel
theorem dX4_rankOfSheet_9 : decode cX4_rankOfSheet 9 = .ok (.if_icmp .ge 21, 3) := by decide +kernel
theorem dX4_rankOfSheet_12 : decode cX4_rankOfSheet 12 = .ok (.aload_n 0, 1) := by decide +kernel
theorem dX4_rankOfSheet_13 : decode cX4_rankOfSheet 13 = .ok (.iload_n 3, 1) := by decide +kernel
theorem dX4_rankOfSheet_14 : decode cX4_rankOfSheet 14 = .ok (.iload_n 1, 1) := by decide +kernel
theorem dX4_rankOfSheet_15 : decode cX4_rankOfSheet 15 = .ok (.invokevirtual 149, 3) := by decide +kernel
theorem dX4_rankOfSheet_18 : decode cX4_rankOfSheet 18 = .ok (.ifCond .eq 6, 3) := by decide +kernel
theorem dX4_rankOfSheet_21 : decode cX4_rankOfSheet 21 = .ok (.iinc 2 1, 3) := by decide +kernel
theorem dX4_rankOfSheet_24 : decode cX4_rankOfSheet 24 = .ok (.iinc 3 1, 3) := by decide +kernel
theorem dX4_rankOfSheet_27 : decode cX4_rankOfSheet 27 = .ok (.goto (-23), 3) := by decide +kernel
theorem dX4_rankOfSheet_30 : decode cX4_rankOfSheet 30 = .ok (.iload_n 2, 1) := by decide +kernel
theorem dX4_rankOfSheet_31 : decode cX4_rankOfSheet 31 = .ok (.ireturn, 1) := by decide +kernel
theorem dX4_isWorse_0 : decode cX4_isWorse 0 = .ok (.aload_n 0, 1) := by decide +kernel
theorem dX4_isWorse_1 : decode cX4_isWorse 1 = .ok (.iload_n 1, 1) := by decide +kernel
theorem dX4_isWorse_2 : decode cX4_isWorse 2 = .ok (.invokevirtual 108, 3) := by decide +kernel
theorem dX4_isWorse_5 : decode cX4_isWorse 5 = .ok (.aload_n 0, 1) := by decide +kernel
theorem dX4_isWorse_6 : decode cX4_isWorse 6 = .ok (.iload_n 2, 1) := by decide +kernel
theorem dX4_isWorse_7 : decode cX4_isWorse 7 = .ok (.invokevirtual 108, 3) := by decide +kernel
theorem dX4_isWorse_10 : decode cX4_isWorse 10 = .ok (.isub, 1) := by decide +kernel
theorem dX4_isWorse_11 : decode cX4_isWorse 11 = .ok (.istore_n 3, 1) := by decide +kernel
theorem dX4_isWorse_12 : decode cX4_isWorse 12 = .ok (.iload_n 3, 1) := by decide +kernel
theorem dX4_isWorse_13 : decode cX4_isWorse 13 = .ok (.ifCond .ne 17, 3) := by decide +kernel
theorem dX4_isWorse_16 : decode cX4_isWorse 16 = .ok (.aload_n 0, 1) := by decide +kernel
theorem dX4_isWorse_17 : decode cX4_isWorse 17 = .ok (.iload_n 1, 1) := by decide +kernel
theorem dX4_isWorse_18 : decode cX4_isWorse 18 = .ok (.iconst 1, 1) := by decide +kernel
theorem dX4_isWorse_19 : decode cX4_isWorse 19 = .ok (.invokevirtual 90, 3) := by decide +kernel
theorem dX4_isWorse_22 : decode cX4_isWorse 22 = .ok (.aload_n 0, 1) := by decide +kernel
theorem dX4_isWorse_23 : decode cX4_isWorse 23 = .ok (.iload_n 2, 1) := by decide +kernel
theorem dX4_isWorse_24 : decode cX4_isWorse 24 = .ok (.iconst 1, 1) := by decide +kernel
theorem dX4_isWorse_25 : decode cX4_isWorse 25 = .ok (.invokevirtual 90, 3) := by decide +kernel
theorem dX4_isWorse_28 : decode cX4_isWorse 28 = .ok (.isub, 1) := by decide +kernel
theorem dX4_isWorse_29 : decode cX4_isWorse 29 = .ok (.istore_n 3, 1) := by decide +kernel
theorem dX4_isWorse_30 : decode cX4_isWorse 30 = .ok (.iload_n 3, 1) := by decide +kernel
theorem dX4_isWorse_31 : decode cX4_isWorse 31 = .ok (.ifCond .gt 12, 3) := by decide +kernel
theorem dX4_isWorse_34 : decode cX4_isWorse 34 = .ok (.iload_n 3, 1) := by decide +kernel
theorem dX4_isWorse_35 : decode cX4_isWorse 35 = .ok (.ifCond .ne 12, 3) := by decide +kernel
theorem dX4_isWorse_38 : decode cX4_isWorse 38 = .ok (.iload_n 1, 1) := by decide +kernel
theorem dX4_isWorse_39 : decode cX4_isWorse 39 = .ok (.iload_n 2, 1) := by decide +kernel
theorem dX4_isWorse_40 : decode cX4_isWorse 40 = .ok (.if_icmp .ge 7, 3) := by decide +kernel
theorem dX4_isWorse_43 : decode cX4_isWorse 43 = .ok (.iconst 1, 1) := by decide +kernel
theorem dX4_isWorse_44 : decode cX4_isWorse 44 = .ok (.goto 4, 3) := by decide +kernel
theorem dX4_isWorse_47 : decode cX4_isWorse 47 = .ok (.iconst 0, 1) := by decide +kernel
theorem dX4_isWorse_48 : decode cX4_isWorse 48 = .ok (.ireturn, 1) := by decide +kernel
theorem dX4_appendHouse_0 : decode cX4_appendHouse 0 = .ok (.aload_n 0, 1) := by decide +kernel
theorem dX4_appendHouse_1 : decode cX4_appendHouse 1 = .ok (.getfield 9, 3) := by decide +kernel
theorem dX4_appendHouse_4 : decode cX4_appendHouse 4 = .ok (.aload_n 0, 1) := by decide +kernel
theorem dX4_appendHouse_5 : decode cX4_appendHouse 5 = .ok (.getfield 42, 3) := by decide +kernel
theorem dX4_appendHouse_8 : decode cX4_appendHouse 8 = .ok (.iload_n 1, 1) := by decide +kernel
theorem dX4_appendHouse_9 : decode cX4_appendHouse 9 = .ok (.iastore, 1) := by decide +kernel
theorem dX4_appendHouse_10 : decode cX4_appendHouse 10 = .ok (.aload_n 0, 1) := by decide +kernel
theorem dX4_appendHouse_11 : decode cX4_appendHouse 11 = .ok (.getfield 15, 3) := by decide +kernel
theorem dX4_appendHouse_14 : decode cX4_appendHouse 14 = .ok (.aload_n 0, 1) := by decide +kernel
theorem dX4_appendHouse_15 : decode cX4_appendHouse 15 = .ok (.getfield 42, 3) := by decide +kernel
theorem dX4_appendHouse_18 : decode cX4_appendHouse 18 = .ok (.iconst 0, 1) := by decide +kernel
theorem dX4_appendHouse_19 : decode cX4_appendHouse 19 = .ok (.iastore, 1) := by decide +kernel
theorem dX4_appendHouse_20 : decode cX4_appendHouse 20 = .ok (.aload_n 0, 1) := by decide +kernel
theorem dX4_appendHouse_21 : decode cX4_appendHouse 21 = .ok (.getfield 18, 3) := by decide +kernel
theorem dX4_appendHouse_24 : decode cX4_appendHouse 24 = .ok (.aload_n 0, 1) := by decide +kernel
theorem dX4_appendHouse_25 : decode cX4_appendHouse 25 = .ok (.getfield 42, 3) := by decide +kernel
theorem dX4_appendHouse_28 : decode cX4_appendHouse 28 = .ok (.iconst 0, 1) := by decide +kernel
theorem dX4_appendHouse_29 : decode cX4_appendHouse 29 = .ok (.iastore, 1) := by decide +kernel
theorem dX4_appendHouse_30 : decode cX4_appendHouse 30 = .ok (.aload_n 0, 1) := by decide +kernel
theorem dX4_appendHouse_31 : decode cX4_appendHouse 31 = .ok (.dup, 1) := by decide +kernel
theorem dX4_appendHouse_32 : decode cX4_appendHouse 32 = .ok (.getfield 42, 3) := by decide +kernel
theorem dX4_appendHouse_35 : decode cX4_appendHouse 35 = .ok (.iconst 1, 1) := by decide +kernel
theorem dX4_appendHouse_36 : decode cX4_appendHouse 36 = .ok (.iadd, 1) := by decide +kernel
theorem dX4_appendHouse_37 : decode cX4_appendHouse 37 = .ok (.putfield 42, 3) := by decide +kernel
theorem dX4_appendHouse_40 : decode cX4_appendHouse 40 = .ok (.aload_n 0, 1) := by decide +kernel
theorem dX4_appendHouse_41 : decode cX4_appendHouse 41 = .ok (.getfield 42, 3) := by decide +kernel
theorem dX4_appendHouse_44 : decode cX4_appendHouse 44 = .ok (.iconst 1, 1) := by decide +kernel
theorem dX4_appendHouse_45 : decode cX4_appendHouse 45 = .ok (.isub, 1) := by decide +kernel
theorem dX4_appendHouse_46 : decode cX4_appendHouse 46 = .ok (.ireturn, 1) := by decide +kernel
theorem dX4_appendSheet_0 : decode cX4_appendSheet 0 = .ok (.iload_n 2, 1) := by decide +kernel
theorem dX4_appendSheet_1 : decode cX4_appendSheet 1 = .ok (.istore 4, 2) := by decide +kernel
theorem dX4_appendSheet_3 : decode cX4_appendSheet 3 = .ok (.aload_n 0, 1) := by decide +kernel
theorem dX4_appendSheet_4 : decode cX4_appendSheet 4 = .ok (.getfield 21, 3) := by decide +kernel
theorem dX4_appendSheet_7 : decode cX4_appendSheet 7 = .ok (.aload_n 0, 1) := by decide +kernel
theorem dX4_appendSheet_8 : decode cX4_appendSheet 8 = .ok (.getfield 46, 3) := by decide +kernel
theorem dX4_appendSheet_11 : decode cX4_appendSheet 11 = .ok (.iload_n 1, 1) := by decide +kernel
theorem dX4_appendSheet_12 : decode cX4_appendSheet 12 = .ok (.iastore, 1) := by decide +kernel
theorem dX4_appendSheet_13 : decode cX4_appendSheet 13 = .ok (.aload_n 0, 1) := by decide +kernel
theorem dX4_appendSheet_14 : decode cX4_appendSheet 14 = .ok (.getfield 24, 3) := by decide +kernel
theorem dX4_appendSheet_17 : decode cX4_appendSheet 17 = .ok (.aload_n 0, 1) := by decide +kernel
theorem dX4_appendSheet_18 : decode cX4_appendSheet 18 = .ok (.getfield 46, 3) := by decide +kernel
theorem dX4_appendSheet_21 : decode cX4_appendSheet 21 = .ok (.iload_n 3, 1) := by decide +kernel
theorem dX4_appendSheet_22 : decode cX4_appendSheet 22 = .ok (.iastore, 1) := by decide +kernel
theorem dX4_appendSheet_23 : decode cX4_appendSheet 23 = .ok (.iload_n 3, 1) := by decide +kernel
theorem dX4_appendSheet_24 : decode cX4_appendSheet 24 = .ok (.iconst 1, 1) := by decide +kernel
theorem dX4_appendSheet_25 : decode cX4_appendSheet 25 = .ok (.isub, 1) := by decide +kernel
theorem dX4_appendSheet_26 : decode cX4_appendSheet 26 = .ok (.istore 5, 2) := by decide +kernel
theorem dX4_appendSheet_28 : decode cX4_appendSheet 28 = .ok (.iload 5, 2) := by decide +kernel
theorem dX4_appendSheet_30 : decode cX4_appendSheet 30 = .ok (.ifCond .lt 51, 3) := by decide +kernel
theorem dX4_appendSheet_33 : decode cX4_appendSheet 33 = .ok (.aload_n 0, 1) := by decide +kernel
theorem dX4_appendSheet_34 : decode cX4_appendSheet 34 = .ok (.getfield 27, 3) := by decide +kernel
theorem dX4_appendSheet_37 : decode cX4_appendSheet 37 = .ok (.aload_n 0, 1) := by decide +kernel
theorem dX4_appendSheet_38 : decode cX4_appendSheet 38 = .ok (.getfield 46, 3) := by decide +kernel
theorem dX4_appendSheet_41 : decode cX4_appendSheet 41 = .ok (.bipush 8, 2) := by decide +kernel
theorem dX4_appendSheet_43 : decode cX4_appendSheet 43 = .ok (.imul, 1) := by decide +kernel
theorem dX4_appendSheet_44 : decode cX4_appendSheet 44 = .ok (.iload 5, 2) := by decide +kernel
theorem dX4_appendSheet_46 : decode cX4_appendSheet 46 = .ok (.iadd, 1) := by decide +kernel
theorem dX4_appendSheet_47 : decode cX4_appendSheet 47 = .ok (.iload 4, 2) := by decide +kernel
theorem dX4_appendSheet_49 : decode cX4_appendSheet 49 = .ok (.bipush 10, 2) := by decide +kernel
theorem dX4_appendSheet_51 : decode cX4_appendSheet 51 = .ok (.irem, 1) := by decide +kernel
theorem dX4_appendSheet_52 : decode cX4_appendSheet 52 = .ok (.iastore, 1) := by decide +kernel
theorem dX4_appendSheet_53 : decode cX4_appendSheet 53 = .ok (.aload_n 0, 1) := by decide +kernel
theorem dX4_appendSheet_54 : decode cX4_appendSheet 54 = .ok (.aload_n 0, 1) := by decide +kernel
theorem dX4_appendSheet_55 : decode cX4_appendSheet 55 = .ok (.getfield 46, 3) := by decide +kernel
theorem dX4_appendSheet_58 : decode cX4_appendSheet 58 = .ok (.iload 5, 2) := by decide +kernel
theorem dX4_appendSheet_60 : decode cX4_appendSheet 60 = .ok (.iload 4, 2) := by decide +kernel
theorem dX4_appendSheet_62 : decode cX4_appendSheet 62 = .ok (.bipush 10, 2) := by decide +kernel
theorem dX4_appendSheet_64 : decode cX4_appendSheet 64 = .ok (.irem, 1) := by decide +kernel
theorem dX4_appendSheet_65 : decode cX4_appendSheet 65 = .ok (.invokevirtual 152, 3) := by decide +kernel
theorem dX4_appendSheet_68 : decode cX4_appendSheet 68 = .ok (.iload 4, 2) := by decide +kernel
theorem dX4_appendSheet_70 : decode cX4_appendSheet 70 = .ok (.bipush 10, 2) := by decide +kernel
theorem dX4_appendSheet_72 : decode cX4_appendSheet 72 = .ok (.idiv, 1) := by decide +kernel
theorem dX4_appendSheet_73 : decode cX4_appendSheet 73 = .ok (.istore 4, 2) := by decide +kernel
theorem dX4_appendSheet_75 : decode cX4_appendSheet 75 = .ok (.iinc 5 (-1), 3) := by decide +kernel
theorem dX4_appendSheet_78 : decode cX4_appendSheet 78 = .ok (.goto (-50), 3) := by decide +kernel
theorem dX4_appendSheet_81 : decode cX4_appendSheet 81 = .ok (.aload_n 0, 1) := by decide +kernel
theorem dX4_appendSheet_82 : decode cX4_appendSheet 82 = .ok (.dup, 1) := by decide +kernel
theorem dX4_appendSheet_83 : decode cX4_appendSheet 83 = .ok (.getfield 46, 3) := by decide +kernel
theorem dX4_appendSheet_86 : decode cX4_appendSheet 86 = .ok (.iconst 1, 1) := by decide +kernel
theorem dX4_appendSheet_87 : decode cX4_appendSheet 87 = .ok (.iadd, 1) := by decide +kernel
theorem dX4_appendSheet_88 : decode cX4_appendSheet 88 = .ok (.putfield 46, 3) := by decide +kernel
theorem dX4_appendSheet_91 : decode cX4_appendSheet 91 = .ok (.aload_n 0, 1) := by decide +kernel
theorem dX4_appendSheet_92 : decode cX4_appendSheet 92 = .ok (.getfield 46, 3) := by decide +kernel
theorem dX4_appendSheet_95 : decode cX4_appendSheet 95 = .ok (.iconst 1, 1) := by decide +kernel
theorem dX4_appendSheet_96 : decode cX4_appendSheet 96 = .ok (.isub, 1) := by decide +kernel
theorem dX4_appendSheet_97 : decode cX4_appendSheet 97 = .ok (.ireturn, 1) := by decide +kernel
theorem dX4_appendReader_0 : decode cX4_appendReader 0 = .ok (.aload_n 0, 1) := by decide +kernel
theorem dX4_appendReader_1 : decode cX4_appendReader 1 = .ok (.getfield 36, 3) := by decide +kernel
theorem dX4_appendReader_4 : decode cX4_appendReader 4 = .ok (.aload_n 0, 1) := by decide +kernel
theorem dX4_appendReader_5 : decode cX4_appendReader 5 = .ok (.getfield 49, 3) := by decide +kernel
theorem dX4_appendReader_8 : decode cX4_appendReader 8 = .ok (.iload_n 1, 1) := by decide +kernel
theorem dX4_appendReader_9 : decode cX4_appendReader 9 = .ok (.iastore, 1) := by decide +kernel
theorem dX4_appendReader_10 : decode cX4_appendReader 10 = .ok (.aload_n 0, 1) := by decide +kernel
theorem dX4_appendReader_11 : decode cX4_appendReader 11 = .ok (.getfield 39, 3) := by decide +kernel
theorem dX4_appendReader_14 : decode cX4_appendReader 14 = .ok (.aload_n 0, 1) := by decide +kernel
theorem dX4_appendReader_15 : decode cX4_appendReader 15 = .ok (.getfield 49, 3) := by decide +kernel
theorem dX4_appendReader_18 : decode cX4_appendReader 18 = .ok (.iload_n 2, 1) := by decide +kernel
theorem dX4_appendReader_19 : decode cX4_appendReader 19 = .ok (.iastore, 1) := by decide +kernel
theorem dX4_appendReader_20 : decode cX4_appendReader 20 = .ok (.aload_n 0, 1) := by decide +kernel
theorem dX4_appendReader_21 : decode cX4_appendReader 21 = .ok (.dup, 1) := by decide +kernel
theorem dX4_appendReader_22 : decode cX4_appendReader 22 = .ok (.getfield 49, 3) := by decide +kernel
theorem dX4_appendReader_25 : decode cX4_appendReader 25 = .ok (.iconst 1, 1) := by decide +kernel
theorem dX4_appendReader_26 : decode cX4_appendReader 26 = .ok (.iadd, 1) := by decide +kernel
theorem dX4_appendReader_27 : decode cX4_appendReader 27 = .ok (.putfield 49, 3) := by decide +kernel
theorem dX4_appendReader_30 : decode cX4_appendReader 30 = .ok (.aload_n 0, 1) := by decide +kernel
theorem dX4_appendReader_31 : decode cX4_appendReader 31 = .ok (.getfield 49, 3) := by decide +kernel
theorem dX4_appendReader_34 : decode cX4_appendReader 34 = .ok (.iconst 1, 1) := by decide +kernel
theorem dX4_appendReader_35 : decode cX4_appendReader 35 = .ok (.isub, 1) := by decide +kernel
theorem dX4_appendReader_36 : decode cX4_appendReader 36 = .ok (.ireturn, 1) := by decide +kernel
theorem dX4_removeSheet_0 : decode cX4_removeSheet 0 = .ok (.aload_n 0, 1) := by decide +kernel
theorem dX4_removeSheet_1 : decode cX4_removeSheet 1 = .ok (.getfield 46, 3) := by decide +kernel
theorem dX4_removeSheet_4 : decode cX4_removeSheet 4 = .ok (.iload_n 1, 1) := by decide +kernel
theorem dX4_removeSheet_5 : decode cX4_removeSheet 5 = .ok (.isub, 1) := by decide +kernel
theorem dX4_removeSheet_6 : decode cX4_removeSheet 6 = .ok (.iconst 1, 1) := by decide +kernel
theorem dX4_removeSheet_7 : decode cX4_removeSheet 7 = .ok (.isub, 1) := by decide +kernel
theorem dX4_removeSheet_8 : decode cX4_removeSheet 8 = .ok (.istore_n 2, 1) := by decide +kernel
theorem dX4_removeSheet_9 : decode cX4_removeSheet 9 = .ok (.iload_n 1, 1) := by decide +kernel
theorem dX4_removeSheet_10 : decode cX4_removeSheet 10 = .ok (.iconst 1, 1) := by decide +kernel
theorem dX4_removeSheet_11 : decode cX4_removeSheet 11 = .ok (.iadd, 1) := by decide +kernel
theorem dX4_removeSheet_12 : decode cX4_removeSheet 12 = .ok (.bipush 8, 2) := by decide +kernel
theorem dX4_removeSheet_14 : decode cX4_removeSheet 14 = .ok (.imul, 1) := by decide +kernel
theorem dX4_removeSheet_15 : decode cX4_removeSheet 15 = .ok (.istore_n 3, 1) := by decide +kernel
theorem dX4_removeSheet_16 : decode cX4_removeSheet 16 = .ok (.iload_n 1, 1) := by decide +kernel
theorem dX4_removeSheet_17 : decode cX4_removeSheet 17 = .ok (.bipush 8, 2) := by decide +kernel
theorem dX4_removeSheet_19 : decode cX4_removeSheet 19 = .ok (.imul, 1) := by decide +kernel
theorem dX4_removeSheet_20 : decode cX4_removeSheet 20 = .ok (.istore 4, 2) := by decide +kernel
theorem dX4_removeSheet_22 : decode cX4_removeSheet 22 = .ok (.aload_n 0, 1) := by decide +kernel
theorem dX4_removeSheet_23 : decode cX4_removeSheet 23 = .ok (.getfield 21, 3) := by decide +kernel
theorem dX4_removeSheet_26 : decode cX4_removeSheet 26 = .ok (.iload_n 1, 1) := by decide +kernel
theorem dX4_removeSheet_27 : decode cX4_removeSheet 27 = .ok (.iconst 1, 1) := by decide +kernel
theorem dX4_removeSheet_28 : decode cX4_removeSheet 28 = .ok (.iadd, 1) := by decide +kernel
theorem dX4_removeSheet_29 : decode cX4_removeSheet 29 = .ok (.aload_n 0, 1) := by decide +kernel
theorem dX4_removeSheet_30 : decode cX4_removeSheet 30 = .ok (.getfield 21, 3) := by decide +kernel
theorem dX4_removeSheet_33 : decode cX4_removeSheet 33 = .ok (.iload_n 1, 1) := by decide +kernel
theorem dX4_removeSheet_34 : decode cX4_removeSheet 34 = .ok (.iload_n 2, 1) := by decide +kernel
theorem dX4_removeSheet_35 : decode cX4_removeSheet 35 = .ok (.invokestatic 67, 3) := by decide +kernel
theorem dX4_removeSheet_38 : decode cX4_removeSheet 38 = .ok (.aload_n 0, 1) := by decide +kernel
theorem dX4_removeSheet_39 : decode cX4_removeSheet 39 = .ok (.getfield 24, 3) := by decide +kernel
theorem dX4_removeSheet_42 : decode cX4_removeSheet 42 = .ok (.iload_n 1, 1) := by decide +kernel
theorem dX4_removeSheet_43 : decode cX4_removeSheet 43 = .ok (.iconst 1, 1) := by decide +kernel
theorem dX4_removeSheet_44 : decode cX4_removeSheet 44 = .ok (.iadd, 1) := by decide +kernel
theorem dX4_removeSheet_45 : decode cX4_removeSheet 45 = .ok (.aload_n 0, 1) := by decide +kernel
theorem dX4_removeSheet_46 : decode cX4_removeSheet 46 = .ok (.getfield 24, 3) := by decide +kernel
theorem dX4_removeSheet_49 : decode cX4_removeSheet 49 = .ok (.iload_n 1, 1) := by decide +kernel
theorem dX4_removeSheet_50 : decode cX4_removeSheet 50 = .ok (.iload_n 2, 1) := by decide +kernel
theorem dX4_removeSheet_51 : decode cX4_removeSheet 51 = .ok (.invokestatic 67, 3) := by decide +kernel
theorem dX4_removeSheet_54 : decode cX4_removeSheet 54 = .ok (.aload_n 0, 1) := by decide +kernel
theorem dX4_removeSheet_55 : decode cX4_removeSheet 55 = .ok (.getfield 27, 3) := by decide +kernel
theorem dX4_removeSheet_58 : decode cX4_removeSheet 58 = .ok (.iload_n 3, 1) := by decide +kernel
theorem dX4_removeSheet_59 : decode cX4_removeSheet 59 = .ok (.aload_n 0, 1) := by decide +kernel
theorem dX4_removeSheet_60 : decode cX4_removeSheet 60 = .ok (.getfield 27, 3) := by decide +kernel
theorem dX4_removeSheet_63 : decode cX4_removeSheet 63 = .ok (.iload 4, 2) := by decide +kernel
theorem dX4_removeSheet_65 : decode cX4_removeSheet 65 = .ok (.iload_n 2, 1) := by decide +kernel
theorem dX4_removeSheet_66 : decode cX4_removeSheet 66 = .ok (.bipush 8, 2) := by decide +kernel
theorem dX4_removeSheet_68 : decode cX4_removeSheet 68 = .ok (.imul, 1) := by decide +kernel
theorem dX4_removeSheet_69 : decode cX4_removeSheet 69 = .ok (.invokestatic 67, 3) := by decide +kernel
theorem dX4_removeSheet_72 : decode cX4_removeSheet 72 = .ok (.aload_n 0, 1) := by decide +kernel
theorem dX4_removeSheet_73 : decode cX4_removeSheet 73 = .ok (.getfield 30, 3) := by decide +kernel
theorem dX4_removeSheet_76 : decode cX4_removeSheet 76 = .ok (.iload_n 3, 1) := by decide +kernel
theorem dX4_removeSheet_77 : decode cX4_removeSheet 77 = .ok (.aload_n 0, 1) := by decide +kernel
theorem dX4_removeSheet_78 : decode cX4_removeSheet 78 = .ok (.getfield 30, 3) := by decide +kernel
theorem dX4_removeSheet_81 : decode cX4_removeSheet 81 = .ok (.iload 4, 2) := by decide +kernel
theorem dX4_removeSheet_83 : decode cX4_removeSheet 83 = .ok (.iload_n 2, 1) := by decide +kernel
theorem dX4_removeSheet_84 : decode cX4_removeSheet 84 = .ok (.bipush 8, 2) := by decide +kernel
theorem dX4_removeSheet_86 : decode cX4_removeSheet 86 = .ok (.imul, 1) := by decide +kernel
theorem dX4_removeSheet_87 : decode cX4_removeSheet 87 = .ok (.invokestatic 67, 3) := by decide +kernel
theorem dX4_removeSheet_90 : decode cX4_removeSheet 90 = .ok (.aload_n 0, 1) := by decide +kernel
theorem dX4_removeSheet_91 : decode cX4_removeSheet 91 = .ok (.getfield 33, 3) := by decide +kernel
theorem dX4_removeSheet_94 : decode cX4_removeSheet 94 = .ok (.iload_n 3, 1) := by decide +kernel
theorem dX4_removeSheet_95 : decode cX4_removeSheet 95 = .ok (.aload_n 0, 1) := by decide +kernel
theorem dX4_removeSheet_96 : decode cX4_removeSheet 96 = .ok (.getfield 33, 3) := by decide +kernel
theorem dX4_removeSheet_99 : decode cX4_removeSheet 99 = .ok (.iload 4, 2) := by decide +kernel
theorem dX4_removeSheet_101 : decode cX4_removeSheet 101 = .ok (.iload_n 2, 1) := by decide +kernel
theorem dX4_removeSheet_102 : decode cX4_removeSheet 102 = .ok (.bipush 8, 2) := by decide +kernel
theorem dX4_removeSheet_104 : decode cX4_removeSheet 104 = .ok (.imul, 1) := by decide +kernel
theorem dX4_removeSheet_105 : decode cX4_removeSheet 105 = .ok (.invokestatic 67, 3) := by decide +kernel
theorem dX4_removeSheet_108 : decode cX4_removeSheet 108 = .ok (.aload_n 0, 1) := by decide +kernel
theorem dX4_removeSheet_109 : decode cX4_removeSheet 109 = .ok (.dup, 1) := by decide +kernel
theorem dX4_removeSheet_110 : decode cX4_removeSheet 110 = .ok (.getfield 46, 3) := by decide +kernel
theorem dX4_removeSheet_113 : decode cX4_removeSheet 113 = .ok (.iconst 1, 1) := by decide +kernel
theorem dX4_removeSheet_114 : decode cX4_removeSheet 114 = .ok (.isub, 1) := by decide +kernel
theorem dX4_removeSheet_115 : decode cX4_removeSheet 115 = .ok (.putfield 46, 3) := by decide +kernel
theorem dX4_removeSheet_118 : decode cX4_removeSheet 118 = .ok (.return_, 1) := by decide +kernel
theorem dX4_putLetter_0 : decode cX4_putLetter 0 = .ok (.iload_n 1, 1) := by decide +kernel
theorem dX4_putLetter_1 : decode cX4_putLetter 1 = .ok (.bipush 8, 2) := by decide +kernel
theorem dX4_putLetter_3 : decode cX4_putLetter 3 = .ok (.imul, 1) := by decide +kernel
theorem dX4_putLetter_4 : decode cX4_putLetter 4 = .ok (.iload_n 2, 1) := by decide +kernel
theorem dX4_putLetter_5 : decode cX4_putLetter 5 = .ok (.iadd, 1) := by decide +kernel
theorem dX4_putLetter_6 : decode cX4_putLetter 6 = .ok (.istore 4, 2) := by decide +kernel
theorem dX4_putLetter_8 : decode cX4_putLetter 8 = .ok (.aload_n 0, 1) := by decide +kernel
theorem dX4_putLetter_9 : decode cX4_putLetter 9 = .ok (.getfield 30, 3) := by decide +kernel
theorem dX4_putLetter_12 : decode cX4_putLetter 12 = .ok (.iload 4, 2) := by decide +kernel
theorem dX4_putLetter_14 : decode cX4_putLetter 14 = .ok (.iload_n 3, 1) := by decide +kernel
theorem dX4_putLetter_15 : decode cX4_putLetter 15 = .ok (.iastore, 1) := by decide +kernel
theorem dX4_putLetter_16 : decode cX4_putLetter 16 = .ok (.aload_n 0, 1) := by decide +kernel
theorem dX4_putLetter_17 : decode cX4_putLetter 17 = .ok (.getfield 33, 3) := by decide +kernel
theorem dX4_putLetter_20 : decode cX4_putLetter 20 = .ok (.iload 4, 2) := by decide +kernel
theorem dX4_putLetter_22 : decode cX4_putLetter 22 = .ok (.iload_n 3, 1) := by decide +kernel
theorem dX4_putLetter_23 : decode cX4_putLetter 23 = .ok (.aload_n 0, 1) := by decide +kernel
theorem dX4_putLetter_24 : decode cX4_putLetter 24 = .ok (.getfield 27, 3) := by decide +kernel
theorem dX4_putLetter_27 : decode cX4_putLetter 27 = .ok (.iload 4, 2) := by decide +kernel
theorem dX4_putLetter_29 : decode cX4_putLetter 29 = .ok (.iaload, 1) := by decide +kernel
theorem dX4_putLetter_30 : decode cX4_putLetter 30 = .ok (.if_icmp .ne 7, 3) := by decide +kernel
theorem dX4_putLetter_33 : decode cX4_putLetter 33 = .ok (.iconst 0, 1) := by decide +kernel
theorem dX4_putLetter_34 : decode cX4_putLetter 34 = .ok (.goto 4, 3) := by decide +kernel
theorem dX4_putLetter_37 : decode cX4_putLetter 37 = .ok (.iconst 1, 1) := by decide +kernel
theorem dX4_putLetter_38 : decode cX4_putLetter 38 = .ok (.iastore, 1) := by decide +kernel
theorem dX4_putLetter_39 : decode cX4_putLetter 39 = .ok (.return_, 1) := by decide +kernel
theorem dX4_printOne_0 : decode cX4_printOne 0 = .ok (.aload_n 0, 1) := by decide +kernel
theorem dX4_printOne_1 : decode cX4_printOne 1 = .ok (.getfield 21, 3) := by decide +kernel
theorem dX4_printOne_4 : decode cX4_printOne 4 = .ok (.iload_n 1, 1) := by decide +kernel
theorem dX4_printOne_5 : decode cX4_printOne 5 = .ok (.iaload, 1) := by decide +kernel
theorem dX4_printOne_6 : decode cX4_printOne 6 = .ok (.istore_n 3, 1) := by decide +kernel
theorem dX4_printOne_7 : decode cX4_printOne 7 = .ok (.aload_n 0, 1) := by decide +kernel
theorem dX4_printOne_8 : decode cX4_printOne 8 = .ok (.iload_n 1, 1) := by decide +kernel
theorem dX4_printOne_9 : decode cX4_printOne 9 = .ok (.iload_n 2, 1) := by decide +kernel
theorem dX4_printOne_10 : decode cX4_printOne 10 = .ok (.invokevirtual 128, 3) := by decide +kernel
theorem dX4_printOne_13 : decode cX4_printOne 13 = .ok (.invokestatic 131, 3) := by decide +kernel
theorem dX4_printOne_16 : decode cX4_printOne 16 = .ok (.istore 4, 2) := by decide +kernel
theorem dX4_printOne_18 : decode cX4_printOne 18 = .ok (.aload_n 0, 1) := by decide +kernel
theorem dX4_printOne_19 : decode cX4_printOne 19 = .ok (.getfield 15, 3) := by decide +kernel
theorem dX4_printOne_22 : decode cX4_printOne 22 = .ok (.iload_n 3, 1) := by decide +kernel
theorem dX4_printOne_23 : decode cX4_printOne 23 = .ok (.aload_n 0, 1) := by decide +kernel
theorem dX4_printOne_24 : decode cX4_printOne 24 = .ok (.getfield 15, 3) := by decide +kernel
theorem dX4_printOne_27 : decode cX4_printOne 27 = .ok (.iload_n 3, 1) := by decide +kernel
theorem dX4_printOne_28 : decode cX4_printOne 28 = .ok (.iaload, 1) := by decide +kernel
theorem dX4_printOne_29 : decode cX4_printOne 29 = .ok (.aload_n 0, 1) := by decide +kernel
theorem dX4_printOne_30 : decode cX4_printOne 30 = .ok (.iload_n 1, 1) := by decide +kernel
theorem dX4_printOne_31 : decode cX4_printOne 31 = .ok (.iload_n 2, 1) := by decide +kernel
theorem dX4_printOne_32 : decode cX4_printOne 32 = .ok (.invokevirtual 93, 3) := by decide +kernel
theorem dX4_printOne_35 : decode cX4_printOne 35 = .ok (.iadd, 1) := by decide +kernel
theorem dX4_printOne_36 : decode cX4_printOne 36 = .ok (.invokestatic 156, 3) := by decide +kernel
theorem dX4_printOne_39 : decode cX4_printOne 39 = .ok (.iastore, 1) := by decide +kernel
theorem dX4_printOne_40 : decode cX4_printOne 40 = .ok (.aload_n 0, 1) := by decide +kernel
theorem dX4_printOne_41 : decode cX4_printOne 41 = .ok (.getfield 9, 3) := by decide +kernel
theorem dX4_printOne_44 : decode cX4_printOne 44 = .ok (.iload_n 3, 1) := by decide +kernel
theorem dX4_printOne_45 : decode cX4_printOne 45 = .ok (.aload_n 0, 1) := by decide +kernel
theorem dX4_printOne_46 : decode cX4_printOne 46 = .ok (.getfield 9, 3) := by decide +kernel
theorem dX4_printOne_49 : decode cX4_printOne 49 = .ok (.iload_n 3, 1) := by decide +kernel
theorem dX4_printOne_50 : decode cX4_printOne 50 = .ok (.iaload, 1) := by decide +kernel
theorem dX4_printOne_51 : decode cX4_printOne 51 = .ok (.iload 4, 2) := by decide +kernel
theorem dX4_printOne_53 : decode cX4_printOne 53 = .ok (.iadd, 1) := by decide +kernel
theorem dX4_printOne_54 : decode cX4_printOne 54 = .ok (.invokestatic 156, 3) := by decide +kernel
theorem dX4_printOne_57 : decode cX4_printOne 57 = .ok (.iastore, 1) := by decide +kernel
theorem dX4_printOne_58 : decode cX4_printOne 58 = .ok (.aload_n 0, 1) := by decide +kernel
theorem dX4_printOne_59 : decode cX4_printOne 59 = .ok (.getfield 33, 3) := by decide +kernel
theorem dX4_printOne_62 : decode cX4_printOne 62 = .ok (.iload_n 1, 1) := by decide +kernel
theorem dX4_printOne_63 : decode cX4_printOne 63 = .ok (.bipush 8, 2) := by decide +kernel
theorem dX4_printOne_65 : decode cX4_printOne 65 = .ok (.imul, 1) := by decide +kernel
theorem dX4_printOne_66 : decode cX4_printOne 66 = .ok (.iload_n 2, 1) := by decide +kernel
theorem dX4_printOne_67 : decode cX4_printOne 67 = .ok (.iadd, 1) := by decide +kernel
theorem dX4_printOne_68 : decode cX4_printOne 68 = .ok (.iconst 3, 1) := by decide +kernel
theorem dX4_printOne_69 : decode cX4_printOne 69 = .ok (.iastore, 1) := by decide +kernel
theorem dX4_printOne_70 : decode cX4_printOne 70 = .ok (.aload_n 0, 1) := by decide +kernel
theorem dX4_printOne_71 : decode cX4_printOne 71 = .ok (.dup, 1) := by decide +kernel
theorem dX4_printOne_72 : decode cX4_printOne 72 = .ok (.getfield 58, 3) := by decide +kernel
theorem dX4_printOne_75 : decode cX4_printOne 75 = .ok (.iconst 1, 1) := by decide +kernel
theorem dX4_printOne_76 : decode cX4_printOne 76 = .ok (.iadd, 1) := by decide +kernel
theorem dX4_printOne_77 : decode cX4_printOne 77 = .ok (.putfield 58, 3) := by decide +kernel
theorem dX4_printOne_80 : decode cX4_printOne 80 = .ok (.iload 4, 2) := by decide +kernel
theorem dX4_printOne_82 : decode cX4_printOne 82 = .ok (.ireturn, 1) := by decide +kernel
theorem dX4_passDay_0 : decode cX4_passDay 0 = .ok (.iconst 0, 1) := by decide +kernel
theorem dX4_passDay_1 : decode cX4_passDay 1 = .ok (.istore_n 1, 1) := by decide +kernel
theorem dX4_passDay_2 : decode cX4_passDay 2 = .ok (.iload_n 1, 1) := by decide +kernel
theorem dX4_passDay_3 : decode cX4_passDay 3 = .ok (.aload_n 0, 1) := by decide +kernel
theorem dX4_passDay_4 : decode cX4_passDay 4 = .ok (.getfield 42, 3) := by decide +kernel
theorem dX4_passDay_7 : decode cX4_passDay 7 = .ok (.if_icmp .ge 44, 3) := by decide +kernel
theorem dX4_passDay_10 : decode cX4_passDay 10 = .ok (.aload_n 0, 1) := by decide +kernel
theorem dX4_passDay_11 : decode cX4_passDay 11 = .ok (.getfield 15, 3) := by decide +kernel
theorem dX4_passDay_14 : decode cX4_passDay 14 = .ok (.iload_n 1, 1) := by decide +kernel
theorem dX4_passDay_15 : decode cX4_passDay 15 = .ok (.iconst 0, 1) := by decide +kernel
theorem dX4_passDay_16 : decode cX4_passDay 16 = .ok (.aload_n 0, 1) := by decide +kernel
theorem dX4_passDay_17 : decode cX4_passDay 17 = .ok (.getfield 15, 3) := by decide +kernel
theorem dX4_passDay_20 : decode cX4_passDay 20 = .ok (.iload_n 1, 1) := by decide +kernel
theorem dX4_passDay_21 : decode cX4_passDay 21 = .ok (.iaload, 1) := by decide +kernel
theorem dX4_passDay_22 : decode cX4_passDay 22 = .ok (.iconst 1, 1) := by decide +kernel
theorem dX4_passDay_23 : decode cX4_passDay 23 = .ok (.isub, 1) := by decide +kernel
theorem dX4_passDay_24 : decode cX4_passDay 24 = .ok (.invokestatic 142, 3) := by decide +kernel
theorem dX4_passDay_27 : decode cX4_passDay 27 = .ok (.iastore, 1) := by decide +kernel
theorem dX4_passDay_28 : decode cX4_passDay 28 = .ok (.aload_n 0, 1) := by decide +kernel
theorem dX4_passDay_29 : decode cX4_passDay 29 = .ok (.getfield 9, 3) := by decide +kernel
theorem dX4_passDay_32 : decode cX4_passDay 32 = .ok (.iload_n 1, 1) := by decide +kernel
theorem dX4_passDay_33 : decode cX4_passDay 33 = .ok (.aload_n 0, 1) := by decide +kernel
theorem dX4_passDay_34 : decode cX4_passDay 34 = .ok (.getfield 9, 3) := by decide +kernel
theorem dX4_passDay_37 : decode cX4_passDay 37 = .ok (.iload_n 1, 1) := by decide +kernel
theorem dX4_passDay_38 : decode cX4_passDay 38 = .ok (.iaload, 1) := by decide +kernel
theorem dX4_passDay_39 : decode cX4_passDay 39 = .ok (.iconst 1, 1) := by decide +kernel
theorem dX4_passDay_40 : decode cX4_passDay 40 = .ok (.iadd, 1) := by decide +kernel
theorem dX4_passDay_41 : decode cX4_passDay 41 = .ok (.invokestatic 156, 3) := by decide +kernel
theorem dX4_passDay_44 : decode cX4_passDay 44 = .ok (.iastore, 1) := by decide +kernel
theorem dX4_passDay_45 : decode cX4_passDay 45 = .ok (.iinc 1 1, 3) := by decide +kernel
theorem dX4_passDay_48 : decode cX4_passDay 48 = .ok (.goto (-46), 3) := by decide +kernel
theorem dX4_passDay_51 : decode cX4_passDay 51 = .ok (.aload_n 0, 1) := by decide +kernel
theorem dX4_passDay_52 : decode cX4_passDay 52 = .ok (.dup, 1) := by decide +kernel
theorem dX4_passDay_53 : decode cX4_passDay 53 = .ok (.getfield 52, 3) := by decide +kernel
theorem dX4_passDay_56 : decode cX4_passDay 56 = .ok (.iconst 1, 1) := by decide +kernel
theorem dX4_passDay_57 : decode cX4_passDay 57 = .ok (.iadd, 1) := by decide +kernel
theorem dX4_passDay_58 : decode cX4_passDay 58 = .ok (.putfield 52, 3) := by decide +kernel
theorem dX4_passDay_61 : decode cX4_passDay 61 = .ok (.aload_n 0, 1) := by decide +kernel
theorem dX4_passDay_62 : decode cX4_passDay 62 = .ok (.invokevirtual 159, 3) := by decide +kernel
theorem dX4_passDay_65 : decode cX4_passDay 65 = .ok (.ireturn, 1) := by decide +kernel
end
section
theorem dX5_init_0 : decode cX5_init 0 = .ok (.aload_n 0, 1) := by decide +kernel
theorem dX5_init_1 : decode cX5_init 1 = .ok (.invokespecial 3, 3) := by decide +kernel
theorem dX5_init_4 : decode cX5_init 4 = .ok (.aload_n 0, 1) := by decide +kernel
theorem dX5_init_5 : decode cX5_init 5 = .ok (.new 9, 3) := by decide +kernel
theorem dX5_init_8 : decode cX5_init 8 = .ok (.dup, 1) := by decide +kernel
theorem dX5_init_9 : decode cX5_init 9 = .ok (.invokespecial 11, 3) := by decide +kernel
theorem dX5_init_12 : decode cX5_init 12 = .ok (.putfield 12, 3) := by decide +kernel
theorem dX5_init_15 : decode cX5_init 15 = .ok (.aload_n 0, 1) := by decide +kernel
theorem dX5_init_16 : decode cX5_init 16 = .ok (.new 9, 3) := by decide +kernel
theorem dX5_init_19 : decode cX5_init 19 = .ok (.dup, 1) := by decide +kernel
theorem dX5_init_20 : decode cX5_init 20 = .ok (.invokespecial 11, 3) := by decide +kernel
theorem dX5_init_23 : decode cX5_init 23 = .ok (.putfield 16, 3) := by decide +kernel
theorem dX5_init_26 : decode cX5_init 26 = .ok (.aload_n 0, 1) := by decide +kernel
theorem dX5_init_27 : decode cX5_init 27 = .ok (.new 9, 3) := by decide +kernel
theorem dX5_init_30 : decode cX5_init 30 = .ok (.dup, 1) := by decide +kernel
theorem dX5_init_31 : decode cX5_init 31 = .ok (.invokespecial 11, 3) := by decide +kernel
theorem dX5_init_34 : decode cX5_init 34 = .ok (.putfield 19, 3) := by decide +kernel
theorem dX5_init_37 : decode cX5_init 37 = .ok (.aload_n 0, 1) := by decide +kernel
theorem dX5_init_38 : decode cX5_init 38 = .ok (.new 9, 3) := by decide +kernel
theorem dX5_init_41 : decode cX5_init 41 = .ok (.dup, 1) := by decide +kernel
theorem dX5_init_42 : decode cX5_init 42 = .ok (.invokespecial 11, 3) := by decide +kernel
theorem dX5_init_45 : decode cX5_init 45 = .ok (.putfield 22, 3) := by decide +kernel
theorem dX5_init_48 : decode cX5_init 48 = .ok (.aload_n 0, 1) := by decide +kernel
theorem dX5_init_49 : decode cX5_init 49 = .ok (.new 25, 3) := by decide +kernel
theorem dX5_init_52 : decode cX5_init 52 = .ok (.dup, 1) := by decide +kernel
theorem dX5_init_53 : decode cX5_init 53 = .ok (.invokespecial 27, 3) := by decide +kernel
theorem dX5_init_56 : decode cX5_init 56 = .ok (.putfield 28, 3) := by decide +kernel
theorem dX5_init_59 : decode cX5_init 59 = .ok (.aload_n 0, 1) := by decide +kernel
theorem dX5_init_60 : decode cX5_init 60 = .ok (.new 32, 3) := by decide +kernel
theorem dX5_init_63 : decode cX5_init 63 = .ok (.dup, 1) := by decide +kernel
theorem dX5_init_64 : decode cX5_init 64 = .ok (.invokespecial 34, 3) := by decide +kernel
theorem dX5_init_67 : decode cX5_init 67 = .ok (.putfield 35, 3) := by decide +kernel
theorem dX5_init_70 : decode cX5_init 70 = .ok (.aload_n 0, 1) := by decide +kernel
theorem dX5_init_71 : decode cX5_init 71 = .ok (.new 39, 3) := by decide +kernel
theorem dX5_init_74 : decode cX5_init 74 = .ok (.dup, 1) := by decide +kernel
theorem dX5_init_75 : decode cX5_init 75 = .ok (.invokespecial 41, 3) := by decide +kernel
theorem dX5_init_78 : decode cX5_init 78 = .ok (.putfield 42, 3) := by decide +kernel
theorem dX5_init_81 : decode cX5_init 81 = .ok (.aload_n 0, 1) := by decide +kernel
theorem dX5_init_82 : decode cX5_init 82 = .ok (.new 46, 3) := by decide +kernel
theorem dX5_init_85 : decode cX5_init 85 = .ok (.dup, 1) := by decide +kernel
theorem dX5_init_86 : decode cX5_init 86 = .ok (.invokespecial 48, 3) := by decide +kernel
theorem dX5_init_89 : decode cX5_init 89 = .ok (.putfield 49, 3) := by decide +kernel
theorem dX5_init_92 : decode cX5_init 92 = .ok (.aload_n 0, 1) := by decide +kernel
theorem dX5_init_93 : decode cX5_init 93 = .ok (.iconst (-1), 1) := by decide +kernel
theorem dX5_init_94 : decode cX5_init 94 = .ok (.putfield 53, 3) := by decide +kernel
theorem dX5_init_97 : decode cX5_init 97 = .ok (.return_, 1) := by decide +kernel
theorem dX5_house_0 : decode cX5_house 0 = .ok (.aload_n 0, 1) := by decide +kernel
theorem dX5_house_1 : decode cX5_house 1 = .ok (.getfield 16, 3) := by decide +kernel
theorem dX5_house_4 : decode cX5_house 4 = .ok (.aload_n 0, 1) := by decide +kernel
theorem dX5_house_5 : decode cX5_house 5 = .ok (.getfield 12, 3) := by decide +kernel
theorem dX5_house_8 : decode cX5_house 8 = .ok (.invokevirtual 57, 3) := by decide +kernel
theorem dX5_house_11 : decode cX5_house 11 = .ok (.aload_n 0, 1) := by decide +kernel
theorem dX5_house_12 : decode cX5_house 12 = .ok (.aload_n 0, 1) := by decide +kernel
theorem dX5_house_13 : decode cX5_house 13 = .ok (.iload_n 1, 1) := by decide +kernel
theorem dX5_house_14 : decode cX5_house 14 = .ok (.invokevirtual 61, 3) := by decide +kernel
theorem dX5_house_17 : decode cX5_house 17 = .ok (.invokevirtual 65, 3) := by decide +kernel
theorem dX5_house_20 : decode cX5_house 20 = .ok (.ireturn, 1) := by decide +kernel
theorem dX5_sheet_0 : decode cX5_sheet 0 = .ok (.aload_n 0, 1) := by decide +kernel
theorem dX5_sheet_1 : decode cX5_sheet 1 = .ok (.getfield 16, 3) := by decide +kernel
theorem dX5_sheet_4 : decode cX5_sheet 4 = .ok (.aload_n 0, 1) := by decide +kernel
theorem dX5_sheet_5 : decode cX5_sheet 5 = .ok (.getfield 12, 3) := by decide +kernel
theorem dX5_sheet_8 : decode cX5_sheet 8 = .ok (.invokevirtual 57, 3) := by decide +kernel
theorem dX5_sheet_11 : decode cX5_sheet 11 = .ok (.aload_n 0, 1) := by decide +kernel
theorem dX5_sheet_12 : decode cX5_sheet 12 = .ok (.aload_n 0, 1) := by decide +kernel
theorem dX5_sheet_13 : decode cX5_sheet 13 = .ok (.iload_n 1, 1) := by decide +kernel
theorem dX5_sheet_14 : decode cX5_sheet 14 = .ok (.iload_n 2, 1) := by decide +kernel
theorem dX5_sheet_15 : decode cX5_sheet 15 = .ok (.invokevirtual 68, 3) := by decide +kernel
theorem dX5_sheet_18 : decode cX5_sheet 18 = .ok (.invokevirtual 65, 3) := by decide +kernel
theorem dX5_sheet_21 : decode cX5_sheet 21 = .ok (.ireturn, 1) := by decide +kernel
theorem dX5_take_0 : decode cX5_take 0 = .ok (.aload_n 0, 1) := by decide +kernel
theorem dX5_take_1 : decode cX5_take 1 = .ok (.getfield 16, 3) := by decide +kernel
theorem dX5_take_4 : decode cX5_take 4 = .ok (.aload_n 0, 1) := by decide +kernel
theorem dX5_take_5 : decode cX5_take 5 = .ok (.getfield 12, 3) := by decide +kernel
theorem dX5_take_8 : decode cX5_take 8 = .ok (.invokevirtual 57, 3) := by decide +kernel
theorem dX5_take_11 : decode cX5_take 11 = .ok (.aload_n 0, 1) := by decide +kernel
theorem dX5_take_12 : decode cX5_take 12 = .ok (.aload_n 0, 1) := by decide +kernel
theorem dX5_take_13 : decode cX5_take 13 = .ok (.iload_n 1, 1) := by decide +kernel
theorem dX5_take_14 : decode cX5_take 14 = .ok (.invokevirtual 72, 3) := by decide +kernel
theorem dX5_take_17 : decode cX5_take 17 = .ok (.invokevirtual 65, 3) := by decide +kernel
theorem dX5_take_20 : decode cX5_take 20 = .ok (.ireturn, 1) := by decide +kernel
theorem dX5_set_0 : decode cX5_set 0 = .ok (.aload_n 0, 1) := by decide +kernel
theorem dX5_set_1 : decode cX5_set 1 = .ok (.getfield 16, 3) := by decide +kernel
theorem dX5_set_4 : decode cX5_set 4 = .ok (.aload_n 0, 1) := by decide +kernel
theorem dX5_set_5 : decode cX5_set 5 = .ok (.getfield 12, 3) := by decide +kernel
theorem dX5_set_8 : decode cX5_set 8 = .ok (.invokevirtual 57, 3) := by decide +kernel
theorem dX5_set_11 : decode cX5_set 11 = .ok (.aload_n 0, 1) := by decide +kernel
theorem dX5_set_12 : decode cX5_set 12 = .ok (.aload_n 0, 1) := by decide +kernel
theorem dX5_set_13 : decode cX5_set 13 = .ok (.iload_n 1, 1) := by decide +kernel
theorem dX5_set_14 : decode cX5_set 14 = .ok (.iload_n 2, 1) := by decide +kernel
theorem dX5_set_15 : decode cX5_set 15 = .ok (.iload_n 3, 1) := by decide +kernel
theorem dX5_set_16 : decode cX5_set 16 = .ok (.invokevirtual 75, 3) := by decide +kernel
theorem dX5_set_19 : decode cX5_set 19 = .ok (.invokevirtual 65, 3) := by decide +kernel
theorem dX5_set_22 : decode cX5_set 22 = .ok (.ireturn, 1) := by decide +kernel
theorem dX5_license_0 : decode cX5_license 0 = .ok (.aload_n 0, 1) := by decide +kernel
theorem dX5_license_1 : decode cX5_license 1 = .ok (.getfield 16, 3) := by decide +kernel
theorem dX5_license_4 : decode cX5_license 4 = .ok (.aload_n 0, 1) := by decide +kernel
theorem dX5_license_5 : decode cX5_license 5 = .ok (.getfield 12, 3) := by decide +kernel
theorem dX5_license_8 : decode cX5_license 8 = .ok (.invokevirtual 57, 3) := by decide +kernel
theorem dX5_license_11 : decode cX5_license 11 = .ok (.aload_n 0, 1) := by decide +kernel
theorem dX5_license_12 : decode cX5_license 12 = .ok (.aload_n 0, 1) := by decide +kernel
theorem dX5_license_13 : decode cX5_license 13 = .ok (.iload_n 1, 1) := by decide +kernel
theorem dX5_license_14 : decode cX5_license 14 = .ok (.iload_n 2, 1) := by decide +kernel
theorem dX5_license_15 : decode cX5_license 15 = .ok (.invokevirtual 79, 3) := by decide +kernel
theorem dX5_license_18 : decode cX5_license 18 = .ok (.invokevirtual 65, 3) := by decide +kernel
theorem dX5_license_21 : decode cX5_license 21 = .ok (.ireturn, 1) := by decide +kernel
theorem dX5_correct_0 : decode cX5_correct 0 = .ok (.aload_n 0, 1) := by decide +kernel
theorem dX5_correct_1 : decode cX5_correct 1 = .ok (.getfield 16, 3) := by decide +kernel
theorem dX5_correct_4 : decode cX5_correct 4 = .ok (.aload_n 0, 1) := by decide +kernel
theorem dX5_correct_5 : decode cX5_correct 5 = .ok (.getfield 12, 3) := by decide +kernel
theorem dX5_correct_8 : decode cX5_correct 8 = .ok (.invokevirtual 57, 3) := by decide +kernel
theorem dX5_correct_11 : decode cX5_correct 11 = .ok (.aload_n 0, 1) := by decide +kernel
theorem dX5_correct_12 : decode cX5_correct 12 = .ok (.aload_n 0, 1) := by decide +kernel
theorem dX5_correct_13 : decode cX5_correct 13 = .ok (.iload_n 1, 1) := by decide +kernel
theorem dX5_correct_14 : decode cX5_correct 14 = .ok (.iload_n 2, 1) := by decide +kernel
theorem dX5_correct_15 : decode cX5_correct 15 = .ok (.invokevirtual 82, 3) := by decide +kernel
theorem dX5_correct_18 : decode cX5_correct 18 = .ok (.invokevirtual 65, 3) := by decide +kernel
theorem dX5_correct_21 : decode cX5_correct 21 = .ok (.ireturn, 1) := by decide +kernel
theorem dX5_reader_0 : decode cX5_reader 0 = .ok (.aload_n 0, 1) := by decide +kernel
theorem dX5_reader_1 : decode cX5_reader 1 = .ok (.getfield 16, 3) := by decide +kernel
theorem dX5_reader_4 : decode cX5_reader 4 = .ok (.aload_n 0, 1) := by decide +kernel
theorem dX5_reader_5 : decode cX5_reader 5 = .ok (.getfield 12, 3) := by decide +kernel
theorem dX5_reader_8 : decode cX5_reader 8 = .ok (.invokevirtual 57, 3) := by decide +kernel
theorem dX5_reader_11 : decode cX5_reader 11 = .ok (.aload_n 0, 1) := by decide +kernel
theorem dX5_reader_12 : decode cX5_reader 12 = .ok (.aload_n 0, 1) := by decide +kernel
theorem dX5_reader_13 : decode cX5_reader 13 = .ok (.iload_n 1, 1) := by decide +kernel
theorem dX5_reader_14 : decode cX5_reader 14 = .ok (.iload_n 2, 1) := by decide +kernel
theorem dX5_reader_15 : decode cX5_reader 15 = .ok (.invokevirtual 85, 3) := by decide +kernel
theorem dX5_reader_18 : decode cX5_reader 18 = .ok (.invokevirtual 65, 3) := by decide +kernel
theorem dX5_reader_21 : decode cX5_reader 21 = .ok (.ireturn, 1) := by decide +kernel
theorem dX5_edition_0 : decode cX5_edition 0 = .ok (.aload_n 0, 1) := by decide +kernel
theorem dX5_edition_1 : decode cX5_edition 1 = .ok (.getfield 16, 3) := by decide +kernel
theorem dX5_edition_4 : decode cX5_edition 4 = .ok (.aload_n 0, 1) := by decide +kernel
theorem dX5_edition_5 : decode cX5_edition 5 = .ok (.getfield 12, 3) := by decide +kernel
theorem dX5_edition_8 : decode cX5_edition 8 = .ok (.invokevirtual 57, 3) := by decide +kernel
theorem dX5_edition_11 : decode cX5_edition 11 = .ok (.aload_n 0, 1) := by decide +kernel
theorem dX5_edition_12 : decode cX5_edition 12 = .ok (.aload_n 0, 1) := by decide +kernel
theorem dX5_edition_13 : decode cX5_edition 13 = .ok (.invokevirtual 88, 3) := by decide +kernel
theorem dX5_edition_16 : decode cX5_edition 16 = .ok (.invokevirtual 65, 3) := by decide +kernel
theorem dX5_edition_19 : decode cX5_edition 19 = .ok (.ireturn, 1) := by decide +kernel
theorem dX5_day_0 : decode cX5_day 0 = .ok (.aload_n 0, 1) := by decide +kernel
theorem dX5_day_1 : decode cX5_day 1 = .ok (.getfield 16, 3) := by decide +kernel
theorem dX5_day_4 : decode cX5_day 4 = .ok (.aload_n 0, 1) := by decide +kernel
theorem dX5_day_5 : decode cX5_day 5 = .ok (.getfield 12, 3) := by decide +kernel
theorem dX5_day_8 : decode cX5_day 8 = .ok (.invokevirtual 57, 3) := by decide +kernel
theorem dX5_day_11 : decode cX5_day 11 = .ok (.aload_n 0, 1) := by decide +kernel
theorem dX5_day_12 : decode cX5_day 12 = .ok (.aload_n 0, 1) := by decide +kernel
theorem dX5_day_13 : decode cX5_day 13 = .ok (.getfield 12, 3) := by decide +kernel
theorem dX5_day_16 : decode cX5_day 16 = .ok (.invokevirtual 92, 3) := by decide +kernel
theorem dX5_day_19 : decode cX5_day 19 = .ok (.invokevirtual 65, 3) := by decide +kernel
theorem dX5_day_22 : decode cX5_day 22 = .ok (.ireturn, 1) := by decide +kernel
theorem dX5_houseOf_0 : decode cX5_houseOf 0 = .ok (.aload_n 0, 1) := by decide +kernel
theorem dX5_houseOf_1 : decode cX5_houseOf 1 = .ok (.getfield 12, 3) := by decide +kernel
theorem dX5_houseOf_4 : decode cX5_houseOf 4 = .ok (.iload_n 1, 1) := by decide +kernel
theorem dX5_houseOf_5 : decode cX5_houseOf 5 = .ok (.invokevirtual 95, 3) := by decide +kernel
theorem dX5_houseOf_8 : decode cX5_houseOf 8 = .ok (.ifCond .ne 13, 3) := by decide +kernel
theorem dX5_houseOf_11 : decode cX5_houseOf 11 = .ok (.new 99, 3) := by decide +kernel
theorem dX5_houseOf_14 : decode cX5_houseOf 14 = .ok (.dup, 1) := by decide +kernel
theorem dX5_houseOf_15 : decode cX5_houseOf 15 = .ok (.ldc 101, 2) := by decide +kernel
theorem dX5_houseOf_17 : decode cX5_houseOf 17 = .ok (.invokespecial 103, 3) := by decide +kernel
theorem dX5_houseOf_20 : decode cX5_houseOf 20 = .ok (.athrow, 1) := by decide +kernel
theorem dX5_houseOf_21 : decode cX5_houseOf 21 = .ok (.iload_n 2, 1) := by decide +kernel
theorem dX5_houseOf_22 : decode cX5_houseOf 22 = .ok (.ifCond .lt 9, 3) := by decide +kernel
theorem dX5_houseOf_25 : decode cX5_houseOf 25 = .ok (.iload_n 2, 1) := by decide +kernel
theorem dX5_houseOf_26 : decode cX5_houseOf 26 = .ok (.bipush 6, 2) := by decide +kernel
theorem dX5_houseOf_28 : decode cX5_houseOf 28 = .ok (.if_icmp .le 13, 3) := by decide +kernel
theorem dX5_houseOf_31 : decode cX5_houseOf 31 = .ok (.new 106, 3) := by decide +kernel
theorem dX5_houseOf_34 : decode cX5_houseOf 34 = .ok (.dup, 1) := by decide +kernel
theorem dX5_houseOf_35 : decode cX5_houseOf 35 = .ok (.ldc 108, 2) := by decide +kernel
theorem dX5_houseOf_37 : decode cX5_houseOf 37 = .ok (.invokespecial 110, 3) := by decide +kernel
theorem dX5_houseOf_40 : decode cX5_houseOf 40 = .ok (.athrow, 1) := by decide +kernel
theorem dX5_houseOf_41 : decode cX5_houseOf 41 = .ok (.aload_n 0, 1) := by decide +kernel
theorem dX5_houseOf_42 : decode cX5_houseOf 42 = .ok (.getfield 12, 3) := by decide +kernel
theorem dX5_houseOf_45 : decode cX5_houseOf 45 = .ok (.iload_n 1, 1) := by decide +kernel
theorem dX5_houseOf_46 : decode cX5_houseOf 46 = .ok (.iload_n 2, 1) := by decide +kernel
theorem dX5_houseOf_47 : decode cX5_houseOf 47 = .ok (.invokevirtual 111, 3) := by decide +kernel
theorem dX5_houseOf_50 : decode cX5_houseOf 50 = .ok (.ireturn, 1) := by decide +kernel
theorem dX5_sheetOf_0 : decode cX5_sheetOf 0 = .ok (.aload_n 0, 1) := by decide +kernel
theorem dX5_sheetOf_1 : decode cX5_sheetOf 1 = .ok (.getfield 12, 3) := by decide +kernel
theorem dX5_sheetOf_4 : decode cX5_sheetOf 4 = .ok (.iload_n 1, 1) := by decide +kernel
theorem dX5_sheetOf_5 : decode cX5_sheetOf 5 = .ok (.invokevirtual 114, 3) := by decide +kernel
theorem dX5_sheetOf_8 : decode cX5_sheetOf 8 = .ok (.ifCond .ne 13, 3) := by decide +kernel
theorem dX5_sheetOf_11 : decode cX5_sheetOf 11 = .ok (.new 99, 3) := by decide +kernel
theorem dX5_sheetOf_14 : decode cX5_sheetOf 14 = .ok (.dup, 1) := by decide +kernel
theorem dX5_sheetOf_15 : decode cX5_sheetOf 15 = .ok (.ldc 117, 2) := by decide +kernel
theorem dX5_sheetOf_17 : decode cX5_sheetOf 17 = .ok (.invokespecial 103, 3) := by decide +kernel
theorem dX5_sheetOf_20 : decode cX5_sheetOf 20 = .ok (.athrow, 1) := by decide +kernel
theorem dX5_sheetOf_21 : decode cX5_sheetOf 21 = .ok (.iload_n 2, 1) := by decide +kernel
theorem dX5_sheetOf_22 : decode cX5_sheetOf 22 = .ok (.ifCond .lt 8, 3) := by decide +kernel
theorem dX5_sheetOf_25 : decode cX5_sheetOf 25 = .ok (.iload_n 2, 1) := by decide +kernel
theorem dX5_sheetOf_26 : decode cX5_sheetOf 26 = .ok (.iconst 5, 1) := by decide +kernel
theorem dX5_sheetOf_27 : decode cX5_sheetOf 27 = .ok (.if_icmp .le 13, 3) := by decide +kernel
theorem dX5_sheetOf_30 : decode cX5_sheetOf 30 = .ok (.new 106, 3) := by decide +kernel
theorem dX5_sheetOf_33 : decode cX5_sheetOf 33 = .ok (.dup, 1) := by decide +kernel
theorem dX5_sheetOf_34 : decode cX5_sheetOf 34 = .ok (.ldc 119, 2) := by decide +kernel
theorem dX5_sheetOf_36 : decode cX5_sheetOf 36 = .ok (.invokespecial 110, 3) := by decide +kernel
theorem dX5_sheetOf_39 : decode cX5_sheetOf 39 = .ok (.athrow, 1) := by decide +kernel
theorem dX5_sheetOf_40 : decode cX5_sheetOf 40 = .ok (.aload_n 0, 1) := by decide +kernel
theorem dX5_sheetOf_41 : decode cX5_sheetOf 41 = .ok (.getfield 12, 3) := by decide +kernel
theorem dX5_sheetOf_44 : decode cX5_sheetOf 44 = .ok (.iload_n 1, 1) := by decide +kernel
theorem dX5_sheetOf_45 : decode cX5_sheetOf 45 = .ok (.iload_n 2, 1) := by decide +kernel
theorem dX5_sheetOf_46 : decode cX5_sheetOf 46 = .ok (.invokevirtual 121, 3) := by decide +kernel
theorem dX5_sheetOf_49 : decode cX5_sheetOf 49 = .ok (.ireturn, 1) := by decide +kernel
theorem dX5_letterAt_0 : decode cX5_letterAt 0 = .ok (.aload_n 0, 1) := by decide +kernel
theorem dX5_letterAt_1 : decode cX5_letterAt 1 = .ok (.getfield 12, 3) := by decide +kernel
theorem dX5_letterAt_4 : decode cX5_letterAt 4 = .ok (.iload_n 1, 1) := by decide +kernel
theorem dX5_letterAt_5 : decode cX5_letterAt 5 = .ok (.iload_n 2, 1) := by decide +kernel
theorem dX5_letterAt_6 : decode cX5_letterAt 6 = .ok (.invokevirtual 124, 3) := by decide +kernel
theorem dX5_letterAt_9 : decode cX5_letterAt 9 = .ok (.ifCond .ne 13, 3) := by decide +kernel
theorem dX5_letterAt_12 : decode cX5_letterAt 12 = .ok (.new 99, 3) := by decide +kernel
theorem dX5_letterAt_15 : decode cX5_letterAt 15 = .ok (.dup, 1) := by decide +kernel
theorem dX5_letterAt_16 : decode cX5_letterAt 16 = .ok (.ldc 128, 2) := by decide +kernel
theorem dX5_letterAt_18 : decode cX5_letterAt 18 = .ok (.invokespecial 103, 3) := by decide +kernel
theorem dX5_letterAt_21 : decode cX5_letterAt 21 = .ok (.athrow, 1) := by decide +kernel
theorem dX5_letterAt_22 : decode cX5_letterAt 22 = .ok (.iload_n 3, 1) := by decide +kernel
theorem dX5_letterAt_23 : decode cX5_letterAt 23 = .ok (.ifCond .eq 15, 3) := by decide +kernel
theorem dX5_letterAt_26 : decode cX5_letterAt 26 = .ok (.aload_n 0, 1) := by decide +kernel
theorem dX5_letterAt_27 : decode cX5_letterAt 27 = .ok (.getfield 12, 3) := by decide +kernel
theorem dX5_letterAt_30 : decode cX5_letterAt 30 = .ok (.iload_n 1, 1) := by decide +kernel
theorem dX5_letterAt_31 : decode cX5_letterAt 31 = .ok (.iload_n 2, 1) := by decide +kernel
theorem dX5_letterAt_32 : decode cX5_letterAt 32 = .ok (.invokevirtual 130, 3) := by decide +kernel
theorem dX5_letterAt_35 : decode cX5_letterAt 35 = .ok (.goto 12, 3) := by decide +kernel
theorem dX5_letterAt_38 : decode cX5_letterAt 38 = .ok (.aload_n 0, 1) := by decide +kernel
theorem dX5_letterAt_39 : decode cX5_letterAt 39 = .ok (.getfield 12, 3) := by decide +kernel
theorem dX5_letterAt_42 : decode cX5_letterAt 42 = .ok (.iload_n 1, 1) := by decide +kernel
theorem dX5_letterAt_43 : decode cX5_letterAt 43 = .ok (.iload_n 2, 1) := by decide +kernel
theorem dX5_letterAt_44 : decode cX5_letterAt 44 = .ok (.invokevirtual 133, 3) := by decide +kernel
theorem dX5_letterAt_47 : decode cX5_letterAt 47 = .ok (.invokestatic 136, 3) := by decide +kernel
theorem dX5_letterAt_50 : decode cX5_letterAt 50 = .ok (.ireturn, 1) := by decide +kernel
theorem dX5_markAt_0 : decode cX5_markAt 0 = .ok (.aload_n 0, 1) := by decide +kernel
theorem dX5_markAt_1 : decode cX5_markAt 1 = .ok (.getfield 12, 3) := by decide +kernel
theorem dX5_markAt_4 : decode cX5_markAt 4 = .ok (.iload_n 1, 1) := by decide +kernel
theorem dX5_markAt_5 : decode cX5_markAt 5 = .ok (.iload_n 2, 1) := by decide +kernel
theorem dX5_markAt_6 : decode cX5_markAt 6 = .ok (.invokevirtual 124, 3) := by decide +kernel
theorem dX5_markAt_9 : decode cX5_markAt 9 = .ok (.ifCond .ne 13, 3) := by decide +kernel
theorem dX5_markAt_12 : decode cX5_markAt 12 = .ok (.new 99, 3) := by decide +kernel
theorem dX5_markAt_15 : decode cX5_markAt 15 = .ok (.dup, 1) := by decide +kernel
theorem dX5_markAt_16 : decode cX5_markAt 16 = .ok (.ldc 128, 2) := by decide +kernel
theorem dX5_markAt_18 : decode cX5_markAt 18 = .ok (.invokespecial 103, 3) := by decide +kernel
theorem dX5_markAt_21 : decode cX5_markAt 21 = .ok (.athrow, 1) := by decide +kernel
theorem dX5_markAt_22 : decode cX5_markAt 22 = .ok (.aload_n 0, 1) := by decide +kernel
theorem dX5_markAt_23 : decode cX5_markAt 23 = .ok (.getfield 12, 3) := by decide +kernel
theorem dX5_markAt_26 : decode cX5_markAt 26 = .ok (.iload_n 1, 1) := by decide +kernel
theorem dX5_markAt_27 : decode cX5_markAt 27 = .ok (.iload_n 2, 1) := by decide +kernel
theorem dX5_markAt_28 : decode cX5_markAt 28 = .ok (.invokevirtual 140, 3) := by decide +kernel
theorem dX5_markAt_31 : decode cX5_markAt 31 = .ok (.ireturn, 1) := by decide +kernel
theorem dX5_fine_0 : decode cX5_fine 0 = .ok (.aload_n 0, 1) := by decide +kernel
theorem dX5_fine_1 : decode cX5_fine 1 = .ok (.getfield 12, 3) := by decide +kernel
theorem dX5_fine_4 : decode cX5_fine 4 = .ok (.iload_n 1, 1) := by decide +kernel
theorem dX5_fine_5 : decode cX5_fine 5 = .ok (.iload_n 2, 1) := by decide +kernel
theorem dX5_fine_6 : decode cX5_fine 6 = .ok (.invokevirtual 124, 3) := by decide +kernel
theorem dX5_fine_9 : decode cX5_fine 9 = .ok (.ifCond .ne 13, 3) := by decide +kernel
theorem dX5_fine_12 : decode cX5_fine 12 = .ok (.new 99, 3) := by decide +kernel
theorem dX5_fine_15 : decode cX5_fine 15 = .ok (.dup, 1) := by decide +kernel
theorem dX5_fine_16 : decode cX5_fine 16 = .ok (.ldc 128, 2) := by decide +kernel
theorem dX5_fine_18 : decode cX5_fine 18 = .ok (.invokespecial 103, 3) := by decide +kernel
theorem dX5_fine_21 : decode cX5_fine 21 = .ok (.athrow, 1) := by decide +kernel
theorem dX5_fine_22 : decode cX5_fine 22 = .ok (.iload_n 3, 1) := by decide +kernel
theorem dX5_fine_23 : decode cX5_fine 23 = .ok (.ifCond .eq 15, 3) := by decide +kernel
theorem dX5_fine_26 : decode cX5_fine 26 = .ok (.aload_n 0, 1) := by decide +kernel
theorem dX5_fine_27 : decode cX5_fine 27 = .ok (.getfield 12, 3) := by decide +kernel
theorem dX5_fine_30 : decode cX5_fine 30 = .ok (.iload_n 1, 1) := by decide +kernel
theorem dX5_fine_31 : decode cX5_fine 31 = .ok (.iload_n 2, 1) := by decide +kernel
theorem dX5_fine_32 : decode cX5_fine 32 = .ok (.invokevirtual 143, 3) := by decide +kernel
theorem dX5_fine_35 : decode cX5_fine 35 = .ok (.goto 12, 3) := by decide +kernel
theorem dX5_fine_38 : decode cX5_fine 38 = .ok (.aload_n 0, 1) := by decide +kernel
theorem dX5_fine_39 : decode cX5_fine 39 = .ok (.getfield 12, 3) := by decide +kernel
theorem dX5_fine_42 : decode cX5_fine 42 = .ok (.iload_n 1, 1) := by decide +kernel
theorem dX5_fine_43 : decode cX5_fine 43 = .ok (.iload_n 2, 1) := by decide +kernel
theorem dX5_fine_44 : decode cX5_fine 44 = .ok (.invokevirtual 146, 3) := by decide +kernel
theorem dX5_fine_47 : decode cX5_fine 47 = .ok (.ireturn, 1) := by decide +kernel
theorem dX5_fines_0 : decode cX5_fines 0 = .ok (.aload_n 0, 1) := by decide +kernel
theorem dX5_fines_1 : decode cX5_fines 1 = .ok (.getfield 12, 3) := by decide +kernel
theorem dX5_fines_4 : decode cX5_fines 4 = .ok (.iload_n 1, 1) := by decide +kernel
theorem dX5_fines_5 : decode cX5_fines 5 = .ok (.invokevirtual 114, 3) := by decide +kernel
theorem dX5_fines_8 : decode cX5_fines 8 = .ok (.ifCond .ne 13, 3) := by decide +kernel
theorem dX5_fines_11 : decode cX5_fines 11 = .ok (.new 99, 3) := by decide +kernel
theorem dX5_fines_14 : decode cX5_fines 14 = .ok (.dup, 1) := by decide +kernel
theorem dX5_fines_15 : decode cX5_fines 15 = .ok (.ldc 117, 2) := by decide +kernel
theorem dX5_fines_17 : decode cX5_fines 17 = .ok (.invokespecial 103, 3) := by decide +kernel
theorem dX5_fines_20 : decode cX5_fines 20 = .ok (.athrow, 1) := by decide +kernel
theorem dX5_fines_21 : decode cX5_fines 21 = .ok (.iload_n 2, 1) := by decide +kernel
theorem dX5_fines_22 : decode cX5_fines 22 = .ok (.ifCond .eq 11, 3) := by decide +kernel
theorem dX5_fines_25 : decode cX5_fines 25 = .ok (.aload_n 0, 1) := by decide +kernel
theorem dX5_fines_26 : decode cX5_fines 26 = .ok (.iload_n 1, 1) := by decide +kernel
theorem dX5_fines_27 : decode cX5_fines 27 = .ok (.invokevirtual 149, 3) := by decide +kernel
theorem dX5_fines_30 : decode cX5_fines 30 = .ok (.goto 11, 3) := by decide +kernel
theorem dX5_fines_33 : decode cX5_fines 33 = .ok (.aload_n 0, 1) := by decide +kernel
theorem dX5_fines_34 : decode cX5_fines 34 = .ok (.getfield 12, 3) := by decide +kernel
theorem dX5_fines_37 : decode cX5_fines 37 = .ok (.iload_n 1, 1) := by decide +kernel
theorem dX5_fines_38 : decode cX5_fines 38 = .ok (.invokevirtual 152, 3) := by decide +kernel
theorem dX5_fines_41 : decode cX5_fines 41 = .ok (.ireturn, 1) := by decide +kernel
theorem dX5_canMend_0 : decode cX5_canMend 0 = .ok (.aload_n 0, 1) := by decide +kernel
theorem dX5_canMend_1 : decode cX5_canMend 1 = .ok (.getfield 12, 3) := by decide +kernel
theorem dX5_canMend_4 : decode cX5_canMend 4 = .ok (.iload_n 1, 1) := by decide +kernel
theorem dX5_canMend_5 : decode cX5_canMend 5 = .ok (.invokevirtual 114, 3) := by decide +kernel
theorem dX5_canMend_8 : decode cX5_canMend 8 = .ok (.ifCond .ne 13, 3) := by decide +kernel
theorem dX5_canMend_11 : decode cX5_canMend 11 = .ok (.new 99, 3) := by decide +kernel
theorem dX5_canMend_14 : decode cX5_canMend 14 = .ok (.dup, 1) := by decide +kernel
theorem dX5_canMend_15 : decode cX5_canMend 15 = .ok (.ldc 117, 2) := by decide +kernel
theorem dX5_canMend_17 : decode cX5_canMend 17 = .ok (.invokespecial 103, 3) := by decide +kernel
theorem dX5_canMend_20 : decode cX5_canMend 20 = .ok (.athrow, 1) := by decide +kernel
theorem dX5_canMend_21 : decode cX5_canMend 21 = .ok (.aload_n 0, 1) := by decide +kernel
theorem dX5_canMend_22 : decode cX5_canMend 22 = .ok (.getfield 12, 3) := by decide +kernel
theorem dX5_canMend_25 : decode cX5_canMend 25 = .ok (.iload_n 1, 1) := by decide +kernel
theorem dX5_canMend_26 : decode cX5_canMend 26 = .ok (.invokevirtual 152, 3) := by decide +kernel
theorem dX5_canMend_29 : decode cX5_canMend 29 = .ok (.aload_n 0, 1) := by decide +kernel
theorem dX5_canMend_30 : decode cX5_canMend 30 = .ok (.getfield 12, 3) := by decide +kernel
theorem dX5_canMend_33 : decode cX5_canMend 33 = .ok (.getfield 155, 3) := by decide +kernel
theorem dX5_canMend_36 : decode cX5_canMend 36 = .ok (.aload_n 0, 1) := by decide +kernel
theorem dX5_canMend_37 : decode cX5_canMend 37 = .ok (.getfield 12, 3) := by decide +kernel
theorem dX5_canMend_40 : decode cX5_canMend 40 = .ok (.getfield 159, 3) := by decide +kernel
theorem dX5_canMend_43 : decode cX5_canMend 43 = .ok (.iload_n 1, 1) := by decide +kernel
theorem dX5_canMend_44 : decode cX5_canMend 44 = .ok (.iaload, 1) := by decide +kernel
theorem dX5_canMend_45 : decode cX5_canMend 45 = .ok (.iaload, 1) := by decide +kernel
theorem dX5_canMend_46 : decode cX5_canMend 46 = .ok (.if_icmp .gt 7, 3) := by decide +kernel
theorem dX5_canMend_49 : decode cX5_canMend 49 = .ok (.iconst 1, 1) := by decide +kernel
theorem dX5_canMend_50 : decode cX5_canMend 50 = .ok (.goto 4, 3) := by decide +kernel
theorem dX5_canMend_53 : decode cX5_canMend 53 = .ok (.iconst 0, 1) := by decide +kernel
theorem dX5_canMend_54 : decode cX5_canMend 54 = .ok (.ireturn, 1) := by decide +kernel
theorem dX5_laughing_0 : decode cX5_laughing 0 = .ok (.aload_n 0, 1) := by decide +kernel
theorem dX5_laughing_1 : decode cX5_laughing 1 = .ok (.getfield 12, 3) := by decide +kernel
theorem dX5_laughing_4 : decode cX5_laughing 4 = .ok (.iload_n 1, 1) := by decide +kernel
theorem dX5_laughing_5 : decode cX5_laughing 5 = .ok (.iload_n 2, 1) := by decide +kernel
theorem dX5_laughing_6 : decode cX5_laughing 6 = .ok (.invokevirtual 124, 3) := by decide +kernel
theorem dX5_laughing_9 : decode cX5_laughing 9 = .ok (.ifCond .ne 13, 3) := by decide +kernel
theorem dX5_laughing_12 : decode cX5_laughing 12 = .ok (.new 99, 3) := by decide +kernel
theorem dX5_laughing_15 : decode cX5_laughing 15 = .ok (.dup, 1) := by decide +kernel
theorem dX5_laughing_16 : decode cX5_laughing 16 = .ok (.ldc 128, 2) := by decide +kernel
theorem dX5_laughing_18 : decode cX5_laughing 18 = .ok (.invokespecial 103, 3) := by decide +kernel
theorem dX5_laughing_21 : decode cX5_laughing 21 = .ok (.athrow, 1) := by decide +kernel
theorem dX5_laughing_22 : decode cX5_laughing 22 = .ok (.aload_n 0, 1) := by decide +kernel
theorem dX5_laughing_23 : decode cX5_laughing 23 = .ok (.getfield 12, 3) := by decide +kernel
theorem dX5_laughing_26 : decode cX5_laughing 26 = .ok (.iload_n 1, 1) := by decide +kernel
theorem dX5_laughing_27 : decode cX5_laughing 27 = .ok (.iload_n 2, 1) := by decide +kernel
theorem dX5_laughing_28 : decode cX5_laughing 28 = .ok (.invokevirtual 162, 3) := by decide +kernel
theorem dX5_laughing_31 : decode cX5_laughing 31 = .ok (.ireturn, 1) := by decide +kernel
theorem dX5_bargain_0 : decode cX5_bargain 0 = .ok (.aload_n 0, 1) := by decide +kernel
theorem dX5_bargain_1 : decode cX5_bargain 1 = .ok (.invokevirtual 165, 3) := by decide +kernel
theorem dX5_bargain_4 : decode cX5_bargain 4 = .ok (.istore_n 2, 1) := by decide +kernel
theorem dX5_bargain_5 : decode cX5_bargain 5 = .ok (.iload_n 2, 1) := by decide +kernel
theorem dX5_bargain_6 : decode cX5_bargain 6 = .ok (.iconst (-1), 1) := by decide +kernel
theorem dX5_bargain_7 : decode cX5_bargain 7 = .ok (.if_icmp .ne 13, 3) := by decide +kernel
theorem dX5_bargain_10 : decode cX5_bargain 10 = .ok (.new 168, 3) := by decide +kernel
theorem dX5_bargain_13 : decode cX5_bargain 13 = .ok (.dup, 1) := by decide +kernel
theorem dX5_bargain_14 : decode cX5_bargain 14 = .ok (.ldc 170, 2) := by decide +kernel
theorem dX5_bargain_16 : decode cX5_bargain 16 = .ok (.invokespecial 172, 3) := by decide +kernel
theorem dX5_bargain_19 : decode cX5_bargain 19 = .ok (.athrow, 1) := by decide +kernel
theorem dX5_bargain_20 : decode cX5_bargain 20 = .ok (.iload_n 1, 1) := by decide +kernel
theorem dX5_bargain_21 : decode cX5_bargain 21 = .ok (.ifCond .eq 10, 3) := by decide +kernel
theorem dX5_bargain_24 : decode cX5_bargain 24 = .ok (.iload_n 2, 1) := by decide +kernel
theorem dX5_bargain_25 : decode cX5_bargain 25 = .ok (.bipush 8, 2) := by decide +kernel
theorem dX5_bargain_27 : decode cX5_bargain 27 = .ok (.irem, 1) := by decide +kernel
theorem dX5_bargain_28 : decode cX5_bargain 28 = .ok (.goto 7, 3) := by decide +kernel
theorem dX5_bargain_31 : decode cX5_bargain 31 = .ok (.iload_n 2, 1) := by decide +kernel
theorem dX5_bargain_32 : decode cX5_bargain 32 = .ok (.bipush 8, 2) := by decide +kernel
theorem dX5_bargain_34 : decode cX5_bargain 34 = .ok (.idiv, 1) := by decide +kernel
theorem dX5_bargain_35 : decode cX5_bargain 35 = .ok (.ireturn, 1) := by decide +kernel
theorem dX5_wouldShame_0 : decode cX5_wouldShame 0 = .ok (.aload_n 0, 1) := by decide +kernel
theorem dX5_wouldShame_1 : decode cX5_wouldShame 1 = .ok (.getfield 12, 3) := by decide +kernel
theorem dX5_wouldShame_4 : decode cX5_wouldShame 4 = .ok (.iload_n 1, 1) := by decide +kernel
theorem dX5_wouldShame_5 : decode cX5_wouldShame 5 = .ok (.invokevirtual 95, 3) := by decide +kernel
theorem dX5_wouldShame_8 : decode cX5_wouldShame 8 = .ok (.ifCond .ne 13, 3) := by decide +kernel
theorem dX5_wouldShame_11 : decode cX5_wouldShame 11 = .ok (.new 99, 3) := by decide +kernel
theorem dX5_wouldShame_14 : decode cX5_wouldShame 14 = .ok (.dup, 1) := by decide +kernel
theorem dX5_wouldShame_15 : decode cX5_wouldShame 15 = .ok (.ldc 101, 2) := by decide +kernel
theorem dX5_wouldShame_17 : decode cX5_wouldShame 17 = .ok (.invokespecial 103, 3) := by decide +kernel
theorem dX5_wouldShame_20 : decode cX5_wouldShame 20 = .ok (.athrow, 1) := by decide +kernel
theorem dX5_wouldShame_21 : decode cX5_wouldShame 21 = .ok (.aload_n 0, 1) := by decide +kernel
theorem dX5_wouldShame_22 : decode cX5_wouldShame 22 = .ok (.getfield 12, 3) := by decide +kernel
theorem dX5_wouldShame_25 : decode cX5_wouldShame 25 = .ok (.getfield 173, 3) := by decide +kernel
theorem dX5_wouldShame_28 : decode cX5_wouldShame 28 = .ok (.iload_n 1, 1) := by decide +kernel
theorem dX5_wouldShame_29 : decode cX5_wouldShame 29 = .ok (.iaload, 1) := by decide +kernel
theorem dX5_wouldShame_30 : decode cX5_wouldShame 30 = .ok (.aload_n 0, 1) := by decide +kernel
theorem dX5_wouldShame_31 : decode cX5_wouldShame 31 = .ok (.getfield 12, 3) := by decide +kernel
theorem dX5_wouldShame_34 : decode cX5_wouldShame 34 = .ok (.iload_n 1, 1) := by decide +kernel
theorem dX5_wouldShame_35 : decode cX5_wouldShame 35 = .ok (.invokevirtual 176, 3) := by decide +kernel
theorem dX5_wouldShame_38 : decode cX5_wouldShame 38 = .ok (.iadd, 1) := by decide +kernel
theorem dX5_wouldShame_39 : decode cX5_wouldShame 39 = .ok (.invokestatic 179, 3) := by decide +kernel
theorem dX5_wouldShame_42 : decode cX5_wouldShame 42 = .ok (.ireturn, 1) := by decide +kernel
theorem dX5_wouldLaugh_0 : decode cX5_wouldLaugh 0 = .ok (.iload_n 1, 1) := by decide +kernel
theorem dX5_wouldLaugh_1 : decode cX5_wouldLaugh 1 = .ok (.ifCond .eq 13, 3) := by decide +kernel
theorem dX5_wouldLaugh_4 : decode cX5_wouldLaugh 4 = .ok (.aload_n 0, 1) := by decide +kernel
theorem dX5_wouldLaugh_5 : decode cX5_wouldLaugh 5 = .ok (.getfield 12, 3) := by decide +kernel
theorem dX5_wouldLaugh_8 : decode cX5_wouldLaugh 8 = .ok (.invokevirtual 182, 3) := by decide +kernel
theorem dX5_wouldLaugh_11 : decode cX5_wouldLaugh 11 = .ok (.goto 10, 3) := by decide +kernel
theorem dX5_wouldLaugh_14 : decode cX5_wouldLaugh 14 = .ok (.aload_n 0, 1) := by decide +kernel
theorem dX5_wouldLaugh_15 : decode cX5_wouldLaugh 15 = .ok (.getfield 12, 3) := by decide +kernel
theorem dX5_wouldLaugh_18 : decode cX5_wouldLaugh 18 = .ok (.invokevirtual 185, 3) := by decide +kernel
theorem dX5_wouldLaugh_21 : decode cX5_wouldLaugh 21 = .ok (.ireturn, 1) := by decide +kernel
theorem dX5_nearest_0 : decode cX5_nearest 0 = .ok (.aload_n 0, 1) := by decide +kernel
theorem dX5_nearest_1 : decode cX5_nearest 1 = .ok (.getfield 12, 3) := by decide +kernel
theorem dX5_nearest_4 : decode cX5_nearest 4 = .ok (.iload_n 1, 1) := by decide +kernel
theorem dX5_nearest_5 : decode cX5_nearest 5 = .ok (.invokevirtual 114, 3) := by decide +kernel
theorem dX5_nearest_8 : decode cX5_nearest 8 = .ok (.ifCond .ne 13, 3) := by decide +kernel
theorem dX5_nearest_11 : decode cX5_nearest 11 = .ok (.new 99, 3) := by decide +kernel
theorem dX5_nearest_14 : decode cX5_nearest 14 = .ok (.dup, 1) := by decide +kernel
theorem dX5_nearest_15 : decode cX5_nearest 15 = .ok (.ldc 117, 2) := by decide +kernel
theorem dX5_nearest_17 : decode cX5_nearest 17 = .ok (.invokespecial 103, 3) := by decide +kernel
theorem dX5_nearest_20 : decode cX5_nearest 20 = .ok (.athrow, 1) := by decide +kernel
theorem dX5_nearest_21 : decode cX5_nearest 21 = .ok (.iconst 0, 1) := by decide +kernel
theorem dX5_nearest_22 : decode cX5_nearest 22 = .ok (.istore_n 2, 1) := by decide +kernel
theorem dX5_nearest_23 : decode cX5_nearest 23 = .ok (.iconst 1, 1) := by decide +kernel
theorem dX5_nearest_24 : decode cX5_nearest 24 = .ok (.istore_n 3, 1) := by decide +kernel
theorem dX5_nearest_25 : decode cX5_nearest 25 = .ok (.iload_n 3, 1) := by decide +kernel
theorem dX5_nearest_26 : decode cX5_nearest 26 = .ok (.aload_n 0, 1) := by decide +kernel
theorem dX5_nearest_27 : decode cX5_nearest 27 = .ok (.getfield 12, 3) := by decide +kernel
theorem dX5_nearest_30 : decode cX5_nearest 30 = .ok (.getfield 188, 3) := by decide +kernel
theorem dX5_nearest_33 : decode cX5_nearest 33 = .ok (.if_icmp .ge 32, 3) := by decide +kernel
theorem dX5_nearest_36 : decode cX5_nearest 36 = .ok (.aload_n 0, 1) := by decide +kernel
theorem dX5_nearest_37 : decode cX5_nearest 37 = .ok (.getfield 12, 3) := by decide +kernel
theorem dX5_nearest_40 : decode cX5_nearest 40 = .ok (.iload_n 1, 1) := by decide +kernel
theorem dX5_nearest_41 : decode cX5_nearest 41 = .ok (.iload_n 3, 1) := by decide +kernel
theorem dX5_nearest_42 : decode cX5_nearest 42 = .ok (.invokevirtual 191, 3) := by decide +kernel
theorem dX5_nearest_45 : decode cX5_nearest 45 = .ok (.aload_n 0, 1) := by decide +kernel
theorem dX5_nearest_46 : decode cX5_nearest 46 = .ok (.getfield 12, 3) := by decide +kernel
theorem dX5_nearest_49 : decode cX5_nearest 49 = .ok (.iload_n 1, 1) := by decide +kernel
theorem dX5_nearest_50 : decode cX5_nearest 50 = .ok (.iload_n 2, 1) := by decide +kernel
theorem dX5_nearest_51 : decode cX5_nearest 51 = .ok (.invokevirtual 191, 3) := by decide +kernel
theorem dX5_nearest_54 : decode cX5_nearest 54 = .ok (.if_icmp .ge 5, 3) := by decide +kernel
theorem dX5_nearest_57 : decode cX5_nearest 57 = .ok (.iload_n 3, 1) := by decide +kernel
theorem dX5_nearest_58 : decode cX5_nearest 58 = .ok (.istore_n 2, 1) := by decide +kernel
theorem dX5_nearest_59 : decode cX5_nearest 59 = .ok (.iinc 3 1, 3) := by decide +kernel
theorem dX5_nearest_62 : decode cX5_nearest 62 = .ok (.goto (-37), 3) := by decide +kernel
theorem dX5_nearest_65 : decode cX5_nearest 65 = .ok (.iload_n 2, 1) := by decide +kernel
theorem dX5_nearest_66 : decode cX5_nearest 66 = .ok (.ireturn, 1) := by decide +kernel
theorem dX5_calmIn_0 : decode cX5_calmIn 0 = .ok (.aload_n 0, 1) := by decide +kernel
theorem dX5_calmIn_1 : decode cX5_calmIn 1 = .ok (.getfield 12, 3) := by decide +kernel
theorem dX5_calmIn_4 : decode cX5_calmIn 4 = .ok (.iload_n 1, 1) := by decide +kernel
theorem dX5_calmIn_5 : decode cX5_calmIn 5 = .ok (.invokevirtual 95, 3) := by decide +kernel
theorem dX5_calmIn_8 : decode cX5_calmIn 8 = .ok (.ifCond .ne 13, 3) := by decide +kernel
theorem dX5_calmIn_11 : decode cX5_calmIn 11 = .ok (.new 99, 3) := by decide +kernel
theorem dX5_calmIn_14 : decode cX5_calmIn 14 = .ok (.dup, 1) := by decide +kernel
theorem dX5_calmIn_15 : decode cX5_calmIn 15 = .ok (.ldc 101, 2) := by decide +kernel
theorem dX5_calmIn_17 : decode cX5_calmIn 17 = .ok (.invokespecial 103, 3) := by decide +kernel
theorem dX5_calmIn_20 : decode cX5_calmIn 20 = .ok (.athrow, 1) := by decide +kernel
theorem dX5_calmIn_21 : decode cX5_calmIn 21 = .ok (.iconst 0, 1) := by decide +kernel
theorem dX5_calmIn_22 : decode cX5_calmIn 22 = .ok (.aload_n 0, 1) := by decide +kernel
theorem dX5_calmIn_23 : decode cX5_calmIn 23 = .ok (.getfield 12, 3) := by decide +kernel
theorem dX5_calmIn_26 : decode cX5_calmIn 26 = .ok (.getfield 173, 3) := by decide +kernel
theorem dX5_calmIn_29 : decode cX5_calmIn 29 = .ok (.iload_n 1, 1) := by decide +kernel
theorem dX5_calmIn_30 : decode cX5_calmIn 30 = .ok (.iaload, 1) := by decide +kernel
theorem dX5_calmIn_31 : decode cX5_calmIn 31 = .ok (.bipush 20, 2) := by decide +kernel
theorem dX5_calmIn_33 : decode cX5_calmIn 33 = .ok (.isub, 1) := by decide +kernel
theorem dX5_calmIn_34 : decode cX5_calmIn 34 = .ok (.invokestatic 194, 3) := by decide +kernel
theorem dX5_calmIn_37 : decode cX5_calmIn 37 = .ok (.ireturn, 1) := by decide +kernel
theorem dX5_ashamed_0 : decode cX5_ashamed 0 = .ok (.iconst 0, 1) := by decide +kernel
theorem dX5_ashamed_1 : decode cX5_ashamed 1 = .ok (.istore_n 2, 1) := by decide +kernel
theorem dX5_ashamed_2 : decode cX5_ashamed 2 = .ok (.iload_n 2, 1) := by decide +kernel
theorem dX5_ashamed_3 : decode cX5_ashamed 3 = .ok (.aload_n 0, 1) := by decide +kernel
theorem dX5_ashamed_4 : decode cX5_ashamed 4 = .ok (.getfield 12, 3) := by decide +kernel
theorem dX5_ashamed_7 : decode cX5_ashamed 7 = .ok (.getfield 199, 3) := by decide +kernel
theorem dX5_ashamed_10 : decode cX5_ashamed 10 = .ok (.if_icmp .ge 23, 3) := by decide +kernel
theorem dX5_ashamed_13 : decode cX5_ashamed 13 = .ok (.aload_n 0, 1) := by decide +kernel
theorem dX5_ashamed_14 : decode cX5_ashamed 14 = .ok (.getfield 12, 3) := by decide +kernel
theorem dX5_ashamed_17 : decode cX5_ashamed 17 = .ok (.iload_n 2, 1) := by decide +kernel
theorem dX5_ashamed_18 : decode cX5_ashamed 18 = .ok (.invokevirtual 202, 3) := by decide +kernel
theorem dX5_ashamed_21 : decode cX5_ashamed 21 = .ok (.iload_n 1, 1) := by decide +kernel
theorem dX5_ashamed_22 : decode cX5_ashamed 22 = .ok (.if_icmp .ne 5, 3) := by decide +kernel
theorem dX5_ashamed_25 : decode cX5_ashamed 25 = .ok (.iload_n 2, 1) := by decide +kernel
theorem dX5_ashamed_26 : decode cX5_ashamed 26 = .ok (.ireturn, 1) := by decide +kernel
theorem dX5_ashamed_27 : decode cX5_ashamed 27 = .ok (.iinc 2 1, 3) := by decide +kernel
theorem dX5_ashamed_30 : decode cX5_ashamed 30 = .ok (.goto (-28), 3) := by decide +kernel
theorem dX5_ashamed_33 : decode cX5_ashamed 33 = .ok (.new 168, 3) := by decide +kernel
theorem dX5_ashamed_36 : decode cX5_ashamed 36 = .ok (.dup, 1) := by decide +kernel
theorem dX5_ashamed_37 : decode cX5_ashamed 37 = .ok (.ldc 128, 2) := by decide +kernel
theorem dX5_ashamed_39 : decode cX5_ashamed 39 = .ok (.invokespecial 172, 3) := by decide +kernel
theorem dX5_ashamed_42 : decode cX5_ashamed 42 = .ok (.athrow, 1) := by decide +kernel
theorem dX5_worst_0 : decode cX5_worst 0 = .ok (.iconst 0, 1) := by decide +kernel
theorem dX5_worst_1 : decode cX5_worst 1 = .ok (.istore_n 2, 1) := by decide +kernel
theorem dX5_worst_2 : decode cX5_worst 2 = .ok (.iload_n 2, 1) := by decide +kernel
theorem dX5_worst_3 : decode cX5_worst 3 = .ok (.aload_n 0, 1) := by decide +kernel
theorem dX5_worst_4 : decode cX5_worst 4 = .ok (.getfield 12, 3) := by decide +kernel
theorem dX5_worst_7 : decode cX5_worst 7 = .ok (.getfield 188, 3) := by decide +kernel
theorem dX5_worst_10 : decode cX5_worst 10 = .ok (.if_icmp .ge 23, 3) := by decide +kernel
theorem dX5_worst_13 : decode cX5_worst 13 = .ok (.aload_n 0, 1) := by decide +kernel
theorem dX5_worst_14 : decode cX5_worst 14 = .ok (.getfield 12, 3) := by decide +kernel
theorem dX5_worst_17 : decode cX5_worst 17 = .ok (.iload_n 2, 1) := by decide +kernel
theorem dX5_worst_18 : decode cX5_worst 18 = .ok (.invokevirtual 205, 3) := by decide +kernel
theorem dX5_worst_21 : decode cX5_worst 21 = .ok (.iload_n 1, 1) := by decide +kernel
theorem dX5_worst_22 : decode cX5_worst 22 = .ok (.if_icmp .ne 5, 3) := by decide +kernel
theorem dX5_worst_25 : decode cX5_worst 25 = .ok (.iload_n 2, 1) := by decide +kernel
theorem dX5_worst_26 : decode cX5_worst 26 = .ok (.ireturn, 1) := by decide +kernel
theorem dX5_worst_27 : decode cX5_worst 27 = .ok (.iinc 2 1, 3) := by decide +kernel
theorem dX5_worst_30 : decode cX5_worst 30 = .ok (.goto (-28), 3) := by decide +kernel
theorem dX5_worst_33 : decode cX5_worst 33 = .ok (.new 168, 3) := by decide +kernel
theorem dX5_worst_36 : decode cX5_worst 36 = .ok (.dup, 1) := by decide +kernel
theorem dX5_worst_37 : decode cX5_worst 37 = .ok (.ldc 128, 2) := by decide +kernel
theorem dX5_worst_39 : decode cX5_worst 39 = .ok (.invokespecial 172, 3) := by decide +kernel
theorem dX5_worst_42 : decode cX5_worst 42 = .ok (.athrow, 1) := by decide +kernel
theorem dX5_line_0 : decode cX5_line 0 = .ok (.aload_n 0, 1) := by decide +kernel
theorem dX5_line_1 : decode cX5_line 1 = .ok (.getfield 12, 3) := by decide +kernel
theorem dX5_line_4 : decode cX5_line 4 = .ok (.iload_n 1, 1) := by decide +kernel
theorem dX5_line_5 : decode cX5_line 5 = .ok (.invokevirtual 114, 3) := by decide +kernel
theorem dX5_line_8 : decode cX5_line 8 = .ok (.ifCond .ne 13, 3) := by decide +kernel
theorem dX5_line_11 : decode cX5_line 11 = .ok (.new 99, 3) := by decide +kernel
theorem dX5_line_14 : decode cX5_line 14 = .ok (.dup, 1) := by decide +kernel
theorem dX5_line_15 : decode cX5_line 15 = .ok (.ldc 117, 2) := by decide +kernel
theorem dX5_line_17 : decode cX5_line 17 = .ok (.invokespecial 103, 3) := by decide +kernel
theorem dX5_line_20 : decode cX5_line 20 = .ok (.athrow, 1) := by decide +kernel
theorem dX5_line_21 : decode cX5_line 21 = .ok (.aload_n 0, 1) := by decide +kernel
theorem dX5_line_22 : decode cX5_line 22 = .ok (.getfield 49, 3) := by decide +kernel
theorem dX5_line_25 : decode cX5_line 25 = .ok (.iconst 0, 1) := by decide +kernel
theorem dX5_line_26 : decode cX5_line 26 = .ok (.putfield 208, 3) := by decide +kernel
theorem dX5_line_29 : decode cX5_line 29 = .ok (.aload_n 0, 1) := by decide +kernel
theorem dX5_line_30 : decode cX5_line 30 = .ok (.getfield 49, 3) := by decide +kernel
theorem dX5_line_33 : decode cX5_line 33 = .ok (.aload_n 0, 1) := by decide +kernel
theorem dX5_line_34 : decode cX5_line 34 = .ok (.getfield 12, 3) := by decide +kernel
theorem dX5_line_37 : decode cX5_line 37 = .ok (.getfield 159, 3) := by decide +kernel
theorem dX5_line_40 : decode cX5_line 40 = .ok (.iload_n 1, 1) := by decide +kernel
theorem dX5_line_41 : decode cX5_line 41 = .ok (.iaload, 1) := by decide +kernel
theorem dX5_line_42 : decode cX5_line 42 = .ok (.invokevirtual 211, 3) := by decide +kernel
theorem dX5_line_45 : decode cX5_line 45 = .ok (.aload_n 0, 1) := by decide +kernel
theorem dX5_line_46 : decode cX5_line 46 = .ok (.getfield 49, 3) := by decide +kernel
theorem dX5_line_49 : decode cX5_line 49 = .ok (.bipush 58, 2) := by decide +kernel
theorem dX5_line_51 : decode cX5_line 51 = .ok (.invokevirtual 215, 3) := by decide +kernel
theorem dX5_line_54 : decode cX5_line 54 = .ok (.iconst 0, 1) := by decide +kernel
theorem dX5_line_55 : decode cX5_line 55 = .ok (.istore_n 2, 1) := by decide +kernel
theorem dX5_line_56 : decode cX5_line 56 = .ok (.iload_n 2, 1) := by decide +kernel
theorem dX5_line_57 : decode cX5_line 57 = .ok (.aload_n 0, 1) := by decide +kernel
theorem dX5_line_58 : decode cX5_line 58 = .ok (.getfield 12, 3) := by decide +kernel
theorem dX5_line_61 : decode cX5_line 61 = .ok (.getfield 219, 3) := by decide +kernel
theorem dX5_line_64 : decode cX5_line 64 = .ok (.iload_n 1, 1) := by decide +kernel
theorem dX5_line_65 : decode cX5_line 65 = .ok (.iaload, 1) := by decide +kernel
theorem dX5_line_66 : decode cX5_line 66 = .ok (.if_icmp .ge 15, 3) := by decide +kernel
theorem dX5_line_69 : decode cX5_line 69 = .ok (.aload_n 0, 1) := by decide +kernel
theorem dX5_line_70 : decode cX5_line 70 = .ok (.iload_n 1, 1) := by decide +kernel
theorem dX5_line_71 : decode cX5_line 71 = .ok (.iload_n 2, 1) := by decide +kernel
theorem dX5_line_72 : decode cX5_line 72 = .ok (.invokevirtual 222, 3) := by decide +kernel
theorem dX5_line_75 : decode cX5_line 75 = .ok (.iinc 2 1, 3) := by decide +kernel
theorem dX5_line_78 : decode cX5_line 78 = .ok (.goto (-22), 3) := by decide +kernel
theorem dX5_line_81 : decode cX5_line 81 = .ok (.aload_n 0, 1) := by decide +kernel
theorem dX5_line_82 : decode cX5_line 82 = .ok (.getfield 49, 3) := by decide +kernel
theorem dX5_line_85 : decode cX5_line 85 = .ok (.getfield 208, 3) := by decide +kernel
theorem dX5_line_88 : decode cX5_line 88 = .ok (.ireturn, 1) := by decide +kernel
theorem dX5_houseLine_0 : decode cX5_houseLine 0 = .ok (.aload_n 0, 1) := by decide +kernel
theorem dX5_houseLine_1 : decode cX5_houseLine 1 = .ok (.getfield 12, 3) := by decide +kernel
theorem dX5_houseLine_4 : decode cX5_houseLine 4 = .ok (.iload_n 1, 1) := by decide +kernel
theorem dX5_houseLine_5 : decode cX5_houseLine 5 = .ok (.invokevirtual 95, 3) := by decide +kernel
theorem dX5_houseLine_8 : decode cX5_houseLine 8 = .ok (.ifCond .ne 13, 3) := by decide +kernel
theorem dX5_houseLine_11 : decode cX5_houseLine 11 = .ok (.new 99, 3) := by decide +kernel
theorem dX5_houseLine_14 : decode cX5_houseLine 14 = .ok (.dup, 1) := by decide +kernel
theorem dX5_houseLine_15 : decode cX5_houseLine 15 = .ok (.ldc 101, 2) := by decide +kernel
theorem dX5_houseLine_17 : decode cX5_houseLine 17 = .ok (.invokespecial 103, 3) := by decide +kernel
theorem dX5_houseLine_20 : decode cX5_houseLine 20 = .ok (.athrow, 1) := by decide +kernel
theorem dX5_houseLine_21 : decode cX5_houseLine 21 = .ok (.aload_n 0, 1) := by decide +kernel
theorem dX5_houseLine_22 : decode cX5_houseLine 22 = .ok (.getfield 49, 3) := by decide +kernel
theorem dX5_houseLine_25 : decode cX5_houseLine 25 = .ok (.iconst 0, 1) := by decide +kernel
theorem dX5_houseLine_26 : decode cX5_houseLine 26 = .ok (.putfield 208, 3) := by decide +kernel
theorem dX5_houseLine_29 : decode cX5_houseLine 29 = .ok (.aload_n 0, 1) := by decide +kernel
theorem dX5_houseLine_30 : decode cX5_houseLine 30 = .ok (.getfield 49, 3) := by decide +kernel
theorem dX5_houseLine_33 : decode cX5_houseLine 33 = .ok (.iload_n 1, 1) := by decide +kernel
theorem dX5_houseLine_34 : decode cX5_houseLine 34 = .ok (.invokevirtual 211, 3) := by decide +kernel
theorem dX5_houseLine_37 : decode cX5_houseLine 37 = .ok (.aload_n 0, 1) := by decide +kernel
theorem dX5_houseLine_38 : decode cX5_houseLine 38 = .ok (.getfield 49, 3) := by decide +kernel
theorem dX5_houseLine_41 : decode cX5_houseLine 41 = .ok (.bipush 36, 2) := by decide +kernel
theorem dX5_houseLine_43 : decode cX5_houseLine 43 = .ok (.invokevirtual 215, 3) := by decide +kernel
theorem dX5_houseLine_46 : decode cX5_houseLine 46 = .ok (.aload_n 0, 1) := by decide +kernel
theorem dX5_houseLine_47 : decode cX5_houseLine 47 = .ok (.getfield 49, 3) := by decide +kernel
theorem dX5_houseLine_50 : decode cX5_houseLine 50 = .ok (.aload_n 0, 1) := by decide +kernel
theorem dX5_houseLine_51 : decode cX5_houseLine 51 = .ok (.getfield 12, 3) := by decide +kernel
theorem dX5_houseLine_54 : decode cX5_houseLine 54 = .ok (.getfield 155, 3) := by decide +kernel
theorem dX5_houseLine_57 : decode cX5_houseLine 57 = .ok (.iload_n 1, 1) := by decide +kernel
theorem dX5_houseLine_58 : decode cX5_houseLine 58 = .ok (.iaload, 1) := by decide +kernel
theorem dX5_houseLine_59 : decode cX5_houseLine 59 = .ok (.invokevirtual 211, 3) := by decide +kernel
theorem dX5_houseLine_62 : decode cX5_houseLine 62 = .ok (.aload_n 0, 1) := by decide +kernel
theorem dX5_houseLine_63 : decode cX5_houseLine 63 = .ok (.getfield 49, 3) := by decide +kernel
theorem dX5_houseLine_66 : decode cX5_houseLine 66 = .ok (.bipush 126, 2) := by decide +kernel
theorem dX5_houseLine_68 : decode cX5_houseLine 68 = .ok (.invokevirtual 215, 3) := by decide +kernel
theorem dX5_houseLine_71 : decode cX5_houseLine 71 = .ok (.aload_n 0, 1) := by decide +kernel
theorem dX5_houseLine_72 : decode cX5_houseLine 72 = .ok (.getfield 49, 3) := by decide +kernel
theorem dX5_houseLine_75 : decode cX5_houseLine 75 = .ok (.aload_n 0, 1) := by decide +kernel
theorem dX5_houseLine_76 : decode cX5_houseLine 76 = .ok (.getfield 12, 3) := by decide +kernel
theorem dX5_houseLine_79 : decode cX5_houseLine 79 = .ok (.getfield 173, 3) := by decide +kernel
theorem dX5_houseLine_82 : decode cX5_houseLine 82 = .ok (.iload_n 1, 1) := by decide +kernel
theorem dX5_houseLine_83 : decode cX5_houseLine 83 = .ok (.iaload, 1) := by decide +kernel
theorem dX5_houseLine_84 : decode cX5_houseLine 84 = .ok (.invokevirtual 211, 3) := by decide +kernel
theorem dX5_houseLine_87 : decode cX5_houseLine 87 = .ok (.aload_n 0, 1) := by decide +kernel
theorem dX5_houseLine_88 : decode cX5_houseLine 88 = .ok (.getfield 12, 3) := by decide +kernel
theorem dX5_houseLine_91 : decode cX5_houseLine 91 = .ok (.iload_n 1, 1) := by decide +kernel
theorem dX5_houseLine_92 : decode cX5_houseLine 92 = .ok (.invokevirtual 226, 3) := by decide +kernel
theorem dX5_houseLine_95 : decode cX5_houseLine 95 = .ok (.ifCond .eq 12, 3) := by decide +kernel
theorem dX5_houseLine_98 : decode cX5_houseLine 98 = .ok (.aload_n 0, 1) := by decide +kernel
theorem dX5_houseLine_99 : decode cX5_houseLine 99 = .ok (.getfield 49, 3) := by decide +kernel
theorem dX5_houseLine_102 : decode cX5_houseLine 102 = .ok (.bipush 42, 2) := by decide +kernel
theorem dX5_houseLine_104 : decode cX5_houseLine 104 = .ok (.invokevirtual 215, 3) := by decide +kernel
theorem dX5_houseLine_107 : decode cX5_houseLine 107 = .ok (.aload_n 0, 1) := by decide +kernel
theorem dX5_houseLine_108 : decode cX5_houseLine 108 = .ok (.getfield 49, 3) := by decide +kernel
theorem dX5_houseLine_111 : decode cX5_houseLine 111 = .ok (.getfield 208, 3) := by decide +kernel
theorem dX5_houseLine_114 : decode cX5_houseLine 114 = .ok (.ireturn, 1) := by decide +kernel
theorem dX5_character_0 : decode cX5_character 0 = .ok (.iload_n 1, 1) := by decide +kernel
theorem dX5_character_1 : decode cX5_character 1 = .ok (.ifCond .lt 14, 3) := by decide +kernel
theorem dX5_character_4 : decode cX5_character 4 = .ok (.iload_n 1, 1) := by decide +kernel
theorem dX5_character_5 : decode cX5_character 5 = .ok (.aload_n 0, 1) := by decide +kernel
theorem dX5_character_6 : decode cX5_character 6 = .ok (.getfield 49, 3) := by decide +kernel
theorem dX5_character_9 : decode cX5_character 9 = .ok (.getfield 208, 3) := by decide +kernel
theorem dX5_character_12 : decode cX5_character 12 = .ok (.if_icmp .lt 13, 3) := by decide +kernel
theorem dX5_character_15 : decode cX5_character 15 = .ok (.new 99, 3) := by decide +kernel
theorem dX5_character_18 : decode cX5_character 18 = .ok (.dup, 1) := by decide +kernel
theorem dX5_character_19 : decode cX5_character 19 = .ok (.ldc 229, 2) := by decide +kernel
theorem dX5_character_21 : decode cX5_character 21 = .ok (.invokespecial 103, 3) := by decide +kernel
theorem dX5_character_24 : decode cX5_character 24 = .ok (.athrow, 1) := by decide +kernel
theorem dX5_character_25 : decode cX5_character 25 = .ok (.aload_n 0, 1) := by decide +kernel
theorem dX5_character_26 : decode cX5_character 26 = .ok (.getfield 49, 3) := by decide +kernel
theorem dX5_character_29 : decode cX5_character 29 = .ok (.getfield 231, 3) := by decide +kernel
theorem dX5_character_32 : decode cX5_character 32 = .ok (.iload_n 1, 1) := by decide +kernel
theorem dX5_character_33 : decode cX5_character 33 = .ok (.caload, 1) := by decide +kernel
theorem dX5_character_34 : decode cX5_character 34 = .ok (.ireturn, 1) := by decide +kernel
theorem dX5_append_0 : decode cX5_append 0 = .ok (.aload_n 0, 1) := by decide +kernel
theorem dX5_append_1 : decode cX5_append 1 = .ok (.getfield 42, 3) := by decide +kernel
theorem dX5_append_4 : decode cX5_append 4 = .ok (.getfield 235, 3) := by decide +kernel
theorem dX5_append_7 : decode cX5_append 7 = .ok (.bipush 60, 2) := by decide +kernel
theorem dX5_append_9 : decode cX5_append 9 = .ok (.if_icmp .lt 13, 3) := by decide +kernel
theorem dX5_append_12 : decode cX5_append 12 = .ok (.new 236, 3) := by decide +kernel
theorem dX5_append_15 : decode cX5_append 15 = .ok (.dup, 1) := by decide +kernel
theorem dX5_append_16 : decode cX5_append 16 = .ok (.ldc 238, 2) := by decide +kernel
theorem dX5_append_18 : decode cX5_append 18 = .ok (.invokespecial 240, 3) := by decide +kernel
theorem dX5_append_21 : decode cX5_append 21 = .ok (.athrow, 1) := by decide +kernel
theorem dX5_append_22 : decode cX5_append 22 = .ok (.aload_n 0, 1) := by decide +kernel
theorem dX5_append_23 : decode cX5_append 23 = .ok (.getfield 42, 3) := by decide +kernel
theorem dX5_append_26 : decode cX5_append 26 = .ok (.getfield 241, 3) := by decide +kernel
theorem dX5_append_29 : decode cX5_append 29 = .ok (.aload_n 0, 1) := by decide +kernel
theorem dX5_append_30 : decode cX5_append 30 = .ok (.getfield 42, 3) := by decide +kernel
theorem dX5_append_33 : decode cX5_append 33 = .ok (.getfield 235, 3) := by decide +kernel
theorem dX5_append_36 : decode cX5_append 36 = .ok (.iload_n 1, 1) := by decide +kernel
theorem dX5_append_37 : decode cX5_append 37 = .ok (.castore, 1) := by decide +kernel
theorem dX5_append_38 : decode cX5_append 38 = .ok (.aload_n 0, 1) := by decide +kernel
theorem dX5_append_39 : decode cX5_append 39 = .ok (.getfield 42, 3) := by decide +kernel
theorem dX5_append_42 : decode cX5_append 42 = .ok (.dup, 1) := by decide +kernel
theorem dX5_append_43 : decode cX5_append 43 = .ok (.getfield 235, 3) := by decide +kernel
theorem dX5_append_46 : decode cX5_append 46 = .ok (.iconst 1, 1) := by decide +kernel
theorem dX5_append_47 : decode cX5_append 47 = .ok (.iadd, 1) := by decide +kernel
theorem dX5_append_48 : decode cX5_append 48 = .ok (.putfield 235, 3) := by decide +kernel
theorem dX5_append_51 : decode cX5_append 51 = .ok (.aload_n 0, 1) := by decide +kernel
theorem dX5_append_52 : decode cX5_append 52 = .ok (.getfield 42, 3) := by decide +kernel
theorem dX5_append_55 : decode cX5_append 55 = .ok (.getfield 235, 3) := by decide +kernel
theorem dX5_append_58 : decode cX5_append 58 = .ok (.ireturn, 1) := by decide +kernel
theorem dX5_run_0 : decode cX5_run 0 = .ok (.aload_n 0, 1) := by decide +kernel
theorem dX5_run_1 : decode cX5_run 1 = .ok (.aload_n 0, 1) := by decide +kernel
theorem dX5_run_2 : decode cX5_run 2 = .ok (.getfield 42, 3) := by decide +kernel
theorem dX5_run_5 : decode cX5_run 5 = .ok (.invokevirtual 242, 3) := by decide +kernel
theorem dX5_run_8 : decode cX5_run 8 = .ok (.putfield 53, 3) := by decide +kernel
theorem dX5_run_11 : decode cX5_run 11 = .ok (.aload_n 0, 1) := by decide +kernel
theorem dX5_run_12 : decode cX5_run 12 = .ok (.getfield 16, 3) := by decide +kernel
theorem dX5_run_15 : decode cX5_run 15 = .ok (.aload_n 0, 1) := by decide +kernel
theorem dX5_run_16 : decode cX5_run 16 = .ok (.getfield 12, 3) := by decide +kernel
theorem dX5_run_19 : decode cX5_run 19 = .ok (.invokevirtual 57, 3) := by decide +kernel
theorem dX5_run_22 : decode cX5_run 22 = .ok (.aload_n 0, 1) := by decide +kernel
theorem dX5_run_23 : decode cX5_run 23 = .ok (.getfield 53, 3) := by decide +kernel
theorem dX5_run_26 : decode cX5_run 26 = .ok (.iconst (-1), 1) := by decide +kernel
theorem dX5_run_27 : decode cX5_run 27 = .ok (.if_icmp .ne 10, 3) := by decide +kernel
theorem dX5_run_30 : decode cX5_run 30 = .ok (.aload_n 0, 1) := by decide +kernel
theorem dX5_run_31 : decode cX5_run 31 = .ok (.invokevirtual 245, 3) := by decide +kernel
theorem dX5_run_34 : decode cX5_run 34 = .ok (.goto 5, 3) := by decide +kernel
theorem dX5_run_37 : decode cX5_run 37 = .ok (.bipush (-2), 2) := by decide +kernel
theorem dX5_run_39 : decode cX5_run 39 = .ok (.istore_n 1, 1) := by decide +kernel
theorem dX5_run_40 : decode cX5_run 40 = .ok (.aload_n 0, 1) := by decide +kernel
theorem dX5_run_41 : decode cX5_run 41 = .ok (.getfield 42, 3) := by decide +kernel
theorem dX5_run_44 : decode cX5_run 44 = .ok (.iconst 0, 1) := by decide +kernel
theorem dX5_run_45 : decode cX5_run 45 = .ok (.putfield 235, 3) := by decide +kernel
theorem dX5_run_48 : decode cX5_run 48 = .ok (.iload_n 1, 1) := by decide +kernel
theorem dX5_run_49 : decode cX5_run 49 = .ok (.ifCond .ge 14, 3) := by decide +kernel
theorem dX5_run_52 : decode cX5_run 52 = .ok (.aload_n 0, 1) := by decide +kernel
theorem dX5_run_53 : decode cX5_run 53 = .ok (.getfield 12, 3) := by decide +kernel
theorem dX5_run_56 : decode cX5_run 56 = .ok (.aload_n 0, 1) := by decide +kernel
theorem dX5_run_57 : decode cX5_run 57 = .ok (.getfield 16, 3) := by decide +kernel
theorem dX5_run_60 : decode cX5_run 60 = .ok (.invokevirtual 57, 3) := by decide +kernel
theorem dX5_run_63 : decode cX5_run 63 = .ok (.iload_n 1, 1) := by decide +kernel
theorem dX5_run_64 : decode cX5_run 64 = .ok (.bipush (-3), 2) := by decide +kernel
theorem dX5_run_66 : decode cX5_run 66 = .ok (.if_icmp .ne 13, 3) := by decide +kernel
theorem dX5_run_69 : decode cX5_run 69 = .ok (.new 248, 3) := by decide +kernel
theorem dX5_run_72 : decode cX5_run 72 = .ok (.dup, 1) := by decide +kernel
theorem dX5_run_73 : decode cX5_run 73 = .ok (.ldc 250, 2) := by decide +kernel
theorem dX5_run_75 : decode cX5_run 75 = .ok (.invokespecial 252, 3) := by decide +kernel
theorem dX5_run_78 : decode cX5_run 78 = .ok (.athrow, 1) := by decide +kernel
theorem dX5_run_79 : decode cX5_run 79 = .ok (.iload_n 1, 1) := by decide +kernel
theorem dX5_run_80 : decode cX5_run 80 = .ok (.ifCond .ge 13, 3) := by decide +kernel
theorem dX5_run_83 : decode cX5_run 83 = .ok (.new 106, 3) := by decide +kernel
theorem dX5_run_86 : decode cX5_run 86 = .ok (.dup, 1) := by decide +kernel
theorem dX5_run_87 : decode cX5_run 87 = .ok (.ldc 253, 2) := by decide +kernel
theorem dX5_run_89 : decode cX5_run 89 = .ok (.invokespecial 110, 3) := by decide +kernel
theorem dX5_run_92 : decode cX5_run 92 = .ok (.athrow, 1) := by decide +kernel
theorem dX5_run_93 : decode cX5_run 93 = .ok (.aload_n 0, 1) := by decide +kernel
theorem dX5_run_94 : decode cX5_run 94 = .ok (.getfield 28, 3) := by decide +kernel
theorem dX5_run_97 : decode cX5_run 97 = .ok (.aload_n 0, 1) := by decide +kernel
theorem dX5_run_98 : decode cX5_run 98 = .ok (.getfield 16, 3) := by decide +kernel
theorem dX5_run_101 : decode cX5_run 101 = .ok (.invokevirtual 255, 3) := by decide +kernel
theorem dX5_run_104 : decode cX5_run 104 = .ok (.iload_n 1, 1) := by decide +kernel
theorem dX5_run_105 : decode cX5_run 105 = .ok (.ireturn, 1) := by decide +kernel
theorem dX5_errorPosition_0 : decode cX5_errorPosition 0 = .ok (.aload_n 0, 1) := by decide +kernel
theorem dX5_errorPosition_1 : decode cX5_errorPosition 1 = .ok (.getfield 53, 3) := by decide +kernel
theorem dX5_errorPosition_4 : decode cX5_errorPosition 4 = .ok (.ireturn, 1) := by decide +kernel
theorem dX5_refusal_0 : decode cX5_refusal 0 = .ok (.iload_n 1, 1) := by decide +kernel
theorem dX5_refusal_1 : decode cX5_refusal 1 = .ok (.ifCond .eq 13, 3) := by decide +kernel
theorem dX5_refusal_4 : decode cX5_refusal 4 = .ok (.aload_n 0, 1) := by decide +kernel
theorem dX5_refusal_5 : decode cX5_refusal 5 = .ok (.getfield 35, 3) := by decide +kernel
theorem dX5_refusal_8 : decode cX5_refusal 8 = .ok (.getfield 258, 3) := by decide +kernel
theorem dX5_refusal_11 : decode cX5_refusal 11 = .ok (.goto 10, 3) := by decide +kernel
theorem dX5_refusal_14 : decode cX5_refusal 14 = .ok (.aload_n 0, 1) := by decide +kernel
theorem dX5_refusal_15 : decode cX5_refusal 15 = .ok (.getfield 35, 3) := by decide +kernel
theorem dX5_refusal_18 : decode cX5_refusal 18 = .ok (.getfield 261, 3) := by decide +kernel
theorem dX5_refusal_21 : decode cX5_refusal 21 = .ok (.istore_n 3, 1) := by decide +kernel
theorem dX5_refusal_22 : decode cX5_refusal 22 = .ok (.iload_n 3, 1) := by decide +kernel
theorem dX5_refusal_23 : decode cX5_refusal 23 = .ok (.ifCond .ne 14, 3) := by decide +kernel
theorem dX5_refusal_26 : decode cX5_refusal 26 = .ok (.new 168, 3) := by decide +kernel
theorem dX5_refusal_29 : decode cX5_refusal 29 = .ok (.dup, 1) := by decide +kernel
theorem dX5_refusal_30 : decode cX5_refusal 30 = .ok (.ldc_w 264, 3) := by decide +kernel
theorem dX5_refusal_33 : decode cX5_refusal 33 = .ok (.invokespecial 172, 3) := by decide +kernel
theorem dX5_refusal_36 : decode cX5_refusal 36 = .ok (.athrow, 1) := by decide +kernel
theorem dX5_refusal_37 : decode cX5_refusal 37 = .ok (.iload_n 2, 1) := by decide +kernel
theorem dX5_refusal_38 : decode cX5_refusal 38 = .ok (.ifCond .ne 5, 3) := by decide +kernel
theorem dX5_refusal_41 : decode cX5_refusal 41 = .ok (.iload_n 3, 1) := by decide +kernel
theorem dX5_refusal_42 : decode cX5_refusal 42 = .ok (.ireturn, 1) := by decide +kernel
theorem dX5_refusal_43 : decode cX5_refusal 43 = .ok (.iload_n 1, 1) := by decide +kernel
theorem dX5_refusal_44 : decode cX5_refusal 44 = .ok (.ifCond .eq 13, 3) := by decide +kernel
theorem dX5_refusal_47 : decode cX5_refusal 47 = .ok (.aload_n 0, 1) := by decide +kernel
theorem dX5_refusal_48 : decode cX5_refusal 48 = .ok (.getfield 35, 3) := by decide +kernel
theorem dX5_refusal_51 : decode cX5_refusal 51 = .ok (.getfield 266, 3) := by decide +kernel
theorem dX5_refusal_54 : decode cX5_refusal 54 = .ok (.goto 10, 3) := by decide +kernel
theorem dX5_refusal_57 : decode cX5_refusal 57 = .ok (.aload_n 0, 1) := by decide +kernel
theorem dX5_refusal_58 : decode cX5_refusal 58 = .ok (.getfield 35, 3) := by decide +kernel
theorem dX5_refusal_61 : decode cX5_refusal 61 = .ok (.getfield 269, 3) := by decide +kernel
theorem dX5_refusal_64 : decode cX5_refusal 64 = .ok (.ireturn, 1) := by decide +kernel
theorem dX5_account_0 : decode cX5_account 0 = .ok (.iload_n 1, 1) := by decide +kernel
theorem dX5_account_1 : decode cX5_account 1 = .ok (.ifCond .lt 9, 3) := by decide +kernel
theorem dX5_account_4 : decode cX5_account 4 = .ok (.iload_n 1, 1) := by decide +kernel
theorem dX5_account_5 : decode cX5_account 5 = .ok (.bipush 14, 2) := by decide +kernel
theorem dX5_account_7 : decode cX5_account 7 = .ok (.if_icmp .le 14, 3) := by decide +kernel
theorem dX5_account_10 : decode cX5_account 10 = .ok (.new 106, 3) := by decide +kernel
theorem dX5_account_13 : decode cX5_account 13 = .ok (.dup, 1) := by decide +kernel
theorem dX5_account_14 : decode cX5_account 14 = .ok (.ldc_w 272, 3) := by decide +kernel
theorem dX5_account_17 : decode cX5_account 17 = .ok (.invokespecial 110, 3) := by decide +kernel
theorem dX5_account_20 : decode cX5_account 20 = .ok (.athrow, 1) := by decide +kernel
theorem dX5_account_21 : decode cX5_account 21 = .ok (.iload_n 1, 1) := by decide +kernel
theorem dX5_account_22 : decode cX5_account 22 = .ok (.bipush 13, 2) := by decide +kernel
theorem dX5_account_24 : decode cX5_account 24 = .ok (.if_icmp .ne 11, 3) := by decide +kernel
theorem dX5_account_27 : decode cX5_account 27 = .ok (.aload_n 0, 1) := by decide +kernel
theorem dX5_account_28 : decode cX5_account 28 = .ok (.getfield 42, 3) := by decide +kernel
theorem dX5_account_31 : decode cX5_account 31 = .ok (.getfield 235, 3) := by decide +kernel
theorem dX5_account_34 : decode cX5_account 34 = .ok (.ireturn, 1) := by decide +kernel
theorem dX5_account_35 : decode cX5_account 35 = .ok (.iload_n 1, 1) := by decide +kernel
theorem dX5_account_36 : decode cX5_account 36 = .ok (.bipush 14, 2) := by decide +kernel
theorem dX5_account_38 : decode cX5_account 38 = .ok (.if_icmp .ne 11, 3) := by decide +kernel
theorem dX5_account_41 : decode cX5_account 41 = .ok (.aload_n 0, 1) := by decide +kernel
theorem dX5_account_42 : decode cX5_account 42 = .ok (.getfield 28, 3) := by decide +kernel
theorem dX5_account_45 : decode cX5_account 45 = .ok (.getfield 274, 3) := by decide +kernel
theorem dX5_account_48 : decode cX5_account 48 = .ok (.ireturn, 1) := by decide +kernel
theorem dX5_account_49 : decode cX5_account 49 = .ok (.aload_n 0, 1) := by decide +kernel
theorem dX5_account_50 : decode cX5_account 50 = .ok (.getfield 12, 3) := by decide +kernel
theorem dX5_account_53 : decode cX5_account 53 = .ok (.iload_n 1, 1) := by decide +kernel
theorem dX5_account_54 : decode cX5_account 54 = .ok (.invokevirtual 277, 3) := by decide +kernel
theorem dX5_account_57 : decode cX5_account 57 = .ok (.ireturn, 1) := by decide +kernel
theorem dX5_isWell_0 : decode cX5_isWell 0 = .ok (.aload_n 0, 1) := by decide +kernel
theorem dX5_isWell_1 : decode cX5_isWell 1 = .ok (.getfield 12, 3) := by decide +kernel
theorem dX5_isWell_4 : decode cX5_isWell 4 = .ok (.invokevirtual 185, 3) := by decide +kernel
theorem dX5_isWell_7 : decode cX5_isWell 7 = .ok (.aload_n 0, 1) := by decide +kernel
theorem dX5_isWell_8 : decode cX5_isWell 8 = .ok (.getfield 12, 3) := by decide +kernel
theorem dX5_isWell_11 : decode cX5_isWell 11 = .ok (.invokevirtual 182, 3) := by decide +kernel
theorem dX5_isWell_14 : decode cX5_isWell 14 = .ok (.if_icmp .eq 5, 3) := by decide +kernel
theorem dX5_isWell_17 : decode cX5_isWell 17 = .ok (.iconst 0, 1) := by decide +kernel
theorem dX5_isWell_18 : decode cX5_isWell 18 = .ok (.ireturn, 1) := by decide +kernel
theorem dX5_isWell_19 : decode cX5_isWell 19 = .ok (.iconst 0, 1) := by decide +kernel
theorem dX5_isWell_20 : decode cX5_isWell 20 = .ok (.istore_n 1, 1) := by decide +kernel
theorem dX5_isWell_21 : decode cX5_isWell 21 = .ok (.iload_n 1, 1) := by decide +kernel
theorem dX5_isWell_22 : decode cX5_isWell 22 = .ok (.aload_n 0, 1) := by decide +kernel
theorem dX5_isWell_23 : decode cX5_isWell 23 = .ok (.getfield 12, 3) := by decide +kernel
theorem dX5_isWell_26 : decode cX5_isWell 26 = .ok (.getfield 188, 3) := by decide +kernel
theorem dX5_isWell_29 : decode cX5_isWell 29 = .ok (.if_icmp .ge 35, 3) := by decide +kernel
theorem dX5_isWell_32 : decode cX5_isWell 32 = .ok (.aload_n 0, 1) := by decide +kernel
theorem dX5_isWell_33 : decode cX5_isWell 33 = .ok (.getfield 12, 3) := by decide +kernel
theorem dX5_isWell_36 : decode cX5_isWell 36 = .ok (.iload_n 1, 1) := by decide +kernel
theorem dX5_isWell_37 : decode cX5_isWell 37 = .ok (.invokevirtual 152, 3) := by decide +kernel
theorem dX5_isWell_40 : decode cX5_isWell 40 = .ok (.aload_n 0, 1) := by decide +kernel
theorem dX5_isWell_41 : decode cX5_isWell 41 = .ok (.iload_n 1, 1) := by decide +kernel
theorem dX5_isWell_42 : decode cX5_isWell 42 = .ok (.invokevirtual 149, 3) := by decide +kernel
theorem dX5_isWell_45 : decode cX5_isWell 45 = .ok (.if_icmp .ne 11, 3) := by decide +kernel
theorem dX5_isWell_48 : decode cX5_isWell 48 = .ok (.aload_n 0, 1) := by decide +kernel
theorem dX5_isWell_49 : decode cX5_isWell 49 = .ok (.iload_n 1, 1) := by decide +kernel
theorem dX5_isWell_50 : decode cX5_isWell 50 = .ok (.invokevirtual 280, 3) := by decide +kernel
theorem dX5_isWell_53 : decode cX5_isWell 53 = .ok (.ifCond .ne 5, 3) := by decide +kernel
theorem dX5_isWell_56 : decode cX5_isWell 56 = .ok (.iconst 0, 1) := by decide +kernel
theorem dX5_isWell_57 : decode cX5_isWell 57 = .ok (.ireturn, 1) := by decide +kernel
theorem dX5_isWell_58 : decode cX5_isWell 58 = .ok (.iinc 1 1, 3) := by decide +kernel
theorem dX5_isWell_61 : decode cX5_isWell 61 = .ok (.goto (-40), 3) := by decide +kernel
theorem dX5_isWell_64 : decode cX5_isWell 64 = .ok (.iconst 1, 1) := by decide +kernel
theorem dX5_isWell_65 : decode cX5_isWell 65 = .ok (.ireturn, 1) := by decide +kernel
theorem dX5_meanShame_0 : decode cX5_meanShame 0 = .ok (.aload_n 0, 1) := by decide +kernel
theorem dX5_meanShame_1 : decode cX5_meanShame 1 = .ok (.getfield 12, 3) := by decide +kernel
theorem dX5_meanShame_4 : decode cX5_meanShame 4 = .ok (.getfield 199, 3) := by decide +kernel
theorem dX5_meanShame_7 : decode cX5_meanShame 7 = .ok (.ifCond .ne 14, 3) := by decide +kernel
theorem dX5_meanShame_10 : decode cX5_meanShame 10 = .ok (.new 283, 3) := by decide +kernel
theorem dX5_meanShame_13 : decode cX5_meanShame 13 = .ok (.dup, 1) := by decide +kernel
theorem dX5_meanShame_14 : decode cX5_meanShame 14 = .ok (.ldc_w 285, 3) := by decide +kernel
theorem dX5_meanShame_17 : decode cX5_meanShame 17 = .ok (.invokespecial 287, 3) := by decide +kernel
theorem dX5_meanShame_20 : decode cX5_meanShame 20 = .ok (.athrow, 1) := by decide +kernel
theorem dX5_meanShame_21 : decode cX5_meanShame 21 = .ok (.iconst 0, 1) := by decide +kernel
theorem dX5_meanShame_22 : decode cX5_meanShame 22 = .ok (.istore_n 1, 1) := by decide +kernel
theorem dX5_meanShame_23 : decode cX5_meanShame 23 = .ok (.iconst 0, 1) := by decide +kernel
theorem dX5_meanShame_24 : decode cX5_meanShame 24 = .ok (.istore_n 2, 1) := by decide +kernel
theorem dX5_meanShame_25 : decode cX5_meanShame 25 = .ok (.iload_n 2, 1) := by decide +kernel
theorem dX5_meanShame_26 : decode cX5_meanShame 26 = .ok (.aload_n 0, 1) := by decide +kernel
theorem dX5_meanShame_27 : decode cX5_meanShame 27 = .ok (.getfield 12, 3) := by decide +kernel
theorem dX5_meanShame_30 : decode cX5_meanShame 30 = .ok (.getfield 199, 3) := by decide +kernel
theorem dX5_meanShame_33 : decode cX5_meanShame 33 = .ok (.if_icmp .ge 21, 3) := by decide +kernel
theorem dX5_meanShame_36 : decode cX5_meanShame 36 = .ok (.iload_n 1, 1) := by decide +kernel
theorem dX5_meanShame_37 : decode cX5_meanShame 37 = .ok (.aload_n 0, 1) := by decide +kernel
theorem dX5_meanShame_38 : decode cX5_meanShame 38 = .ok (.getfield 12, 3) := by decide +kernel
theorem dX5_meanShame_41 : decode cX5_meanShame 41 = .ok (.getfield 173, 3) := by decide +kernel
theorem dX5_meanShame_44 : decode cX5_meanShame 44 = .ok (.iload_n 2, 1) := by decide +kernel
theorem dX5_meanShame_45 : decode cX5_meanShame 45 = .ok (.iaload, 1) := by decide +kernel
theorem dX5_meanShame_46 : decode cX5_meanShame 46 = .ok (.iadd, 1) := by decide +kernel
theorem dX5_meanShame_47 : decode cX5_meanShame 47 = .ok (.istore_n 1, 1) := by decide +kernel
theorem dX5_meanShame_48 : decode cX5_meanShame 48 = .ok (.iinc 2 1, 3) := by decide +kernel
theorem dX5_meanShame_51 : decode cX5_meanShame 51 = .ok (.goto (-26), 3) := by decide +kernel
theorem dX5_meanShame_54 : decode cX5_meanShame 54 = .ok (.iload_n 1, 1) := by decide +kernel
theorem dX5_meanShame_55 : decode cX5_meanShame 55 = .ok (.i2d, 1) := by decide +kernel
theorem dX5_meanShame_56 : decode cX5_meanShame 56 = .ok (.aload_n 0, 1) := by decide +kernel
theorem dX5_meanShame_57 : decode cX5_meanShame 57 = .ok (.getfield 12, 3) := by decide +kernel
theorem dX5_meanShame_60 : decode cX5_meanShame 60 = .ok (.getfield 199, 3) := by decide +kernel
theorem dX5_meanShame_63 : decode cX5_meanShame 63 = .ok (.i2d, 1) := by decide +kernel
theorem dX5_meanShame_64 : decode cX5_meanShame 64 = .ok (.ddiv, 1) := by decide +kernel
theorem dX5_meanShame_65 : decode cX5_meanShame 65 = .ok (.dreturn, 1) := by decide +kernel
theorem dX5_errorShare_0 : decode cX5_errorShare 0 = .ok (.iconst 0, 1) := by decide +kernel
theorem dX5_errorShare_1 : decode cX5_errorShare 1 = .ok (.istore_n 1, 1) := by decide +kernel
theorem dX5_errorShare_2 : decode cX5_errorShare 2 = .ok (.iconst 0, 1) := by decide +kernel
theorem dX5_errorShare_3 : decode cX5_errorShare 3 = .ok (.istore_n 2, 1) := by decide +kernel
theorem dX5_errorShare_4 : decode cX5_errorShare 4 = .ok (.iload_n 2, 1) := by decide +kernel
theorem dX5_errorShare_5 : decode cX5_errorShare 5 = .ok (.aload_n 0, 1) := by decide +kernel
theorem dX5_errorShare_6 : decode cX5_errorShare 6 = .ok (.getfield 12, 3) := by decide +kernel
theorem dX5_errorShare_9 : decode cX5_errorShare 9 = .ok (.getfield 188, 3) := by decide +kernel
theorem dX5_errorShare_12 : decode cX5_errorShare 12 = .ok (.if_icmp .ge 21, 3) := by decide +kernel
theorem dX5_errorShare_15 : decode cX5_errorShare 15 = .ok (.iload_n 1, 1) := by decide +kernel
theorem dX5_errorShare_16 : decode cX5_errorShare 16 = .ok (.aload_n 0, 1) := by decide +kernel
theorem dX5_errorShare_17 : decode cX5_errorShare 17 = .ok (.getfield 12, 3) := by decide +kernel
theorem dX5_errorShare_20 : decode cX5_errorShare 20 = .ok (.getfield 219, 3) := by decide +kernel
theorem dX5_errorShare_23 : decode cX5_errorShare 23 = .ok (.iload_n 2, 1) := by decide +kernel
theorem dX5_errorShare_24 : decode cX5_errorShare 24 = .ok (.iaload, 1) := by decide +kernel
theorem dX5_errorShare_25 : decode cX5_errorShare 25 = .ok (.iadd, 1) := by decide +kernel
theorem dX5_errorShare_26 : decode cX5_errorShare 26 = .ok (.istore_n 1, 1) := by decide +kernel
theorem dX5_errorShare_27 : decode cX5_errorShare 27 = .ok (.iinc 2 1, 3) := by decide +kernel
theorem dX5_errorShare_30 : decode cX5_errorShare 30 = .ok (.goto (-26), 3) := by decide +kernel
theorem dX5_errorShare_33 : decode cX5_errorShare 33 = .ok (.iload_n 1, 1) := by decide +kernel
theorem dX5_errorShare_34 : decode cX5_errorShare 34 = .ok (.ifCond .ne 14, 3) := by decide +kernel
theorem dX5_errorShare_37 : decode cX5_errorShare 37 = .ok (.new 283, 3) := by decide +kernel
theorem dX5_errorShare_40 : decode cX5_errorShare 40 = .ok (.dup, 1) := by decide +kernel
theorem dX5_errorShare_41 : decode cX5_errorShare 41 = .ok (.ldc_w 288, 3) := by decide +kernel
theorem dX5_errorShare_44 : decode cX5_errorShare 44 = .ok (.invokespecial 287, 3) := by decide +kernel
theorem dX5_errorShare_47 : decode cX5_errorShare 47 = .ok (.athrow, 1) := by decide +kernel
theorem dX5_errorShare_48 : decode cX5_errorShare 48 = .ok (.aload_n 0, 1) := by decide +kernel
theorem dX5_errorShare_49 : decode cX5_errorShare 49 = .ok (.getfield 12, 3) := by decide +kernel
theorem dX5_errorShare_52 : decode cX5_errorShare 52 = .ok (.iconst 1, 1) := by decide +kernel
theorem dX5_errorShare_53 : decode cX5_errorShare 53 = .ok (.invokevirtual 290, 3) := by decide +kernel
theorem dX5_errorShare_56 : decode cX5_errorShare 56 = .ok (.i2f, 1) := by decide +kernel
theorem dX5_errorShare_57 : decode cX5_errorShare 57 = .ok (.iload_n 1, 1) := by decide +kernel
theorem dX5_errorShare_58 : decode cX5_errorShare 58 = .ok (.i2f, 1) := by decide +kernel
theorem dX5_errorShare_59 : decode cX5_errorShare 59 = .ok (.fdiv, 1) := by decide +kernel
theorem dX5_errorShare_60 : decode cX5_errorShare 60 = .ok (.freturn, 1) := by decide +kernel
theorem dX5_undo_0 : decode cX5_undo 0 = .ok (.aload_n 0, 1) := by decide +kernel
theorem dX5_undo_1 : decode cX5_undo 1 = .ok (.getfield 28, 3) := by decide +kernel
theorem dX5_undo_4 : decode cX5_undo 4 = .ok (.getfield 274, 3) := by decide +kernel
theorem dX5_undo_7 : decode cX5_undo 7 = .ok (.ifCond .ne 14, 3) := by decide +kernel
theorem dX5_undo_10 : decode cX5_undo 10 = .ok (.new 236, 3) := by decide +kernel
theorem dX5_undo_13 : decode cX5_undo 13 = .ok (.dup, 1) := by decide +kernel
theorem dX5_undo_14 : decode cX5_undo 14 = .ok (.ldc_w 293, 3) := by decide +kernel
theorem dX5_undo_17 : decode cX5_undo 17 = .ok (.invokespecial 240, 3) := by decide +kernel
theorem dX5_undo_20 : decode cX5_undo 20 = .ok (.athrow, 1) := by decide +kernel
theorem dX5_undo_21 : decode cX5_undo 21 = .ok (.aload_n 0, 1) := by decide +kernel
theorem dX5_undo_22 : decode cX5_undo 22 = .ok (.getfield 28, 3) := by decide +kernel
theorem dX5_undo_25 : decode cX5_undo 25 = .ok (.aload_n 0, 1) := by decide +kernel
theorem dX5_undo_26 : decode cX5_undo 26 = .ok (.getfield 12, 3) := by decide +kernel
theorem dX5_undo_29 : decode cX5_undo 29 = .ok (.invokevirtual 295, 3) := by decide +kernel
theorem dX5_undo_32 : decode cX5_undo 32 = .ok (.aload_n 0, 1) := by decide +kernel
theorem dX5_undo_33 : decode cX5_undo 33 = .ok (.getfield 28, 3) := by decide +kernel
theorem dX5_undo_36 : decode cX5_undo 36 = .ok (.getfield 274, 3) := by decide +kernel
theorem dX5_undo_39 : decode cX5_undo 39 = .ok (.ireturn, 1) := by decide +kernel
theorem dX5_save_0 : decode cX5_save 0 = .ok (.aload_n 0, 1) := by decide +kernel
theorem dX5_save_1 : decode cX5_save 1 = .ok (.getfield 22, 3) := by decide +kernel
theorem dX5_save_4 : decode cX5_save 4 = .ok (.aload_n 0, 1) := by decide +kernel
theorem dX5_save_5 : decode cX5_save 5 = .ok (.getfield 12, 3) := by decide +kernel
theorem dX5_save_8 : decode cX5_save 8 = .ok (.invokevirtual 57, 3) := by decide +kernel
theorem dX5_save_11 : decode cX5_save 11 = .ok (.aload_n 0, 1) := by decide +kernel
theorem dX5_save_12 : decode cX5_save 12 = .ok (.iconst 1, 1) := by decide +kernel
theorem dX5_save_13 : decode cX5_save 13 = .ok (.putfield 298, 3) := by decide +kernel
theorem dX5_save_16 : decode cX5_save 16 = .ok (.aload_n 0, 1) := by decide +kernel
theorem dX5_save_17 : decode cX5_save 17 = .ok (.getfield 12, 3) := by decide +kernel
theorem dX5_save_20 : decode cX5_save 20 = .ok (.getfield 188, 3) := by decide +kernel
theorem dX5_save_23 : decode cX5_save 23 = .ok (.ireturn, 1) := by decide +kernel
theorem dX5_restore_0 : decode cX5_restore 0 = .ok (.aload_n 0, 1) := by decide +kernel
theorem dX5_restore_1 : decode cX5_restore 1 = .ok (.getfield 298, 3) := by decide +kernel
theorem dX5_restore_4 : decode cX5_restore 4 = .ok (.ifCond .ne 14, 3) := by decide +kernel
theorem dX5_restore_7 : decode cX5_restore 7 = .ok (.new 236, 3) := by decide +kernel
theorem dX5_restore_10 : decode cX5_restore 10 = .ok (.dup, 1) := by decide +kernel
theorem dX5_restore_11 : decode cX5_restore 11 = .ok (.ldc_w 302, 3) := by decide +kernel
theorem dX5_restore_14 : decode cX5_restore 14 = .ok (.invokespecial 240, 3) := by decide +kernel
theorem dX5_restore_17 : decode cX5_restore 17 = .ok (.athrow, 1) := by decide +kernel
theorem dX5_restore_18 : decode cX5_restore 18 = .ok (.aload_n 0, 1) := by decide +kernel
theorem dX5_restore_19 : decode cX5_restore 19 = .ok (.getfield 12, 3) := by decide +kernel
theorem dX5_restore_22 : decode cX5_restore 22 = .ok (.aload_n 0, 1) := by decide +kernel
theorem dX5_restore_23 : decode cX5_restore 23 = .ok (.getfield 22, 3) := by decide +kernel
theorem dX5_restore_26 : decode cX5_restore 26 = .ok (.invokevirtual 57, 3) := by decide +kernel
theorem dX5_restore_29 : decode cX5_restore 29 = .ok (.aload_n 0, 1) := by decide +kernel
theorem dX5_restore_30 : decode cX5_restore 30 = .ok (.getfield 28, 3) := by decide +kernel
theorem dX5_restore_33 : decode cX5_restore 33 = .ok (.iconst 0, 1) := by decide +kernel
theorem dX5_restore_34 : decode cX5_restore 34 = .ok (.putfield 274, 3) := by decide +kernel
theorem dX5_restore_37 : decode cX5_restore 37 = .ok (.aload_n 0, 1) := by decide +kernel
theorem dX5_restore_38 : decode cX5_restore 38 = .ok (.getfield 12, 3) := by decide +kernel
theorem dX5_restore_41 : decode cX5_restore 41 = .ok (.getfield 188, 3) := by decide +kernel
theorem dX5_restore_44 : decode cX5_restore 44 = .ok (.ireturn, 1) := by decide +kernel
theorem dX5_settle_0 : decode cX5_settle 0 = .ok (.iload_n 1, 1) := by decide +kernel
theorem dX5_settle_1 : decode cX5_settle 1 = .ok (.iconst (-1), 1) := by decide +kernel
theorem dX5_settle_2 : decode cX5_settle 2 = .ok (.if_icmp .ne 14, 3) := by decide +kernel
theorem dX5_settle_5 : decode cX5_settle 5 = .ok (.new 99, 3) := by decide +kernel
theorem dX5_settle_8 : decode cX5_settle 8 = .ok (.dup, 1) := by decide +kernel
theorem dX5_settle_9 : decode cX5_settle 9 = .ok (.ldc_w 304, 3) := by decide +kernel
theorem dX5_settle_12 : decode cX5_settle 12 = .ok (.invokespecial 103, 3) := by decide +kernel
theorem dX5_settle_15 : decode cX5_settle 15 = .ok (.athrow, 1) := by decide +kernel
theorem dX5_settle_16 : decode cX5_settle 16 = .ok (.iload_n 1, 1) := by decide +kernel
theorem dX5_settle_17 : decode cX5_settle 17 = .ok (.bipush (-2), 2) := by decide +kernel
theorem dX5_settle_19 : decode cX5_settle 19 = .ok (.if_icmp .ne 14, 3) := by decide +kernel
theorem dX5_settle_22 : decode cX5_settle 22 = .ok (.new 106, 3) := by decide +kernel
theorem dX5_settle_25 : decode cX5_settle 25 = .ok (.dup, 1) := by decide +kernel
theorem dX5_settle_26 : decode cX5_settle 26 = .ok (.ldc_w 306, 3) := by decide +kernel
theorem dX5_settle_29 : decode cX5_settle 29 = .ok (.invokespecial 110, 3) := by decide +kernel
theorem dX5_settle_32 : decode cX5_settle 32 = .ok (.athrow, 1) := by decide +kernel
theorem dX5_settle_33 : decode cX5_settle 33 = .ok (.iload_n 1, 1) := by decide +kernel
theorem dX5_settle_34 : decode cX5_settle 34 = .ok (.bipush (-3), 2) := by decide +kernel
theorem dX5_settle_36 : decode cX5_settle 36 = .ok (.if_icmp .ne 14, 3) := by decide +kernel
theorem dX5_settle_39 : decode cX5_settle 39 = .ok (.new 248, 3) := by decide +kernel
theorem dX5_settle_42 : decode cX5_settle 42 = .ok (.dup, 1) := by decide +kernel
theorem dX5_settle_43 : decode cX5_settle 43 = .ok (.ldc_w 308, 3) := by decide +kernel
theorem dX5_settle_46 : decode cX5_settle 46 = .ok (.invokespecial 252, 3) := by decide +kernel
theorem dX5_settle_49 : decode cX5_settle 49 = .ok (.athrow, 1) := by decide +kernel
theorem dX5_settle_50 : decode cX5_settle 50 = .ok (.aload_n 0, 1) := by decide +kernel
theorem dX5_settle_51 : decode cX5_settle 51 = .ok (.getfield 28, 3) := by decide +kernel
theorem dX5_settle_54 : decode cX5_settle 54 = .ok (.aload_n 0, 1) := by decide +kernel
theorem dX5_settle_55 : decode cX5_settle 55 = .ok (.getfield 16, 3) := by decide +kernel
theorem dX5_settle_58 : decode cX5_settle 58 = .ok (.invokevirtual 255, 3) := by decide +kernel
theorem dX5_settle_61 : decode cX5_settle 61 = .ok (.iload_n 1, 1) := by decide +kernel
theorem dX5_settle_62 : decode cX5_settle 62 = .ok (.ireturn, 1) := by decide +kernel
theorem dX5_refuse_0 : decode cX5_refuse 0 = .ok (.aload_n 0, 1) := by decide +kernel
theorem dX5_refuse_1 : decode cX5_refuse 1 = .ok (.getfield 35, 3) := by decide +kernel
theorem dX5_refuse_4 : decode cX5_refuse 4 = .ok (.iload_n 1, 1) := by decide +kernel
theorem dX5_refuse_5 : decode cX5_refuse 5 = .ok (.iload_n 2, 1) := by decide +kernel
theorem dX5_refuse_6 : decode cX5_refuse 6 = .ok (.invokevirtual 310, 3) := by decide +kernel
theorem dX5_refuse_9 : decode cX5_refuse 9 = .ok (.bipush (-3), 2) := by decide +kernel
theorem dX5_refuse_11 : decode cX5_refuse 11 = .ok (.ireturn, 1) := by decide +kernel
theorem dX5_addHouse_0 : decode cX5_addHouse 0 = .ok (.iload_n 1, 1) := by decide +kernel
theorem dX5_addHouse_1 : decode cX5_addHouse 1 = .ok (.ifCond .lt 9, 3) := by decide +kernel
theorem dX5_addHouse_4 : decode cX5_addHouse 4 = .ok (.iload_n 1, 1) := by decide +kernel
theorem dX5_addHouse_5 : decode cX5_addHouse 5 = .ok (.bipush 99, 2) := by decide +kernel
theorem dX5_addHouse_7 : decode cX5_addHouse 7 = .ok (.if_icmp .le 6, 3) := by decide +kernel
theorem dX5_addHouse_10 : decode cX5_addHouse 10 = .ok (.bipush (-2), 2) := by decide +kernel
theorem dX5_addHouse_12 : decode cX5_addHouse 12 = .ok (.ireturn, 1) := by decide +kernel
theorem dX5_addHouse_13 : decode cX5_addHouse 13 = .ok (.aload_n 0, 1) := by decide +kernel
theorem dX5_addHouse_14 : decode cX5_addHouse 14 = .ok (.getfield 12, 3) := by decide +kernel
theorem dX5_addHouse_17 : decode cX5_addHouse 17 = .ok (.getfield 199, 3) := by decide +kernel
theorem dX5_addHouse_20 : decode cX5_addHouse 20 = .ok (.iconst 4, 1) := by decide +kernel
theorem dX5_addHouse_21 : decode cX5_addHouse 21 = .ok (.if_icmp .lt 10, 3) := by decide +kernel
theorem dX5_addHouse_24 : decode cX5_addHouse 24 = .ok (.aload_n 0, 1) := by decide +kernel
theorem dX5_addHouse_25 : decode cX5_addHouse 25 = .ok (.iconst 1, 1) := by decide +kernel
theorem dX5_addHouse_26 : decode cX5_addHouse 26 = .ok (.iconst 4, 1) := by decide +kernel
theorem dX5_addHouse_27 : decode cX5_addHouse 27 = .ok (.invokevirtual 313, 3) := by decide +kernel
theorem dX5_addHouse_30 : decode cX5_addHouse 30 = .ok (.ireturn, 1) := by decide +kernel
theorem dX5_addHouse_31 : decode cX5_addHouse 31 = .ok (.aload_n 0, 1) := by decide +kernel
theorem dX5_addHouse_32 : decode cX5_addHouse 32 = .ok (.getfield 12, 3) := by decide +kernel
theorem dX5_addHouse_35 : decode cX5_addHouse 35 = .ok (.iload_n 1, 1) := by decide +kernel
theorem dX5_addHouse_36 : decode cX5_addHouse 36 = .ok (.invokevirtual 316, 3) := by decide +kernel
theorem dX5_addHouse_39 : decode cX5_addHouse 39 = .ok (.ireturn, 1) := by decide +kernel
theorem dX5_addSheet_0 : decode cX5_addSheet 0 = .ok (.aload_n 0, 1) := by decide +kernel
theorem dX5_addSheet_1 : decode cX5_addSheet 1 = .ok (.getfield 12, 3) := by decide +kernel
theorem dX5_addSheet_4 : decode cX5_addSheet 4 = .ok (.iload_n 1, 1) := by decide +kernel
theorem dX5_addSheet_5 : decode cX5_addSheet 5 = .ok (.invokevirtual 95, 3) := by decide +kernel
theorem dX5_addSheet_8 : decode cX5_addSheet 8 = .ok (.ifCond .ne 5, 3) := by decide +kernel
theorem dX5_addSheet_11 : decode cX5_addSheet 11 = .ok (.iconst (-1), 1) := by decide +kernel
theorem dX5_addSheet_12 : decode cX5_addSheet 12 = .ok (.ireturn, 1) := by decide +kernel
theorem dX5_addSheet_13 : decode cX5_addSheet 13 = .ok (.iload_n 2, 1) := by decide +kernel
theorem dX5_addSheet_14 : decode cX5_addSheet 14 = .ok (.invokestatic 319, 3) := by decide +kernel
theorem dX5_addSheet_17 : decode cX5_addSheet 17 = .ok (.istore_n 3, 1) := by decide +kernel
theorem dX5_addSheet_18 : decode cX5_addSheet 18 = .ok (.iload_n 3, 1) := by decide +kernel
theorem dX5_addSheet_19 : decode cX5_addSheet 19 = .ok (.ifCond .ne 6, 3) := by decide +kernel
theorem dX5_addSheet_22 : decode cX5_addSheet 22 = .ok (.bipush (-2), 2) := by decide +kernel
theorem dX5_addSheet_24 : decode cX5_addSheet 24 = .ok (.ireturn, 1) := by decide +kernel
theorem dX5_addSheet_25 : decode cX5_addSheet 25 = .ok (.aload_n 0, 1) := by decide +kernel
theorem dX5_addSheet_26 : decode cX5_addSheet 26 = .ok (.getfield 12, 3) := by decide +kernel
theorem dX5_addSheet_29 : decode cX5_addSheet 29 = .ok (.getfield 188, 3) := by decide +kernel
theorem dX5_addSheet_32 : decode cX5_addSheet 32 = .ok (.bipush 8, 2) := by decide +kernel
theorem dX5_addSheet_34 : decode cX5_addSheet 34 = .ok (.if_icmp .lt 11, 3) := by decide +kernel
theorem dX5_addSheet_37 : decode cX5_addSheet 37 = .ok (.aload_n 0, 1) := by decide +kernel
theorem dX5_addSheet_38 : decode cX5_addSheet 38 = .ok (.iconst 1, 1) := by decide +kernel
theorem dX5_addSheet_39 : decode cX5_addSheet 39 = .ok (.bipush 8, 2) := by decide +kernel
theorem dX5_addSheet_41 : decode cX5_addSheet 41 = .ok (.invokevirtual 313, 3) := by decide +kernel
theorem dX5_addSheet_44 : decode cX5_addSheet 44 = .ok (.ireturn, 1) := by decide +kernel
theorem dX5_addSheet_45 : decode cX5_addSheet 45 = .ok (.aload_n 0, 1) := by decide +kernel
theorem dX5_addSheet_46 : decode cX5_addSheet 46 = .ok (.getfield 12, 3) := by decide +kernel
theorem dX5_addSheet_49 : decode cX5_addSheet 49 = .ok (.iload_n 1, 1) := by decide +kernel
theorem dX5_addSheet_50 : decode cX5_addSheet 50 = .ok (.iload_n 2, 1) := by decide +kernel
theorem dX5_addSheet_51 : decode cX5_addSheet 51 = .ok (.iload_n 3, 1) := by decide +kernel
theorem dX5_addSheet_52 : decode cX5_addSheet 52 = .ok (.invokevirtual 322, 3) := by decide +kernel
theorem dX5_addSheet_55 : decode cX5_addSheet 55 = .ok (.ireturn, 1) := by decide +kernel
theorem dX5_takeSheet_0 : decode cX5_takeSheet 0 = .ok (.aload_n 0, 1) := by decide +kernel
theorem dX5_takeSheet_1 : decode cX5_takeSheet 1 = .ok (.getfield 12, 3) := by decide +kernel
theorem dX5_takeSheet_4 : decode cX5_takeSheet 4 = .ok (.iload_n 1, 1) := by decide +kernel
theorem dX5_takeSheet_5 : decode cX5_takeSheet 5 = .ok (.invokevirtual 114, 3) := by decide +kernel
theorem dX5_takeSheet_8 : decode cX5_takeSheet 8 = .ok (.ifCond .ne 5, 3) := by decide +kernel
theorem dX5_takeSheet_11 : decode cX5_takeSheet 11 = .ok (.iconst (-1), 1) := by decide +kernel
theorem dX5_takeSheet_12 : decode cX5_takeSheet 12 = .ok (.ireturn, 1) := by decide +kernel
theorem dX5_takeSheet_13 : decode cX5_takeSheet 13 = .ok (.aload_n 0, 1) := by decide +kernel
theorem dX5_takeSheet_14 : decode cX5_takeSheet 14 = .ok (.getfield 12, 3) := by decide +kernel
theorem dX5_takeSheet_17 : decode cX5_takeSheet 17 = .ok (.iload_n 1, 1) := by decide +kernel
theorem dX5_takeSheet_18 : decode cX5_takeSheet 18 = .ok (.invokevirtual 326, 3) := by decide +kernel
theorem dX5_takeSheet_21 : decode cX5_takeSheet 21 = .ok (.aload_n 0, 1) := by decide +kernel
theorem dX5_takeSheet_22 : decode cX5_takeSheet 22 = .ok (.getfield 12, 3) := by decide +kernel
theorem dX5_takeSheet_25 : decode cX5_takeSheet 25 = .ok (.getfield 188, 3) := by decide +kernel
theorem dX5_takeSheet_28 : decode cX5_takeSheet 28 = .ok (.ireturn, 1) := by decide +kernel
theorem dX5_setLetter_0 : decode cX5_setLetter 0 = .ok (.aload_n 0, 1) := by decide +kernel
theorem dX5_setLetter_1 : decode cX5_setLetter 1 = .ok (.getfield 12, 3) := by decide +kernel
theorem dX5_setLetter_4 : decode cX5_setLetter 4 = .ok (.iload_n 1, 1) := by decide +kernel
theorem dX5_setLetter_5 : decode cX5_setLetter 5 = .ok (.iload_n 2, 1) := by decide +kernel
theorem dX5_setLetter_6 : decode cX5_setLetter 6 = .ok (.invokevirtual 124, 3) := by decide +kernel
theorem dX5_setLetter_9 : decode cX5_setLetter 9 = .ok (.ifCond .ne 5, 3) := by decide +kernel
theorem dX5_setLetter_12 : decode cX5_setLetter 12 = .ok (.iconst (-1), 1) := by decide +kernel
theorem dX5_setLetter_13 : decode cX5_setLetter 13 = .ok (.ireturn, 1) := by decide +kernel
theorem dX5_setLetter_14 : decode cX5_setLetter 14 = .ok (.iload_n 3, 1) := by decide +kernel
theorem dX5_setLetter_15 : decode cX5_setLetter 15 = .ok (.bipush 97, 2) := by decide +kernel
theorem dX5_setLetter_17 : decode cX5_setLetter 17 = .ok (.if_icmp .lt 9, 3) := by decide +kernel
theorem dX5_setLetter_20 : decode cX5_setLetter 20 = .ok (.iload_n 3, 1) := by decide +kernel
theorem dX5_setLetter_21 : decode cX5_setLetter 21 = .ok (.bipush 102, 2) := by decide +kernel
theorem dX5_setLetter_23 : decode cX5_setLetter 23 = .ok (.if_icmp .le 6, 3) := by decide +kernel
theorem dX5_setLetter_26 : decode cX5_setLetter 26 = .ok (.bipush (-2), 2) := by decide +kernel
theorem dX5_setLetter_28 : decode cX5_setLetter 28 = .ok (.ireturn, 1) := by decide +kernel
theorem dX5_setLetter_29 : decode cX5_setLetter 29 = .ok (.iload_n 3, 1) := by decide +kernel
theorem dX5_setLetter_30 : decode cX5_setLetter 30 = .ok (.bipush 97, 2) := by decide +kernel
theorem dX5_setLetter_32 : decode cX5_setLetter 32 = .ok (.isub, 1) := by decide +kernel
theorem dX5_setLetter_33 : decode cX5_setLetter 33 = .ok (.iconst 1, 1) := by decide +kernel
theorem dX5_setLetter_34 : decode cX5_setLetter 34 = .ok (.iadd, 1) := by decide +kernel
theorem dX5_setLetter_35 : decode cX5_setLetter 35 = .ok (.istore 4, 2) := by decide +kernel
theorem dX5_setLetter_37 : decode cX5_setLetter 37 = .ok (.iload 4, 2) := by decide +kernel
theorem dX5_setLetter_39 : decode cX5_setLetter 39 = .ok (.aload_n 0, 1) := by decide +kernel
theorem dX5_setLetter_40 : decode cX5_setLetter 40 = .ok (.getfield 12, 3) := by decide +kernel
theorem dX5_setLetter_43 : decode cX5_setLetter 43 = .ok (.iload_n 1, 1) := by decide +kernel
theorem dX5_setLetter_44 : decode cX5_setLetter 44 = .ok (.iload_n 2, 1) := by decide +kernel
theorem dX5_setLetter_45 : decode cX5_setLetter 45 = .ok (.invokevirtual 133, 3) := by decide +kernel
theorem dX5_setLetter_48 : decode cX5_setLetter 48 = .ok (.if_icmp .ne 10, 3) := by decide +kernel
theorem dX5_setLetter_51 : decode cX5_setLetter 51 = .ok (.aload_n 0, 1) := by decide +kernel
theorem dX5_setLetter_52 : decode cX5_setLetter 52 = .ok (.iconst 2, 1) := by decide +kernel
theorem dX5_setLetter_53 : decode cX5_setLetter 53 = .ok (.iload_n 2, 1) := by decide +kernel
theorem dX5_setLetter_54 : decode cX5_setLetter 54 = .ok (.invokevirtual 313, 3) := by decide +kernel
theorem dX5_setLetter_57 : decode cX5_setLetter 57 = .ok (.ireturn, 1) := by decide +kernel
theorem dX5_setLetter_58 : decode cX5_setLetter 58 = .ok (.iload 4, 2) := by decide +kernel
theorem dX5_setLetter_60 : decode cX5_setLetter 60 = .ok (.aload_n 0, 1) := by decide +kernel
theorem dX5_setLetter_61 : decode cX5_setLetter 61 = .ok (.getfield 12, 3) := by decide +kernel
theorem dX5_setLetter_64 : decode cX5_setLetter 64 = .ok (.iload_n 1, 1) := by decide +kernel
theorem dX5_setLetter_65 : decode cX5_setLetter 65 = .ok (.iload_n 2, 1) := by decide +kernel
theorem dX5_setLetter_66 : decode cX5_setLetter 66 = .ok (.invokevirtual 130, 3) := by decide +kernel
theorem dX5_setLetter_69 : decode cX5_setLetter 69 = .ok (.if_icmp .ne 10, 3) := by decide +kernel
theorem dX5_setLetter_72 : decode cX5_setLetter 72 = .ok (.aload_n 0, 1) := by decide +kernel
theorem dX5_setLetter_73 : decode cX5_setLetter 73 = .ok (.iconst 3, 1) := by decide +kernel
theorem dX5_setLetter_74 : decode cX5_setLetter 74 = .ok (.iload_n 2, 1) := by decide +kernel
theorem dX5_setLetter_75 : decode cX5_setLetter 75 = .ok (.invokevirtual 313, 3) := by decide +kernel
theorem dX5_setLetter_78 : decode cX5_setLetter 78 = .ok (.ireturn, 1) := by decide +kernel
theorem dX5_setLetter_79 : decode cX5_setLetter 79 = .ok (.aload_n 0, 1) := by decide +kernel
theorem dX5_setLetter_80 : decode cX5_setLetter 80 = .ok (.getfield 12, 3) := by decide +kernel
theorem dX5_setLetter_83 : decode cX5_setLetter 83 = .ok (.iload_n 1, 1) := by decide +kernel
theorem dX5_setLetter_84 : decode cX5_setLetter 84 = .ok (.iload_n 2, 1) := by decide +kernel
theorem dX5_setLetter_85 : decode cX5_setLetter 85 = .ok (.iload 4, 2) := by decide +kernel
theorem dX5_setLetter_87 : decode cX5_setLetter 87 = .ok (.invokevirtual 329, 3) := by decide +kernel
theorem dX5_setLetter_90 : decode cX5_setLetter 90 = .ok (.aload_n 0, 1) := by decide +kernel
theorem dX5_setLetter_91 : decode cX5_setLetter 91 = .ok (.getfield 12, 3) := by decide +kernel
theorem dX5_setLetter_94 : decode cX5_setLetter 94 = .ok (.iload_n 1, 1) := by decide +kernel
theorem dX5_setLetter_95 : decode cX5_setLetter 95 = .ok (.iconst 1, 1) := by decide +kernel
theorem dX5_setLetter_96 : decode cX5_setLetter 96 = .ok (.invokevirtual 333, 3) := by decide +kernel
theorem dX5_setLetter_99 : decode cX5_setLetter 99 = .ok (.ireturn, 1) := by decide +kernel
theorem dX5_sellLicence_0 : decode cX5_sellLicence 0 = .ok (.aload_n 0, 1) := by decide +kernel
theorem dX5_sellLicence_1 : decode cX5_sellLicence 1 = .ok (.getfield 12, 3) := by decide +kernel
theorem dX5_sellLicence_4 : decode cX5_sellLicence 4 = .ok (.iload_n 1, 1) := by decide +kernel
theorem dX5_sellLicence_5 : decode cX5_sellLicence 5 = .ok (.iload_n 2, 1) := by decide +kernel
theorem dX5_sellLicence_6 : decode cX5_sellLicence 6 = .ok (.invokevirtual 124, 3) := by decide +kernel
theorem dX5_sellLicence_9 : decode cX5_sellLicence 9 = .ok (.ifCond .ne 5, 3) := by decide +kernel
theorem dX5_sellLicence_12 : decode cX5_sellLicence 12 = .ok (.iconst (-1), 1) := by decide +kernel
theorem dX5_sellLicence_13 : decode cX5_sellLicence 13 = .ok (.ireturn, 1) := by decide +kernel
theorem dX5_sellLicence_14 : decode cX5_sellLicence 14 = .ok (.aload_n 0, 1) := by decide +kernel
theorem dX5_sellLicence_15 : decode cX5_sellLicence 15 = .ok (.getfield 12, 3) := by decide +kernel
theorem dX5_sellLicence_18 : decode cX5_sellLicence 18 = .ok (.iload_n 1, 1) := by decide +kernel
theorem dX5_sellLicence_19 : decode cX5_sellLicence 19 = .ok (.iload_n 2, 1) := by decide +kernel
theorem dX5_sellLicence_20 : decode cX5_sellLicence 20 = .ok (.invokevirtual 140, 3) := by decide +kernel
theorem dX5_sellLicence_23 : decode cX5_sellLicence 23 = .ok (.istore_n 3, 1) := by decide +kernel
theorem dX5_sellLicence_24 : decode cX5_sellLicence 24 = .ok (.aload_n 0, 1) := by decide +kernel
theorem dX5_sellLicence_25 : decode cX5_sellLicence 25 = .ok (.getfield 12, 3) := by decide +kernel
theorem dX5_sellLicence_28 : decode cX5_sellLicence 28 = .ok (.getfield 159, 3) := by decide +kernel
theorem dX5_sellLicence_31 : decode cX5_sellLicence 31 = .ok (.iload_n 1, 1) := by decide +kernel
theorem dX5_sellLicence_32 : decode cX5_sellLicence 32 = .ok (.iaload, 1) := by decide +kernel
theorem dX5_sellLicence_33 : decode cX5_sellLicence 33 = .ok (.istore 4, 2) := by decide +kernel
theorem dX5_sellLicence_35 : decode cX5_sellLicence 35 = .ok (.aload_n 0, 1) := by decide +kernel
theorem dX5_sellLicence_36 : decode cX5_sellLicence 36 = .ok (.getfield 12, 3) := by decide +kernel
theorem dX5_sellLicence_39 : decode cX5_sellLicence 39 = .ok (.iload 4, 2) := by decide +kernel
theorem dX5_sellLicence_41 : decode cX5_sellLicence 41 = .ok (.invokevirtual 336, 3) := by decide +kernel
theorem dX5_sellLicence_44 : decode cX5_sellLicence 44 = .ok (.istore 5, 2) := by decide +kernel
theorem dX5_sellLicence_46 : decode cX5_sellLicence 46 = .ok (.iload_n 3, 1) := by decide +kernel
theorem dX5_sellLicence_47 : decode cX5_sellLicence 47 = .ok (.ifCond .ne 10, 3) := by decide +kernel
theorem dX5_sellLicence_50 : decode cX5_sellLicence 50 = .ok (.aload_n 0, 1) := by decide +kernel
theorem dX5_sellLicence_51 : decode cX5_sellLicence 51 = .ok (.iconst 4, 1) := by decide +kernel
theorem dX5_sellLicence_52 : decode cX5_sellLicence 52 = .ok (.iload_n 2, 1) := by decide +kernel
theorem dX5_sellLicence_53 : decode cX5_sellLicence 53 = .ok (.invokevirtual 313, 3) := by decide +kernel
theorem dX5_sellLicence_56 : decode cX5_sellLicence 56 = .ok (.ireturn, 1) := by decide +kernel
theorem dX5_sellLicence_57 : decode cX5_sellLicence 57 = .ok (.iload_n 3, 1) := by decide +kernel
theorem dX5_sellLicence_58 : decode cX5_sellLicence 58 = .ok (.iconst 2, 1) := by decide +kernel
theorem dX5_sellLicence_59 : decode cX5_sellLicence 59 = .ok (.if_icmp .lt 10, 3) := by decide +kernel
theorem dX5_sellLicence_62 : decode cX5_sellLicence 62 = .ok (.aload_n 0, 1) := by decide +kernel
theorem dX5_sellLicence_63 : decode cX5_sellLicence 63 = .ok (.iconst 5, 1) := by decide +kernel
theorem dX5_sellLicence_64 : decode cX5_sellLicence 64 = .ok (.iload_n 2, 1) := by decide +kernel
theorem dX5_sellLicence_65 : decode cX5_sellLicence 65 = .ok (.invokevirtual 313, 3) := by decide +kernel
theorem dX5_sellLicence_68 : decode cX5_sellLicence 68 = .ok (.ireturn, 1) := by decide +kernel
theorem dX5_sellLicence_69 : decode cX5_sellLicence 69 = .ok (.aload_n 0, 1) := by decide +kernel
theorem dX5_sellLicence_70 : decode cX5_sellLicence 70 = .ok (.getfield 12, 3) := by decide +kernel
theorem dX5_sellLicence_73 : decode cX5_sellLicence 73 = .ok (.iload 4, 2) := by decide +kernel
theorem dX5_sellLicence_75 : decode cX5_sellLicence 75 = .ok (.invokevirtual 226, 3) := by decide +kernel
theorem dX5_sellLicence_78 : decode cX5_sellLicence 78 = .ok (.ifCond .eq 20, 3) := by decide +kernel
theorem dX5_sellLicence_81 : decode cX5_sellLicence 81 = .ok (.aload_n 0, 1) := by decide +kernel
theorem dX5_sellLicence_82 : decode cX5_sellLicence 82 = .ok (.bipush 6, 2) := by decide +kernel
theorem dX5_sellLicence_84 : decode cX5_sellLicence 84 = .ok (.aload_n 0, 1) := by decide +kernel
theorem dX5_sellLicence_85 : decode cX5_sellLicence 85 = .ok (.getfield 12, 3) := by decide +kernel
theorem dX5_sellLicence_88 : decode cX5_sellLicence 88 = .ok (.getfield 173, 3) := by decide +kernel
theorem dX5_sellLicence_91 : decode cX5_sellLicence 91 = .ok (.iload 4, 2) := by decide +kernel
theorem dX5_sellLicence_93 : decode cX5_sellLicence 93 = .ok (.iaload, 1) := by decide +kernel
theorem dX5_sellLicence_94 : decode cX5_sellLicence 94 = .ok (.invokevirtual 313, 3) := by decide +kernel
theorem dX5_sellLicence_97 : decode cX5_sellLicence 97 = .ok (.ireturn, 1) := by decide +kernel
theorem dX5_sellLicence_98 : decode cX5_sellLicence 98 = .ok (.iload 5, 2) := by decide +kernel
theorem dX5_sellLicence_100 : decode cX5_sellLicence 100 = .ok (.aload_n 0, 1) := by decide +kernel
theorem dX5_sellLicence_101 : decode cX5_sellLicence 101 = .ok (.getfield 12, 3) := by decide +kernel
theorem dX5_sellLicence_104 : decode cX5_sellLicence 104 = .ok (.getfield 155, 3) := by decide +kernel
theorem dX5_sellLicence_107 : decode cX5_sellLicence 107 = .ok (.iload 4, 2) := by decide +kernel
theorem dX5_sellLicence_109 : decode cX5_sellLicence 109 = .ok (.iaload, 1) := by decide +kernel
theorem dX5_sellLicence_110 : decode cX5_sellLicence 110 = .ok (.if_icmp .le 20, 3) := by decide +kernel
theorem dX5_sellLicence_113 : decode cX5_sellLicence 113 = .ok (.aload_n 0, 1) := by decide +kernel
theorem dX5_sellLicence_114 : decode cX5_sellLicence 114 = .ok (.bipush 7, 2) := by decide +kernel
theorem dX5_sellLicence_116 : decode cX5_sellLicence 116 = .ok (.aload_n 0, 1) := by decide +kernel
theorem dX5_sellLicence_117 : decode cX5_sellLicence 117 = .ok (.getfield 12, 3) := by decide +kernel
theorem dX5_sellLicence_120 : decode cX5_sellLicence 120 = .ok (.getfield 155, 3) := by decide +kernel
theorem dX5_sellLicence_123 : decode cX5_sellLicence 123 = .ok (.iload 4, 2) := by decide +kernel
theorem dX5_sellLicence_125 : decode cX5_sellLicence 125 = .ok (.iaload, 1) := by decide +kernel
theorem dX5_sellLicence_126 : decode cX5_sellLicence 126 = .ok (.invokevirtual 313, 3) := by decide +kernel
theorem dX5_sellLicence_129 : decode cX5_sellLicence 129 = .ok (.ireturn, 1) := by decide +kernel
theorem dX5_sellLicence_130 : decode cX5_sellLicence 130 = .ok (.aload_n 0, 1) := by decide +kernel
theorem dX5_sellLicence_131 : decode cX5_sellLicence 131 = .ok (.getfield 12, 3) := by decide +kernel
theorem dX5_sellLicence_134 : decode cX5_sellLicence 134 = .ok (.getfield 155, 3) := by decide +kernel
theorem dX5_sellLicence_137 : decode cX5_sellLicence 137 = .ok (.iload 4, 2) := by decide +kernel
theorem dX5_sellLicence_139 : decode cX5_sellLicence 139 = .ok (.dup2, 1) := by decide +kernel
theorem dX5_sellLicence_140 : decode cX5_sellLicence 140 = .ok (.iaload, 1) := by decide +kernel
theorem dX5_sellLicence_141 : decode cX5_sellLicence 141 = .ok (.iload 5, 2) := by decide +kernel
theorem dX5_sellLicence_143 : decode cX5_sellLicence 143 = .ok (.isub, 1) := by decide +kernel
theorem dX5_sellLicence_144 : decode cX5_sellLicence 144 = .ok (.iastore, 1) := by decide +kernel
theorem dX5_sellLicence_145 : decode cX5_sellLicence 145 = .ok (.aload_n 0, 1) := by decide +kernel
theorem dX5_sellLicence_146 : decode cX5_sellLicence 146 = .ok (.getfield 12, 3) := by decide +kernel
theorem dX5_sellLicence_149 : decode cX5_sellLicence 149 = .ok (.dup, 1) := by decide +kernel
theorem dX5_sellLicence_150 : decode cX5_sellLicence 150 = .ok (.getfield 339, 3) := by decide +kernel
theorem dX5_sellLicence_153 : decode cX5_sellLicence 153 = .ok (.iload 5, 2) := by decide +kernel
theorem dX5_sellLicence_155 : decode cX5_sellLicence 155 = .ok (.iadd, 1) := by decide +kernel
theorem dX5_sellLicence_156 : decode cX5_sellLicence 156 = .ok (.putfield 339, 3) := by decide +kernel
theorem dX5_sellLicence_159 : decode cX5_sellLicence 159 = .ok (.aload_n 0, 1) := by decide +kernel
theorem dX5_sellLicence_160 : decode cX5_sellLicence 160 = .ok (.getfield 12, 3) := by decide +kernel
theorem dX5_sellLicence_163 : decode cX5_sellLicence 163 = .ok (.getfield 342, 3) := by decide +kernel
theorem dX5_sellLicence_166 : decode cX5_sellLicence 166 = .ok (.iload_n 1, 1) := by decide +kernel
theorem dX5_sellLicence_167 : decode cX5_sellLicence 167 = .ok (.bipush 8, 2) := by decide +kernel
theorem dX5_sellLicence_169 : decode cX5_sellLicence 169 = .ok (.imul, 1) := by decide +kernel
theorem dX5_sellLicence_170 : decode cX5_sellLicence 170 = .ok (.iload_n 2, 1) := by decide +kernel
theorem dX5_sellLicence_171 : decode cX5_sellLicence 171 = .ok (.iadd, 1) := by decide +kernel
theorem dX5_sellLicence_172 : decode cX5_sellLicence 172 = .ok (.iconst 2, 1) := by decide +kernel
theorem dX5_sellLicence_173 : decode cX5_sellLicence 173 = .ok (.iastore, 1) := by decide +kernel
theorem dX5_sellLicence_174 : decode cX5_sellLicence 174 = .ok (.iload 5, 2) := by decide +kernel
theorem dX5_sellLicence_176 : decode cX5_sellLicence 176 = .ok (.ireturn, 1) := by decide +kernel
theorem dX5_takeFine_0 : decode cX5_takeFine 0 = .ok (.aload_n 0, 1) := by decide +kernel
theorem dX5_takeFine_1 : decode cX5_takeFine 1 = .ok (.getfield 12, 3) := by decide +kernel
theorem dX5_takeFine_4 : decode cX5_takeFine 4 = .ok (.iload_n 1, 1) := by decide +kernel
theorem dX5_takeFine_5 : decode cX5_takeFine 5 = .ok (.iload_n 2, 1) := by decide +kernel
theorem dX5_takeFine_6 : decode cX5_takeFine 6 = .ok (.invokevirtual 124, 3) := by decide +kernel
theorem dX5_takeFine_9 : decode cX5_takeFine 9 = .ok (.ifCond .ne 5, 3) := by decide +kernel
theorem dX5_takeFine_12 : decode cX5_takeFine 12 = .ok (.iconst (-1), 1) := by decide +kernel
theorem dX5_takeFine_13 : decode cX5_takeFine 13 = .ok (.ireturn, 1) := by decide +kernel
theorem dX5_takeFine_14 : decode cX5_takeFine 14 = .ok (.aload_n 0, 1) := by decide +kernel
theorem dX5_takeFine_15 : decode cX5_takeFine 15 = .ok (.getfield 12, 3) := by decide +kernel
theorem dX5_takeFine_18 : decode cX5_takeFine 18 = .ok (.getfield 159, 3) := by decide +kernel
theorem dX5_takeFine_21 : decode cX5_takeFine 21 = .ok (.iload_n 1, 1) := by decide +kernel
theorem dX5_takeFine_22 : decode cX5_takeFine 22 = .ok (.iaload, 1) := by decide +kernel
theorem dX5_takeFine_23 : decode cX5_takeFine 23 = .ok (.istore_n 3, 1) := by decide +kernel
theorem dX5_takeFine_24 : decode cX5_takeFine 24 = .ok (.aload_n 0, 1) := by decide +kernel
theorem dX5_takeFine_25 : decode cX5_takeFine 25 = .ok (.getfield 12, 3) := by decide +kernel
theorem dX5_takeFine_28 : decode cX5_takeFine 28 = .ok (.iload_n 1, 1) := by decide +kernel
theorem dX5_takeFine_29 : decode cX5_takeFine 29 = .ok (.iload_n 2, 1) := by decide +kernel
theorem dX5_takeFine_30 : decode cX5_takeFine 30 = .ok (.invokevirtual 146, 3) := by decide +kernel
theorem dX5_takeFine_33 : decode cX5_takeFine 33 = .ok (.istore 4, 2) := by decide +kernel
theorem dX5_takeFine_35 : decode cX5_takeFine 35 = .ok (.aload_n 0, 1) := by decide +kernel
theorem dX5_takeFine_36 : decode cX5_takeFine 36 = .ok (.getfield 12, 3) := by decide +kernel
theorem dX5_takeFine_39 : decode cX5_takeFine 39 = .ok (.iload_n 1, 1) := by decide +kernel
theorem dX5_takeFine_40 : decode cX5_takeFine 40 = .ok (.iload_n 2, 1) := by decide +kernel
theorem dX5_takeFine_41 : decode cX5_takeFine 41 = .ok (.invokevirtual 140, 3) := by decide +kernel
theorem dX5_takeFine_44 : decode cX5_takeFine 44 = .ok (.ifCond .ne 10, 3) := by decide +kernel
theorem dX5_takeFine_47 : decode cX5_takeFine 47 = .ok (.aload_n 0, 1) := by decide +kernel
theorem dX5_takeFine_48 : decode cX5_takeFine 48 = .ok (.iconst 4, 1) := by decide +kernel
theorem dX5_takeFine_49 : decode cX5_takeFine 49 = .ok (.iload_n 2, 1) := by decide +kernel
theorem dX5_takeFine_50 : decode cX5_takeFine 50 = .ok (.invokevirtual 313, 3) := by decide +kernel
theorem dX5_takeFine_53 : decode cX5_takeFine 53 = .ok (.ireturn, 1) := by decide +kernel
theorem dX5_takeFine_54 : decode cX5_takeFine 54 = .ok (.iload 4, 2) := by decide +kernel
theorem dX5_takeFine_56 : decode cX5_takeFine 56 = .ok (.aload_n 0, 1) := by decide +kernel
theorem dX5_takeFine_57 : decode cX5_takeFine 57 = .ok (.getfield 12, 3) := by decide +kernel
theorem dX5_takeFine_60 : decode cX5_takeFine 60 = .ok (.getfield 155, 3) := by decide +kernel
theorem dX5_takeFine_63 : decode cX5_takeFine 63 = .ok (.iload_n 3, 1) := by decide +kernel
theorem dX5_takeFine_64 : decode cX5_takeFine 64 = .ok (.iaload, 1) := by decide +kernel
theorem dX5_takeFine_65 : decode cX5_takeFine 65 = .ok (.if_icmp .le 19, 3) := by decide +kernel
theorem dX5_takeFine_68 : decode cX5_takeFine 68 = .ok (.aload_n 0, 1) := by decide +kernel
theorem dX5_takeFine_69 : decode cX5_takeFine 69 = .ok (.bipush 7, 2) := by decide +kernel
theorem dX5_takeFine_71 : decode cX5_takeFine 71 = .ok (.aload_n 0, 1) := by decide +kernel
theorem dX5_takeFine_72 : decode cX5_takeFine 72 = .ok (.getfield 12, 3) := by decide +kernel
theorem dX5_takeFine_75 : decode cX5_takeFine 75 = .ok (.getfield 155, 3) := by decide +kernel
theorem dX5_takeFine_78 : decode cX5_takeFine 78 = .ok (.iload_n 3, 1) := by decide +kernel
theorem dX5_takeFine_79 : decode cX5_takeFine 79 = .ok (.iaload, 1) := by decide +kernel
theorem dX5_takeFine_80 : decode cX5_takeFine 80 = .ok (.invokevirtual 313, 3) := by decide +kernel
theorem dX5_takeFine_83 : decode cX5_takeFine 83 = .ok (.ireturn, 1) := by decide +kernel
theorem dX5_takeFine_84 : decode cX5_takeFine 84 = .ok (.aload_n 0, 1) := by decide +kernel
theorem dX5_takeFine_85 : decode cX5_takeFine 85 = .ok (.getfield 12, 3) := by decide +kernel
theorem dX5_takeFine_88 : decode cX5_takeFine 88 = .ok (.getfield 155, 3) := by decide +kernel
theorem dX5_takeFine_91 : decode cX5_takeFine 91 = .ok (.iload_n 3, 1) := by decide +kernel
theorem dX5_takeFine_92 : decode cX5_takeFine 92 = .ok (.dup2, 1) := by decide +kernel
theorem dX5_takeFine_93 : decode cX5_takeFine 93 = .ok (.iaload, 1) := by decide +kernel
theorem dX5_takeFine_94 : decode cX5_takeFine 94 = .ok (.iload 4, 2) := by decide +kernel
theorem dX5_takeFine_96 : decode cX5_takeFine 96 = .ok (.isub, 1) := by decide +kernel
theorem dX5_takeFine_97 : decode cX5_takeFine 97 = .ok (.iastore, 1) := by decide +kernel
theorem dX5_takeFine_98 : decode cX5_takeFine 98 = .ok (.aload_n 0, 1) := by decide +kernel
theorem dX5_takeFine_99 : decode cX5_takeFine 99 = .ok (.getfield 12, 3) := by decide +kernel
theorem dX5_takeFine_102 : decode cX5_takeFine 102 = .ok (.getfield 345, 3) := by decide +kernel
theorem dX5_takeFine_105 : decode cX5_takeFine 105 = .ok (.iload_n 3, 1) := by decide +kernel
theorem dX5_takeFine_106 : decode cX5_takeFine 106 = .ok (.dup2, 1) := by decide +kernel
theorem dX5_takeFine_107 : decode cX5_takeFine 107 = .ok (.iaload, 1) := by decide +kernel
theorem dX5_takeFine_108 : decode cX5_takeFine 108 = .ok (.iload 4, 2) := by decide +kernel
theorem dX5_takeFine_110 : decode cX5_takeFine 110 = .ok (.iadd, 1) := by decide +kernel
theorem dX5_takeFine_111 : decode cX5_takeFine 111 = .ok (.iastore, 1) := by decide +kernel
theorem dX5_takeFine_112 : decode cX5_takeFine 112 = .ok (.aload_n 0, 1) := by decide +kernel
theorem dX5_takeFine_113 : decode cX5_takeFine 113 = .ok (.getfield 12, 3) := by decide +kernel
theorem dX5_takeFine_116 : decode cX5_takeFine 116 = .ok (.iload_n 1, 1) := by decide +kernel
theorem dX5_takeFine_117 : decode cX5_takeFine 117 = .ok (.iload_n 2, 1) := by decide +kernel
theorem dX5_takeFine_118 : decode cX5_takeFine 118 = .ok (.aload_n 0, 1) := by decide +kernel
theorem dX5_takeFine_119 : decode cX5_takeFine 119 = .ok (.getfield 12, 3) := by decide +kernel
theorem dX5_takeFine_122 : decode cX5_takeFine 122 = .ok (.iload_n 1, 1) := by decide +kernel
theorem dX5_takeFine_123 : decode cX5_takeFine 123 = .ok (.iload_n 2, 1) := by decide +kernel
theorem dX5_takeFine_124 : decode cX5_takeFine 124 = .ok (.invokevirtual 130, 3) := by decide +kernel
theorem dX5_takeFine_127 : decode cX5_takeFine 127 = .ok (.invokevirtual 329, 3) := by decide +kernel
theorem dX5_takeFine_130 : decode cX5_takeFine 130 = .ok (.iload 4, 2) := by decide +kernel
theorem dX5_takeFine_132 : decode cX5_takeFine 132 = .ok (.ireturn, 1) := by decide +kernel
theorem dX5_addReader_0 : decode cX5_addReader 0 = .ok (.iload_n 1, 1) := by decide +kernel
theorem dX5_addReader_1 : decode cX5_addReader 1 = .ok (.ifCond .lt 19, 3) := by decide +kernel
theorem dX5_addReader_4 : decode cX5_addReader 4 = .ok (.iload_n 1, 1) := by decide +kernel
theorem dX5_addReader_5 : decode cX5_addReader 5 = .ok (.iconst 1, 1) := by decide +kernel
theorem dX5_addReader_6 : decode cX5_addReader 6 = .ok (.if_icmp .gt 14, 3) := by decide +kernel
theorem dX5_addReader_9 : decode cX5_addReader 9 = .ok (.iload_n 2, 1) := by decide +kernel
theorem dX5_addReader_10 : decode cX5_addReader 10 = .ok (.iconst 1, 1) := by decide +kernel
theorem dX5_addReader_11 : decode cX5_addReader 11 = .ok (.if_icmp .lt 9, 3) := by decide +kernel
theorem dX5_addReader_14 : decode cX5_addReader 14 = .ok (.iload_n 2, 1) := by decide +kernel
theorem dX5_addReader_15 : decode cX5_addReader 15 = .ok (.bipush 6, 2) := by decide +kernel
theorem dX5_addReader_17 : decode cX5_addReader 17 = .ok (.if_icmp .le 6, 3) := by decide +kernel
theorem dX5_addReader_20 : decode cX5_addReader 20 = .ok (.bipush (-2), 2) := by decide +kernel
theorem dX5_addReader_22 : decode cX5_addReader 22 = .ok (.ireturn, 1) := by decide +kernel
theorem dX5_addReader_23 : decode cX5_addReader 23 = .ok (.aload_n 0, 1) := by decide +kernel
theorem dX5_addReader_24 : decode cX5_addReader 24 = .ok (.getfield 12, 3) := by decide +kernel
theorem dX5_addReader_27 : decode cX5_addReader 27 = .ok (.getfield 348, 3) := by decide +kernel
theorem dX5_addReader_30 : decode cX5_addReader 30 = .ok (.iconst 5, 1) := by decide +kernel
theorem dX5_addReader_31 : decode cX5_addReader 31 = .ok (.if_icmp .lt 10, 3) := by decide +kernel
theorem dX5_addReader_34 : decode cX5_addReader 34 = .ok (.aload_n 0, 1) := by decide +kernel
theorem dX5_addReader_35 : decode cX5_addReader 35 = .ok (.iconst 1, 1) := by decide +kernel
theorem dX5_addReader_36 : decode cX5_addReader 36 = .ok (.iconst 5, 1) := by decide +kernel
theorem dX5_addReader_37 : decode cX5_addReader 37 = .ok (.invokevirtual 313, 3) := by decide +kernel
theorem dX5_addReader_40 : decode cX5_addReader 40 = .ok (.ireturn, 1) := by decide +kernel
theorem dX5_addReader_41 : decode cX5_addReader 41 = .ok (.aload_n 0, 1) := by decide +kernel
theorem dX5_addReader_42 : decode cX5_addReader 42 = .ok (.getfield 12, 3) := by decide +kernel
theorem dX5_addReader_45 : decode cX5_addReader 45 = .ok (.iload_n 1, 1) := by decide +kernel
theorem dX5_addReader_46 : decode cX5_addReader 46 = .ok (.iload_n 2, 1) := by decide +kernel
theorem dX5_addReader_47 : decode cX5_addReader 47 = .ok (.invokevirtual 351, 3) := by decide +kernel
theorem dX5_addReader_50 : decode cX5_addReader 50 = .ok (.ireturn, 1) := by decide +kernel
theorem dX5_printEdition_0 : decode cX5_printEdition 0 = .ok (.aload_n 0, 1) := by decide +kernel
theorem dX5_printEdition_1 : decode cX5_printEdition 1 = .ok (.getfield 12, 3) := by decide +kernel
theorem dX5_printEdition_4 : decode cX5_printEdition 4 = .ok (.iconst 2, 1) := by decide +kernel
theorem dX5_printEdition_5 : decode cX5_printEdition 5 = .ok (.invokevirtual 290, 3) := by decide +kernel
theorem dX5_printEdition_8 : decode cX5_printEdition 8 = .ok (.aload_n 0, 1) := by decide +kernel
theorem dX5_printEdition_9 : decode cX5_printEdition 9 = .ok (.getfield 12, 3) := by decide +kernel
theorem dX5_printEdition_12 : decode cX5_printEdition 12 = .ok (.iconst 3, 1) := by decide +kernel
theorem dX5_printEdition_13 : decode cX5_printEdition 13 = .ok (.invokevirtual 290, 3) := by decide +kernel
theorem dX5_printEdition_16 : decode cX5_printEdition 16 = .ok (.if_icmp .ne 17, 3) := by decide +kernel
theorem dX5_printEdition_19 : decode cX5_printEdition 19 = .ok (.aload_n 0, 1) := by decide +kernel
theorem dX5_printEdition_20 : decode cX5_printEdition 20 = .ok (.bipush 8, 2) := by decide +kernel
theorem dX5_printEdition_22 : decode cX5_printEdition 22 = .ok (.aload_n 0, 1) := by decide +kernel
theorem dX5_printEdition_23 : decode cX5_printEdition 23 = .ok (.getfield 12, 3) := by decide +kernel
theorem dX5_printEdition_26 : decode cX5_printEdition 26 = .ok (.getfield 354, 3) := by decide +kernel
theorem dX5_printEdition_29 : decode cX5_printEdition 29 = .ok (.invokevirtual 313, 3) := by decide +kernel
theorem dX5_printEdition_32 : decode cX5_printEdition 32 = .ok (.ireturn, 1) := by decide +kernel
theorem dX5_printEdition_33 : decode cX5_printEdition 33 = .ok (.iconst 0, 1) := by decide +kernel
theorem dX5_printEdition_34 : decode cX5_printEdition 34 = .ok (.istore_n 1, 1) := by decide +kernel
theorem dX5_printEdition_35 : decode cX5_printEdition 35 = .ok (.iconst 0, 1) := by decide +kernel
theorem dX5_printEdition_36 : decode cX5_printEdition 36 = .ok (.istore_n 2, 1) := by decide +kernel
theorem dX5_printEdition_37 : decode cX5_printEdition 37 = .ok (.iload_n 2, 1) := by decide +kernel
theorem dX5_printEdition_38 : decode cX5_printEdition 38 = .ok (.aload_n 0, 1) := by decide +kernel
theorem dX5_printEdition_39 : decode cX5_printEdition 39 = .ok (.getfield 12, 3) := by decide +kernel
theorem dX5_printEdition_42 : decode cX5_printEdition 42 = .ok (.getfield 188, 3) := by decide +kernel
theorem dX5_printEdition_45 : decode cX5_printEdition 45 = .ok (.if_icmp .ge 55, 3) := by decide +kernel
theorem dX5_printEdition_48 : decode cX5_printEdition 48 = .ok (.iconst 0, 1) := by decide +kernel
theorem dX5_printEdition_49 : decode cX5_printEdition 49 = .ok (.istore_n 3, 1) := by decide +kernel
theorem dX5_printEdition_50 : decode cX5_printEdition 50 = .ok (.iload_n 3, 1) := by decide +kernel
theorem dX5_printEdition_51 : decode cX5_printEdition 51 = .ok (.aload_n 0, 1) := by decide +kernel
theorem dX5_printEdition_52 : decode cX5_printEdition 52 = .ok (.getfield 12, 3) := by decide +kernel
theorem dX5_printEdition_55 : decode cX5_printEdition 55 = .ok (.getfield 219, 3) := by decide +kernel
theorem dX5_printEdition_58 : decode cX5_printEdition 58 = .ok (.iload_n 2, 1) := by decide +kernel
theorem dX5_printEdition_59 : decode cX5_printEdition 59 = .ok (.iaload, 1) := by decide +kernel
theorem dX5_printEdition_60 : decode cX5_printEdition 60 = .ok (.if_icmp .ge 34, 3) := by decide +kernel
theorem dX5_printEdition_63 : decode cX5_printEdition 63 = .ok (.aload_n 0, 1) := by decide +kernel
theorem dX5_printEdition_64 : decode cX5_printEdition 64 = .ok (.getfield 12, 3) := by decide +kernel
theorem dX5_printEdition_67 : decode cX5_printEdition 67 = .ok (.iload_n 2, 1) := by decide +kernel
theorem dX5_printEdition_68 : decode cX5_printEdition 68 = .ok (.iload_n 3, 1) := by decide +kernel
theorem dX5_printEdition_69 : decode cX5_printEdition 69 = .ok (.invokevirtual 140, 3) := by decide +kernel
theorem dX5_printEdition_72 : decode cX5_printEdition 72 = .ok (.iconst 2, 1) := by decide +kernel
theorem dX5_printEdition_73 : decode cX5_printEdition 73 = .ok (.if_icmp .ne 15, 3) := by decide +kernel
theorem dX5_printEdition_76 : decode cX5_printEdition 76 = .ok (.iload_n 1, 1) := by decide +kernel
theorem dX5_printEdition_77 : decode cX5_printEdition 77 = .ok (.aload_n 0, 1) := by decide +kernel
theorem dX5_printEdition_78 : decode cX5_printEdition 78 = .ok (.getfield 12, 3) := by decide +kernel
theorem dX5_printEdition_81 : decode cX5_printEdition 81 = .ok (.iload_n 2, 1) := by decide +kernel
theorem dX5_printEdition_82 : decode cX5_printEdition 82 = .ok (.iload_n 3, 1) := by decide +kernel
theorem dX5_printEdition_83 : decode cX5_printEdition 83 = .ok (.invokevirtual 357, 3) := by decide +kernel
theorem dX5_printEdition_86 : decode cX5_printEdition 86 = .ok (.iadd, 1) := by decide +kernel
theorem dX5_printEdition_87 : decode cX5_printEdition 87 = .ok (.istore_n 1, 1) := by decide +kernel
theorem dX5_printEdition_88 : decode cX5_printEdition 88 = .ok (.iinc 3 1, 3) := by decide +kernel
theorem dX5_printEdition_91 : decode cX5_printEdition 91 = .ok (.goto (-41), 3) := by decide +kernel
theorem dX5_printEdition_94 : decode cX5_printEdition 94 = .ok (.iinc 2 1, 3) := by decide +kernel
theorem dX5_printEdition_97 : decode cX5_printEdition 97 = .ok (.goto (-60), 3) := by decide +kernel
theorem dX5_printEdition_100 : decode cX5_printEdition 100 = .ok (.aload_n 0, 1) := by decide +kernel
theorem dX5_printEdition_101 : decode cX5_printEdition 101 = .ok (.getfield 12, 3) := by decide +kernel
theorem dX5_printEdition_104 : decode cX5_printEdition 104 = .ok (.dup, 1) := by decide +kernel
theorem dX5_printEdition_105 : decode cX5_printEdition 105 = .ok (.getfield 354, 3) := by decide +kernel
theorem dX5_printEdition_108 : decode cX5_printEdition 108 = .ok (.iconst 1, 1) := by decide +kernel
theorem dX5_printEdition_109 : decode cX5_printEdition 109 = .ok (.iadd, 1) := by decide +kernel
theorem dX5_printEdition_110 : decode cX5_printEdition 110 = .ok (.putfield 354, 3) := by decide +kernel
theorem dX5_printEdition_113 : decode cX5_printEdition 113 = .ok (.aload_n 0, 1) := by decide +kernel
theorem dX5_printEdition_114 : decode cX5_printEdition 114 = .ok (.getfield 12, 3) := by decide +kernel
theorem dX5_printEdition_117 : decode cX5_printEdition 117 = .ok (.dup, 1) := by decide +kernel
theorem dX5_printEdition_118 : decode cX5_printEdition 118 = .ok (.getfield 360, 3) := by decide +kernel
theorem dX5_printEdition_121 : decode cX5_printEdition 121 = .ok (.iload_n 1, 1) := by decide +kernel
theorem dX5_printEdition_122 : decode cX5_printEdition 122 = .ok (.iadd, 1) := by decide +kernel
theorem dX5_printEdition_123 : decode cX5_printEdition 123 = .ok (.putfield 360, 3) := by decide +kernel
theorem dX5_printEdition_126 : decode cX5_printEdition 126 = .ok (.iload_n 1, 1) := by decide +kernel
theorem dX5_printEdition_127 : decode cX5_printEdition 127 = .ok (.ireturn, 1) := by decide +kernel
theorem dX5_carryOutAll_0 : decode cX5_carryOutAll 0 = .ok (.iconst 0, 1) := by decide +kernel
theorem dX5_carryOutAll_1 : decode cX5_carryOutAll 1 = .ok (.istore_n 1, 1) := by decide +kernel
theorem dX5_carryOutAll_2 : decode cX5_carryOutAll 2 = .ok (.aload_n 0, 1) := by decide +kernel
theorem dX5_carryOutAll_3 : decode cX5_carryOutAll 3 = .ok (.getfield 42, 3) := by decide +kernel
theorem dX5_carryOutAll_6 : decode cX5_carryOutAll 6 = .ok (.iconst 0, 1) := by decide +kernel
theorem dX5_carryOutAll_7 : decode cX5_carryOutAll 7 = .ok (.putfield 363, 3) := by decide +kernel
theorem dX5_carryOutAll_10 : decode cX5_carryOutAll 10 = .ok (.iconst 0, 1) := by decide +kernel
theorem dX5_carryOutAll_11 : decode cX5_carryOutAll 11 = .ok (.istore_n 2, 1) := by decide +kernel
theorem dX5_carryOutAll_12 : decode cX5_carryOutAll 12 = .ok (.iload_n 2, 1) := by decide +kernel
theorem dX5_carryOutAll_13 : decode cX5_carryOutAll 13 = .ok (.bipush 60, 2) := by decide +kernel
theorem dX5_carryOutAll_15 : decode cX5_carryOutAll 15 = .ok (.if_icmp .ge 66, 3) := by decide +kernel
theorem dX5_carryOutAll_18 : decode cX5_carryOutAll 18 = .ok (.aload_n 0, 1) := by decide +kernel
theorem dX5_carryOutAll_19 : decode cX5_carryOutAll 19 = .ok (.getfield 42, 3) := by decide +kernel
theorem dX5_carryOutAll_22 : decode cX5_carryOutAll 22 = .ok (.getfield 363, 3) := by decide +kernel
theorem dX5_carryOutAll_25 : decode cX5_carryOutAll 25 = .ok (.aload_n 0, 1) := by decide +kernel
theorem dX5_carryOutAll_26 : decode cX5_carryOutAll 26 = .ok (.getfield 42, 3) := by decide +kernel
theorem dX5_carryOutAll_29 : decode cX5_carryOutAll 29 = .ok (.getfield 235, 3) := by decide +kernel
theorem dX5_carryOutAll_32 : decode cX5_carryOutAll 32 = .ok (.if_icmp .ge 49, 3) := by decide +kernel
theorem dX5_carryOutAll_35 : decode cX5_carryOutAll 35 = .ok (.aload_n 0, 1) := by decide +kernel
theorem dX5_carryOutAll_36 : decode cX5_carryOutAll 36 = .ok (.getfield 42, 3) := by decide +kernel
theorem dX5_carryOutAll_39 : decode cX5_carryOutAll 39 = .ok (.invokevirtual 366, 3) := by decide +kernel
theorem dX5_carryOutAll_42 : decode cX5_carryOutAll 42 = .ok (.ifCond .eq 39, 3) := by decide +kernel
theorem dX5_carryOutAll_45 : decode cX5_carryOutAll 45 = .ok (.aload_n 0, 1) := by decide +kernel
theorem dX5_carryOutAll_46 : decode cX5_carryOutAll 46 = .ok (.invokevirtual 370, 3) := by decide +kernel
theorem dX5_carryOutAll_49 : decode cX5_carryOutAll 49 = .ok (.istore_n 3, 1) := by decide +kernel
theorem dX5_carryOutAll_50 : decode cX5_carryOutAll 50 = .ok (.iload_n 3, 1) := by decide +kernel
theorem dX5_carryOutAll_51 : decode cX5_carryOutAll 51 = .ok (.bipush (-3), 2) := by decide +kernel
theorem dX5_carryOutAll_53 : decode cX5_carryOutAll 53 = .ok (.if_icmp .ne 13, 3) := by decide +kernel
theorem dX5_carryOutAll_56 : decode cX5_carryOutAll 56 = .ok (.aload_n 0, 1) := by decide +kernel
theorem dX5_carryOutAll_57 : decode cX5_carryOutAll 57 = .ok (.getfield 35, 3) := by decide +kernel
theorem dX5_carryOutAll_60 : decode cX5_carryOutAll 60 = .ok (.bipush 9, 2) := by decide +kernel
theorem dX5_carryOutAll_62 : decode cX5_carryOutAll 62 = .ok (.iload_n 1, 1) := by decide +kernel
theorem dX5_carryOutAll_63 : decode cX5_carryOutAll 63 = .ok (.invokevirtual 373, 3) := by decide +kernel
theorem dX5_carryOutAll_66 : decode cX5_carryOutAll 66 = .ok (.iload_n 3, 1) := by decide +kernel
theorem dX5_carryOutAll_67 : decode cX5_carryOutAll 67 = .ok (.ifCond .ge 5, 3) := by decide +kernel
theorem dX5_carryOutAll_70 : decode cX5_carryOutAll 70 = .ok (.iload_n 3, 1) := by decide +kernel
theorem dX5_carryOutAll_71 : decode cX5_carryOutAll 71 = .ok (.ireturn, 1) := by decide +kernel
theorem dX5_carryOutAll_72 : decode cX5_carryOutAll 72 = .ok (.iinc 1 1, 3) := by decide +kernel
theorem dX5_carryOutAll_75 : decode cX5_carryOutAll 75 = .ok (.iinc 2 1, 3) := by decide +kernel
theorem dX5_carryOutAll_78 : decode cX5_carryOutAll 78 = .ok (.goto (-66), 3) := by decide +kernel
theorem dX5_carryOutAll_81 : decode cX5_carryOutAll 81 = .ok (.iload_n 1, 1) := by decide +kernel
theorem dX5_carryOutAll_82 : decode cX5_carryOutAll 82 = .ok (.ireturn, 1) := by decide +kernel
theorem dX5_carryOutOrder_0 : decode cX5_carryOutOrder 0 = .ok (.aload_n 0, 1) := by decide +kernel
theorem dX5_carryOutOrder_1 : decode cX5_carryOutOrder 1 = .ok (.getfield 42, 3) := by decide +kernel
theorem dX5_carryOutOrder_4 : decode cX5_carryOutOrder 4 = .ok (.getfield 376, 3) := by decide +kernel
theorem dX5_carryOutOrder_7 : decode cX5_carryOutOrder 7 = .ok (.tableswitch 232 99 120 #[177, 232, 227, 232, 232, 101, 232, 232, 232, 158, 132, 232, 232, 232, 232, 196, 113, 232, 232, 232, 232, 215], 101) := by decide +kernel
theorem dX5_carryOutOrder_108 : decode cX5_carryOutOrder 108 = .ok (.aload_n 0, 1) := by decide +kernel
theorem dX5_carryOutOrder_109 : decode cX5_carryOutOrder 109 = .ok (.aload_n 0, 1) := by decide +kernel
theorem dX5_carryOutOrder_110 : decode cX5_carryOutOrder 110 = .ok (.getfield 42, 3) := by decide +kernel
theorem dX5_carryOutOrder_113 : decode cX5_carryOutOrder 113 = .ok (.getfield 380, 3) := by decide +kernel
theorem dX5_carryOutOrder_116 : decode cX5_carryOutOrder 116 = .ok (.invokevirtual 61, 3) := by decide +kernel
theorem dX5_carryOutOrder_119 : decode cX5_carryOutOrder 119 = .ok (.ireturn, 1) := by decide +kernel
theorem dX5_carryOutOrder_120 : decode cX5_carryOutOrder 120 = .ok (.aload_n 0, 1) := by decide +kernel
theorem dX5_carryOutOrder_121 : decode cX5_carryOutOrder 121 = .ok (.aload_n 0, 1) := by decide +kernel
theorem dX5_carryOutOrder_122 : decode cX5_carryOutOrder 122 = .ok (.getfield 42, 3) := by decide +kernel
theorem dX5_carryOutOrder_125 : decode cX5_carryOutOrder 125 = .ok (.getfield 380, 3) := by decide +kernel
theorem dX5_carryOutOrder_128 : decode cX5_carryOutOrder 128 = .ok (.aload_n 0, 1) := by decide +kernel
theorem dX5_carryOutOrder_129 : decode cX5_carryOutOrder 129 = .ok (.getfield 42, 3) := by decide +kernel
theorem dX5_carryOutOrder_132 : decode cX5_carryOutOrder 132 = .ok (.getfield 383, 3) := by decide +kernel
theorem dX5_carryOutOrder_135 : decode cX5_carryOutOrder 135 = .ok (.invokevirtual 68, 3) := by decide +kernel
theorem dX5_carryOutOrder_138 : decode cX5_carryOutOrder 138 = .ok (.ireturn, 1) := by decide +kernel
theorem dX5_carryOutOrder_139 : decode cX5_carryOutOrder 139 = .ok (.aload_n 0, 1) := by decide +kernel
theorem dX5_carryOutOrder_140 : decode cX5_carryOutOrder 140 = .ok (.aload_n 0, 1) := by decide +kernel
theorem dX5_carryOutOrder_141 : decode cX5_carryOutOrder 141 = .ok (.getfield 42, 3) := by decide +kernel
theorem dX5_carryOutOrder_144 : decode cX5_carryOutOrder 144 = .ok (.getfield 380, 3) := by decide +kernel
theorem dX5_carryOutOrder_147 : decode cX5_carryOutOrder 147 = .ok (.aload_n 0, 1) := by decide +kernel
theorem dX5_carryOutOrder_148 : decode cX5_carryOutOrder 148 = .ok (.getfield 42, 3) := by decide +kernel
theorem dX5_carryOutOrder_151 : decode cX5_carryOutOrder 151 = .ok (.getfield 383, 3) := by decide +kernel
theorem dX5_carryOutOrder_154 : decode cX5_carryOutOrder 154 = .ok (.aload_n 0, 1) := by decide +kernel
theorem dX5_carryOutOrder_155 : decode cX5_carryOutOrder 155 = .ok (.getfield 42, 3) := by decide +kernel
theorem dX5_carryOutOrder_158 : decode cX5_carryOutOrder 158 = .ok (.getfield 386, 3) := by decide +kernel
theorem dX5_carryOutOrder_161 : decode cX5_carryOutOrder 161 = .ok (.invokevirtual 75, 3) := by decide +kernel
theorem dX5_carryOutOrder_164 : decode cX5_carryOutOrder 164 = .ok (.ireturn, 1) := by decide +kernel
theorem dX5_carryOutOrder_165 : decode cX5_carryOutOrder 165 = .ok (.aload_n 0, 1) := by decide +kernel
theorem dX5_carryOutOrder_166 : decode cX5_carryOutOrder 166 = .ok (.aload_n 0, 1) := by decide +kernel
theorem dX5_carryOutOrder_167 : decode cX5_carryOutOrder 167 = .ok (.getfield 42, 3) := by decide +kernel
theorem dX5_carryOutOrder_170 : decode cX5_carryOutOrder 170 = .ok (.getfield 380, 3) := by decide +kernel
theorem dX5_carryOutOrder_173 : decode cX5_carryOutOrder 173 = .ok (.aload_n 0, 1) := by decide +kernel
theorem dX5_carryOutOrder_174 : decode cX5_carryOutOrder 174 = .ok (.getfield 42, 3) := by decide +kernel
theorem dX5_carryOutOrder_177 : decode cX5_carryOutOrder 177 = .ok (.getfield 383, 3) := by decide +kernel
theorem dX5_carryOutOrder_180 : decode cX5_carryOutOrder 180 = .ok (.invokevirtual 79, 3) := by decide +kernel
theorem dX5_carryOutOrder_183 : decode cX5_carryOutOrder 183 = .ok (.ireturn, 1) := by decide +kernel
theorem dX5_carryOutOrder_184 : decode cX5_carryOutOrder 184 = .ok (.aload_n 0, 1) := by decide +kernel
theorem dX5_carryOutOrder_185 : decode cX5_carryOutOrder 185 = .ok (.aload_n 0, 1) := by decide +kernel
theorem dX5_carryOutOrder_186 : decode cX5_carryOutOrder 186 = .ok (.getfield 42, 3) := by decide +kernel
theorem dX5_carryOutOrder_189 : decode cX5_carryOutOrder 189 = .ok (.getfield 380, 3) := by decide +kernel
theorem dX5_carryOutOrder_192 : decode cX5_carryOutOrder 192 = .ok (.aload_n 0, 1) := by decide +kernel
theorem dX5_carryOutOrder_193 : decode cX5_carryOutOrder 193 = .ok (.getfield 42, 3) := by decide +kernel
theorem dX5_carryOutOrder_196 : decode cX5_carryOutOrder 196 = .ok (.getfield 383, 3) := by decide +kernel
theorem dX5_carryOutOrder_199 : decode cX5_carryOutOrder 199 = .ok (.invokevirtual 82, 3) := by decide +kernel
theorem dX5_carryOutOrder_202 : decode cX5_carryOutOrder 202 = .ok (.ireturn, 1) := by decide +kernel
theorem dX5_carryOutOrder_203 : decode cX5_carryOutOrder 203 = .ok (.aload_n 0, 1) := by decide +kernel
theorem dX5_carryOutOrder_204 : decode cX5_carryOutOrder 204 = .ok (.aload_n 0, 1) := by decide +kernel
theorem dX5_carryOutOrder_205 : decode cX5_carryOutOrder 205 = .ok (.getfield 42, 3) := by decide +kernel
theorem dX5_carryOutOrder_208 : decode cX5_carryOutOrder 208 = .ok (.getfield 380, 3) := by decide +kernel
theorem dX5_carryOutOrder_211 : decode cX5_carryOutOrder 211 = .ok (.aload_n 0, 1) := by decide +kernel
theorem dX5_carryOutOrder_212 : decode cX5_carryOutOrder 212 = .ok (.getfield 42, 3) := by decide +kernel
theorem dX5_carryOutOrder_215 : decode cX5_carryOutOrder 215 = .ok (.getfield 383, 3) := by decide +kernel
theorem dX5_carryOutOrder_218 : decode cX5_carryOutOrder 218 = .ok (.invokevirtual 85, 3) := by decide +kernel
theorem dX5_carryOutOrder_221 : decode cX5_carryOutOrder 221 = .ok (.ireturn, 1) := by decide +kernel
theorem dX5_carryOutOrder_222 : decode cX5_carryOutOrder 222 = .ok (.aload_n 0, 1) := by decide +kernel
theorem dX5_carryOutOrder_223 : decode cX5_carryOutOrder 223 = .ok (.aload_n 0, 1) := by decide +kernel
theorem dX5_carryOutOrder_224 : decode cX5_carryOutOrder 224 = .ok (.getfield 42, 3) := by decide +kernel
theorem dX5_carryOutOrder_227 : decode cX5_carryOutOrder 227 = .ok (.getfield 380, 3) := by decide +kernel
theorem dX5_carryOutOrder_230 : decode cX5_carryOutOrder 230 = .ok (.invokevirtual 72, 3) := by decide +kernel
theorem dX5_carryOutOrder_233 : decode cX5_carryOutOrder 233 = .ok (.ireturn, 1) := by decide +kernel
theorem dX5_carryOutOrder_234 : decode cX5_carryOutOrder 234 = .ok (.aload_n 0, 1) := by decide +kernel
theorem dX5_carryOutOrder_235 : decode cX5_carryOutOrder 235 = .ok (.invokevirtual 88, 3) := by decide +kernel
theorem dX5_carryOutOrder_238 : decode cX5_carryOutOrder 238 = .ok (.ireturn, 1) := by decide +kernel
theorem dX5_carryOutOrder_239 : decode cX5_carryOutOrder 239 = .ok (.aload_n 0, 1) := by decide +kernel
theorem dX5_carryOutOrder_240 : decode cX5_carryOutOrder 240 = .ok (.getfield 12, 3) := by decide +kernel
theorem dX5_carryOutOrder_243 : decode cX5_carryOutOrder 243 = .ok (.invokevirtual 92, 3) := by decide +kernel
theorem dX5_carryOutOrder_246 : decode cX5_carryOutOrder 246 = .ok (.ireturn, 1) := by decide +kernel
theorem dX5_finesInThought_0 : decode cX5_finesInThought 0 = .ok (.aload_n 0, 1) := by decide +kernel
theorem dX5_finesInThought_1 : decode cX5_finesInThought 1 = .ok (.getfield 19, 3) := by decide +kernel
theorem dX5_finesInThought_4 : decode cX5_finesInThought 4 = .ok (.aload_n 0, 1) := by decide +kernel
theorem dX5_finesInThought_5 : decode cX5_finesInThought 5 = .ok (.getfield 12, 3) := by decide +kernel
theorem dX5_finesInThought_8 : decode cX5_finesInThought 8 = .ok (.invokevirtual 57, 3) := by decide +kernel
theorem dX5_finesInThought_11 : decode cX5_finesInThought 11 = .ok (.iconst 0, 1) := by decide +kernel
theorem dX5_finesInThought_12 : decode cX5_finesInThought 12 = .ok (.istore_n 2, 1) := by decide +kernel
theorem dX5_finesInThought_13 : decode cX5_finesInThought 13 = .ok (.iconst 0, 1) := by decide +kernel
theorem dX5_finesInThought_14 : decode cX5_finesInThought 14 = .ok (.istore_n 3, 1) := by decide +kernel
theorem dX5_finesInThought_15 : decode cX5_finesInThought 15 = .ok (.iload_n 3, 1) := by decide +kernel
theorem dX5_finesInThought_16 : decode cX5_finesInThought 16 = .ok (.aload_n 0, 1) := by decide +kernel
theorem dX5_finesInThought_17 : decode cX5_finesInThought 17 = .ok (.getfield 19, 3) := by decide +kernel
theorem dX5_finesInThought_20 : decode cX5_finesInThought 20 = .ok (.getfield 219, 3) := by decide +kernel
theorem dX5_finesInThought_23 : decode cX5_finesInThought 23 = .ok (.iload_n 1, 1) := by decide +kernel
theorem dX5_finesInThought_24 : decode cX5_finesInThought 24 = .ok (.iaload, 1) := by decide +kernel
theorem dX5_finesInThought_25 : decode cX5_finesInThought 25 = .ok (.if_icmp .ge 39, 3) := by decide +kernel
theorem dX5_finesInThought_28 : decode cX5_finesInThought 28 = .ok (.iload_n 2, 1) := by decide +kernel
theorem dX5_finesInThought_29 : decode cX5_finesInThought 29 = .ok (.aload_n 0, 1) := by decide +kernel
theorem dX5_finesInThought_30 : decode cX5_finesInThought 30 = .ok (.getfield 19, 3) := by decide +kernel
theorem dX5_finesInThought_33 : decode cX5_finesInThought 33 = .ok (.iload_n 1, 1) := by decide +kernel
theorem dX5_finesInThought_34 : decode cX5_finesInThought 34 = .ok (.iload_n 3, 1) := by decide +kernel
theorem dX5_finesInThought_35 : decode cX5_finesInThought 35 = .ok (.invokevirtual 146, 3) := by decide +kernel
theorem dX5_finesInThought_38 : decode cX5_finesInThought 38 = .ok (.iadd, 1) := by decide +kernel
theorem dX5_finesInThought_39 : decode cX5_finesInThought 39 = .ok (.istore_n 2, 1) := by decide +kernel
theorem dX5_finesInThought_40 : decode cX5_finesInThought 40 = .ok (.aload_n 0, 1) := by decide +kernel
theorem dX5_finesInThought_41 : decode cX5_finesInThought 41 = .ok (.getfield 19, 3) := by decide +kernel
theorem dX5_finesInThought_44 : decode cX5_finesInThought 44 = .ok (.iload_n 1, 1) := by decide +kernel
theorem dX5_finesInThought_45 : decode cX5_finesInThought 45 = .ok (.iload_n 3, 1) := by decide +kernel
theorem dX5_finesInThought_46 : decode cX5_finesInThought 46 = .ok (.aload_n 0, 1) := by decide +kernel
theorem dX5_finesInThought_47 : decode cX5_finesInThought 47 = .ok (.getfield 19, 3) := by decide +kernel
theorem dX5_finesInThought_50 : decode cX5_finesInThought 50 = .ok (.iload_n 1, 1) := by decide +kernel
theorem dX5_finesInThought_51 : decode cX5_finesInThought 51 = .ok (.iload_n 3, 1) := by decide +kernel
theorem dX5_finesInThought_52 : decode cX5_finesInThought 52 = .ok (.invokevirtual 130, 3) := by decide +kernel
theorem dX5_finesInThought_55 : decode cX5_finesInThought 55 = .ok (.invokevirtual 329, 3) := by decide +kernel
theorem dX5_finesInThought_58 : decode cX5_finesInThought 58 = .ok (.iinc 3 1, 3) := by decide +kernel
theorem dX5_finesInThought_61 : decode cX5_finesInThought 61 = .ok (.goto (-46), 3) := by decide +kernel
theorem dX5_finesInThought_64 : decode cX5_finesInThought 64 = .ok (.iload_n 2, 1) := by decide +kernel
theorem dX5_finesInThought_65 : decode cX5_finesInThought 65 = .ok (.ireturn, 1) := by decide +kernel
theorem dX5_isSheetWell_0 : decode cX5_isSheetWell 0 = .ok (.iconst 0, 1) := by decide +kernel
theorem dX5_isSheetWell_1 : decode cX5_isSheetWell 1 = .ok (.istore_n 2, 1) := by decide +kernel
theorem dX5_isSheetWell_2 : decode cX5_isSheetWell 2 = .ok (.iload_n 2, 1) := by decide +kernel
theorem dX5_isSheetWell_3 : decode cX5_isSheetWell 3 = .ok (.aload_n 0, 1) := by decide +kernel
theorem dX5_isSheetWell_4 : decode cX5_isSheetWell 4 = .ok (.getfield 12, 3) := by decide +kernel
theorem dX5_isSheetWell_7 : decode cX5_isSheetWell 7 = .ok (.getfield 219, 3) := by decide +kernel
theorem dX5_isSheetWell_10 : decode cX5_isSheetWell 10 = .ok (.iload_n 1, 1) := by decide +kernel
theorem dX5_isSheetWell_11 : decode cX5_isSheetWell 11 = .ok (.iaload, 1) := by decide +kernel
theorem dX5_isSheetWell_12 : decode cX5_isSheetWell 12 = .ok (.if_icmp .ge 59, 3) := by decide +kernel
theorem dX5_isSheetWell_15 : decode cX5_isSheetWell 15 = .ok (.aload_n 0, 1) := by decide +kernel
theorem dX5_isSheetWell_16 : decode cX5_isSheetWell 16 = .ok (.getfield 12, 3) := by decide +kernel
theorem dX5_isSheetWell_19 : decode cX5_isSheetWell 19 = .ok (.iload_n 1, 1) := by decide +kernel
theorem dX5_isSheetWell_20 : decode cX5_isSheetWell 20 = .ok (.iload_n 2, 1) := by decide +kernel
theorem dX5_isSheetWell_21 : decode cX5_isSheetWell 21 = .ok (.invokevirtual 146, 3) := by decide +kernel
theorem dX5_isSheetWell_24 : decode cX5_isSheetWell 24 = .ok (.aload_n 0, 1) := by decide +kernel
theorem dX5_isSheetWell_25 : decode cX5_isSheetWell 25 = .ok (.getfield 12, 3) := by decide +kernel
theorem dX5_isSheetWell_28 : decode cX5_isSheetWell 28 = .ok (.iload_n 1, 1) := by decide +kernel
theorem dX5_isSheetWell_29 : decode cX5_isSheetWell 29 = .ok (.iload_n 2, 1) := by decide +kernel
theorem dX5_isSheetWell_30 : decode cX5_isSheetWell 30 = .ok (.invokevirtual 143, 3) := by decide +kernel
theorem dX5_isSheetWell_33 : decode cX5_isSheetWell 33 = .ok (.if_icmp .eq 5, 3) := by decide +kernel
theorem dX5_isSheetWell_36 : decode cX5_isSheetWell 36 = .ok (.iconst 0, 1) := by decide +kernel
theorem dX5_isSheetWell_37 : decode cX5_isSheetWell 37 = .ok (.ireturn, 1) := by decide +kernel
theorem dX5_isSheetWell_38 : decode cX5_isSheetWell 38 = .ok (.aload_n 0, 1) := by decide +kernel
theorem dX5_isSheetWell_39 : decode cX5_isSheetWell 39 = .ok (.getfield 12, 3) := by decide +kernel
theorem dX5_isSheetWell_42 : decode cX5_isSheetWell 42 = .ok (.iload_n 1, 1) := by decide +kernel
theorem dX5_isSheetWell_43 : decode cX5_isSheetWell 43 = .ok (.iload_n 2, 1) := by decide +kernel
theorem dX5_isSheetWell_44 : decode cX5_isSheetWell 44 = .ok (.invokevirtual 140, 3) := by decide +kernel
theorem dX5_isSheetWell_47 : decode cX5_isSheetWell 47 = .ok (.iconst 2, 1) := by decide +kernel
theorem dX5_isSheetWell_48 : decode cX5_isSheetWell 48 = .ok (.if_icmp .lt 17, 3) := by decide +kernel
theorem dX5_isSheetWell_51 : decode cX5_isSheetWell 51 = .ok (.aload_n 0, 1) := by decide +kernel
theorem dX5_isSheetWell_52 : decode cX5_isSheetWell 52 = .ok (.getfield 12, 3) := by decide +kernel
theorem dX5_isSheetWell_55 : decode cX5_isSheetWell 55 = .ok (.iload_n 1, 1) := by decide +kernel
theorem dX5_isSheetWell_56 : decode cX5_isSheetWell 56 = .ok (.iload_n 2, 1) := by decide +kernel
theorem dX5_isSheetWell_57 : decode cX5_isSheetWell 57 = .ok (.invokevirtual 389, 3) := by decide +kernel
theorem dX5_isSheetWell_60 : decode cX5_isSheetWell 60 = .ok (.ifCond .ne 5, 3) := by decide +kernel
theorem dX5_isSheetWell_63 : decode cX5_isSheetWell 63 = .ok (.iconst 0, 1) := by decide +kernel
theorem dX5_isSheetWell_64 : decode cX5_isSheetWell 64 = .ok (.ireturn, 1) := by decide +kernel
theorem dX5_isSheetWell_65 : decode cX5_isSheetWell 65 = .ok (.iinc 2 1, 3) := by decide +kernel
theorem dX5_isSheetWell_68 : decode cX5_isSheetWell 68 = .ok (.goto (-66), 3) := by decide +kernel
theorem dX5_isSheetWell_71 : decode cX5_isSheetWell 71 = .ok (.iconst 1, 1) := by decide +kernel
theorem dX5_isSheetWell_72 : decode cX5_isSheetWell 72 = .ok (.ireturn, 1) := by decide +kernel
theorem dX5_bestBargain_0 : decode cX5_bestBargain 0 = .ok (.iconst (-1), 1) := by decide +kernel
theorem dX5_bestBargain_1 : decode cX5_bestBargain 1 = .ok (.istore_n 1, 1) := by decide +kernel
theorem dX5_bestBargain_2 : decode cX5_bestBargain 2 = .ok (.iconst 0, 1) := by decide +kernel
theorem dX5_bestBargain_3 : decode cX5_bestBargain 3 = .ok (.istore_n 2, 1) := by decide +kernel
theorem dX5_bestBargain_4 : decode cX5_bestBargain 4 = .ok (.iconst 0, 1) := by decide +kernel
theorem dX5_bestBargain_5 : decode cX5_bestBargain 5 = .ok (.istore_n 3, 1) := by decide +kernel
theorem dX5_bestBargain_6 : decode cX5_bestBargain 6 = .ok (.iload_n 3, 1) := by decide +kernel
theorem dX5_bestBargain_7 : decode cX5_bestBargain 7 = .ok (.aload_n 0, 1) := by decide +kernel
theorem dX5_bestBargain_8 : decode cX5_bestBargain 8 = .ok (.getfield 12, 3) := by decide +kernel
theorem dX5_bestBargain_11 : decode cX5_bestBargain 11 = .ok (.getfield 188, 3) := by decide +kernel
theorem dX5_bestBargain_14 : decode cX5_bestBargain 14 = .ok (.if_icmp .ge 127, 3) := by decide +kernel
theorem dX5_bestBargain_17 : decode cX5_bestBargain 17 = .ok (.aload_n 0, 1) := by decide +kernel
theorem dX5_bestBargain_18 : decode cX5_bestBargain 18 = .ok (.getfield 12, 3) := by decide +kernel
theorem dX5_bestBargain_21 : decode cX5_bestBargain 21 = .ok (.aload_n 0, 1) := by decide +kernel
theorem dX5_bestBargain_22 : decode cX5_bestBargain 22 = .ok (.getfield 12, 3) := by decide +kernel
theorem dX5_bestBargain_25 : decode cX5_bestBargain 25 = .ok (.getfield 159, 3) := by decide +kernel
theorem dX5_bestBargain_28 : decode cX5_bestBargain 28 = .ok (.iload_n 3, 1) := by decide +kernel
theorem dX5_bestBargain_29 : decode cX5_bestBargain 29 = .ok (.iaload, 1) := by decide +kernel
theorem dX5_bestBargain_30 : decode cX5_bestBargain 30 = .ok (.invokevirtual 336, 3) := by decide +kernel
theorem dX5_bestBargain_33 : decode cX5_bestBargain 33 = .ok (.istore 4, 2) := by decide +kernel
theorem dX5_bestBargain_35 : decode cX5_bestBargain 35 = .ok (.aload_n 0, 1) := by decide +kernel
theorem dX5_bestBargain_36 : decode cX5_bestBargain 36 = .ok (.getfield 12, 3) := by decide +kernel
theorem dX5_bestBargain_39 : decode cX5_bestBargain 39 = .ok (.aload_n 0, 1) := by decide +kernel
theorem dX5_bestBargain_40 : decode cX5_bestBargain 40 = .ok (.getfield 12, 3) := by decide +kernel
theorem dX5_bestBargain_43 : decode cX5_bestBargain 43 = .ok (.getfield 159, 3) := by decide +kernel
theorem dX5_bestBargain_46 : decode cX5_bestBargain 46 = .ok (.iload_n 3, 1) := by decide +kernel
theorem dX5_bestBargain_47 : decode cX5_bestBargain 47 = .ok (.iaload, 1) := by decide +kernel
theorem dX5_bestBargain_48 : decode cX5_bestBargain 48 = .ok (.invokevirtual 392, 3) := by decide +kernel
theorem dX5_bestBargain_51 : decode cX5_bestBargain 51 = .ok (.istore 5, 2) := by decide +kernel
theorem dX5_bestBargain_53 : decode cX5_bestBargain 53 = .ok (.iconst 0, 1) := by decide +kernel
theorem dX5_bestBargain_54 : decode cX5_bestBargain 54 = .ok (.istore 6, 2) := by decide +kernel
theorem dX5_bestBargain_56 : decode cX5_bestBargain 56 = .ok (.iload 5, 2) := by decide +kernel
theorem dX5_bestBargain_58 : decode cX5_bestBargain 58 = .ok (.ifCond .eq 77, 3) := by decide +kernel
theorem dX5_bestBargain_61 : decode cX5_bestBargain 61 = .ok (.iload 6, 2) := by decide +kernel
theorem dX5_bestBargain_63 : decode cX5_bestBargain 63 = .ok (.aload_n 0, 1) := by decide +kernel
theorem dX5_bestBargain_64 : decode cX5_bestBargain 64 = .ok (.getfield 12, 3) := by decide +kernel
theorem dX5_bestBargain_67 : decode cX5_bestBargain 67 = .ok (.getfield 219, 3) := by decide +kernel
theorem dX5_bestBargain_70 : decode cX5_bestBargain 70 = .ok (.iload_n 3, 1) := by decide +kernel
theorem dX5_bestBargain_71 : decode cX5_bestBargain 71 = .ok (.iaload, 1) := by decide +kernel
theorem dX5_bestBargain_72 : decode cX5_bestBargain 72 = .ok (.if_icmp .ge 63, 3) := by decide +kernel
theorem dX5_bestBargain_75 : decode cX5_bestBargain 75 = .ok (.aload_n 0, 1) := by decide +kernel
theorem dX5_bestBargain_76 : decode cX5_bestBargain 76 = .ok (.getfield 12, 3) := by decide +kernel
theorem dX5_bestBargain_79 : decode cX5_bestBargain 79 = .ok (.iload_n 3, 1) := by decide +kernel
theorem dX5_bestBargain_80 : decode cX5_bestBargain 80 = .ok (.iload 6, 2) := by decide +kernel
theorem dX5_bestBargain_82 : decode cX5_bestBargain 82 = .ok (.invokevirtual 162, 3) := by decide +kernel
theorem dX5_bestBargain_85 : decode cX5_bestBargain 85 = .ok (.invokestatic 395, 3) := by decide +kernel
theorem dX5_bestBargain_88 : decode cX5_bestBargain 88 = .ok (.iload 4, 2) := by decide +kernel
theorem dX5_bestBargain_90 : decode cX5_bestBargain 90 = .ok (.isub, 1) := by decide +kernel
theorem dX5_bestBargain_91 : decode cX5_bestBargain 91 = .ok (.istore 7, 2) := by decide +kernel
theorem dX5_bestBargain_93 : decode cX5_bestBargain 93 = .ok (.aload_n 0, 1) := by decide +kernel
theorem dX5_bestBargain_94 : decode cX5_bestBargain 94 = .ok (.getfield 12, 3) := by decide +kernel
theorem dX5_bestBargain_97 : decode cX5_bestBargain 97 = .ok (.iload_n 3, 1) := by decide +kernel
theorem dX5_bestBargain_98 : decode cX5_bestBargain 98 = .ok (.iload 6, 2) := by decide +kernel
theorem dX5_bestBargain_100 : decode cX5_bestBargain 100 = .ok (.invokevirtual 140, 3) := by decide +kernel
theorem dX5_bestBargain_103 : decode cX5_bestBargain 103 = .ok (.iconst 1, 1) := by decide +kernel
theorem dX5_bestBargain_104 : decode cX5_bestBargain 104 = .ok (.if_icmp .ne 25, 3) := by decide +kernel
theorem dX5_bestBargain_107 : decode cX5_bestBargain 107 = .ok (.iload_n 1, 1) := by decide +kernel
theorem dX5_bestBargain_108 : decode cX5_bestBargain 108 = .ok (.iconst (-1), 1) := by decide +kernel
theorem dX5_bestBargain_109 : decode cX5_bestBargain 109 = .ok (.if_icmp .eq 9, 3) := by decide +kernel
theorem dX5_bestBargain_112 : decode cX5_bestBargain 112 = .ok (.iload 7, 2) := by decide +kernel
theorem dX5_bestBargain_114 : decode cX5_bestBargain 114 = .ok (.iload_n 2, 1) := by decide +kernel
theorem dX5_bestBargain_115 : decode cX5_bestBargain 115 = .ok (.if_icmp .le 14, 3) := by decide +kernel
theorem dX5_bestBargain_118 : decode cX5_bestBargain 118 = .ok (.iload_n 3, 1) := by decide +kernel
theorem dX5_bestBargain_119 : decode cX5_bestBargain 119 = .ok (.bipush 8, 2) := by decide +kernel
theorem dX5_bestBargain_121 : decode cX5_bestBargain 121 = .ok (.imul, 1) := by decide +kernel
theorem dX5_bestBargain_122 : decode cX5_bestBargain 122 = .ok (.iload 6, 2) := by decide +kernel
theorem dX5_bestBargain_124 : decode cX5_bestBargain 124 = .ok (.iadd, 1) := by decide +kernel
theorem dX5_bestBargain_125 : decode cX5_bestBargain 125 = .ok (.istore_n 1, 1) := by decide +kernel
theorem dX5_bestBargain_126 : decode cX5_bestBargain 126 = .ok (.iload 7, 2) := by decide +kernel
theorem dX5_bestBargain_128 : decode cX5_bestBargain 128 = .ok (.istore_n 2, 1) := by decide +kernel
theorem dX5_bestBargain_129 : decode cX5_bestBargain 129 = .ok (.iinc 6 1, 3) := by decide +kernel
theorem dX5_bestBargain_132 : decode cX5_bestBargain 132 = .ok (.goto (-76), 3) := by decide +kernel
theorem dX5_bestBargain_135 : decode cX5_bestBargain 135 = .ok (.iinc 3 1, 3) := by decide +kernel
theorem dX5_bestBargain_138 : decode cX5_bestBargain 138 = .ok (.goto (-132), 3) := by decide +kernel
theorem dX5_bestBargain_141 : decode cX5_bestBargain 141 = .ok (.iload_n 1, 1) := by decide +kernel
theorem dX5_bestBargain_142 : decode cX5_bestBargain 142 = .ok (.ireturn, 1) := by decide +kernel
theorem dX5_writePlace_0 : decode cX5_writePlace 0 = .ok (.aload_n 0, 1) := by decide +kernel
theorem dX5_writePlace_1 : decode cX5_writePlace 1 = .ok (.getfield 12, 3) := by decide +kernel
theorem dX5_writePlace_4 : decode cX5_writePlace 4 = .ok (.iload_n 1, 1) := by decide +kernel
theorem dX5_writePlace_5 : decode cX5_writePlace 5 = .ok (.iload_n 2, 1) := by decide +kernel
theorem dX5_writePlace_6 : decode cX5_writePlace 6 = .ok (.invokevirtual 140, 3) := by decide +kernel
theorem dX5_writePlace_9 : decode cX5_writePlace 9 = .ok (.istore_n 3, 1) := by decide +kernel
theorem dX5_writePlace_10 : decode cX5_writePlace 10 = .ok (.aload_n 0, 1) := by decide +kernel
theorem dX5_writePlace_11 : decode cX5_writePlace 11 = .ok (.getfield 12, 3) := by decide +kernel
theorem dX5_writePlace_14 : decode cX5_writePlace 14 = .ok (.iload_n 1, 1) := by decide +kernel
theorem dX5_writePlace_15 : decode cX5_writePlace 15 = .ok (.iload_n 2, 1) := by decide +kernel
theorem dX5_writePlace_16 : decode cX5_writePlace 16 = .ok (.invokevirtual 133, 3) := by decide +kernel
theorem dX5_writePlace_19 : decode cX5_writePlace 19 = .ok (.invokestatic 136, 3) := by decide +kernel
theorem dX5_writePlace_22 : decode cX5_writePlace 22 = .ok (.istore 4, 2) := by decide +kernel
theorem dX5_writePlace_24 : decode cX5_writePlace 24 = .ok (.aload_n 0, 1) := by decide +kernel
theorem dX5_writePlace_25 : decode cX5_writePlace 25 = .ok (.getfield 49, 3) := by decide +kernel
theorem dX5_writePlace_28 : decode cX5_writePlace 28 = .ok (.iload_n 3, 1) := by decide +kernel
theorem dX5_writePlace_29 : decode cX5_writePlace 29 = .ok (.ifCond .ne 8, 3) := by decide +kernel
theorem dX5_writePlace_32 : decode cX5_writePlace 32 = .ok (.iload 4, 2) := by decide +kernel
theorem dX5_writePlace_34 : decode cX5_writePlace 34 = .ok (.goto 12, 3) := by decide +kernel
theorem dX5_writePlace_37 : decode cX5_writePlace 37 = .ok (.iload 4, 2) := by decide +kernel
theorem dX5_writePlace_39 : decode cX5_writePlace 39 = .ok (.bipush 97, 2) := by decide +kernel
theorem dX5_writePlace_41 : decode cX5_writePlace 41 = .ok (.isub, 1) := by decide +kernel
theorem dX5_writePlace_42 : decode cX5_writePlace 42 = .ok (.bipush 65, 2) := by decide +kernel
theorem dX5_writePlace_44 : decode cX5_writePlace 44 = .ok (.iadd, 1) := by decide +kernel
theorem dX5_writePlace_45 : decode cX5_writePlace 45 = .ok (.i2c, 1) := by decide +kernel
theorem dX5_writePlace_46 : decode cX5_writePlace 46 = .ok (.invokevirtual 215, 3) := by decide +kernel
theorem dX5_writePlace_49 : decode cX5_writePlace 49 = .ok (.iload_n 3, 1) := by decide +kernel
theorem dX5_writePlace_50 : decode cX5_writePlace 50 = .ok (.iconst 2, 1) := by decide +kernel
theorem dX5_writePlace_51 : decode cX5_writePlace 51 = .ok (.if_icmp .ne 12, 3) := by decide +kernel
theorem dX5_writePlace_54 : decode cX5_writePlace 54 = .ok (.aload_n 0, 1) := by decide +kernel
theorem dX5_writePlace_55 : decode cX5_writePlace 55 = .ok (.getfield 49, 3) := by decide +kernel
theorem dX5_writePlace_58 : decode cX5_writePlace 58 = .ok (.bipush 39, 2) := by decide +kernel
theorem dX5_writePlace_60 : decode cX5_writePlace 60 = .ok (.invokevirtual 215, 3) := by decide +kernel
theorem dX5_writePlace_63 : decode cX5_writePlace 63 = .ok (.iload_n 3, 1) := by decide +kernel
theorem dX5_writePlace_64 : decode cX5_writePlace 64 = .ok (.iconst 3, 1) := by decide +kernel
theorem dX5_writePlace_65 : decode cX5_writePlace 65 = .ok (.if_icmp .ne 12, 3) := by decide +kernel
theorem dX5_writePlace_68 : decode cX5_writePlace 68 = .ok (.aload_n 0, 1) := by decide +kernel
theorem dX5_writePlace_69 : decode cX5_writePlace 69 = .ok (.getfield 49, 3) := by decide +kernel
theorem dX5_writePlace_72 : decode cX5_writePlace 72 = .ok (.bipush 33, 2) := by decide +kernel
theorem dX5_writePlace_74 : decode cX5_writePlace 74 = .ok (.invokevirtual 215, 3) := by decide +kernel
theorem dX5_writePlace_77 : decode cX5_writePlace 77 = .ok (.return_, 1) := by decide +kernel
theorem dX5_lettersIn_0 : decode cX5_lettersIn 0 = .ok (.iload_n 0, 1) := by decide +kernel
theorem dX5_lettersIn_1 : decode cX5_lettersIn 1 = .ok (.istore_n 1, 1) := by decide +kernel
theorem dX5_lettersIn_2 : decode cX5_lettersIn 2 = .ok (.iconst 0, 1) := by decide +kernel
theorem dX5_lettersIn_3 : decode cX5_lettersIn 3 = .ok (.istore_n 2, 1) := by decide +kernel
theorem dX5_lettersIn_4 : decode cX5_lettersIn 4 = .ok (.iload_n 2, 1) := by decide +kernel
theorem dX5_lettersIn_5 : decode cX5_lettersIn 5 = .ok (.bipush 8, 2) := by decide +kernel
theorem dX5_lettersIn_7 : decode cX5_lettersIn 7 = .ok (.if_icmp .ge 31, 3) := by decide +kernel
theorem dX5_lettersIn_10 : decode cX5_lettersIn 10 = .ok (.iload_n 1, 1) := by decide +kernel
theorem dX5_lettersIn_11 : decode cX5_lettersIn 11 = .ok (.bipush 10, 2) := by decide +kernel
theorem dX5_lettersIn_13 : decode cX5_lettersIn 13 = .ok (.irem, 1) := by decide +kernel
theorem dX5_lettersIn_14 : decode cX5_lettersIn 14 = .ok (.iconst 1, 1) := by decide +kernel
theorem dX5_lettersIn_15 : decode cX5_lettersIn 15 = .ok (.if_icmp .lt 23, 3) := by decide +kernel
theorem dX5_lettersIn_18 : decode cX5_lettersIn 18 = .ok (.iload_n 1, 1) := by decide +kernel
theorem dX5_lettersIn_19 : decode cX5_lettersIn 19 = .ok (.bipush 10, 2) := by decide +kernel
theorem dX5_lettersIn_21 : decode cX5_lettersIn 21 = .ok (.irem, 1) := by decide +kernel
theorem dX5_lettersIn_22 : decode cX5_lettersIn 22 = .ok (.bipush 6, 2) := by decide +kernel
theorem dX5_lettersIn_24 : decode cX5_lettersIn 24 = .ok (.if_icmp .gt 14, 3) := by decide +kernel
theorem dX5_lettersIn_27 : decode cX5_lettersIn 27 = .ok (.iload_n 1, 1) := by decide +kernel
theorem dX5_lettersIn_28 : decode cX5_lettersIn 28 = .ok (.bipush 10, 2) := by decide +kernel
theorem dX5_lettersIn_30 : decode cX5_lettersIn 30 = .ok (.idiv, 1) := by decide +kernel
theorem dX5_lettersIn_31 : decode cX5_lettersIn 31 = .ok (.istore_n 1, 1) := by decide +kernel
theorem dX5_lettersIn_32 : decode cX5_lettersIn 32 = .ok (.iinc 2 1, 3) := by decide +kernel
theorem dX5_lettersIn_35 : decode cX5_lettersIn 35 = .ok (.goto (-31), 3) := by decide +kernel
theorem dX5_lettersIn_38 : decode cX5_lettersIn 38 = .ok (.iload_n 1, 1) := by decide +kernel
theorem dX5_lettersIn_39 : decode cX5_lettersIn 39 = .ok (.ifCond .ne 12, 3) := by decide +kernel
theorem dX5_lettersIn_42 : decode cX5_lettersIn 42 = .ok (.iload_n 2, 1) := by decide +kernel
theorem dX5_lettersIn_43 : decode cX5_lettersIn 43 = .ok (.iconst 3, 1) := by decide +kernel
theorem dX5_lettersIn_44 : decode cX5_lettersIn 44 = .ok (.if_icmp .lt 7, 3) := by decide +kernel
theorem dX5_lettersIn_47 : decode cX5_lettersIn 47 = .ok (.iload_n 2, 1) := by decide +kernel
theorem dX5_lettersIn_48 : decode cX5_lettersIn 48 = .ok (.goto 4, 3) := by decide +kernel
theorem dX5_lettersIn_51 : decode cX5_lettersIn 51 = .ok (.iconst 0, 1) := by decide +kernel
theorem dX5_lettersIn_52 : decode cX5_lettersIn 52 = .ok (.ireturn, 1) := by decide +kernel
theorem dX5_letterOf_0 : decode cX5_letterOf 0 = .ok (.bipush 97, 2) := by decide +kernel
theorem dX5_letterOf_2 : decode cX5_letterOf 2 = .ok (.iload_n 0, 1) := by decide +kernel
theorem dX5_letterOf_3 : decode cX5_letterOf 3 = .ok (.iadd, 1) := by decide +kernel
theorem dX5_letterOf_4 : decode cX5_letterOf 4 = .ok (.iconst 1, 1) := by decide +kernel
theorem dX5_letterOf_5 : decode cX5_letterOf 5 = .ok (.isub, 1) := by decide +kernel
theorem dX5_letterOf_6 : decode cX5_letterOf 6 = .ok (.i2c, 1) := by decide +kernel
theorem dX5_letterOf_7 : decode cX5_letterOf 7 = .ok (.ireturn, 1) := by decide +kernel
theorem dX5_atMostKept_0 : decode cX5_atMostKept 0 = .ok (.bipush 99, 2) := by decide +kernel
theorem dX5_atMostKept_2 : decode cX5_atMostKept 2 = .ok (.iload_n 0, 1) := by decide +kernel
theorem dX5_atMostKept_3 : decode cX5_atMostKept 3 = .ok (.invokestatic 400, 3) := by decide +kernel
theorem dX5_atMostKept_6 : decode cX5_atMostKept 6 = .ok (.ireturn, 1) := by decide +kernel
end
section
theorem dX6_init_0 : decode cX6_init 0 = .ok (.aload_n 0, 1) := by decide +kernel
theorem dX6_init_1 : decode cX6_init 1 = .ok (.invokespecial 1, 3) := by decide +kernel
theorem dX6_init_4 : decode cX6_init 4 = .ok (.aload_n 0, 1) := by decide +kernel
theorem dX6_init_5 : decode cX6_init 5 = .ok (.sipush 240, 3) := by decide +kernel
theorem dX6_init_8 : decode cX6_init 8 = .ok (.newarray .int, 2) := by decide +kernel
theorem dX6_init_10 : decode cX6_init 10 = .ok (.putfield 7, 3) := by decide +kernel
theorem dX6_init_13 : decode cX6_init 13 = .ok (.aload_n 0, 1) := by decide +kernel
theorem dX6_init_14 : decode cX6_init 14 = .ok (.sipush 1920, 3) := by decide +kernel
theorem dX6_init_17 : decode cX6_init 17 = .ok (.newarray .int, 2) := by decide +kernel
theorem dX6_init_19 : decode cX6_init 19 = .ok (.putfield 13, 3) := by decide +kernel
theorem dX6_init_22 : decode cX6_init 22 = .ok (.aload_n 0, 1) := by decide +kernel
theorem dX6_init_23 : decode cX6_init 23 = .ok (.sipush 240, 3) := by decide +kernel
theorem dX6_init_26 : decode cX6_init 26 = .ok (.newarray .int, 2) := by decide +kernel
theorem dX6_init_28 : decode cX6_init 28 = .ok (.putfield 16, 3) := by decide +kernel
theorem dX6_init_31 : decode cX6_init 31 = .ok (.aload_n 0, 1) := by decide +kernel
theorem dX6_init_32 : decode cX6_init 32 = .ok (.sipush 240, 3) := by decide +kernel
theorem dX6_init_35 : decode cX6_init 35 = .ok (.newarray .int, 2) := by decide +kernel
theorem dX6_init_37 : decode cX6_init 37 = .ok (.putfield 19, 3) := by decide +kernel
theorem dX6_init_40 : decode cX6_init 40 = .ok (.aload_n 0, 1) := by decide +kernel
theorem dX6_init_41 : decode cX6_init 41 = .ok (.bipush 60, 2) := by decide +kernel
theorem dX6_init_43 : decode cX6_init 43 = .ok (.newarray .int, 2) := by decide +kernel
theorem dX6_init_45 : decode cX6_init 45 = .ok (.putfield 22, 3) := by decide +kernel
theorem dX6_init_48 : decode cX6_init 48 = .ok (.aload_n 0, 1) := by decide +kernel
theorem dX6_init_49 : decode cX6_init 49 = .ok (.iconst (-1), 1) := by decide +kernel
theorem dX6_init_50 : decode cX6_init 50 = .ok (.putfield 25, 3) := by decide +kernel
theorem dX6_init_53 : decode cX6_init 53 = .ok (.aload_n 0, 1) := by decide +kernel
theorem dX6_init_54 : decode cX6_init 54 = .ok (.bipush 40, 2) := by decide +kernel
theorem dX6_init_56 : decode cX6_init 56 = .ok (.newarray .char, 2) := by decide +kernel
theorem dX6_init_58 : decode cX6_init 58 = .ok (.putfield 29, 3) := by decide +kernel
theorem dX6_init_61 : decode cX6_init 61 = .ok (.aload_n 0, 1) := by decide +kernel
theorem dX6_init_62 : decode cX6_init 62 = .ok (.bipush 124, 2) := by decide +kernel
theorem dX6_init_64 : decode cX6_init 64 = .ok (.newarray .int, 2) := by decide +kernel
theorem dX6_init_66 : decode cX6_init 66 = .ok (.putfield 33, 3) := by decide +kernel
theorem dX6_init_69 : decode cX6_init 69 = .ok (.return_, 1) := by decide +kernel
theorem dX6_thrown_0 : decode cX6_thrown 0 = .ok (.aload_n 0, 1) := by decide +kernel
theorem dX6_thrown_1 : decode cX6_thrown 1 = .ok (.getfield 36, 3) := by decide +kernel
theorem dX6_thrown_4 : decode cX6_thrown 4 = .ok (.ireturn, 1) := by decide +kernel
theorem dX6_fails_0 : decode cX6_fails 0 = .ok (.aload_n 0, 1) := by decide +kernel
theorem dX6_fails_1 : decode cX6_fails 1 = .ok (.iload_n 1, 1) := by decide +kernel
theorem dX6_fails_2 : decode cX6_fails 2 = .ok (.putfield 36, 3) := by decide +kernel
theorem dX6_fails_5 : decode cX6_fails 5 = .ok (.aload_n 0, 1) := by decide +kernel
theorem dX6_fails_6 : decode cX6_fails 6 = .ok (.iconst 0, 1) := by decide +kernel
theorem dX6_fails_7 : decode cX6_fails 7 = .ok (.putfield 39, 3) := by decide +kernel
theorem dX6_fails_10 : decode cX6_fails 10 = .ok (.iload_n 1, 1) := by decide +kernel
theorem dX6_fails_11 : decode cX6_fails 11 = .ok (.ifCond .le 7, 3) := by decide +kernel
theorem dX6_fails_14 : decode cX6_fails 14 = .ok (.iconst 1, 1) := by decide +kernel
theorem dX6_fails_15 : decode cX6_fails 15 = .ok (.goto 4, 3) := by decide +kernel
theorem dX6_fails_18 : decode cX6_fails 18 = .ok (.iconst 0, 1) := by decide +kernel
theorem dX6_fails_19 : decode cX6_fails 19 = .ok (.ireturn, 1) := by decide +kernel
theorem dX6_refuses_0 : decode cX6_refuses 0 = .ok (.aload_n 0, 1) := by decide +kernel
theorem dX6_refuses_1 : decode cX6_refuses 1 = .ok (.iload_n 1, 1) := by decide +kernel
theorem dX6_refuses_2 : decode cX6_refuses 2 = .ok (.putfield 36, 3) := by decide +kernel
theorem dX6_refuses_5 : decode cX6_refuses 5 = .ok (.aload_n 0, 1) := by decide +kernel
theorem dX6_refuses_6 : decode cX6_refuses 6 = .ok (.iconst 1, 1) := by decide +kernel
theorem dX6_refuses_7 : decode cX6_refuses 7 = .ok (.putfield 39, 3) := by decide +kernel
theorem dX6_refuses_10 : decode cX6_refuses 10 = .ok (.aload_n 0, 1) := by decide +kernel
theorem dX6_refuses_11 : decode cX6_refuses 11 = .ok (.iload_n 2, 1) := by decide +kernel
theorem dX6_refuses_12 : decode cX6_refuses 12 = .ok (.putfield 43, 3) := by decide +kernel
theorem dX6_refuses_15 : decode cX6_refuses 15 = .ok (.aload_n 0, 1) := by decide +kernel
theorem dX6_refuses_16 : decode cX6_refuses 16 = .ok (.iload_n 3, 1) := by decide +kernel
theorem dX6_refuses_17 : decode cX6_refuses 17 = .ok (.putfield 46, 3) := by decide +kernel
theorem dX6_refuses_20 : decode cX6_refuses 20 = .ok (.aload_n 0, 1) := by decide +kernel
theorem dX6_refuses_21 : decode cX6_refuses 21 = .ok (.iconst 0, 1) := by decide +kernel
theorem dX6_refuses_22 : decode cX6_refuses 22 = .ok (.putfield 49, 3) := by decide +kernel
theorem dX6_refuses_25 : decode cX6_refuses 25 = .ok (.aload_n 0, 1) := by decide +kernel
theorem dX6_refuses_26 : decode cX6_refuses 26 = .ok (.iconst 0, 1) := by decide +kernel
theorem dX6_refuses_27 : decode cX6_refuses 27 = .ok (.putfield 52, 3) := by decide +kernel
theorem dX6_refuses_30 : decode cX6_refuses 30 = .ok (.iconst 0, 1) := by decide +kernel
theorem dX6_refuses_31 : decode cX6_refuses 31 = .ok (.ireturn, 1) := by decide +kernel
theorem dX6_in_0 : decode cX6_in 0 = .ok (.iload_n 0, 1) := by decide +kernel
theorem dX6_in_1 : decode cX6_in 1 = .ok (.iload_n 1, 1) := by decide +kernel
theorem dX6_in_2 : decode cX6_in 2 = .ok (.if_icmp .lt 12, 3) := by decide +kernel
theorem dX6_in_5 : decode cX6_in 5 = .ok (.iload_n 0, 1) := by decide +kernel
theorem dX6_in_6 : decode cX6_in 6 = .ok (.iload_n 2, 1) := by decide +kernel
theorem dX6_in_7 : decode cX6_in 7 = .ok (.if_icmp .gt 7, 3) := by decide +kernel
theorem dX6_in_10 : decode cX6_in 10 = .ok (.iconst 1, 1) := by decide +kernel
theorem dX6_in_11 : decode cX6_in 11 = .ok (.goto 4, 3) := by decide +kernel
theorem dX6_in_14 : decode cX6_in 14 = .ok (.iconst 0, 1) := by decide +kernel
theorem dX6_in_15 : decode cX6_in 15 = .ok (.ireturn, 1) := by decide +kernel
theorem dX6_atMost_0 : decode cX6_atMost 0 = .ok (.iload_n 0, 1) := by decide +kernel
theorem dX6_atMost_1 : decode cX6_atMost 1 = .ok (.iload_n 1, 1) := by decide +kernel
theorem dX6_atMost_2 : decode cX6_atMost 2 = .ok (.if_icmp .ge 7, 3) := by decide +kernel
theorem dX6_atMost_5 : decode cX6_atMost 5 = .ok (.iload_n 0, 1) := by decide +kernel
theorem dX6_atMost_6 : decode cX6_atMost 6 = .ok (.goto 4, 3) := by decide +kernel
theorem dX6_atMost_9 : decode cX6_atMost 9 = .ok (.iload_n 1, 1) := by decide +kernel
theorem dX6_atMost_10 : decode cX6_atMost 10 = .ok (.ireturn, 1) := by decide +kernel
theorem dX6_apart_0 : decode cX6_apart 0 = .ok (.iload_n 0, 1) := by decide +kernel
theorem dX6_apart_1 : decode cX6_apart 1 = .ok (.iload_n 1, 1) := by decide +kernel
theorem dX6_apart_2 : decode cX6_apart 2 = .ok (.if_icmp .ge 9, 3) := by decide +kernel
theorem dX6_apart_5 : decode cX6_apart 5 = .ok (.iload_n 1, 1) := by decide +kernel
theorem dX6_apart_6 : decode cX6_apart 6 = .ok (.iload_n 0, 1) := by decide +kernel
theorem dX6_apart_7 : decode cX6_apart 7 = .ok (.isub, 1) := by decide +kernel
theorem dX6_apart_8 : decode cX6_apart 8 = .ok (.goto 6, 3) := by decide +kernel
theorem dX6_apart_11 : decode cX6_apart 11 = .ok (.iload_n 0, 1) := by decide +kernel
theorem dX6_apart_12 : decode cX6_apart 12 = .ok (.iload_n 1, 1) := by decide +kernel
theorem dX6_apart_13 : decode cX6_apart 13 = .ok (.isub, 1) := by decide +kernel
theorem dX6_apart_14 : decode cX6_apart 14 = .ok (.ireturn, 1) := by decide +kernel
theorem dX6_copies_0 : decode cX6_copies 0 = .ok (.iconst 0, 1) := by decide +kernel
theorem dX6_copies_1 : decode cX6_copies 1 = .ok (.istore 4, 2) := by decide +kernel
theorem dX6_copies_3 : decode cX6_copies 3 = .ok (.iload 4, 2) := by decide +kernel
theorem dX6_copies_5 : decode cX6_copies 5 = .ok (.sipush 240, 3) := by decide +kernel
theorem dX6_copies_8 : decode cX6_copies 8 = .ok (.if_icmp .ge 21, 3) := by decide +kernel
theorem dX6_copies_11 : decode cX6_copies 11 = .ok (.aload_n 2, 1) := by decide +kernel
theorem dX6_copies_12 : decode cX6_copies 12 = .ok (.iload_n 3, 1) := by decide +kernel
theorem dX6_copies_13 : decode cX6_copies 13 = .ok (.iload 4, 2) := by decide +kernel
theorem dX6_copies_15 : decode cX6_copies 15 = .ok (.iadd, 1) := by decide +kernel
theorem dX6_copies_16 : decode cX6_copies 16 = .ok (.aload_n 0, 1) := by decide +kernel
theorem dX6_copies_17 : decode cX6_copies 17 = .ok (.iload_n 1, 1) := by decide +kernel
theorem dX6_copies_18 : decode cX6_copies 18 = .ok (.iload 4, 2) := by decide +kernel
theorem dX6_copies_20 : decode cX6_copies 20 = .ok (.iadd, 1) := by decide +kernel
theorem dX6_copies_21 : decode cX6_copies 21 = .ok (.iaload, 1) := by decide +kernel
theorem dX6_copies_22 : decode cX6_copies 22 = .ok (.iastore, 1) := by decide +kernel
theorem dX6_copies_23 : decode cX6_copies 23 = .ok (.iinc 4 1, 3) := by decide +kernel
theorem dX6_copies_26 : decode cX6_copies 26 = .ok (.goto (-23), 3) := by decide +kernel
theorem dX6_copies_29 : decode cX6_copies 29 = .ok (.return_, 1) := by decide +kernel
theorem dX6_keeps_0 : decode cX6_keeps 0 = .ok (.aload_n 0, 1) := by decide +kernel
theorem dX6_keeps_1 : decode cX6_keeps 1 = .ok (.iconst 0, 1) := by decide +kernel
theorem dX6_keeps_2 : decode cX6_keeps 2 = .ok (.putfield 36, 3) := by decide +kernel
theorem dX6_keeps_5 : decode cX6_keeps 5 = .ok (.aload_n 0, 1) := by decide +kernel
theorem dX6_keeps_6 : decode cX6_keeps 6 = .ok (.getfield 55, 3) := by decide +kernel
theorem dX6_keeps_9 : decode cX6_keeps 9 = .ok (.ifCond .eq 4, 3) := by decide +kernel
theorem dX6_keeps_12 : decode cX6_keeps 12 = .ok (.return_, 1) := by decide +kernel
theorem dX6_keeps_13 : decode cX6_keeps 13 = .ok (.aload_n 0, 1) := by decide +kernel
theorem dX6_keeps_14 : decode cX6_keeps 14 = .ok (.getfield 58, 3) := by decide +kernel
theorem dX6_keeps_17 : decode cX6_keeps 17 = .ok (.bipush 8, 2) := by decide +kernel
theorem dX6_keeps_19 : decode cX6_keeps 19 = .ok (.if_icmp .ne 44, 3) := by decide +kernel
theorem dX6_keeps_22 : decode cX6_keeps 22 = .ok (.iconst 0, 1) := by decide +kernel
theorem dX6_keeps_23 : decode cX6_keeps 23 = .ok (.istore_n 2, 1) := by decide +kernel
theorem dX6_keeps_24 : decode cX6_keeps 24 = .ok (.iload_n 2, 1) := by decide +kernel
theorem dX6_keeps_25 : decode cX6_keeps 25 = .ok (.sipush 1680, 3) := by decide +kernel
theorem dX6_keeps_28 : decode cX6_keeps 28 = .ok (.if_icmp .ge 25, 3) := by decide +kernel
theorem dX6_keeps_31 : decode cX6_keeps 31 = .ok (.aload_n 0, 1) := by decide +kernel
theorem dX6_keeps_32 : decode cX6_keeps 32 = .ok (.getfield 13, 3) := by decide +kernel
theorem dX6_keeps_35 : decode cX6_keeps 35 = .ok (.iload_n 2, 1) := by decide +kernel
theorem dX6_keeps_36 : decode cX6_keeps 36 = .ok (.aload_n 0, 1) := by decide +kernel
theorem dX6_keeps_37 : decode cX6_keeps 37 = .ok (.getfield 13, 3) := by decide +kernel
theorem dX6_keeps_40 : decode cX6_keeps 40 = .ok (.iload_n 2, 1) := by decide +kernel
theorem dX6_keeps_41 : decode cX6_keeps 41 = .ok (.sipush 240, 3) := by decide +kernel
theorem dX6_keeps_44 : decode cX6_keeps 44 = .ok (.iadd, 1) := by decide +kernel
theorem dX6_keeps_45 : decode cX6_keeps 45 = .ok (.iaload, 1) := by decide +kernel
theorem dX6_keeps_46 : decode cX6_keeps 46 = .ok (.iastore, 1) := by decide +kernel
theorem dX6_keeps_47 : decode cX6_keeps 47 = .ok (.iinc 2 1, 3) := by decide +kernel
theorem dX6_keeps_50 : decode cX6_keeps 50 = .ok (.goto (-26), 3) := by decide +kernel
theorem dX6_keeps_53 : decode cX6_keeps 53 = .ok (.aload_n 0, 1) := by decide +kernel
theorem dX6_keeps_54 : decode cX6_keeps 54 = .ok (.dup, 1) := by decide +kernel
theorem dX6_keeps_55 : decode cX6_keeps 55 = .ok (.getfield 58, 3) := by decide +kernel
theorem dX6_keeps_58 : decode cX6_keeps 58 = .ok (.iconst 1, 1) := by decide +kernel
theorem dX6_keeps_59 : decode cX6_keeps 59 = .ok (.isub, 1) := by decide +kernel
theorem dX6_keeps_60 : decode cX6_keeps 60 = .ok (.putfield 58, 3) := by decide +kernel
theorem dX6_keeps_63 : decode cX6_keeps 63 = .ok (.aload_n 1, 1) := by decide +kernel
theorem dX6_keeps_64 : decode cX6_keeps 64 = .ok (.iconst 0, 1) := by decide +kernel
theorem dX6_keeps_65 : decode cX6_keeps 65 = .ok (.aload_n 0, 1) := by decide +kernel
theorem dX6_keeps_66 : decode cX6_keeps 66 = .ok (.getfield 13, 3) := by decide +kernel
theorem dX6_keeps_69 : decode cX6_keeps 69 = .ok (.sipush 240, 3) := by decide +kernel
theorem dX6_keeps_72 : decode cX6_keeps 72 = .ok (.aload_n 0, 1) := by decide +kernel
theorem dX6_keeps_73 : decode cX6_keeps 73 = .ok (.getfield 58, 3) := by decide +kernel
theorem dX6_keeps_76 : decode cX6_keeps 76 = .ok (.imul, 1) := by decide +kernel
theorem dX6_keeps_77 : decode cX6_keeps 77 = .ok (.invokestatic 61, 3) := by decide +kernel
theorem dX6_keeps_80 : decode cX6_keeps 80 = .ok (.aload_n 0, 1) := by decide +kernel
theorem dX6_keeps_81 : decode cX6_keeps 81 = .ok (.dup, 1) := by decide +kernel
theorem dX6_keeps_82 : decode cX6_keeps 82 = .ok (.getfield 58, 3) := by decide +kernel
theorem dX6_keeps_85 : decode cX6_keeps 85 = .ok (.iconst 1, 1) := by decide +kernel
theorem dX6_keeps_86 : decode cX6_keeps 86 = .ok (.iadd, 1) := by decide +kernel
theorem dX6_keeps_87 : decode cX6_keeps 87 = .ok (.putfield 58, 3) := by decide +kernel
theorem dX6_keeps_90 : decode cX6_keeps 90 = .ok (.return_, 1) := by decide +kernel
theorem dX6_by_0 : decode cX6_by 0 = .ok (.aload_n 0, 1) := by decide +kernel
theorem dX6_by_1 : decode cX6_by 1 = .ok (.getfield 7, 3) := by decide +kernel
theorem dX6_by_4 : decode cX6_by 4 = .ok (.bipush 10, 2) := by decide +kernel
theorem dX6_by_6 : decode cX6_by 6 = .ok (.iconst 3, 1) := by decide +kernel
theorem dX6_by_7 : decode cX6_by 7 = .ok (.iload_n 1, 1) := by decide +kernel
theorem dX6_by_8 : decode cX6_by 8 = .ok (.imul, 1) := by decide +kernel
theorem dX6_by_9 : decode cX6_by 9 = .ok (.iadd, 1) := by decide +kernel
theorem dX6_by_10 : decode cX6_by 10 = .ok (.iload_n 2, 1) := by decide +kernel
theorem dX6_by_11 : decode cX6_by 11 = .ok (.iadd, 1) := by decide +kernel
theorem dX6_by_12 : decode cX6_by 12 = .ok (.iaload, 1) := by decide +kernel
theorem dX6_by_13 : decode cX6_by 13 = .ok (.ireturn, 1) := by decide +kernel
theorem dX6_adds_0 : decode cX6_adds 0 = .ok (.aload_n 0, 1) := by decide +kernel
theorem dX6_adds_1 : decode cX6_adds 1 = .ok (.getfield 7, 3) := by decide +kernel
theorem dX6_adds_4 : decode cX6_adds 4 = .ok (.bipush 10, 2) := by decide +kernel
theorem dX6_adds_6 : decode cX6_adds 6 = .ok (.iconst 3, 1) := by decide +kernel
theorem dX6_adds_7 : decode cX6_adds 7 = .ok (.iload_n 1, 1) := by decide +kernel
theorem dX6_adds_8 : decode cX6_adds 8 = .ok (.imul, 1) := by decide +kernel
theorem dX6_adds_9 : decode cX6_adds 9 = .ok (.iadd, 1) := by decide +kernel
theorem dX6_adds_10 : decode cX6_adds 10 = .ok (.iload_n 2, 1) := by decide +kernel
theorem dX6_adds_11 : decode cX6_adds 11 = .ok (.iadd, 1) := by decide +kernel
theorem dX6_adds_12 : decode cX6_adds 12 = .ok (.dup2, 1) := by decide +kernel
theorem dX6_adds_13 : decode cX6_adds 13 = .ok (.iaload, 1) := by decide +kernel
theorem dX6_adds_14 : decode cX6_adds 14 = .ok (.iload_n 3, 1) := by decide +kernel
theorem dX6_adds_15 : decode cX6_adds 15 = .ok (.iadd, 1) := by decide +kernel
theorem dX6_adds_16 : decode cX6_adds 16 = .ok (.iastore, 1) := by decide +kernel
theorem dX6_adds_17 : decode cX6_adds 17 = .ok (.return_, 1) := by decide +kernel
theorem dX6_gets_0 : decode cX6_gets 0 = .ok (.aload_n 0, 1) := by decide +kernel
theorem dX6_gets_1 : decode cX6_gets 1 = .ok (.getfield 7, 3) := by decide +kernel
theorem dX6_gets_4 : decode cX6_gets 4 = .ok (.bipush 10, 2) := by decide +kernel
theorem dX6_gets_6 : decode cX6_gets 6 = .ok (.iconst 3, 1) := by decide +kernel
theorem dX6_gets_7 : decode cX6_gets 7 = .ok (.iload_n 1, 1) := by decide +kernel
theorem dX6_gets_8 : decode cX6_gets 8 = .ok (.imul, 1) := by decide +kernel
theorem dX6_gets_9 : decode cX6_gets 9 = .ok (.iadd, 1) := by decide +kernel
theorem dX6_gets_10 : decode cX6_gets 10 = .ok (.iload_n 2, 1) := by decide +kernel
theorem dX6_gets_11 : decode cX6_gets 11 = .ok (.iadd, 1) := by decide +kernel
theorem dX6_gets_12 : decode cX6_gets 12 = .ok (.aload_n 0, 1) := by decide +kernel
theorem dX6_gets_13 : decode cX6_gets 13 = .ok (.iload_n 1, 1) := by decide +kernel
theorem dX6_gets_14 : decode cX6_gets 14 = .ok (.iload_n 2, 1) := by decide +kernel
theorem dX6_gets_15 : decode cX6_gets 15 = .ok (.invokevirtual 65, 3) := by decide +kernel
theorem dX6_gets_18 : decode cX6_gets 18 = .ok (.iload_n 3, 1) := by decide +kernel
theorem dX6_gets_19 : decode cX6_gets 19 = .ok (.iadd, 1) := by decide +kernel
theorem dX6_gets_20 : decode cX6_gets 20 = .ok (.bipush 99, 2) := by decide +kernel
theorem dX6_gets_22 : decode cX6_gets 22 = .ok (.invokestatic 69, 3) := by decide +kernel
theorem dX6_gets_25 : decode cX6_gets 25 = .ok (.iastore, 1) := by decide +kernel
theorem dX6_gets_26 : decode cX6_gets 26 = .ok (.return_, 1) := by decide +kernel
theorem dX6_of_0 : decode cX6_of 0 = .ok (.aload_n 0, 1) := by decide +kernel
theorem dX6_of_1 : decode cX6_of 1 = .ok (.getfield 7, 3) := by decide +kernel
theorem dX6_of_4 : decode cX6_of 4 = .ok (.bipush 22, 2) := by decide +kernel
theorem dX6_of_6 : decode cX6_of 6 = .ok (.bipush 26, 2) := by decide +kernel
theorem dX6_of_8 : decode cX6_of 8 = .ok (.iload_n 1, 1) := by decide +kernel
theorem dX6_of_9 : decode cX6_of 9 = .ok (.imul, 1) := by decide +kernel
theorem dX6_of_10 : decode cX6_of 10 = .ok (.iadd, 1) := by decide +kernel
theorem dX6_of_11 : decode cX6_of 11 = .ok (.iload_n 2, 1) := by decide +kernel
theorem dX6_of_12 : decode cX6_of 12 = .ok (.iadd, 1) := by decide +kernel
theorem dX6_of_13 : decode cX6_of 13 = .ok (.iaload, 1) := by decide +kernel
theorem dX6_of_14 : decode cX6_of 14 = .ok (.ireturn, 1) := by decide +kernel
theorem dX6_lays_0 : decode cX6_lays 0 = .ok (.aload_n 0, 1) := by decide +kernel
theorem dX6_lays_1 : decode cX6_lays 1 = .ok (.getfield 7, 3) := by decide +kernel
theorem dX6_lays_4 : decode cX6_lays 4 = .ok (.bipush 22, 2) := by decide +kernel
theorem dX6_lays_6 : decode cX6_lays 6 = .ok (.bipush 26, 2) := by decide +kernel
theorem dX6_lays_8 : decode cX6_lays 8 = .ok (.iload_n 1, 1) := by decide +kernel
theorem dX6_lays_9 : decode cX6_lays 9 = .ok (.imul, 1) := by decide +kernel
theorem dX6_lays_10 : decode cX6_lays 10 = .ok (.iadd, 1) := by decide +kernel
theorem dX6_lays_11 : decode cX6_lays 11 = .ok (.iload_n 2, 1) := by decide +kernel
theorem dX6_lays_12 : decode cX6_lays 12 = .ok (.iadd, 1) := by decide +kernel
theorem dX6_lays_13 : decode cX6_lays 13 = .ok (.iload_n 3, 1) := by decide +kernel
theorem dX6_lays_14 : decode cX6_lays 14 = .ok (.iastore, 1) := by decide +kernel
theorem dX6_lays_15 : decode cX6_lays 15 = .ok (.return_, 1) := by decide +kernel
theorem dX6_isHouse_0 : decode cX6_isHouse 0 = .ok (.iload_n 1, 1) := by decide +kernel
theorem dX6_isHouse_1 : decode cX6_isHouse 1 = .ok (.iconst 0, 1) := by decide +kernel
theorem dX6_isHouse_2 : decode cX6_isHouse 2 = .ok (.aload_n 0, 1) := by decide +kernel
theorem dX6_isHouse_3 : decode cX6_isHouse 3 = .ok (.getfield 7, 3) := by decide +kernel
theorem dX6_isHouse_6 : decode cX6_isHouse 6 = .ok (.iconst 0, 1) := by decide +kernel
theorem dX6_isHouse_7 : decode cX6_isHouse 7 = .ok (.iaload, 1) := by decide +kernel
theorem dX6_isHouse_8 : decode cX6_isHouse 8 = .ok (.iconst 1, 1) := by decide +kernel
theorem dX6_isHouse_9 : decode cX6_isHouse 9 = .ok (.isub, 1) := by decide +kernel
theorem dX6_isHouse_10 : decode cX6_isHouse 10 = .ok (.invokestatic 72, 3) := by decide +kernel
theorem dX6_isHouse_13 : decode cX6_isHouse 13 = .ok (.ireturn, 1) := by decide +kernel
theorem dX6_isSheet_0 : decode cX6_isSheet 0 = .ok (.iload_n 1, 1) := by decide +kernel
theorem dX6_isSheet_1 : decode cX6_isSheet 1 = .ok (.iconst 0, 1) := by decide +kernel
theorem dX6_isSheet_2 : decode cX6_isSheet 2 = .ok (.aload_n 0, 1) := by decide +kernel
theorem dX6_isSheet_3 : decode cX6_isSheet 3 = .ok (.getfield 7, 3) := by decide +kernel
theorem dX6_isSheet_6 : decode cX6_isSheet 6 = .ok (.iconst 1, 1) := by decide +kernel
theorem dX6_isSheet_7 : decode cX6_isSheet 7 = .ok (.iaload, 1) := by decide +kernel
theorem dX6_isSheet_8 : decode cX6_isSheet 8 = .ok (.iconst 1, 1) := by decide +kernel
theorem dX6_isSheet_9 : decode cX6_isSheet 9 = .ok (.isub, 1) := by decide +kernel
theorem dX6_isSheet_10 : decode cX6_isSheet 10 = .ok (.invokestatic 72, 3) := by decide +kernel
theorem dX6_isSheet_13 : decode cX6_isSheet 13 = .ok (.ireturn, 1) := by decide +kernel
theorem dX6_isPlace_0 : decode cX6_isPlace 0 = .ok (.aload_n 0, 1) := by decide +kernel
theorem dX6_isPlace_1 : decode cX6_isPlace 1 = .ok (.iload_n 1, 1) := by decide +kernel
theorem dX6_isPlace_2 : decode cX6_isPlace 2 = .ok (.invokevirtual 76, 3) := by decide +kernel
theorem dX6_isPlace_5 : decode cX6_isPlace 5 = .ok (.ifCond .eq 23, 3) := by decide +kernel
theorem dX6_isPlace_8 : decode cX6_isPlace 8 = .ok (.iload_n 2, 1) := by decide +kernel
theorem dX6_isPlace_9 : decode cX6_isPlace 9 = .ok (.iconst 0, 1) := by decide +kernel
theorem dX6_isPlace_10 : decode cX6_isPlace 10 = .ok (.aload_n 0, 1) := by decide +kernel
theorem dX6_isPlace_11 : decode cX6_isPlace 11 = .ok (.iload_n 1, 1) := by decide +kernel
theorem dX6_isPlace_12 : decode cX6_isPlace 12 = .ok (.iconst 1, 1) := by decide +kernel
theorem dX6_isPlace_13 : decode cX6_isPlace 13 = .ok (.invokevirtual 80, 3) := by decide +kernel
theorem dX6_isPlace_16 : decode cX6_isPlace 16 = .ok (.iconst 1, 1) := by decide +kernel
theorem dX6_isPlace_17 : decode cX6_isPlace 17 = .ok (.isub, 1) := by decide +kernel
theorem dX6_isPlace_18 : decode cX6_isPlace 18 = .ok (.invokestatic 72, 3) := by decide +kernel
theorem dX6_isPlace_21 : decode cX6_isPlace 21 = .ok (.ifCond .eq 7, 3) := by decide +kernel
theorem dX6_isPlace_24 : decode cX6_isPlace 24 = .ok (.iconst 1, 1) := by decide +kernel
theorem dX6_isPlace_25 : decode cX6_isPlace 25 = .ok (.goto 4, 3) := by decide +kernel
theorem dX6_isPlace_28 : decode cX6_isPlace 28 = .ok (.iconst 0, 1) := by decide +kernel
theorem dX6_isPlace_29 : decode cX6_isPlace 29 = .ok (.ireturn, 1) := by decide +kernel
theorem dX6_mark_0 : decode cX6_mark 0 = .ok (.aload_n 0, 1) := by decide +kernel
theorem dX6_mark_1 : decode cX6_mark 1 = .ok (.iload_n 1, 1) := by decide +kernel
theorem dX6_mark_2 : decode cX6_mark 2 = .ok (.bipush 18, 2) := by decide +kernel
theorem dX6_mark_4 : decode cX6_mark 4 = .ok (.iload_n 2, 1) := by decide +kernel
theorem dX6_mark_5 : decode cX6_mark 5 = .ok (.iadd, 1) := by decide +kernel
theorem dX6_mark_6 : decode cX6_mark 6 = .ok (.invokevirtual 80, 3) := by decide +kernel
theorem dX6_mark_9 : decode cX6_mark 9 = .ok (.ireturn, 1) := by decide +kernel
theorem dX6_bad_0 : decode cX6_bad 0 = .ok (.aload_n 0, 1) := by decide +kernel
theorem dX6_bad_1 : decode cX6_bad 1 = .ok (.iload_n 1, 1) := by decide +kernel
theorem dX6_bad_2 : decode cX6_bad 2 = .ok (.bipush 10, 2) := by decide +kernel
theorem dX6_bad_4 : decode cX6_bad 4 = .ok (.iload_n 2, 1) := by decide +kernel
theorem dX6_bad_5 : decode cX6_bad 5 = .ok (.iadd, 1) := by decide +kernel
theorem dX6_bad_6 : decode cX6_bad 6 = .ok (.invokevirtual 80, 3) := by decide +kernel
theorem dX6_bad_9 : decode cX6_bad 9 = .ok (.aload_n 0, 1) := by decide +kernel
theorem dX6_bad_10 : decode cX6_bad 10 = .ok (.iload_n 1, 1) := by decide +kernel
theorem dX6_bad_11 : decode cX6_bad 11 = .ok (.iconst 2, 1) := by decide +kernel
theorem dX6_bad_12 : decode cX6_bad 12 = .ok (.iload_n 2, 1) := by decide +kernel
theorem dX6_bad_13 : decode cX6_bad 13 = .ok (.iadd, 1) := by decide +kernel
theorem dX6_bad_14 : decode cX6_bad 14 = .ok (.invokevirtual 80, 3) := by decide +kernel
theorem dX6_bad_17 : decode cX6_bad 17 = .ok (.invokestatic 83, 3) := by decide +kernel
theorem dX6_bad_20 : decode cX6_bad 20 = .ok (.ireturn, 1) := by decide +kernel
theorem dX6_house_0 : decode cX6_house 0 = .ok (.aload_n 0, 1) := by decide +kernel
theorem dX6_house_1 : decode cX6_house 1 = .ok (.iload_n 1, 1) := by decide +kernel
theorem dX6_house_2 : decode cX6_house 2 = .ok (.iconst 0, 1) := by decide +kernel
theorem dX6_house_3 : decode cX6_house 3 = .ok (.bipush 99, 2) := by decide +kernel
theorem dX6_house_5 : decode cX6_house 5 = .ok (.invokestatic 72, 3) := by decide +kernel
theorem dX6_house_8 : decode cX6_house 8 = .ok (.ifCond .eq 7, 3) := by decide +kernel
theorem dX6_house_11 : decode cX6_house 11 = .ok (.iconst 0, 1) := by decide +kernel
theorem dX6_house_12 : decode cX6_house 12 = .ok (.goto 4, 3) := by decide +kernel
theorem dX6_house_15 : decode cX6_house 15 = .ok (.iconst 1, 1) := by decide +kernel
theorem dX6_house_16 : decode cX6_house 16 = .ok (.invokevirtual 86, 3) := by decide +kernel
theorem dX6_house_19 : decode cX6_house 19 = .ok (.ifCond .eq 5, 3) := by decide +kernel
theorem dX6_house_22 : decode cX6_house 22 = .ok (.iconst 0, 1) := by decide +kernel
theorem dX6_house_23 : decode cX6_house 23 = .ok (.ireturn, 1) := by decide +kernel
theorem dX6_house_24 : decode cX6_house 24 = .ok (.aload_n 0, 1) := by decide +kernel
theorem dX6_house_25 : decode cX6_house 25 = .ok (.getfield 7, 3) := by decide +kernel
theorem dX6_house_28 : decode cX6_house 28 = .ok (.iconst 0, 1) := by decide +kernel
theorem dX6_house_29 : decode cX6_house 29 = .ok (.iaload, 1) := by decide +kernel
theorem dX6_house_30 : decode cX6_house 30 = .ok (.iconst 4, 1) := by decide +kernel
theorem dX6_house_31 : decode cX6_house 31 = .ok (.if_icmp .ne 11, 3) := by decide +kernel
theorem dX6_house_34 : decode cX6_house 34 = .ok (.aload_n 0, 1) := by decide +kernel
theorem dX6_house_35 : decode cX6_house 35 = .ok (.iconst 2, 1) := by decide +kernel
theorem dX6_house_36 : decode cX6_house 36 = .ok (.iconst 1, 1) := by decide +kernel
theorem dX6_house_37 : decode cX6_house 37 = .ok (.iconst 4, 1) := by decide +kernel
theorem dX6_house_38 : decode cX6_house 38 = .ok (.invokevirtual 89, 3) := by decide +kernel
theorem dX6_house_41 : decode cX6_house 41 = .ok (.ireturn, 1) := by decide +kernel
theorem dX6_house_42 : decode cX6_house 42 = .ok (.aload_n 0, 1) := by decide +kernel
theorem dX6_house_43 : decode cX6_house 43 = .ok (.aload_n 0, 1) := by decide +kernel
theorem dX6_house_44 : decode cX6_house 44 = .ok (.getfield 7, 3) := by decide +kernel
theorem dX6_house_47 : decode cX6_house 47 = .ok (.invokevirtual 93, 3) := by decide +kernel
theorem dX6_house_50 : decode cX6_house 50 = .ok (.aload_n 0, 1) := by decide +kernel
theorem dX6_house_51 : decode cX6_house 51 = .ok (.getfield 7, 3) := by decide +kernel
theorem dX6_house_54 : decode cX6_house 54 = .ok (.iconst 0, 1) := by decide +kernel
theorem dX6_house_55 : decode cX6_house 55 = .ok (.iaload, 1) := by decide +kernel
theorem dX6_house_56 : decode cX6_house 56 = .ok (.istore_n 2, 1) := by decide +kernel
theorem dX6_house_57 : decode cX6_house 57 = .ok (.aload_n 0, 1) := by decide +kernel
theorem dX6_house_58 : decode cX6_house 58 = .ok (.getfield 7, 3) := by decide +kernel
theorem dX6_house_61 : decode cX6_house 61 = .ok (.iconst 0, 1) := by decide +kernel
theorem dX6_house_62 : decode cX6_house 62 = .ok (.dup2, 1) := by decide +kernel
theorem dX6_house_63 : decode cX6_house 63 = .ok (.iaload, 1) := by decide +kernel
theorem dX6_house_64 : decode cX6_house 64 = .ok (.iconst 1, 1) := by decide +kernel
theorem dX6_house_65 : decode cX6_house 65 = .ok (.iadd, 1) := by decide +kernel
theorem dX6_house_66 : decode cX6_house 66 = .ok (.iastore, 1) := by decide +kernel
theorem dX6_house_67 : decode cX6_house 67 = .ok (.iconst 0, 1) := by decide +kernel
theorem dX6_house_68 : decode cX6_house 68 = .ok (.istore_n 3, 1) := by decide +kernel
theorem dX6_house_69 : decode cX6_house 69 = .ok (.iload_n 3, 1) := by decide +kernel
theorem dX6_house_70 : decode cX6_house 70 = .ok (.iconst 3, 1) := by decide +kernel
theorem dX6_house_71 : decode cX6_house 71 = .ok (.if_icmp .ge 23, 3) := by decide +kernel
theorem dX6_house_74 : decode cX6_house 74 = .ok (.aload_n 0, 1) := by decide +kernel
theorem dX6_house_75 : decode cX6_house 75 = .ok (.getfield 7, 3) := by decide +kernel
theorem dX6_house_78 : decode cX6_house 78 = .ok (.bipush 10, 2) := by decide +kernel
theorem dX6_house_80 : decode cX6_house 80 = .ok (.iconst 3, 1) := by decide +kernel
theorem dX6_house_81 : decode cX6_house 81 = .ok (.iload_n 2, 1) := by decide +kernel
theorem dX6_house_82 : decode cX6_house 82 = .ok (.imul, 1) := by decide +kernel
theorem dX6_house_83 : decode cX6_house 83 = .ok (.iadd, 1) := by decide +kernel
theorem dX6_house_84 : decode cX6_house 84 = .ok (.iload_n 3, 1) := by decide +kernel
theorem dX6_house_85 : decode cX6_house 85 = .ok (.iadd, 1) := by decide +kernel
theorem dX6_house_86 : decode cX6_house 86 = .ok (.iconst 0, 1) := by decide +kernel
theorem dX6_house_87 : decode cX6_house 87 = .ok (.iastore, 1) := by decide +kernel
theorem dX6_house_88 : decode cX6_house 88 = .ok (.iinc 3 1, 3) := by decide +kernel
theorem dX6_house_91 : decode cX6_house 91 = .ok (.goto (-22), 3) := by decide +kernel
theorem dX6_house_94 : decode cX6_house 94 = .ok (.aload_n 0, 1) := by decide +kernel
theorem dX6_house_95 : decode cX6_house 95 = .ok (.iload_n 2, 1) := by decide +kernel
theorem dX6_house_96 : decode cX6_house 96 = .ok (.iconst 0, 1) := by decide +kernel
theorem dX6_house_97 : decode cX6_house 97 = .ok (.iload_n 1, 1) := by decide +kernel
theorem dX6_house_98 : decode cX6_house 98 = .ok (.invokevirtual 97, 3) := by decide +kernel
theorem dX6_house_101 : decode cX6_house 101 = .ok (.iload_n 2, 1) := by decide +kernel
theorem dX6_house_102 : decode cX6_house 102 = .ok (.ireturn, 1) := by decide +kernel
theorem dX6_letters_0 : decode cX6_letters 0 = .ok (.iconst 0, 1) := by decide +kernel
theorem dX6_letters_1 : decode cX6_letters 1 = .ok (.istore_n 1, 1) := by decide +kernel
theorem dX6_letters_2 : decode cX6_letters 2 = .ok (.iload_n 0, 1) := by decide +kernel
theorem dX6_letters_3 : decode cX6_letters 3 = .ok (.istore_n 2, 1) := by decide +kernel
theorem dX6_letters_4 : decode cX6_letters 4 = .ok (.iload_n 2, 1) := by decide +kernel
theorem dX6_letters_5 : decode cX6_letters 5 = .ok (.ifCond .le 29, 3) := by decide +kernel
theorem dX6_letters_8 : decode cX6_letters 8 = .ok (.iload_n 2, 1) := by decide +kernel
theorem dX6_letters_9 : decode cX6_letters 9 = .ok (.bipush 10, 2) := by decide +kernel
theorem dX6_letters_11 : decode cX6_letters 11 = .ok (.irem, 1) := by decide +kernel
theorem dX6_letters_12 : decode cX6_letters 12 = .ok (.iconst 1, 1) := by decide +kernel
theorem dX6_letters_13 : decode cX6_letters 13 = .ok (.bipush 6, 2) := by decide +kernel
theorem dX6_letters_15 : decode cX6_letters 15 = .ok (.invokestatic 72, 3) := by decide +kernel
theorem dX6_letters_18 : decode cX6_letters 18 = .ok (.ifCond .ne 5, 3) := by decide +kernel
theorem dX6_letters_21 : decode cX6_letters 21 = .ok (.iconst 0, 1) := by decide +kernel
theorem dX6_letters_22 : decode cX6_letters 22 = .ok (.ireturn, 1) := by decide +kernel
theorem dX6_letters_23 : decode cX6_letters 23 = .ok (.iinc 1 1, 3) := by decide +kernel
theorem dX6_letters_26 : decode cX6_letters 26 = .ok (.iload_n 2, 1) := by decide +kernel
theorem dX6_letters_27 : decode cX6_letters 27 = .ok (.bipush 10, 2) := by decide +kernel
theorem dX6_letters_29 : decode cX6_letters 29 = .ok (.idiv, 1) := by decide +kernel
theorem dX6_letters_30 : decode cX6_letters 30 = .ok (.istore_n 2, 1) := by decide +kernel
theorem dX6_letters_31 : decode cX6_letters 31 = .ok (.goto (-27), 3) := by decide +kernel
theorem dX6_letters_34 : decode cX6_letters 34 = .ok (.iload_n 1, 1) := by decide +kernel
theorem dX6_letters_35 : decode cX6_letters 35 = .ok (.iconst 3, 1) := by decide +kernel
theorem dX6_letters_36 : decode cX6_letters 36 = .ok (.bipush 8, 2) := by decide +kernel
theorem dX6_letters_38 : decode cX6_letters 38 = .ok (.invokestatic 72, 3) := by decide +kernel
theorem dX6_letters_41 : decode cX6_letters 41 = .ok (.ifCond .eq 7, 3) := by decide +kernel
theorem dX6_letters_44 : decode cX6_letters 44 = .ok (.iload_n 1, 1) := by decide +kernel
theorem dX6_letters_45 : decode cX6_letters 45 = .ok (.goto 4, 3) := by decide +kernel
theorem dX6_letters_48 : decode cX6_letters 48 = .ok (.iconst 0, 1) := by decide +kernel
theorem dX6_letters_49 : decode cX6_letters 49 = .ok (.ireturn, 1) := by decide +kernel
theorem dX6_sheet_0 : decode cX6_sheet 0 = .ok (.aload_n 0, 1) := by decide +kernel
theorem dX6_sheet_1 : decode cX6_sheet 1 = .ok (.aload_n 0, 1) := by decide +kernel
theorem dX6_sheet_2 : decode cX6_sheet 2 = .ok (.iload_n 1, 1) := by decide +kernel
theorem dX6_sheet_3 : decode cX6_sheet 3 = .ok (.invokevirtual 101, 3) := by decide +kernel
theorem dX6_sheet_6 : decode cX6_sheet 6 = .ok (.ifCond .ne 7, 3) := by decide +kernel
theorem dX6_sheet_9 : decode cX6_sheet 9 = .ok (.iconst 1, 1) := by decide +kernel
theorem dX6_sheet_10 : decode cX6_sheet 10 = .ok (.goto 15, 3) := by decide +kernel
theorem dX6_sheet_13 : decode cX6_sheet 13 = .ok (.iload_n 2, 1) := by decide +kernel
theorem dX6_sheet_14 : decode cX6_sheet 14 = .ok (.invokestatic 104, 3) := by decide +kernel
theorem dX6_sheet_17 : decode cX6_sheet 17 = .ok (.ifCond .ne 7, 3) := by decide +kernel
theorem dX6_sheet_20 : decode cX6_sheet 20 = .ok (.iconst 2, 1) := by decide +kernel
theorem dX6_sheet_21 : decode cX6_sheet 21 = .ok (.goto 4, 3) := by decide +kernel
theorem dX6_sheet_24 : decode cX6_sheet 24 = .ok (.iconst 0, 1) := by decide +kernel
theorem dX6_sheet_25 : decode cX6_sheet 25 = .ok (.invokevirtual 86, 3) := by decide +kernel
theorem dX6_sheet_28 : decode cX6_sheet 28 = .ok (.ifCond .eq 5, 3) := by decide +kernel
theorem dX6_sheet_31 : decode cX6_sheet 31 = .ok (.iconst 0, 1) := by decide +kernel
theorem dX6_sheet_32 : decode cX6_sheet 32 = .ok (.ireturn, 1) := by decide +kernel
theorem dX6_sheet_33 : decode cX6_sheet 33 = .ok (.aload_n 0, 1) := by decide +kernel
theorem dX6_sheet_34 : decode cX6_sheet 34 = .ok (.getfield 7, 3) := by decide +kernel
theorem dX6_sheet_37 : decode cX6_sheet 37 = .ok (.iconst 1, 1) := by decide +kernel
theorem dX6_sheet_38 : decode cX6_sheet 38 = .ok (.iaload, 1) := by decide +kernel
theorem dX6_sheet_39 : decode cX6_sheet 39 = .ok (.bipush 8, 2) := by decide +kernel
theorem dX6_sheet_41 : decode cX6_sheet 41 = .ok (.if_icmp .ne 12, 3) := by decide +kernel
theorem dX6_sheet_44 : decode cX6_sheet 44 = .ok (.aload_n 0, 1) := by decide +kernel
theorem dX6_sheet_45 : decode cX6_sheet 45 = .ok (.iconst 3, 1) := by decide +kernel
theorem dX6_sheet_46 : decode cX6_sheet 46 = .ok (.iconst 1, 1) := by decide +kernel
theorem dX6_sheet_47 : decode cX6_sheet 47 = .ok (.bipush 8, 2) := by decide +kernel
theorem dX6_sheet_49 : decode cX6_sheet 49 = .ok (.invokevirtual 89, 3) := by decide +kernel
theorem dX6_sheet_52 : decode cX6_sheet 52 = .ok (.ireturn, 1) := by decide +kernel
theorem dX6_sheet_53 : decode cX6_sheet 53 = .ok (.aload_n 0, 1) := by decide +kernel
theorem dX6_sheet_54 : decode cX6_sheet 54 = .ok (.aload_n 0, 1) := by decide +kernel
theorem dX6_sheet_55 : decode cX6_sheet 55 = .ok (.getfield 7, 3) := by decide +kernel
theorem dX6_sheet_58 : decode cX6_sheet 58 = .ok (.invokevirtual 93, 3) := by decide +kernel
theorem dX6_sheet_61 : decode cX6_sheet 61 = .ok (.aload_n 0, 1) := by decide +kernel
theorem dX6_sheet_62 : decode cX6_sheet 62 = .ok (.getfield 7, 3) := by decide +kernel
theorem dX6_sheet_65 : decode cX6_sheet 65 = .ok (.iconst 1, 1) := by decide +kernel
theorem dX6_sheet_66 : decode cX6_sheet 66 = .ok (.iaload, 1) := by decide +kernel
theorem dX6_sheet_67 : decode cX6_sheet 67 = .ok (.istore_n 3, 1) := by decide +kernel
theorem dX6_sheet_68 : decode cX6_sheet 68 = .ok (.aload_n 0, 1) := by decide +kernel
theorem dX6_sheet_69 : decode cX6_sheet 69 = .ok (.getfield 7, 3) := by decide +kernel
theorem dX6_sheet_72 : decode cX6_sheet 72 = .ok (.iconst 1, 1) := by decide +kernel
theorem dX6_sheet_73 : decode cX6_sheet 73 = .ok (.dup2, 1) := by decide +kernel
theorem dX6_sheet_74 : decode cX6_sheet 74 = .ok (.iaload, 1) := by decide +kernel
theorem dX6_sheet_75 : decode cX6_sheet 75 = .ok (.iconst 1, 1) := by decide +kernel
theorem dX6_sheet_76 : decode cX6_sheet 76 = .ok (.iadd, 1) := by decide +kernel
theorem dX6_sheet_77 : decode cX6_sheet 77 = .ok (.iastore, 1) := by decide +kernel
theorem dX6_sheet_78 : decode cX6_sheet 78 = .ok (.iconst 0, 1) := by decide +kernel
theorem dX6_sheet_79 : decode cX6_sheet 79 = .ok (.istore 4, 2) := by decide +kernel
theorem dX6_sheet_81 : decode cX6_sheet 81 = .ok (.iload 4, 2) := by decide +kernel
theorem dX6_sheet_83 : decode cX6_sheet 83 = .ok (.bipush 26, 2) := by decide +kernel
theorem dX6_sheet_85 : decode cX6_sheet 85 = .ok (.if_icmp .ge 17, 3) := by decide +kernel
theorem dX6_sheet_88 : decode cX6_sheet 88 = .ok (.aload_n 0, 1) := by decide +kernel
theorem dX6_sheet_89 : decode cX6_sheet 89 = .ok (.iload_n 3, 1) := by decide +kernel
theorem dX6_sheet_90 : decode cX6_sheet 90 = .ok (.iload 4, 2) := by decide +kernel
theorem dX6_sheet_92 : decode cX6_sheet 92 = .ok (.iconst 0, 1) := by decide +kernel
theorem dX6_sheet_93 : decode cX6_sheet 93 = .ok (.invokevirtual 108, 3) := by decide +kernel
theorem dX6_sheet_96 : decode cX6_sheet 96 = .ok (.iinc 4 1, 3) := by decide +kernel
theorem dX6_sheet_99 : decode cX6_sheet 99 = .ok (.goto (-18), 3) := by decide +kernel
theorem dX6_sheet_102 : decode cX6_sheet 102 = .ok (.aload_n 0, 1) := by decide +kernel
theorem dX6_sheet_103 : decode cX6_sheet 103 = .ok (.iload_n 3, 1) := by decide +kernel
theorem dX6_sheet_104 : decode cX6_sheet 104 = .ok (.iconst 0, 1) := by decide +kernel
theorem dX6_sheet_105 : decode cX6_sheet 105 = .ok (.iload_n 1, 1) := by decide +kernel
theorem dX6_sheet_106 : decode cX6_sheet 106 = .ok (.invokevirtual 108, 3) := by decide +kernel
theorem dX6_sheet_109 : decode cX6_sheet 109 = .ok (.aload_n 0, 1) := by decide +kernel
theorem dX6_sheet_110 : decode cX6_sheet 110 = .ok (.iload_n 3, 1) := by decide +kernel
theorem dX6_sheet_111 : decode cX6_sheet 111 = .ok (.iconst 1, 1) := by decide +kernel
theorem dX6_sheet_112 : decode cX6_sheet 112 = .ok (.iload_n 2, 1) := by decide +kernel
theorem dX6_sheet_113 : decode cX6_sheet 113 = .ok (.invokestatic 104, 3) := by decide +kernel
theorem dX6_sheet_116 : decode cX6_sheet 116 = .ok (.invokevirtual 108, 3) := by decide +kernel
theorem dX6_sheet_119 : decode cX6_sheet 119 = .ok (.iload_n 2, 1) := by decide +kernel
theorem dX6_sheet_120 : decode cX6_sheet 120 = .ok (.istore 4, 2) := by decide +kernel
theorem dX6_sheet_122 : decode cX6_sheet 122 = .ok (.iload_n 2, 1) := by decide +kernel
theorem dX6_sheet_123 : decode cX6_sheet 123 = .ok (.invokestatic 104, 3) := by decide +kernel
theorem dX6_sheet_126 : decode cX6_sheet 126 = .ok (.iconst 1, 1) := by decide +kernel
theorem dX6_sheet_127 : decode cX6_sheet 127 = .ok (.isub, 1) := by decide +kernel
theorem dX6_sheet_128 : decode cX6_sheet 128 = .ok (.istore 5, 2) := by decide +kernel
theorem dX6_sheet_130 : decode cX6_sheet 130 = .ok (.iload 5, 2) := by decide +kernel
theorem dX6_sheet_132 : decode cX6_sheet 132 = .ok (.ifCond .lt 45, 3) := by decide +kernel
theorem dX6_sheet_135 : decode cX6_sheet 135 = .ok (.aload_n 0, 1) := by decide +kernel
theorem dX6_sheet_136 : decode cX6_sheet 136 = .ok (.iload_n 3, 1) := by decide +kernel
theorem dX6_sheet_137 : decode cX6_sheet 137 = .ok (.iconst 2, 1) := by decide +kernel
theorem dX6_sheet_138 : decode cX6_sheet 138 = .ok (.iload 5, 2) := by decide +kernel
theorem dX6_sheet_140 : decode cX6_sheet 140 = .ok (.iadd, 1) := by decide +kernel
theorem dX6_sheet_141 : decode cX6_sheet 141 = .ok (.iload 4, 2) := by decide +kernel
theorem dX6_sheet_143 : decode cX6_sheet 143 = .ok (.bipush 10, 2) := by decide +kernel
theorem dX6_sheet_145 : decode cX6_sheet 145 = .ok (.irem, 1) := by decide +kernel
theorem dX6_sheet_146 : decode cX6_sheet 146 = .ok (.invokevirtual 108, 3) := by decide +kernel
theorem dX6_sheet_149 : decode cX6_sheet 149 = .ok (.aload_n 0, 1) := by decide +kernel
theorem dX6_sheet_150 : decode cX6_sheet 150 = .ok (.iload_n 3, 1) := by decide +kernel
theorem dX6_sheet_151 : decode cX6_sheet 151 = .ok (.bipush 10, 2) := by decide +kernel
theorem dX6_sheet_153 : decode cX6_sheet 153 = .ok (.iload 5, 2) := by decide +kernel
theorem dX6_sheet_155 : decode cX6_sheet 155 = .ok (.iadd, 1) := by decide +kernel
theorem dX6_sheet_156 : decode cX6_sheet 156 = .ok (.iload 4, 2) := by decide +kernel
theorem dX6_sheet_158 : decode cX6_sheet 158 = .ok (.bipush 10, 2) := by decide +kernel
theorem dX6_sheet_160 : decode cX6_sheet 160 = .ok (.irem, 1) := by decide +kernel
theorem dX6_sheet_161 : decode cX6_sheet 161 = .ok (.invokevirtual 108, 3) := by decide +kernel
theorem dX6_sheet_164 : decode cX6_sheet 164 = .ok (.iload 4, 2) := by decide +kernel
theorem dX6_sheet_166 : decode cX6_sheet 166 = .ok (.bipush 10, 2) := by decide +kernel
theorem dX6_sheet_168 : decode cX6_sheet 168 = .ok (.idiv, 1) := by decide +kernel
theorem dX6_sheet_169 : decode cX6_sheet 169 = .ok (.istore 4, 2) := by decide +kernel
theorem dX6_sheet_171 : decode cX6_sheet 171 = .ok (.iinc 5 (-1), 3) := by decide +kernel
theorem dX6_sheet_174 : decode cX6_sheet 174 = .ok (.goto (-44), 3) := by decide +kernel
theorem dX6_sheet_177 : decode cX6_sheet 177 = .ok (.iload_n 3, 1) := by decide +kernel
theorem dX6_sheet_178 : decode cX6_sheet 178 = .ok (.ireturn, 1) := by decide +kernel
theorem dX6_take_0 : decode cX6_take 0 = .ok (.aload_n 0, 1) := by decide +kernel
theorem dX6_take_1 : decode cX6_take 1 = .ok (.aload_n 0, 1) := by decide +kernel
theorem dX6_take_2 : decode cX6_take 2 = .ok (.iload_n 1, 1) := by decide +kernel
theorem dX6_take_3 : decode cX6_take 3 = .ok (.invokevirtual 76, 3) := by decide +kernel
theorem dX6_take_6 : decode cX6_take 6 = .ok (.ifCond .eq 7, 3) := by decide +kernel
theorem dX6_take_9 : decode cX6_take 9 = .ok (.iconst 0, 1) := by decide +kernel
theorem dX6_take_10 : decode cX6_take 10 = .ok (.goto 4, 3) := by decide +kernel
theorem dX6_take_13 : decode cX6_take 13 = .ok (.iconst 1, 1) := by decide +kernel
theorem dX6_take_14 : decode cX6_take 14 = .ok (.invokevirtual 86, 3) := by decide +kernel
theorem dX6_take_17 : decode cX6_take 17 = .ok (.ifCond .eq 5, 3) := by decide +kernel
theorem dX6_take_20 : decode cX6_take 20 = .ok (.iconst 0, 1) := by decide +kernel
theorem dX6_take_21 : decode cX6_take 21 = .ok (.ireturn, 1) := by decide +kernel
theorem dX6_take_22 : decode cX6_take 22 = .ok (.aload_n 0, 1) := by decide +kernel
theorem dX6_take_23 : decode cX6_take 23 = .ok (.aload_n 0, 1) := by decide +kernel
theorem dX6_take_24 : decode cX6_take 24 = .ok (.getfield 7, 3) := by decide +kernel
theorem dX6_take_27 : decode cX6_take 27 = .ok (.invokevirtual 93, 3) := by decide +kernel
theorem dX6_take_30 : decode cX6_take 30 = .ok (.aload_n 0, 1) := by decide +kernel
theorem dX6_take_31 : decode cX6_take 31 = .ok (.getfield 7, 3) := by decide +kernel
theorem dX6_take_34 : decode cX6_take 34 = .ok (.iconst 1, 1) := by decide +kernel
theorem dX6_take_35 : decode cX6_take 35 = .ok (.dup2, 1) := by decide +kernel
theorem dX6_take_36 : decode cX6_take 36 = .ok (.iaload, 1) := by decide +kernel
theorem dX6_take_37 : decode cX6_take 37 = .ok (.iconst 1, 1) := by decide +kernel
theorem dX6_take_38 : decode cX6_take 38 = .ok (.isub, 1) := by decide +kernel
theorem dX6_take_39 : decode cX6_take 39 = .ok (.iastore, 1) := by decide +kernel
theorem dX6_take_40 : decode cX6_take 40 = .ok (.bipush 22, 2) := by decide +kernel
theorem dX6_take_42 : decode cX6_take 42 = .ok (.bipush 26, 2) := by decide +kernel
theorem dX6_take_44 : decode cX6_take 44 = .ok (.iload_n 1, 1) := by decide +kernel
theorem dX6_take_45 : decode cX6_take 45 = .ok (.imul, 1) := by decide +kernel
theorem dX6_take_46 : decode cX6_take 46 = .ok (.iadd, 1) := by decide +kernel
theorem dX6_take_47 : decode cX6_take 47 = .ok (.istore_n 2, 1) := by decide +kernel
theorem dX6_take_48 : decode cX6_take 48 = .ok (.iload_n 2, 1) := by decide +kernel
theorem dX6_take_49 : decode cX6_take 49 = .ok (.bipush 22, 2) := by decide +kernel
theorem dX6_take_51 : decode cX6_take 51 = .ok (.bipush 26, 2) := by decide +kernel
theorem dX6_take_53 : decode cX6_take 53 = .ok (.aload_n 0, 1) := by decide +kernel
theorem dX6_take_54 : decode cX6_take 54 = .ok (.getfield 7, 3) := by decide +kernel
theorem dX6_take_57 : decode cX6_take 57 = .ok (.iconst 1, 1) := by decide +kernel
theorem dX6_take_58 : decode cX6_take 58 = .ok (.iaload, 1) := by decide +kernel
theorem dX6_take_59 : decode cX6_take 59 = .ok (.imul, 1) := by decide +kernel
theorem dX6_take_60 : decode cX6_take 60 = .ok (.iadd, 1) := by decide +kernel
theorem dX6_take_61 : decode cX6_take 61 = .ok (.if_icmp .ge 24, 3) := by decide +kernel
theorem dX6_take_64 : decode cX6_take 64 = .ok (.aload_n 0, 1) := by decide +kernel
theorem dX6_take_65 : decode cX6_take 65 = .ok (.getfield 7, 3) := by decide +kernel
theorem dX6_take_68 : decode cX6_take 68 = .ok (.iload_n 2, 1) := by decide +kernel
theorem dX6_take_69 : decode cX6_take 69 = .ok (.aload_n 0, 1) := by decide +kernel
theorem dX6_take_70 : decode cX6_take 70 = .ok (.getfield 7, 3) := by decide +kernel
theorem dX6_take_73 : decode cX6_take 73 = .ok (.iload_n 2, 1) := by decide +kernel
theorem dX6_take_74 : decode cX6_take 74 = .ok (.bipush 26, 2) := by decide +kernel
theorem dX6_take_76 : decode cX6_take 76 = .ok (.iadd, 1) := by decide +kernel
theorem dX6_take_77 : decode cX6_take 77 = .ok (.iaload, 1) := by decide +kernel
theorem dX6_take_78 : decode cX6_take 78 = .ok (.iastore, 1) := by decide +kernel
theorem dX6_take_79 : decode cX6_take 79 = .ok (.iinc 2 1, 3) := by decide +kernel
theorem dX6_take_82 : decode cX6_take 82 = .ok (.goto (-34), 3) := by decide +kernel
theorem dX6_take_85 : decode cX6_take 85 = .ok (.iconst 0, 1) := by decide +kernel
theorem dX6_take_86 : decode cX6_take 86 = .ok (.istore_n 2, 1) := by decide +kernel
theorem dX6_take_87 : decode cX6_take 87 = .ok (.iload_n 2, 1) := by decide +kernel
theorem dX6_take_88 : decode cX6_take 88 = .ok (.bipush 26, 2) := by decide +kernel
theorem dX6_take_90 : decode cX6_take 90 = .ok (.if_icmp .ge 21, 3) := by decide +kernel
theorem dX6_take_93 : decode cX6_take 93 = .ok (.aload_n 0, 1) := by decide +kernel
theorem dX6_take_94 : decode cX6_take 94 = .ok (.aload_n 0, 1) := by decide +kernel
theorem dX6_take_95 : decode cX6_take 95 = .ok (.getfield 7, 3) := by decide +kernel
theorem dX6_take_98 : decode cX6_take 98 = .ok (.iconst 1, 1) := by decide +kernel
theorem dX6_take_99 : decode cX6_take 99 = .ok (.iaload, 1) := by decide +kernel
theorem dX6_take_100 : decode cX6_take 100 = .ok (.iload_n 2, 1) := by decide +kernel
theorem dX6_take_101 : decode cX6_take 101 = .ok (.iconst 0, 1) := by decide +kernel
theorem dX6_take_102 : decode cX6_take 102 = .ok (.invokevirtual 108, 3) := by decide +kernel
theorem dX6_take_105 : decode cX6_take 105 = .ok (.iinc 2 1, 3) := by decide +kernel
theorem dX6_take_108 : decode cX6_take 108 = .ok (.goto (-21), 3) := by decide +kernel
theorem dX6_take_111 : decode cX6_take 111 = .ok (.aload_n 0, 1) := by decide +kernel
theorem dX6_take_112 : decode cX6_take 112 = .ok (.getfield 7, 3) := by decide +kernel
theorem dX6_take_115 : decode cX6_take 115 = .ok (.iconst 1, 1) := by decide +kernel
theorem dX6_take_116 : decode cX6_take 116 = .ok (.iaload, 1) := by decide +kernel
theorem dX6_take_117 : decode cX6_take 117 = .ok (.ireturn, 1) := by decide +kernel
theorem dX6_misprints_0 : decode cX6_misprints 0 = .ok (.iconst 0, 1) := by decide +kernel
theorem dX6_misprints_1 : decode cX6_misprints 1 = .ok (.istore_n 3, 1) := by decide +kernel
theorem dX6_misprints_2 : decode cX6_misprints 2 = .ok (.iconst 0, 1) := by decide +kernel
theorem dX6_misprints_3 : decode cX6_misprints 3 = .ok (.istore 4, 2) := by decide +kernel
theorem dX6_misprints_5 : decode cX6_misprints 5 = .ok (.iload 4, 2) := by decide +kernel
theorem dX6_misprints_7 : decode cX6_misprints 7 = .ok (.aload_n 0, 1) := by decide +kernel
theorem dX6_misprints_8 : decode cX6_misprints 8 = .ok (.iload_n 1, 1) := by decide +kernel
theorem dX6_misprints_9 : decode cX6_misprints 9 = .ok (.iconst 1, 1) := by decide +kernel
theorem dX6_misprints_10 : decode cX6_misprints 10 = .ok (.invokevirtual 80, 3) := by decide +kernel
theorem dX6_misprints_13 : decode cX6_misprints 13 = .ok (.if_icmp .ge 28, 3) := by decide +kernel
theorem dX6_misprints_16 : decode cX6_misprints 16 = .ok (.iload_n 3, 1) := by decide +kernel
theorem dX6_misprints_17 : decode cX6_misprints 17 = .ok (.aload_n 0, 1) := by decide +kernel
theorem dX6_misprints_18 : decode cX6_misprints 18 = .ok (.iload_n 1, 1) := by decide +kernel
theorem dX6_misprints_19 : decode cX6_misprints 19 = .ok (.iload 4, 2) := by decide +kernel
theorem dX6_misprints_21 : decode cX6_misprints 21 = .ok (.invokevirtual 111, 3) := by decide +kernel
theorem dX6_misprints_24 : decode cX6_misprints 24 = .ok (.iload_n 2, 1) := by decide +kernel
theorem dX6_misprints_25 : decode cX6_misprints 25 = .ok (.if_icmp .lt 7, 3) := by decide +kernel
theorem dX6_misprints_28 : decode cX6_misprints 28 = .ok (.iconst 1, 1) := by decide +kernel
theorem dX6_misprints_29 : decode cX6_misprints 29 = .ok (.goto 4, 3) := by decide +kernel
theorem dX6_misprints_32 : decode cX6_misprints 32 = .ok (.iconst 0, 1) := by decide +kernel
theorem dX6_misprints_33 : decode cX6_misprints 33 = .ok (.iadd, 1) := by decide +kernel
theorem dX6_misprints_34 : decode cX6_misprints 34 = .ok (.istore_n 3, 1) := by decide +kernel
theorem dX6_misprints_35 : decode cX6_misprints 35 = .ok (.iinc 4 1, 3) := by decide +kernel
theorem dX6_misprints_38 : decode cX6_misprints 38 = .ok (.goto (-33), 3) := by decide +kernel
theorem dX6_misprints_41 : decode cX6_misprints 41 = .ok (.iload_n 3, 1) := by decide +kernel
theorem dX6_misprints_42 : decode cX6_misprints 42 = .ok (.ireturn, 1) := by decide +kernel
theorem dX6_set_0 : decode cX6_set 0 = .ok (.aload_n 0, 1) := by decide +kernel
theorem dX6_set_1 : decode cX6_set 1 = .ok (.aload_n 0, 1) := by decide +kernel
theorem dX6_set_2 : decode cX6_set 2 = .ok (.iload_n 1, 1) := by decide +kernel
theorem dX6_set_3 : decode cX6_set 3 = .ok (.iload_n 2, 1) := by decide +kernel
theorem dX6_set_4 : decode cX6_set 4 = .ok (.invokevirtual 114, 3) := by decide +kernel
theorem dX6_set_7 : decode cX6_set 7 = .ok (.ifCond .ne 7, 3) := by decide +kernel
theorem dX6_set_10 : decode cX6_set 10 = .ok (.iconst 1, 1) := by decide +kernel
theorem dX6_set_11 : decode cX6_set 11 = .ok (.goto 19, 3) := by decide +kernel
theorem dX6_set_14 : decode cX6_set 14 = .ok (.iload_n 3, 1) := by decide +kernel
theorem dX6_set_15 : decode cX6_set 15 = .ok (.bipush 97, 2) := by decide +kernel
theorem dX6_set_17 : decode cX6_set 17 = .ok (.bipush 102, 2) := by decide +kernel
theorem dX6_set_19 : decode cX6_set 19 = .ok (.invokestatic 72, 3) := by decide +kernel
theorem dX6_set_22 : decode cX6_set 22 = .ok (.ifCond .eq 7, 3) := by decide +kernel
theorem dX6_set_25 : decode cX6_set 25 = .ok (.iconst 0, 1) := by decide +kernel
theorem dX6_set_26 : decode cX6_set 26 = .ok (.goto 4, 3) := by decide +kernel
theorem dX6_set_29 : decode cX6_set 29 = .ok (.iconst 2, 1) := by decide +kernel
theorem dX6_set_30 : decode cX6_set 30 = .ok (.invokevirtual 86, 3) := by decide +kernel
theorem dX6_set_33 : decode cX6_set 33 = .ok (.ifCond .eq 5, 3) := by decide +kernel
theorem dX6_set_36 : decode cX6_set 36 = .ok (.iconst 0, 1) := by decide +kernel
theorem dX6_set_37 : decode cX6_set 37 = .ok (.ireturn, 1) := by decide +kernel
theorem dX6_set_38 : decode cX6_set 38 = .ok (.iload_n 3, 1) := by decide +kernel
theorem dX6_set_39 : decode cX6_set 39 = .ok (.bipush 97, 2) := by decide +kernel
theorem dX6_set_41 : decode cX6_set 41 = .ok (.isub, 1) := by decide +kernel
theorem dX6_set_42 : decode cX6_set 42 = .ok (.iconst 1, 1) := by decide +kernel
theorem dX6_set_43 : decode cX6_set 43 = .ok (.iadd, 1) := by decide +kernel
theorem dX6_set_44 : decode cX6_set 44 = .ok (.istore 4, 2) := by decide +kernel
theorem dX6_set_46 : decode cX6_set 46 = .ok (.aload_n 0, 1) := by decide +kernel
theorem dX6_set_47 : decode cX6_set 47 = .ok (.iload_n 1, 1) := by decide +kernel
theorem dX6_set_48 : decode cX6_set 48 = .ok (.bipush 10, 2) := by decide +kernel
theorem dX6_set_50 : decode cX6_set 50 = .ok (.iload_n 2, 1) := by decide +kernel
theorem dX6_set_51 : decode cX6_set 51 = .ok (.iadd, 1) := by decide +kernel
theorem dX6_set_52 : decode cX6_set 52 = .ok (.invokevirtual 80, 3) := by decide +kernel
theorem dX6_set_55 : decode cX6_set 55 = .ok (.iload 4, 2) := by decide +kernel
theorem dX6_set_57 : decode cX6_set 57 = .ok (.if_icmp .ne 11, 3) := by decide +kernel
theorem dX6_set_60 : decode cX6_set 60 = .ok (.aload_n 0, 1) := by decide +kernel
theorem dX6_set_61 : decode cX6_set 61 = .ok (.iconst 3, 1) := by decide +kernel
theorem dX6_set_62 : decode cX6_set 62 = .ok (.iconst 2, 1) := by decide +kernel
theorem dX6_set_63 : decode cX6_set 63 = .ok (.iload_n 2, 1) := by decide +kernel
theorem dX6_set_64 : decode cX6_set 64 = .ok (.invokevirtual 89, 3) := by decide +kernel
theorem dX6_set_67 : decode cX6_set 67 = .ok (.ireturn, 1) := by decide +kernel
theorem dX6_set_68 : decode cX6_set 68 = .ok (.aload_n 0, 1) := by decide +kernel
theorem dX6_set_69 : decode cX6_set 69 = .ok (.iload_n 1, 1) := by decide +kernel
theorem dX6_set_70 : decode cX6_set 70 = .ok (.iconst 2, 1) := by decide +kernel
theorem dX6_set_71 : decode cX6_set 71 = .ok (.iload_n 2, 1) := by decide +kernel
theorem dX6_set_72 : decode cX6_set 72 = .ok (.iadd, 1) := by decide +kernel
theorem dX6_set_73 : decode cX6_set 73 = .ok (.invokevirtual 80, 3) := by decide +kernel
theorem dX6_set_76 : decode cX6_set 76 = .ok (.iload 4, 2) := by decide +kernel
theorem dX6_set_78 : decode cX6_set 78 = .ok (.if_icmp .ne 11, 3) := by decide +kernel
theorem dX6_set_81 : decode cX6_set 81 = .ok (.aload_n 0, 1) := by decide +kernel
theorem dX6_set_82 : decode cX6_set 82 = .ok (.iconst 3, 1) := by decide +kernel
theorem dX6_set_83 : decode cX6_set 83 = .ok (.iconst 3, 1) := by decide +kernel
theorem dX6_set_84 : decode cX6_set 84 = .ok (.iload_n 2, 1) := by decide +kernel
theorem dX6_set_85 : decode cX6_set 85 = .ok (.invokevirtual 89, 3) := by decide +kernel
theorem dX6_set_88 : decode cX6_set 88 = .ok (.ireturn, 1) := by decide +kernel
theorem dX6_set_89 : decode cX6_set 89 = .ok (.aload_n 0, 1) := by decide +kernel
theorem dX6_set_90 : decode cX6_set 90 = .ok (.aload_n 0, 1) := by decide +kernel
theorem dX6_set_91 : decode cX6_set 91 = .ok (.getfield 7, 3) := by decide +kernel
theorem dX6_set_94 : decode cX6_set 94 = .ok (.invokevirtual 93, 3) := by decide +kernel
theorem dX6_set_97 : decode cX6_set 97 = .ok (.aload_n 0, 1) := by decide +kernel
theorem dX6_set_98 : decode cX6_set 98 = .ok (.iload_n 1, 1) := by decide +kernel
theorem dX6_set_99 : decode cX6_set 99 = .ok (.bipush 10, 2) := by decide +kernel
theorem dX6_set_101 : decode cX6_set 101 = .ok (.iload_n 2, 1) := by decide +kernel
theorem dX6_set_102 : decode cX6_set 102 = .ok (.iadd, 1) := by decide +kernel
theorem dX6_set_103 : decode cX6_set 103 = .ok (.iload 4, 2) := by decide +kernel
theorem dX6_set_105 : decode cX6_set 105 = .ok (.invokevirtual 108, 3) := by decide +kernel
theorem dX6_set_108 : decode cX6_set 108 = .ok (.aload_n 0, 1) := by decide +kernel
theorem dX6_set_109 : decode cX6_set 109 = .ok (.iload_n 1, 1) := by decide +kernel
theorem dX6_set_110 : decode cX6_set 110 = .ok (.bipush 18, 2) := by decide +kernel
theorem dX6_set_112 : decode cX6_set 112 = .ok (.iload_n 2, 1) := by decide +kernel
theorem dX6_set_113 : decode cX6_set 113 = .ok (.iadd, 1) := by decide +kernel
theorem dX6_set_114 : decode cX6_set 114 = .ok (.iconst 1, 1) := by decide +kernel
theorem dX6_set_115 : decode cX6_set 115 = .ok (.invokevirtual 108, 3) := by decide +kernel
theorem dX6_set_118 : decode cX6_set 118 = .ok (.aload_n 0, 1) := by decide +kernel
theorem dX6_set_119 : decode cX6_set 119 = .ok (.iload_n 1, 1) := by decide +kernel
theorem dX6_set_120 : decode cX6_set 120 = .ok (.iconst 1, 1) := by decide +kernel
theorem dX6_set_121 : decode cX6_set 121 = .ok (.invokevirtual 118, 3) := by decide +kernel
theorem dX6_set_124 : decode cX6_set 124 = .ok (.ireturn, 1) := by decide +kernel
theorem dX6_ofHouse_0 : decode cX6_ofHouse 0 = .ok (.iconst 0, 1) := by decide +kernel
theorem dX6_ofHouse_1 : decode cX6_ofHouse 1 = .ok (.istore_n 3, 1) := by decide +kernel
theorem dX6_ofHouse_2 : decode cX6_ofHouse 2 = .ok (.iconst 0, 1) := by decide +kernel
theorem dX6_ofHouse_3 : decode cX6_ofHouse 3 = .ok (.istore 4, 2) := by decide +kernel
theorem dX6_ofHouse_5 : decode cX6_ofHouse 5 = .ok (.iload 4, 2) := by decide +kernel
theorem dX6_ofHouse_7 : decode cX6_ofHouse 7 = .ok (.aload_n 0, 1) := by decide +kernel
theorem dX6_ofHouse_8 : decode cX6_ofHouse 8 = .ok (.getfield 7, 3) := by decide +kernel
theorem dX6_ofHouse_11 : decode cX6_ofHouse 11 = .ok (.iconst 1, 1) := by decide +kernel
theorem dX6_ofHouse_12 : decode cX6_ofHouse 12 = .ok (.iaload, 1) := by decide +kernel
theorem dX6_ofHouse_13 : decode cX6_ofHouse 13 = .ok (.if_icmp .ge 34, 3) := by decide +kernel
theorem dX6_ofHouse_16 : decode cX6_ofHouse 16 = .ok (.iload_n 3, 1) := by decide +kernel
theorem dX6_ofHouse_17 : decode cX6_ofHouse 17 = .ok (.aload_n 0, 1) := by decide +kernel
theorem dX6_ofHouse_18 : decode cX6_ofHouse 18 = .ok (.iload 4, 2) := by decide +kernel
theorem dX6_ofHouse_20 : decode cX6_ofHouse 20 = .ok (.iconst 0, 1) := by decide +kernel
theorem dX6_ofHouse_21 : decode cX6_ofHouse 21 = .ok (.invokevirtual 80, 3) := by decide +kernel
theorem dX6_ofHouse_24 : decode cX6_ofHouse 24 = .ok (.iload_n 1, 1) := by decide +kernel
theorem dX6_ofHouse_25 : decode cX6_ofHouse 25 = .ok (.if_icmp .ne 13, 3) := by decide +kernel
theorem dX6_ofHouse_28 : decode cX6_ofHouse 28 = .ok (.aload_n 0, 1) := by decide +kernel
theorem dX6_ofHouse_29 : decode cX6_ofHouse 29 = .ok (.iload 4, 2) := by decide +kernel
theorem dX6_ofHouse_31 : decode cX6_ofHouse 31 = .ok (.iload_n 2, 1) := by decide +kernel
theorem dX6_ofHouse_32 : decode cX6_ofHouse 32 = .ok (.invokevirtual 118, 3) := by decide +kernel
theorem dX6_ofHouse_35 : decode cX6_ofHouse 35 = .ok (.goto 4, 3) := by decide +kernel
theorem dX6_ofHouse_38 : decode cX6_ofHouse 38 = .ok (.iconst 0, 1) := by decide +kernel
theorem dX6_ofHouse_39 : decode cX6_ofHouse 39 = .ok (.iadd, 1) := by decide +kernel
theorem dX6_ofHouse_40 : decode cX6_ofHouse 40 = .ok (.istore_n 3, 1) := by decide +kernel
theorem dX6_ofHouse_41 : decode cX6_ofHouse 41 = .ok (.iinc 4 1, 3) := by decide +kernel
theorem dX6_ofHouse_44 : decode cX6_ofHouse 44 = .ok (.goto (-39), 3) := by decide +kernel
theorem dX6_ofHouse_47 : decode cX6_ofHouse 47 = .ok (.iload_n 3, 1) := by decide +kernel
theorem dX6_ofHouse_48 : decode cX6_ofHouse 48 = .ok (.ireturn, 1) := by decide +kernel
theorem dX6_price_0 : decode cX6_price 0 = .ok (.iconst 2, 1) := by decide +kernel
theorem dX6_price_1 : decode cX6_price 1 = .ok (.aload_n 0, 1) := by decide +kernel
theorem dX6_price_2 : decode cX6_price 2 = .ok (.iload_n 1, 1) := by decide +kernel
theorem dX6_price_3 : decode cX6_price 3 = .ok (.iconst 2, 1) := by decide +kernel
theorem dX6_price_4 : decode cX6_price 4 = .ok (.invokevirtual 121, 3) := by decide +kernel
theorem dX6_price_7 : decode cX6_price 7 = .ok (.iadd, 1) := by decide +kernel
theorem dX6_price_8 : decode cX6_price 8 = .ok (.ireturn, 1) := by decide +kernel
theorem dX6_isAshamed_0 : decode cX6_isAshamed 0 = .ok (.aload_n 0, 1) := by decide +kernel
theorem dX6_isAshamed_1 : decode cX6_isAshamed 1 = .ok (.iload_n 1, 1) := by decide +kernel
theorem dX6_isAshamed_2 : decode cX6_isAshamed 2 = .ok (.iconst 1, 1) := by decide +kernel
theorem dX6_isAshamed_3 : decode cX6_isAshamed 3 = .ok (.invokevirtual 65, 3) := by decide +kernel
theorem dX6_isAshamed_6 : decode cX6_isAshamed 6 = .ok (.bipush 20, 2) := by decide +kernel
theorem dX6_isAshamed_8 : decode cX6_isAshamed 8 = .ok (.if_icmp .le 7, 3) := by decide +kernel
theorem dX6_isAshamed_11 : decode cX6_isAshamed 11 = .ok (.iconst 1, 1) := by decide +kernel
theorem dX6_isAshamed_12 : decode cX6_isAshamed 12 = .ok (.goto 4, 3) := by decide +kernel
theorem dX6_isAshamed_15 : decode cX6_isAshamed 15 = .ok (.iconst 0, 1) := by decide +kernel
theorem dX6_isAshamed_16 : decode cX6_isAshamed 16 = .ok (.ireturn, 1) := by decide +kernel
theorem dX6_license_0 : decode cX6_license 0 = .ok (.aload_n 0, 1) := by decide +kernel
theorem dX6_license_1 : decode cX6_license 1 = .ok (.aload_n 0, 1) := by decide +kernel
theorem dX6_license_2 : decode cX6_license 2 = .ok (.iload_n 1, 1) := by decide +kernel
theorem dX6_license_3 : decode cX6_license 3 = .ok (.iload_n 2, 1) := by decide +kernel
theorem dX6_license_4 : decode cX6_license 4 = .ok (.invokevirtual 114, 3) := by decide +kernel
theorem dX6_license_7 : decode cX6_license 7 = .ok (.ifCond .eq 7, 3) := by decide +kernel
theorem dX6_license_10 : decode cX6_license 10 = .ok (.iconst 0, 1) := by decide +kernel
theorem dX6_license_11 : decode cX6_license 11 = .ok (.goto 4, 3) := by decide +kernel
theorem dX6_license_14 : decode cX6_license 14 = .ok (.iconst 1, 1) := by decide +kernel
theorem dX6_license_15 : decode cX6_license 15 = .ok (.invokevirtual 86, 3) := by decide +kernel
theorem dX6_license_18 : decode cX6_license 18 = .ok (.ifCond .eq 5, 3) := by decide +kernel
theorem dX6_license_21 : decode cX6_license 21 = .ok (.iconst 0, 1) := by decide +kernel
theorem dX6_license_22 : decode cX6_license 22 = .ok (.ireturn, 1) := by decide +kernel
theorem dX6_license_23 : decode cX6_license 23 = .ok (.aload_n 0, 1) := by decide +kernel
theorem dX6_license_24 : decode cX6_license 24 = .ok (.iload_n 1, 1) := by decide +kernel
theorem dX6_license_25 : decode cX6_license 25 = .ok (.iconst 0, 1) := by decide +kernel
theorem dX6_license_26 : decode cX6_license 26 = .ok (.invokevirtual 80, 3) := by decide +kernel
theorem dX6_license_29 : decode cX6_license 29 = .ok (.istore_n 3, 1) := by decide +kernel
theorem dX6_license_30 : decode cX6_license 30 = .ok (.aload_n 0, 1) := by decide +kernel
theorem dX6_license_31 : decode cX6_license 31 = .ok (.iload_n 1, 1) := by decide +kernel
theorem dX6_license_32 : decode cX6_license 32 = .ok (.iload_n 2, 1) := by decide +kernel
theorem dX6_license_33 : decode cX6_license 33 = .ok (.invokevirtual 111, 3) := by decide +kernel
theorem dX6_license_36 : decode cX6_license 36 = .ok (.ifCond .ne 11, 3) := by decide +kernel
theorem dX6_license_39 : decode cX6_license 39 = .ok (.aload_n 0, 1) := by decide +kernel
theorem dX6_license_40 : decode cX6_license 40 = .ok (.iconst 2, 1) := by decide +kernel
theorem dX6_license_41 : decode cX6_license 41 = .ok (.iconst 4, 1) := by decide +kernel
theorem dX6_license_42 : decode cX6_license 42 = .ok (.iload_n 2, 1) := by decide +kernel
theorem dX6_license_43 : decode cX6_license 43 = .ok (.invokevirtual 89, 3) := by decide +kernel
theorem dX6_license_46 : decode cX6_license 46 = .ok (.ireturn, 1) := by decide +kernel
theorem dX6_license_47 : decode cX6_license 47 = .ok (.aload_n 0, 1) := by decide +kernel
theorem dX6_license_48 : decode cX6_license 48 = .ok (.iload_n 1, 1) := by decide +kernel
theorem dX6_license_49 : decode cX6_license 49 = .ok (.iload_n 2, 1) := by decide +kernel
theorem dX6_license_50 : decode cX6_license 50 = .ok (.invokevirtual 111, 3) := by decide +kernel
theorem dX6_license_53 : decode cX6_license 53 = .ok (.iconst 1, 1) := by decide +kernel
theorem dX6_license_54 : decode cX6_license 54 = .ok (.if_icmp .le 11, 3) := by decide +kernel
theorem dX6_license_57 : decode cX6_license 57 = .ok (.aload_n 0, 1) := by decide +kernel
theorem dX6_license_58 : decode cX6_license 58 = .ok (.iconst 2, 1) := by decide +kernel
theorem dX6_license_59 : decode cX6_license 59 = .ok (.iconst 5, 1) := by decide +kernel
theorem dX6_license_60 : decode cX6_license 60 = .ok (.iload_n 2, 1) := by decide +kernel
theorem dX6_license_61 : decode cX6_license 61 = .ok (.invokevirtual 89, 3) := by decide +kernel
theorem dX6_license_64 : decode cX6_license 64 = .ok (.ireturn, 1) := by decide +kernel
theorem dX6_license_65 : decode cX6_license 65 = .ok (.aload_n 0, 1) := by decide +kernel
theorem dX6_license_66 : decode cX6_license 66 = .ok (.iload_n 3, 1) := by decide +kernel
theorem dX6_license_67 : decode cX6_license 67 = .ok (.invokevirtual 124, 3) := by decide +kernel
theorem dX6_license_70 : decode cX6_license 70 = .ok (.ifCond .eq 17, 3) := by decide +kernel
theorem dX6_license_73 : decode cX6_license 73 = .ok (.aload_n 0, 1) := by decide +kernel
theorem dX6_license_74 : decode cX6_license 74 = .ok (.iconst 2, 1) := by decide +kernel
theorem dX6_license_75 : decode cX6_license 75 = .ok (.bipush 6, 2) := by decide +kernel
theorem dX6_license_77 : decode cX6_license 77 = .ok (.aload_n 0, 1) := by decide +kernel
theorem dX6_license_78 : decode cX6_license 78 = .ok (.iload_n 3, 1) := by decide +kernel
theorem dX6_license_79 : decode cX6_license 79 = .ok (.iconst 1, 1) := by decide +kernel
theorem dX6_license_80 : decode cX6_license 80 = .ok (.invokevirtual 65, 3) := by decide +kernel
theorem dX6_license_83 : decode cX6_license 83 = .ok (.invokevirtual 89, 3) := by decide +kernel
theorem dX6_license_86 : decode cX6_license 86 = .ok (.ireturn, 1) := by decide +kernel
theorem dX6_license_87 : decode cX6_license 87 = .ok (.aload_n 0, 1) := by decide +kernel
theorem dX6_license_88 : decode cX6_license 88 = .ok (.iload_n 3, 1) := by decide +kernel
theorem dX6_license_89 : decode cX6_license 89 = .ok (.invokevirtual 127, 3) := by decide +kernel
theorem dX6_license_92 : decode cX6_license 92 = .ok (.istore 4, 2) := by decide +kernel
theorem dX6_license_94 : decode cX6_license 94 = .ok (.aload_n 0, 1) := by decide +kernel
theorem dX6_license_95 : decode cX6_license 95 = .ok (.iload_n 3, 1) := by decide +kernel
theorem dX6_license_96 : decode cX6_license 96 = .ok (.iconst 0, 1) := by decide +kernel
theorem dX6_license_97 : decode cX6_license 97 = .ok (.invokevirtual 65, 3) := by decide +kernel
theorem dX6_license_100 : decode cX6_license 100 = .ok (.iload 4, 2) := by decide +kernel
theorem dX6_license_102 : decode cX6_license 102 = .ok (.if_icmp .ge 17, 3) := by decide +kernel
theorem dX6_license_105 : decode cX6_license 105 = .ok (.aload_n 0, 1) := by decide +kernel
theorem dX6_license_106 : decode cX6_license 106 = .ok (.iconst 2, 1) := by decide +kernel
theorem dX6_license_107 : decode cX6_license 107 = .ok (.bipush 7, 2) := by decide +kernel
theorem dX6_license_109 : decode cX6_license 109 = .ok (.aload_n 0, 1) := by decide +kernel
theorem dX6_license_110 : decode cX6_license 110 = .ok (.iload_n 3, 1) := by decide +kernel
theorem dX6_license_111 : decode cX6_license 111 = .ok (.iconst 0, 1) := by decide +kernel
theorem dX6_license_112 : decode cX6_license 112 = .ok (.invokevirtual 65, 3) := by decide +kernel
theorem dX6_license_115 : decode cX6_license 115 = .ok (.invokevirtual 89, 3) := by decide +kernel
theorem dX6_license_118 : decode cX6_license 118 = .ok (.ireturn, 1) := by decide +kernel
theorem dX6_license_119 : decode cX6_license 119 = .ok (.aload_n 0, 1) := by decide +kernel
theorem dX6_license_120 : decode cX6_license 120 = .ok (.aload_n 0, 1) := by decide +kernel
theorem dX6_license_121 : decode cX6_license 121 = .ok (.getfield 7, 3) := by decide +kernel
theorem dX6_license_124 : decode cX6_license 124 = .ok (.invokevirtual 93, 3) := by decide +kernel
theorem dX6_license_127 : decode cX6_license 127 = .ok (.aload_n 0, 1) := by decide +kernel
theorem dX6_license_128 : decode cX6_license 128 = .ok (.iload_n 3, 1) := by decide +kernel
theorem dX6_license_129 : decode cX6_license 129 = .ok (.iconst 0, 1) := by decide +kernel
theorem dX6_license_130 : decode cX6_license 130 = .ok (.iload 4, 2) := by decide +kernel
theorem dX6_license_132 : decode cX6_license 132 = .ok (.ineg, 1) := by decide +kernel
theorem dX6_license_133 : decode cX6_license 133 = .ok (.invokevirtual 97, 3) := by decide +kernel
theorem dX6_license_136 : decode cX6_license 136 = .ok (.aload_n 0, 1) := by decide +kernel
theorem dX6_license_137 : decode cX6_license 137 = .ok (.getfield 7, 3) := by decide +kernel
theorem dX6_license_140 : decode cX6_license 140 = .ok (.bipush 7, 2) := by decide +kernel
theorem dX6_license_142 : decode cX6_license 142 = .ok (.dup2, 1) := by decide +kernel
theorem dX6_license_143 : decode cX6_license 143 = .ok (.iaload, 1) := by decide +kernel
theorem dX6_license_144 : decode cX6_license 144 = .ok (.iload 4, 2) := by decide +kernel
theorem dX6_license_146 : decode cX6_license 146 = .ok (.iadd, 1) := by decide +kernel
theorem dX6_license_147 : decode cX6_license 147 = .ok (.iastore, 1) := by decide +kernel
theorem dX6_license_148 : decode cX6_license 148 = .ok (.aload_n 0, 1) := by decide +kernel
theorem dX6_license_149 : decode cX6_license 149 = .ok (.iload_n 1, 1) := by decide +kernel
theorem dX6_license_150 : decode cX6_license 150 = .ok (.bipush 18, 2) := by decide +kernel
theorem dX6_license_152 : decode cX6_license 152 = .ok (.iload_n 2, 1) := by decide +kernel
theorem dX6_license_153 : decode cX6_license 153 = .ok (.iadd, 1) := by decide +kernel
theorem dX6_license_154 : decode cX6_license 154 = .ok (.iconst 2, 1) := by decide +kernel
theorem dX6_license_155 : decode cX6_license 155 = .ok (.invokevirtual 108, 3) := by decide +kernel
theorem dX6_license_158 : decode cX6_license 158 = .ok (.iload 4, 2) := by decide +kernel
theorem dX6_license_160 : decode cX6_license 160 = .ok (.ireturn, 1) := by decide +kernel
theorem dX6_fineAt_0 : decode cX6_fineAt 0 = .ok (.aload_n 0, 1) := by decide +kernel
theorem dX6_fineAt_1 : decode cX6_fineAt 1 = .ok (.iload_n 1, 1) := by decide +kernel
theorem dX6_fineAt_2 : decode cX6_fineAt 2 = .ok (.iload_n 2, 1) := by decide +kernel
theorem dX6_fineAt_3 : decode cX6_fineAt 3 = .ok (.invokevirtual 111, 3) := by decide +kernel
theorem dX6_fineAt_6 : decode cX6_fineAt 6 = .ok (.istore_n 3, 1) := by decide +kernel
theorem dX6_fineAt_7 : decode cX6_fineAt 7 = .ok (.iload_n 3, 1) := by decide +kernel
theorem dX6_fineAt_8 : decode cX6_fineAt 8 = .ok (.ifCond .ne 7, 3) := by decide +kernel
theorem dX6_fineAt_11 : decode cX6_fineAt 11 = .ok (.iconst 0, 1) := by decide +kernel
theorem dX6_fineAt_12 : decode cX6_fineAt 12 = .ok (.goto 33, 3) := by decide +kernel
theorem dX6_fineAt_15 : decode cX6_fineAt 15 = .ok (.iconst 1, 1) := by decide +kernel
theorem dX6_fineAt_16 : decode cX6_fineAt 16 = .ok (.aload_n 0, 1) := by decide +kernel
theorem dX6_fineAt_17 : decode cX6_fineAt 17 = .ok (.iload_n 1, 1) := by decide +kernel
theorem dX6_fineAt_18 : decode cX6_fineAt 18 = .ok (.iload_n 2, 1) := by decide +kernel
theorem dX6_fineAt_19 : decode cX6_fineAt 19 = .ok (.invokevirtual 130, 3) := by decide +kernel
theorem dX6_fineAt_22 : decode cX6_fineAt 22 = .ok (.iadd, 1) := by decide +kernel
theorem dX6_fineAt_23 : decode cX6_fineAt 23 = .ok (.iload_n 3, 1) := by decide +kernel
theorem dX6_fineAt_24 : decode cX6_fineAt 24 = .ok (.iconst 1, 1) := by decide +kernel
theorem dX6_fineAt_25 : decode cX6_fineAt 25 = .ok (.if_icmp .le 7, 3) := by decide +kernel
theorem dX6_fineAt_28 : decode cX6_fineAt 28 = .ok (.iconst 2, 1) := by decide +kernel
theorem dX6_fineAt_29 : decode cX6_fineAt 29 = .ok (.goto 4, 3) := by decide +kernel
theorem dX6_fineAt_32 : decode cX6_fineAt 32 = .ok (.iconst 0, 1) := by decide +kernel
theorem dX6_fineAt_33 : decode cX6_fineAt 33 = .ok (.iadd, 1) := by decide +kernel
theorem dX6_fineAt_34 : decode cX6_fineAt 34 = .ok (.iload_n 3, 1) := by decide +kernel
theorem dX6_fineAt_35 : decode cX6_fineAt 35 = .ok (.iconst 3, 1) := by decide +kernel
theorem dX6_fineAt_36 : decode cX6_fineAt 36 = .ok (.if_icmp .ne 7, 3) := by decide +kernel
theorem dX6_fineAt_39 : decode cX6_fineAt 39 = .ok (.iconst 2, 1) := by decide +kernel
theorem dX6_fineAt_40 : decode cX6_fineAt 40 = .ok (.goto 4, 3) := by decide +kernel
theorem dX6_fineAt_43 : decode cX6_fineAt 43 = .ok (.iconst 1, 1) := by decide +kernel
theorem dX6_fineAt_44 : decode cX6_fineAt 44 = .ok (.imul, 1) := by decide +kernel
theorem dX6_fineAt_45 : decode cX6_fineAt 45 = .ok (.ireturn, 1) := by decide +kernel
theorem dX6_correct_0 : decode cX6_correct 0 = .ok (.aload_n 0, 1) := by decide +kernel
theorem dX6_correct_1 : decode cX6_correct 1 = .ok (.aload_n 0, 1) := by decide +kernel
theorem dX6_correct_2 : decode cX6_correct 2 = .ok (.iload_n 1, 1) := by decide +kernel
theorem dX6_correct_3 : decode cX6_correct 3 = .ok (.iload_n 2, 1) := by decide +kernel
theorem dX6_correct_4 : decode cX6_correct 4 = .ok (.invokevirtual 114, 3) := by decide +kernel
theorem dX6_correct_7 : decode cX6_correct 7 = .ok (.ifCond .eq 7, 3) := by decide +kernel
theorem dX6_correct_10 : decode cX6_correct 10 = .ok (.iconst 0, 1) := by decide +kernel
theorem dX6_correct_11 : decode cX6_correct 11 = .ok (.goto 4, 3) := by decide +kernel
theorem dX6_correct_14 : decode cX6_correct 14 = .ok (.iconst 1, 1) := by decide +kernel
theorem dX6_correct_15 : decode cX6_correct 15 = .ok (.invokevirtual 86, 3) := by decide +kernel
theorem dX6_correct_18 : decode cX6_correct 18 = .ok (.ifCond .eq 5, 3) := by decide +kernel
theorem dX6_correct_21 : decode cX6_correct 21 = .ok (.iconst 0, 1) := by decide +kernel
theorem dX6_correct_22 : decode cX6_correct 22 = .ok (.ireturn, 1) := by decide +kernel
theorem dX6_correct_23 : decode cX6_correct 23 = .ok (.aload_n 0, 1) := by decide +kernel
theorem dX6_correct_24 : decode cX6_correct 24 = .ok (.iload_n 1, 1) := by decide +kernel
theorem dX6_correct_25 : decode cX6_correct 25 = .ok (.iconst 0, 1) := by decide +kernel
theorem dX6_correct_26 : decode cX6_correct 26 = .ok (.invokevirtual 80, 3) := by decide +kernel
theorem dX6_correct_29 : decode cX6_correct 29 = .ok (.istore_n 3, 1) := by decide +kernel
theorem dX6_correct_30 : decode cX6_correct 30 = .ok (.aload_n 0, 1) := by decide +kernel
theorem dX6_correct_31 : decode cX6_correct 31 = .ok (.iload_n 1, 1) := by decide +kernel
theorem dX6_correct_32 : decode cX6_correct 32 = .ok (.iload_n 2, 1) := by decide +kernel
theorem dX6_correct_33 : decode cX6_correct 33 = .ok (.invokevirtual 133, 3) := by decide +kernel
theorem dX6_correct_36 : decode cX6_correct 36 = .ok (.istore 4, 2) := by decide +kernel
theorem dX6_correct_38 : decode cX6_correct 38 = .ok (.iload 4, 2) := by decide +kernel
theorem dX6_correct_40 : decode cX6_correct 40 = .ok (.ifCond .ne 11, 3) := by decide +kernel
theorem dX6_correct_43 : decode cX6_correct 43 = .ok (.aload_n 0, 1) := by decide +kernel
theorem dX6_correct_44 : decode cX6_correct 44 = .ok (.iconst 2, 1) := by decide +kernel
theorem dX6_correct_45 : decode cX6_correct 45 = .ok (.iconst 4, 1) := by decide +kernel
theorem dX6_correct_46 : decode cX6_correct 46 = .ok (.iload_n 2, 1) := by decide +kernel
theorem dX6_correct_47 : decode cX6_correct 47 = .ok (.invokevirtual 89, 3) := by decide +kernel
theorem dX6_correct_50 : decode cX6_correct 50 = .ok (.ireturn, 1) := by decide +kernel
theorem dX6_correct_51 : decode cX6_correct 51 = .ok (.aload_n 0, 1) := by decide +kernel
theorem dX6_correct_52 : decode cX6_correct 52 = .ok (.iload_n 3, 1) := by decide +kernel
theorem dX6_correct_53 : decode cX6_correct 53 = .ok (.iconst 0, 1) := by decide +kernel
theorem dX6_correct_54 : decode cX6_correct 54 = .ok (.invokevirtual 65, 3) := by decide +kernel
theorem dX6_correct_57 : decode cX6_correct 57 = .ok (.iload 4, 2) := by decide +kernel
theorem dX6_correct_59 : decode cX6_correct 59 = .ok (.if_icmp .ge 17, 3) := by decide +kernel
theorem dX6_correct_62 : decode cX6_correct 62 = .ok (.aload_n 0, 1) := by decide +kernel
theorem dX6_correct_63 : decode cX6_correct 63 = .ok (.iconst 2, 1) := by decide +kernel
theorem dX6_correct_64 : decode cX6_correct 64 = .ok (.bipush 7, 2) := by decide +kernel
theorem dX6_correct_66 : decode cX6_correct 66 = .ok (.aload_n 0, 1) := by decide +kernel
theorem dX6_correct_67 : decode cX6_correct 67 = .ok (.iload_n 3, 1) := by decide +kernel
theorem dX6_correct_68 : decode cX6_correct 68 = .ok (.iconst 0, 1) := by decide +kernel
theorem dX6_correct_69 : decode cX6_correct 69 = .ok (.invokevirtual 65, 3) := by decide +kernel
theorem dX6_correct_72 : decode cX6_correct 72 = .ok (.invokevirtual 89, 3) := by decide +kernel
theorem dX6_correct_75 : decode cX6_correct 75 = .ok (.ireturn, 1) := by decide +kernel
theorem dX6_correct_76 : decode cX6_correct 76 = .ok (.aload_n 0, 1) := by decide +kernel
theorem dX6_correct_77 : decode cX6_correct 77 = .ok (.aload_n 0, 1) := by decide +kernel
theorem dX6_correct_78 : decode cX6_correct 78 = .ok (.getfield 7, 3) := by decide +kernel
theorem dX6_correct_81 : decode cX6_correct 81 = .ok (.invokevirtual 93, 3) := by decide +kernel
theorem dX6_correct_84 : decode cX6_correct 84 = .ok (.aload_n 0, 1) := by decide +kernel
theorem dX6_correct_85 : decode cX6_correct 85 = .ok (.iload_n 3, 1) := by decide +kernel
theorem dX6_correct_86 : decode cX6_correct 86 = .ok (.iconst 0, 1) := by decide +kernel
theorem dX6_correct_87 : decode cX6_correct 87 = .ok (.iload 4, 2) := by decide +kernel
theorem dX6_correct_89 : decode cX6_correct 89 = .ok (.ineg, 1) := by decide +kernel
theorem dX6_correct_90 : decode cX6_correct 90 = .ok (.invokevirtual 97, 3) := by decide +kernel
theorem dX6_correct_93 : decode cX6_correct 93 = .ok (.aload_n 0, 1) := by decide +kernel
theorem dX6_correct_94 : decode cX6_correct 94 = .ok (.iload_n 3, 1) := by decide +kernel
theorem dX6_correct_95 : decode cX6_correct 95 = .ok (.iconst 2, 1) := by decide +kernel
theorem dX6_correct_96 : decode cX6_correct 96 = .ok (.iload 4, 2) := by decide +kernel
theorem dX6_correct_98 : decode cX6_correct 98 = .ok (.invokevirtual 97, 3) := by decide +kernel
theorem dX6_correct_101 : decode cX6_correct 101 = .ok (.aload_n 0, 1) := by decide +kernel
theorem dX6_correct_102 : decode cX6_correct 102 = .ok (.getfield 7, 3) := by decide +kernel
theorem dX6_correct_105 : decode cX6_correct 105 = .ok (.bipush 8, 2) := by decide +kernel
theorem dX6_correct_107 : decode cX6_correct 107 = .ok (.dup2, 1) := by decide +kernel
theorem dX6_correct_108 : decode cX6_correct 108 = .ok (.iaload, 1) := by decide +kernel
theorem dX6_correct_109 : decode cX6_correct 109 = .ok (.iload 4, 2) := by decide +kernel
theorem dX6_correct_111 : decode cX6_correct 111 = .ok (.iadd, 1) := by decide +kernel
theorem dX6_correct_112 : decode cX6_correct 112 = .ok (.iastore, 1) := by decide +kernel
theorem dX6_correct_113 : decode cX6_correct 113 = .ok (.aload_n 0, 1) := by decide +kernel
theorem dX6_correct_114 : decode cX6_correct 114 = .ok (.iload_n 1, 1) := by decide +kernel
theorem dX6_correct_115 : decode cX6_correct 115 = .ok (.bipush 10, 2) := by decide +kernel
theorem dX6_correct_117 : decode cX6_correct 117 = .ok (.iload_n 2, 1) := by decide +kernel
theorem dX6_correct_118 : decode cX6_correct 118 = .ok (.iadd, 1) := by decide +kernel
theorem dX6_correct_119 : decode cX6_correct 119 = .ok (.aload_n 0, 1) := by decide +kernel
theorem dX6_correct_120 : decode cX6_correct 120 = .ok (.iload_n 1, 1) := by decide +kernel
theorem dX6_correct_121 : decode cX6_correct 121 = .ok (.iconst 2, 1) := by decide +kernel
theorem dX6_correct_122 : decode cX6_correct 122 = .ok (.iload_n 2, 1) := by decide +kernel
theorem dX6_correct_123 : decode cX6_correct 123 = .ok (.iadd, 1) := by decide +kernel
theorem dX6_correct_124 : decode cX6_correct 124 = .ok (.invokevirtual 80, 3) := by decide +kernel
theorem dX6_correct_127 : decode cX6_correct 127 = .ok (.invokevirtual 108, 3) := by decide +kernel
theorem dX6_correct_130 : decode cX6_correct 130 = .ok (.aload_n 0, 1) := by decide +kernel
theorem dX6_correct_131 : decode cX6_correct 131 = .ok (.iload_n 1, 1) := by decide +kernel
theorem dX6_correct_132 : decode cX6_correct 132 = .ok (.bipush 18, 2) := by decide +kernel
theorem dX6_correct_134 : decode cX6_correct 134 = .ok (.iload_n 2, 1) := by decide +kernel
theorem dX6_correct_135 : decode cX6_correct 135 = .ok (.iadd, 1) := by decide +kernel
theorem dX6_correct_136 : decode cX6_correct 136 = .ok (.iconst 0, 1) := by decide +kernel
theorem dX6_correct_137 : decode cX6_correct 137 = .ok (.invokevirtual 108, 3) := by decide +kernel
theorem dX6_correct_140 : decode cX6_correct 140 = .ok (.iload 4, 2) := by decide +kernel
theorem dX6_correct_142 : decode cX6_correct 142 = .ok (.ireturn, 1) := by decide +kernel
theorem dX6_reader_0 : decode cX6_reader 0 = .ok (.aload_n 0, 1) := by decide +kernel
theorem dX6_reader_1 : decode cX6_reader 1 = .ok (.iload_n 1, 1) := by decide +kernel
theorem dX6_reader_2 : decode cX6_reader 2 = .ok (.iconst 0, 1) := by decide +kernel
theorem dX6_reader_3 : decode cX6_reader 3 = .ok (.iconst 1, 1) := by decide +kernel
theorem dX6_reader_4 : decode cX6_reader 4 = .ok (.invokestatic 72, 3) := by decide +kernel
theorem dX6_reader_7 : decode cX6_reader 7 = .ok (.ifCond .eq 17, 3) := by decide +kernel
theorem dX6_reader_10 : decode cX6_reader 10 = .ok (.iload_n 2, 1) := by decide +kernel
theorem dX6_reader_11 : decode cX6_reader 11 = .ok (.iconst 1, 1) := by decide +kernel
theorem dX6_reader_12 : decode cX6_reader 12 = .ok (.bipush 6, 2) := by decide +kernel
theorem dX6_reader_14 : decode cX6_reader 14 = .ok (.invokestatic 72, 3) := by decide +kernel
theorem dX6_reader_17 : decode cX6_reader 17 = .ok (.ifCond .eq 7, 3) := by decide +kernel
theorem dX6_reader_20 : decode cX6_reader 20 = .ok (.iconst 0, 1) := by decide +kernel
theorem dX6_reader_21 : decode cX6_reader 21 = .ok (.goto 4, 3) := by decide +kernel
theorem dX6_reader_24 : decode cX6_reader 24 = .ok (.iconst 1, 1) := by decide +kernel
theorem dX6_reader_25 : decode cX6_reader 25 = .ok (.invokevirtual 86, 3) := by decide +kernel
theorem dX6_reader_28 : decode cX6_reader 28 = .ok (.ifCond .eq 5, 3) := by decide +kernel
theorem dX6_reader_31 : decode cX6_reader 31 = .ok (.iconst 0, 1) := by decide +kernel
theorem dX6_reader_32 : decode cX6_reader 32 = .ok (.ireturn, 1) := by decide +kernel
theorem dX6_reader_33 : decode cX6_reader 33 = .ok (.aload_n 0, 1) := by decide +kernel
theorem dX6_reader_34 : decode cX6_reader 34 = .ok (.getfield 7, 3) := by decide +kernel
theorem dX6_reader_37 : decode cX6_reader 37 = .ok (.iconst 2, 1) := by decide +kernel
theorem dX6_reader_38 : decode cX6_reader 38 = .ok (.iaload, 1) := by decide +kernel
theorem dX6_reader_39 : decode cX6_reader 39 = .ok (.iconst 5, 1) := by decide +kernel
theorem dX6_reader_40 : decode cX6_reader 40 = .ok (.if_icmp .ne 11, 3) := by decide +kernel
theorem dX6_reader_43 : decode cX6_reader 43 = .ok (.aload_n 0, 1) := by decide +kernel
theorem dX6_reader_44 : decode cX6_reader 44 = .ok (.iconst 2, 1) := by decide +kernel
theorem dX6_reader_45 : decode cX6_reader 45 = .ok (.iconst 1, 1) := by decide +kernel
theorem dX6_reader_46 : decode cX6_reader 46 = .ok (.iconst 5, 1) := by decide +kernel
theorem dX6_reader_47 : decode cX6_reader 47 = .ok (.invokevirtual 89, 3) := by decide +kernel
theorem dX6_reader_50 : decode cX6_reader 50 = .ok (.ireturn, 1) := by decide +kernel
theorem dX6_reader_51 : decode cX6_reader 51 = .ok (.aload_n 0, 1) := by decide +kernel
theorem dX6_reader_52 : decode cX6_reader 52 = .ok (.aload_n 0, 1) := by decide +kernel
theorem dX6_reader_53 : decode cX6_reader 53 = .ok (.getfield 7, 3) := by decide +kernel
theorem dX6_reader_56 : decode cX6_reader 56 = .ok (.invokevirtual 93, 3) := by decide +kernel
theorem dX6_reader_59 : decode cX6_reader 59 = .ok (.aload_n 0, 1) := by decide +kernel
theorem dX6_reader_60 : decode cX6_reader 60 = .ok (.getfield 7, 3) := by decide +kernel
theorem dX6_reader_63 : decode cX6_reader 63 = .ok (.sipush 230, 3) := by decide +kernel
theorem dX6_reader_66 : decode cX6_reader 66 = .ok (.iconst 2, 1) := by decide +kernel
theorem dX6_reader_67 : decode cX6_reader 67 = .ok (.aload_n 0, 1) := by decide +kernel
theorem dX6_reader_68 : decode cX6_reader 68 = .ok (.getfield 7, 3) := by decide +kernel
theorem dX6_reader_71 : decode cX6_reader 71 = .ok (.iconst 2, 1) := by decide +kernel
theorem dX6_reader_72 : decode cX6_reader 72 = .ok (.iaload, 1) := by decide +kernel
theorem dX6_reader_73 : decode cX6_reader 73 = .ok (.imul, 1) := by decide +kernel
theorem dX6_reader_74 : decode cX6_reader 74 = .ok (.iadd, 1) := by decide +kernel
theorem dX6_reader_75 : decode cX6_reader 75 = .ok (.iload_n 1, 1) := by decide +kernel
theorem dX6_reader_76 : decode cX6_reader 76 = .ok (.iastore, 1) := by decide +kernel
theorem dX6_reader_77 : decode cX6_reader 77 = .ok (.aload_n 0, 1) := by decide +kernel
theorem dX6_reader_78 : decode cX6_reader 78 = .ok (.getfield 7, 3) := by decide +kernel
theorem dX6_reader_81 : decode cX6_reader 81 = .ok (.sipush 230, 3) := by decide +kernel
theorem dX6_reader_84 : decode cX6_reader 84 = .ok (.iconst 2, 1) := by decide +kernel
theorem dX6_reader_85 : decode cX6_reader 85 = .ok (.aload_n 0, 1) := by decide +kernel
theorem dX6_reader_86 : decode cX6_reader 86 = .ok (.getfield 7, 3) := by decide +kernel
theorem dX6_reader_89 : decode cX6_reader 89 = .ok (.iconst 2, 1) := by decide +kernel
theorem dX6_reader_90 : decode cX6_reader 90 = .ok (.iaload, 1) := by decide +kernel
theorem dX6_reader_91 : decode cX6_reader 91 = .ok (.imul, 1) := by decide +kernel
theorem dX6_reader_92 : decode cX6_reader 92 = .ok (.iadd, 1) := by decide +kernel
theorem dX6_reader_93 : decode cX6_reader 93 = .ok (.iconst 1, 1) := by decide +kernel
theorem dX6_reader_94 : decode cX6_reader 94 = .ok (.iadd, 1) := by decide +kernel
theorem dX6_reader_95 : decode cX6_reader 95 = .ok (.iload_n 2, 1) := by decide +kernel
theorem dX6_reader_96 : decode cX6_reader 96 = .ok (.iastore, 1) := by decide +kernel
theorem dX6_reader_97 : decode cX6_reader 97 = .ok (.aload_n 0, 1) := by decide +kernel
theorem dX6_reader_98 : decode cX6_reader 98 = .ok (.getfield 7, 3) := by decide +kernel
theorem dX6_reader_101 : decode cX6_reader 101 = .ok (.iconst 2, 1) := by decide +kernel
theorem dX6_reader_102 : decode cX6_reader 102 = .ok (.dup2, 1) := by decide +kernel
theorem dX6_reader_103 : decode cX6_reader 103 = .ok (.iaload, 1) := by decide +kernel
theorem dX6_reader_104 : decode cX6_reader 104 = .ok (.iconst 1, 1) := by decide +kernel
theorem dX6_reader_105 : decode cX6_reader 105 = .ok (.iadd, 1) := by decide +kernel
theorem dX6_reader_106 : decode cX6_reader 106 = .ok (.iastore, 1) := by decide +kernel
theorem dX6_reader_107 : decode cX6_reader 107 = .ok (.aload_n 0, 1) := by decide +kernel
theorem dX6_reader_108 : decode cX6_reader 108 = .ok (.getfield 7, 3) := by decide +kernel
theorem dX6_reader_111 : decode cX6_reader 111 = .ok (.iconst 2, 1) := by decide +kernel
theorem dX6_reader_112 : decode cX6_reader 112 = .ok (.iaload, 1) := by decide +kernel
theorem dX6_reader_113 : decode cX6_reader 113 = .ok (.iconst 1, 1) := by decide +kernel
theorem dX6_reader_114 : decode cX6_reader 114 = .ok (.isub, 1) := by decide +kernel
theorem dX6_reader_115 : decode cX6_reader 115 = .ok (.ireturn, 1) := by decide +kernel
theorem dX6_laughers_0 : decode cX6_laughers 0 = .ok (.iconst 0, 1) := by decide +kernel
theorem dX6_laughers_1 : decode cX6_laughers 1 = .ok (.istore_n 3, 1) := by decide +kernel
theorem dX6_laughers_2 : decode cX6_laughers 2 = .ok (.iconst 0, 1) := by decide +kernel
theorem dX6_laughers_3 : decode cX6_laughers 3 = .ok (.istore 4, 2) := by decide +kernel
theorem dX6_laughers_5 : decode cX6_laughers 5 = .ok (.iload 4, 2) := by decide +kernel
theorem dX6_laughers_7 : decode cX6_laughers 7 = .ok (.aload_n 0, 1) := by decide +kernel
theorem dX6_laughers_8 : decode cX6_laughers 8 = .ok (.getfield 7, 3) := by decide +kernel
theorem dX6_laughers_11 : decode cX6_laughers 11 = .ok (.iconst 2, 1) := by decide +kernel
theorem dX6_laughers_12 : decode cX6_laughers 12 = .ok (.iaload, 1) := by decide +kernel
theorem dX6_laughers_13 : decode cX6_laughers 13 = .ok (.if_icmp .ge 107, 3) := by decide +kernel
theorem dX6_laughers_16 : decode cX6_laughers 16 = .ok (.aload_n 0, 1) := by decide +kernel
theorem dX6_laughers_17 : decode cX6_laughers 17 = .ok (.iload_n 1, 1) := by decide +kernel
theorem dX6_laughers_18 : decode cX6_laughers 18 = .ok (.iload_n 2, 1) := by decide +kernel
theorem dX6_laughers_19 : decode cX6_laughers 19 = .ok (.invokevirtual 111, 3) := by decide +kernel
theorem dX6_laughers_22 : decode cX6_laughers 22 = .ok (.ifCond .le 98, 3) := by decide +kernel
theorem dX6_laughers_25 : decode cX6_laughers 25 = .ok (.aload_n 0, 1) := by decide +kernel
theorem dX6_laughers_26 : decode cX6_laughers 26 = .ok (.getfield 7, 3) := by decide +kernel
theorem dX6_laughers_29 : decode cX6_laughers 29 = .ok (.sipush 230, 3) := by decide +kernel
theorem dX6_laughers_32 : decode cX6_laughers 32 = .ok (.iconst 2, 1) := by decide +kernel
theorem dX6_laughers_33 : decode cX6_laughers 33 = .ok (.iload 4, 2) := by decide +kernel
theorem dX6_laughers_35 : decode cX6_laughers 35 = .ok (.imul, 1) := by decide +kernel
theorem dX6_laughers_36 : decode cX6_laughers 36 = .ok (.iadd, 1) := by decide +kernel
theorem dX6_laughers_37 : decode cX6_laughers 37 = .ok (.iconst 1, 1) := by decide +kernel
theorem dX6_laughers_38 : decode cX6_laughers 38 = .ok (.iadd, 1) := by decide +kernel
theorem dX6_laughers_39 : decode cX6_laughers 39 = .ok (.iaload, 1) := by decide +kernel
theorem dX6_laughers_40 : decode cX6_laughers 40 = .ok (.istore 5, 2) := by decide +kernel
theorem dX6_laughers_42 : decode cX6_laughers 42 = .ok (.aload_n 0, 1) := by decide +kernel
theorem dX6_laughers_43 : decode cX6_laughers 43 = .ok (.getfield 7, 3) := by decide +kernel
theorem dX6_laughers_46 : decode cX6_laughers 46 = .ok (.sipush 230, 3) := by decide +kernel
theorem dX6_laughers_49 : decode cX6_laughers 49 = .ok (.iconst 2, 1) := by decide +kernel
theorem dX6_laughers_50 : decode cX6_laughers 50 = .ok (.iload 4, 2) := by decide +kernel
theorem dX6_laughers_52 : decode cX6_laughers 52 = .ok (.imul, 1) := by decide +kernel
theorem dX6_laughers_53 : decode cX6_laughers 53 = .ok (.iadd, 1) := by decide +kernel
theorem dX6_laughers_54 : decode cX6_laughers 54 = .ok (.iaload, 1) := by decide +kernel
theorem dX6_laughers_55 : decode cX6_laughers 55 = .ok (.ifCond .ne 25, 3) := by decide +kernel
theorem dX6_laughers_58 : decode cX6_laughers 58 = .ok (.aload_n 0, 1) := by decide +kernel
theorem dX6_laughers_59 : decode cX6_laughers 59 = .ok (.iload_n 1, 1) := by decide +kernel
theorem dX6_laughers_60 : decode cX6_laughers 60 = .ok (.bipush 10, 2) := by decide +kernel
theorem dX6_laughers_62 : decode cX6_laughers 62 = .ok (.iload_n 2, 1) := by decide +kernel
theorem dX6_laughers_63 : decode cX6_laughers 63 = .ok (.iadd, 1) := by decide +kernel
theorem dX6_laughers_64 : decode cX6_laughers 64 = .ok (.invokevirtual 80, 3) := by decide +kernel
theorem dX6_laughers_67 : decode cX6_laughers 67 = .ok (.iload 5, 2) := by decide +kernel
theorem dX6_laughers_69 : decode cX6_laughers 69 = .ok (.if_icmp .ne 7, 3) := by decide +kernel
theorem dX6_laughers_72 : decode cX6_laughers 72 = .ok (.iconst 1, 1) := by decide +kernel
theorem dX6_laughers_73 : decode cX6_laughers 73 = .ok (.goto 23, 3) := by decide +kernel
theorem dX6_laughers_76 : decode cX6_laughers 76 = .ok (.iconst 0, 1) := by decide +kernel
theorem dX6_laughers_77 : decode cX6_laughers 77 = .ok (.goto 19, 3) := by decide +kernel
theorem dX6_laughers_80 : decode cX6_laughers 80 = .ok (.aload_n 0, 1) := by decide +kernel
theorem dX6_laughers_81 : decode cX6_laughers 81 = .ok (.iload_n 1, 1) := by decide +kernel
theorem dX6_laughers_82 : decode cX6_laughers 82 = .ok (.iload_n 2, 1) := by decide +kernel
theorem dX6_laughers_83 : decode cX6_laughers 83 = .ok (.invokevirtual 130, 3) := by decide +kernel
theorem dX6_laughers_86 : decode cX6_laughers 86 = .ok (.iload 5, 2) := by decide +kernel
theorem dX6_laughers_88 : decode cX6_laughers 88 = .ok (.if_icmp .lt 7, 3) := by decide +kernel
theorem dX6_laughers_91 : decode cX6_laughers 91 = .ok (.iconst 1, 1) := by decide +kernel
theorem dX6_laughers_92 : decode cX6_laughers 92 = .ok (.goto 4, 3) := by decide +kernel
theorem dX6_laughers_95 : decode cX6_laughers 95 = .ok (.iconst 0, 1) := by decide +kernel
theorem dX6_laughers_96 : decode cX6_laughers 96 = .ok (.istore 6, 2) := by decide +kernel
theorem dX6_laughers_98 : decode cX6_laughers 98 = .ok (.iload_n 3, 1) := by decide +kernel
theorem dX6_laughers_99 : decode cX6_laughers 99 = .ok (.iload 6, 2) := by decide +kernel
theorem dX6_laughers_101 : decode cX6_laughers 101 = .ok (.ifCond .eq 10, 3) := by decide +kernel
theorem dX6_laughers_104 : decode cX6_laughers 104 = .ok (.iconst 1, 1) := by decide +kernel
theorem dX6_laughers_105 : decode cX6_laughers 105 = .ok (.iload 4, 2) := by decide +kernel
theorem dX6_laughers_107 : decode cX6_laughers 107 = .ok (.ishl, 1) := by decide +kernel
theorem dX6_laughers_108 : decode cX6_laughers 108 = .ok (.goto 4, 3) := by decide +kernel
theorem dX6_laughers_111 : decode cX6_laughers 111 = .ok (.iconst 0, 1) := by decide +kernel
theorem dX6_laughers_112 : decode cX6_laughers 112 = .ok (.ior, 1) := by decide +kernel
theorem dX6_laughers_113 : decode cX6_laughers 113 = .ok (.istore_n 3, 1) := by decide +kernel
theorem dX6_laughers_114 : decode cX6_laughers 114 = .ok (.iinc 4 1, 3) := by decide +kernel
theorem dX6_laughers_117 : decode cX6_laughers 117 = .ok (.goto (-112), 3) := by decide +kernel
theorem dX6_laughers_120 : decode cX6_laughers 120 = .ok (.iload_n 3, 1) := by decide +kernel
theorem dX6_laughers_121 : decode cX6_laughers 121 = .ok (.ireturn, 1) := by decide +kernel
theorem dX6_laughs_0 : decode cX6_laughs 0 = .ok (.iconst 0, 1) := by decide +kernel
theorem dX6_laughs_1 : decode cX6_laughs 1 = .ok (.istore_n 3, 1) := by decide +kernel
theorem dX6_laughs_2 : decode cX6_laughs 2 = .ok (.iconst 0, 1) := by decide +kernel
theorem dX6_laughs_3 : decode cX6_laughs 3 = .ok (.istore 4, 2) := by decide +kernel
theorem dX6_laughs_5 : decode cX6_laughs 5 = .ok (.iload 4, 2) := by decide +kernel
theorem dX6_laughs_7 : decode cX6_laughs 7 = .ok (.iconst 5, 1) := by decide +kernel
theorem dX6_laughs_8 : decode cX6_laughs 8 = .ok (.if_icmp .ge 23, 3) := by decide +kernel
theorem dX6_laughs_11 : decode cX6_laughs 11 = .ok (.iload_n 3, 1) := by decide +kernel
theorem dX6_laughs_12 : decode cX6_laughs 12 = .ok (.aload_n 0, 1) := by decide +kernel
theorem dX6_laughs_13 : decode cX6_laughs 13 = .ok (.iload_n 1, 1) := by decide +kernel
theorem dX6_laughs_14 : decode cX6_laughs 14 = .ok (.iload_n 2, 1) := by decide +kernel
theorem dX6_laughs_15 : decode cX6_laughs 15 = .ok (.invokevirtual 136, 3) := by decide +kernel
theorem dX6_laughs_18 : decode cX6_laughs 18 = .ok (.iload 4, 2) := by decide +kernel
theorem dX6_laughs_20 : decode cX6_laughs 20 = .ok (.ishr, 1) := by decide +kernel
theorem dX6_laughs_21 : decode cX6_laughs 21 = .ok (.iconst 1, 1) := by decide +kernel
theorem dX6_laughs_22 : decode cX6_laughs 22 = .ok (.iand, 1) := by decide +kernel
theorem dX6_laughs_23 : decode cX6_laughs 23 = .ok (.iadd, 1) := by decide +kernel
theorem dX6_laughs_24 : decode cX6_laughs 24 = .ok (.istore_n 3, 1) := by decide +kernel
theorem dX6_laughs_25 : decode cX6_laughs 25 = .ok (.iinc 4 1, 3) := by decide +kernel
theorem dX6_laughs_28 : decode cX6_laughs 28 = .ok (.goto (-23), 3) := by decide +kernel
theorem dX6_laughs_31 : decode cX6_laughs 31 = .ok (.iload_n 3, 1) := by decide +kernel
theorem dX6_laughs_32 : decode cX6_laughs 32 = .ok (.ireturn, 1) := by decide +kernel
theorem dX6_printable_0 : decode cX6_printable 0 = .ok (.iconst 0, 1) := by decide +kernel
theorem dX6_printable_1 : decode cX6_printable 1 = .ok (.istore_n 1, 1) := by decide +kernel
theorem dX6_printable_2 : decode cX6_printable 2 = .ok (.iconst 0, 1) := by decide +kernel
theorem dX6_printable_3 : decode cX6_printable 3 = .ok (.istore_n 2, 1) := by decide +kernel
theorem dX6_printable_4 : decode cX6_printable 4 = .ok (.iload_n 2, 1) := by decide +kernel
theorem dX6_printable_5 : decode cX6_printable 5 = .ok (.aload_n 0, 1) := by decide +kernel
theorem dX6_printable_6 : decode cX6_printable 6 = .ok (.getfield 7, 3) := by decide +kernel
theorem dX6_printable_9 : decode cX6_printable 9 = .ok (.iconst 1, 1) := by decide +kernel
theorem dX6_printable_10 : decode cX6_printable 10 = .ok (.iaload, 1) := by decide +kernel
theorem dX6_printable_11 : decode cX6_printable 11 = .ok (.if_icmp .ge 25, 3) := by decide +kernel
theorem dX6_printable_14 : decode cX6_printable 14 = .ok (.iload_n 1, 1) := by decide +kernel
theorem dX6_printable_15 : decode cX6_printable 15 = .ok (.aload_n 0, 1) := by decide +kernel
theorem dX6_printable_16 : decode cX6_printable 16 = .ok (.iload_n 2, 1) := by decide +kernel
theorem dX6_printable_17 : decode cX6_printable 17 = .ok (.iconst 2, 1) := by decide +kernel
theorem dX6_printable_18 : decode cX6_printable 18 = .ok (.invokevirtual 118, 3) := by decide +kernel
theorem dX6_printable_21 : decode cX6_printable 21 = .ok (.aload_n 0, 1) := by decide +kernel
theorem dX6_printable_22 : decode cX6_printable 22 = .ok (.iload_n 2, 1) := by decide +kernel
theorem dX6_printable_23 : decode cX6_printable 23 = .ok (.iconst 3, 1) := by decide +kernel
theorem dX6_printable_24 : decode cX6_printable 24 = .ok (.invokevirtual 118, 3) := by decide +kernel
theorem dX6_printable_27 : decode cX6_printable 27 = .ok (.isub, 1) := by decide +kernel
theorem dX6_printable_28 : decode cX6_printable 28 = .ok (.iadd, 1) := by decide +kernel
theorem dX6_printable_29 : decode cX6_printable 29 = .ok (.istore_n 1, 1) := by decide +kernel
theorem dX6_printable_30 : decode cX6_printable 30 = .ok (.iinc 2 1, 3) := by decide +kernel
theorem dX6_printable_33 : decode cX6_printable 33 = .ok (.goto (-29), 3) := by decide +kernel
theorem dX6_printable_36 : decode cX6_printable 36 = .ok (.iload_n 1, 1) := by decide +kernel
theorem dX6_printable_37 : decode cX6_printable 37 = .ok (.ireturn, 1) := by decide +kernel
theorem dX6_edition_0 : decode cX6_edition 0 = .ok (.aload_n 0, 1) := by decide +kernel
theorem dX6_edition_1 : decode cX6_edition 1 = .ok (.invokevirtual 139, 3) := by decide +kernel
theorem dX6_edition_4 : decode cX6_edition 4 = .ok (.ifCond .ne 17, 3) := by decide +kernel
theorem dX6_edition_7 : decode cX6_edition 7 = .ok (.aload_n 0, 1) := by decide +kernel
theorem dX6_edition_8 : decode cX6_edition 8 = .ok (.iconst 1, 1) := by decide +kernel
theorem dX6_edition_9 : decode cX6_edition 9 = .ok (.bipush 8, 2) := by decide +kernel
theorem dX6_edition_11 : decode cX6_edition 11 = .ok (.aload_n 0, 1) := by decide +kernel
theorem dX6_edition_12 : decode cX6_edition 12 = .ok (.getfield 7, 3) := by decide +kernel
theorem dX6_edition_15 : decode cX6_edition 15 = .ok (.iconst 4, 1) := by decide +kernel
theorem dX6_edition_16 : decode cX6_edition 16 = .ok (.iaload, 1) := by decide +kernel
theorem dX6_edition_17 : decode cX6_edition 17 = .ok (.invokevirtual 89, 3) := by decide +kernel
theorem dX6_edition_20 : decode cX6_edition 20 = .ok (.ireturn, 1) := by decide +kernel
theorem dX6_edition_21 : decode cX6_edition 21 = .ok (.aload_n 0, 1) := by decide +kernel
theorem dX6_edition_22 : decode cX6_edition 22 = .ok (.aload_n 0, 1) := by decide +kernel
theorem dX6_edition_23 : decode cX6_edition 23 = .ok (.getfield 7, 3) := by decide +kernel
theorem dX6_edition_26 : decode cX6_edition 26 = .ok (.invokevirtual 93, 3) := by decide +kernel
theorem dX6_edition_29 : decode cX6_edition 29 = .ok (.iconst 0, 1) := by decide +kernel
theorem dX6_edition_30 : decode cX6_edition 30 = .ok (.istore_n 1, 1) := by decide +kernel
theorem dX6_edition_31 : decode cX6_edition 31 = .ok (.iconst 0, 1) := by decide +kernel
theorem dX6_edition_32 : decode cX6_edition 32 = .ok (.istore_n 2, 1) := by decide +kernel
theorem dX6_edition_33 : decode cX6_edition 33 = .ok (.iload_n 2, 1) := by decide +kernel
theorem dX6_edition_34 : decode cX6_edition 34 = .ok (.aload_n 0, 1) := by decide +kernel
theorem dX6_edition_35 : decode cX6_edition 35 = .ok (.getfield 7, 3) := by decide +kernel
theorem dX6_edition_38 : decode cX6_edition 38 = .ok (.iconst 1, 1) := by decide +kernel
theorem dX6_edition_39 : decode cX6_edition 39 = .ok (.iaload, 1) := by decide +kernel
theorem dX6_edition_40 : decode cX6_edition 40 = .ok (.if_icmp .ge 103, 3) := by decide +kernel
theorem dX6_edition_43 : decode cX6_edition 43 = .ok (.iconst 0, 1) := by decide +kernel
theorem dX6_edition_44 : decode cX6_edition 44 = .ok (.istore_n 3, 1) := by decide +kernel
theorem dX6_edition_45 : decode cX6_edition 45 = .ok (.iload_n 3, 1) := by decide +kernel
theorem dX6_edition_46 : decode cX6_edition 46 = .ok (.aload_n 0, 1) := by decide +kernel
theorem dX6_edition_47 : decode cX6_edition 47 = .ok (.iload_n 2, 1) := by decide +kernel
theorem dX6_edition_48 : decode cX6_edition 48 = .ok (.iconst 1, 1) := by decide +kernel
theorem dX6_edition_49 : decode cX6_edition 49 = .ok (.invokevirtual 80, 3) := by decide +kernel
theorem dX6_edition_52 : decode cX6_edition 52 = .ok (.if_icmp .ge 85, 3) := by decide +kernel
theorem dX6_edition_55 : decode cX6_edition 55 = .ok (.aload_n 0, 1) := by decide +kernel
theorem dX6_edition_56 : decode cX6_edition 56 = .ok (.iload_n 2, 1) := by decide +kernel
theorem dX6_edition_57 : decode cX6_edition 57 = .ok (.iload_n 3, 1) := by decide +kernel
theorem dX6_edition_58 : decode cX6_edition 58 = .ok (.invokevirtual 111, 3) := by decide +kernel
theorem dX6_edition_61 : decode cX6_edition 61 = .ok (.iconst 2, 1) := by decide +kernel
theorem dX6_edition_62 : decode cX6_edition 62 = .ok (.if_icmp .eq 6, 3) := by decide +kernel
theorem dX6_edition_65 : decode cX6_edition 65 = .ok (.goto 66, 3) := by decide +kernel
theorem dX6_edition_68 : decode cX6_edition 68 = .ok (.aload_n 0, 1) := by decide +kernel
theorem dX6_edition_69 : decode cX6_edition 69 = .ok (.aload_n 0, 1) := by decide +kernel
theorem dX6_edition_70 : decode cX6_edition 70 = .ok (.iload_n 2, 1) := by decide +kernel
theorem dX6_edition_71 : decode cX6_edition 71 = .ok (.iconst 0, 1) := by decide +kernel
theorem dX6_edition_72 : decode cX6_edition 72 = .ok (.invokevirtual 80, 3) := by decide +kernel
theorem dX6_edition_75 : decode cX6_edition 75 = .ok (.iconst 1, 1) := by decide +kernel
theorem dX6_edition_76 : decode cX6_edition 76 = .ok (.aload_n 0, 1) := by decide +kernel
theorem dX6_edition_77 : decode cX6_edition 77 = .ok (.iload_n 2, 1) := by decide +kernel
theorem dX6_edition_78 : decode cX6_edition 78 = .ok (.iload_n 3, 1) := by decide +kernel
theorem dX6_edition_79 : decode cX6_edition 79 = .ok (.invokevirtual 130, 3) := by decide +kernel
theorem dX6_edition_82 : decode cX6_edition 82 = .ok (.invokevirtual 143, 3) := by decide +kernel
theorem dX6_edition_85 : decode cX6_edition 85 = .ok (.aload_n 0, 1) := by decide +kernel
theorem dX6_edition_86 : decode cX6_edition 86 = .ok (.aload_n 0, 1) := by decide +kernel
theorem dX6_edition_87 : decode cX6_edition 87 = .ok (.iload_n 2, 1) := by decide +kernel
theorem dX6_edition_88 : decode cX6_edition 88 = .ok (.iconst 0, 1) := by decide +kernel
theorem dX6_edition_89 : decode cX6_edition 89 = .ok (.invokevirtual 80, 3) := by decide +kernel
theorem dX6_edition_92 : decode cX6_edition 92 = .ok (.iconst 0, 1) := by decide +kernel
theorem dX6_edition_93 : decode cX6_edition 93 = .ok (.aload_n 0, 1) := by decide +kernel
theorem dX6_edition_94 : decode cX6_edition 94 = .ok (.iload_n 2, 1) := by decide +kernel
theorem dX6_edition_95 : decode cX6_edition 95 = .ok (.iload_n 3, 1) := by decide +kernel
theorem dX6_edition_96 : decode cX6_edition 96 = .ok (.invokevirtual 146, 3) := by decide +kernel
theorem dX6_edition_99 : decode cX6_edition 99 = .ok (.invokevirtual 143, 3) := by decide +kernel
theorem dX6_edition_102 : decode cX6_edition 102 = .ok (.iload_n 1, 1) := by decide +kernel
theorem dX6_edition_103 : decode cX6_edition 103 = .ok (.aload_n 0, 1) := by decide +kernel
theorem dX6_edition_104 : decode cX6_edition 104 = .ok (.iload_n 2, 1) := by decide +kernel
theorem dX6_edition_105 : decode cX6_edition 105 = .ok (.iload_n 3, 1) := by decide +kernel
theorem dX6_edition_106 : decode cX6_edition 106 = .ok (.invokevirtual 146, 3) := by decide +kernel
theorem dX6_edition_109 : decode cX6_edition 109 = .ok (.iadd, 1) := by decide +kernel
theorem dX6_edition_110 : decode cX6_edition 110 = .ok (.istore_n 1, 1) := by decide +kernel
theorem dX6_edition_111 : decode cX6_edition 111 = .ok (.aload_n 0, 1) := by decide +kernel
theorem dX6_edition_112 : decode cX6_edition 112 = .ok (.iload_n 2, 1) := by decide +kernel
theorem dX6_edition_113 : decode cX6_edition 113 = .ok (.bipush 18, 2) := by decide +kernel
theorem dX6_edition_115 : decode cX6_edition 115 = .ok (.iload_n 3, 1) := by decide +kernel
theorem dX6_edition_116 : decode cX6_edition 116 = .ok (.iadd, 1) := by decide +kernel
theorem dX6_edition_117 : decode cX6_edition 117 = .ok (.iconst 3, 1) := by decide +kernel
theorem dX6_edition_118 : decode cX6_edition 118 = .ok (.invokevirtual 108, 3) := by decide +kernel
theorem dX6_edition_121 : decode cX6_edition 121 = .ok (.aload_n 0, 1) := by decide +kernel
theorem dX6_edition_122 : decode cX6_edition 122 = .ok (.getfield 7, 3) := by decide +kernel
theorem dX6_edition_125 : decode cX6_edition 125 = .ok (.iconst 5, 1) := by decide +kernel
theorem dX6_edition_126 : decode cX6_edition 126 = .ok (.dup2, 1) := by decide +kernel
theorem dX6_edition_127 : decode cX6_edition 127 = .ok (.iaload, 1) := by decide +kernel
theorem dX6_edition_128 : decode cX6_edition 128 = .ok (.iconst 1, 1) := by decide +kernel
theorem dX6_edition_129 : decode cX6_edition 129 = .ok (.iadd, 1) := by decide +kernel
theorem dX6_edition_130 : decode cX6_edition 130 = .ok (.iastore, 1) := by decide +kernel
theorem dX6_edition_131 : decode cX6_edition 131 = .ok (.iinc 3 1, 3) := by decide +kernel
theorem dX6_edition_134 : decode cX6_edition 134 = .ok (.goto (-89), 3) := by decide +kernel
theorem dX6_edition_137 : decode cX6_edition 137 = .ok (.iinc 2 1, 3) := by decide +kernel
theorem dX6_edition_140 : decode cX6_edition 140 = .ok (.goto (-107), 3) := by decide +kernel
theorem dX6_edition_143 : decode cX6_edition 143 = .ok (.aload_n 0, 1) := by decide +kernel
theorem dX6_edition_144 : decode cX6_edition 144 = .ok (.getfield 7, 3) := by decide +kernel
theorem dX6_edition_147 : decode cX6_edition 147 = .ok (.bipush 6, 2) := by decide +kernel
theorem dX6_edition_149 : decode cX6_edition 149 = .ok (.dup2, 1) := by decide +kernel
theorem dX6_edition_150 : decode cX6_edition 150 = .ok (.iaload, 1) := by decide +kernel
theorem dX6_edition_151 : decode cX6_edition 151 = .ok (.iload_n 1, 1) := by decide +kernel
theorem dX6_edition_152 : decode cX6_edition 152 = .ok (.iadd, 1) := by decide +kernel
theorem dX6_edition_153 : decode cX6_edition 153 = .ok (.iastore, 1) := by decide +kernel
theorem dX6_edition_154 : decode cX6_edition 154 = .ok (.aload_n 0, 1) := by decide +kernel
theorem dX6_edition_155 : decode cX6_edition 155 = .ok (.getfield 7, 3) := by decide +kernel
theorem dX6_edition_158 : decode cX6_edition 158 = .ok (.iconst 4, 1) := by decide +kernel
theorem dX6_edition_159 : decode cX6_edition 159 = .ok (.dup2, 1) := by decide +kernel
theorem dX6_edition_160 : decode cX6_edition 160 = .ok (.iaload, 1) := by decide +kernel
theorem dX6_edition_161 : decode cX6_edition 161 = .ok (.iconst 1, 1) := by decide +kernel
theorem dX6_edition_162 : decode cX6_edition 162 = .ok (.iadd, 1) := by decide +kernel
theorem dX6_edition_163 : decode cX6_edition 163 = .ok (.iastore, 1) := by decide +kernel
theorem dX6_edition_164 : decode cX6_edition 164 = .ok (.iload_n 1, 1) := by decide +kernel
theorem dX6_edition_165 : decode cX6_edition 165 = .ok (.ireturn, 1) := by decide +kernel
theorem dX6_day_0 : decode cX6_day 0 = .ok (.aload_n 0, 1) := by decide +kernel
theorem dX6_day_1 : decode cX6_day 1 = .ok (.aload_n 0, 1) := by decide +kernel
theorem dX6_day_2 : decode cX6_day 2 = .ok (.getfield 7, 3) := by decide +kernel
theorem dX6_day_5 : decode cX6_day 5 = .ok (.invokevirtual 93, 3) := by decide +kernel
theorem dX6_day_8 : decode cX6_day 8 = .ok (.iconst 0, 1) := by decide +kernel
theorem dX6_day_9 : decode cX6_day 9 = .ok (.istore_n 1, 1) := by decide +kernel
theorem dX6_day_10 : decode cX6_day 10 = .ok (.iconst 0, 1) := by decide +kernel
theorem dX6_day_11 : decode cX6_day 11 = .ok (.istore_n 2, 1) := by decide +kernel
theorem dX6_day_12 : decode cX6_day 12 = .ok (.iload_n 2, 1) := by decide +kernel
theorem dX6_day_13 : decode cX6_day 13 = .ok (.aload_n 0, 1) := by decide +kernel
theorem dX6_day_14 : decode cX6_day 14 = .ok (.getfield 7, 3) := by decide +kernel
theorem dX6_day_17 : decode cX6_day 17 = .ok (.iconst 0, 1) := by decide +kernel
theorem dX6_day_18 : decode cX6_day 18 = .ok (.iaload, 1) := by decide +kernel
theorem dX6_day_19 : decode cX6_day 19 = .ok (.if_icmp .ge 48, 3) := by decide +kernel
theorem dX6_day_22 : decode cX6_day 22 = .ok (.aload_n 0, 1) := by decide +kernel
theorem dX6_day_23 : decode cX6_day 23 = .ok (.iload_n 2, 1) := by decide +kernel
theorem dX6_day_24 : decode cX6_day 24 = .ok (.iconst 1, 1) := by decide +kernel
theorem dX6_day_25 : decode cX6_day 25 = .ok (.invokevirtual 65, 3) := by decide +kernel
theorem dX6_day_28 : decode cX6_day 28 = .ok (.ifCond .le 10, 3) := by decide +kernel
theorem dX6_day_31 : decode cX6_day 31 = .ok (.aload_n 0, 1) := by decide +kernel
theorem dX6_day_32 : decode cX6_day 32 = .ok (.iload_n 2, 1) := by decide +kernel
theorem dX6_day_33 : decode cX6_day 33 = .ok (.iconst 1, 1) := by decide +kernel
theorem dX6_day_34 : decode cX6_day 34 = .ok (.iconst (-1), 1) := by decide +kernel
theorem dX6_day_35 : decode cX6_day 35 = .ok (.invokevirtual 97, 3) := by decide +kernel
theorem dX6_day_38 : decode cX6_day 38 = .ok (.aload_n 0, 1) := by decide +kernel
theorem dX6_day_39 : decode cX6_day 39 = .ok (.iload_n 2, 1) := by decide +kernel
theorem dX6_day_40 : decode cX6_day 40 = .ok (.iconst 0, 1) := by decide +kernel
theorem dX6_day_41 : decode cX6_day 41 = .ok (.iconst 1, 1) := by decide +kernel
theorem dX6_day_42 : decode cX6_day 42 = .ok (.invokevirtual 143, 3) := by decide +kernel
theorem dX6_day_45 : decode cX6_day 45 = .ok (.iload_n 1, 1) := by decide +kernel
theorem dX6_day_46 : decode cX6_day 46 = .ok (.aload_n 0, 1) := by decide +kernel
theorem dX6_day_47 : decode cX6_day 47 = .ok (.iload_n 2, 1) := by decide +kernel
theorem dX6_day_48 : decode cX6_day 48 = .ok (.invokevirtual 124, 3) := by decide +kernel
theorem dX6_day_51 : decode cX6_day 51 = .ok (.ifCond .eq 7, 3) := by decide +kernel
theorem dX6_day_54 : decode cX6_day 54 = .ok (.iconst 1, 1) := by decide +kernel
theorem dX6_day_55 : decode cX6_day 55 = .ok (.goto 4, 3) := by decide +kernel
theorem dX6_day_58 : decode cX6_day 58 = .ok (.iconst 0, 1) := by decide +kernel
theorem dX6_day_59 : decode cX6_day 59 = .ok (.iadd, 1) := by decide +kernel
theorem dX6_day_60 : decode cX6_day 60 = .ok (.istore_n 1, 1) := by decide +kernel
theorem dX6_day_61 : decode cX6_day 61 = .ok (.iinc 2 1, 3) := by decide +kernel
theorem dX6_day_64 : decode cX6_day 64 = .ok (.goto (-52), 3) := by decide +kernel
theorem dX6_day_67 : decode cX6_day 67 = .ok (.aload_n 0, 1) := by decide +kernel
theorem dX6_day_68 : decode cX6_day 68 = .ok (.getfield 7, 3) := by decide +kernel
theorem dX6_day_71 : decode cX6_day 71 = .ok (.iconst 3, 1) := by decide +kernel
theorem dX6_day_72 : decode cX6_day 72 = .ok (.dup2, 1) := by decide +kernel
theorem dX6_day_73 : decode cX6_day 73 = .ok (.iaload, 1) := by decide +kernel
theorem dX6_day_74 : decode cX6_day 74 = .ok (.iconst 1, 1) := by decide +kernel
theorem dX6_day_75 : decode cX6_day 75 = .ok (.iadd, 1) := by decide +kernel
theorem dX6_day_76 : decode cX6_day 76 = .ok (.iastore, 1) := by decide +kernel
theorem dX6_day_77 : decode cX6_day 77 = .ok (.iload_n 1, 1) := by decide +kernel
theorem dX6_day_78 : decode cX6_day 78 = .ok (.ireturn, 1) := by decide +kernel
theorem dX6_sheetsOf_0 : decode cX6_sheetsOf 0 = .ok (.iconst 0, 1) := by decide +kernel
theorem dX6_sheetsOf_1 : decode cX6_sheetsOf 1 = .ok (.istore_n 2, 1) := by decide +kernel
theorem dX6_sheetsOf_2 : decode cX6_sheetsOf 2 = .ok (.iconst 0, 1) := by decide +kernel
theorem dX6_sheetsOf_3 : decode cX6_sheetsOf 3 = .ok (.istore_n 3, 1) := by decide +kernel
theorem dX6_sheetsOf_4 : decode cX6_sheetsOf 4 = .ok (.iload_n 3, 1) := by decide +kernel
theorem dX6_sheetsOf_5 : decode cX6_sheetsOf 5 = .ok (.aload_n 0, 1) := by decide +kernel
theorem dX6_sheetsOf_6 : decode cX6_sheetsOf 6 = .ok (.getfield 7, 3) := by decide +kernel
theorem dX6_sheetsOf_9 : decode cX6_sheetsOf 9 = .ok (.iconst 1, 1) := by decide +kernel
theorem dX6_sheetsOf_10 : decode cX6_sheetsOf 10 = .ok (.iaload, 1) := by decide +kernel
theorem dX6_sheetsOf_11 : decode cX6_sheetsOf 11 = .ok (.if_icmp .ge 27, 3) := by decide +kernel
theorem dX6_sheetsOf_14 : decode cX6_sheetsOf 14 = .ok (.iload_n 2, 1) := by decide +kernel
theorem dX6_sheetsOf_15 : decode cX6_sheetsOf 15 = .ok (.aload_n 0, 1) := by decide +kernel
theorem dX6_sheetsOf_16 : decode cX6_sheetsOf 16 = .ok (.iload_n 3, 1) := by decide +kernel
theorem dX6_sheetsOf_17 : decode cX6_sheetsOf 17 = .ok (.iconst 0, 1) := by decide +kernel
theorem dX6_sheetsOf_18 : decode cX6_sheetsOf 18 = .ok (.invokevirtual 80, 3) := by decide +kernel
theorem dX6_sheetsOf_21 : decode cX6_sheetsOf 21 = .ok (.iload_n 1, 1) := by decide +kernel
theorem dX6_sheetsOf_22 : decode cX6_sheetsOf 22 = .ok (.if_icmp .ne 7, 3) := by decide +kernel
theorem dX6_sheetsOf_25 : decode cX6_sheetsOf 25 = .ok (.iconst 1, 1) := by decide +kernel
theorem dX6_sheetsOf_26 : decode cX6_sheetsOf 26 = .ok (.goto 4, 3) := by decide +kernel
theorem dX6_sheetsOf_29 : decode cX6_sheetsOf 29 = .ok (.iconst 0, 1) := by decide +kernel
theorem dX6_sheetsOf_30 : decode cX6_sheetsOf 30 = .ok (.iadd, 1) := by decide +kernel
theorem dX6_sheetsOf_31 : decode cX6_sheetsOf 31 = .ok (.istore_n 2, 1) := by decide +kernel
theorem dX6_sheetsOf_32 : decode cX6_sheetsOf 32 = .ok (.iinc 3 1, 3) := by decide +kernel
theorem dX6_sheetsOf_35 : decode cX6_sheetsOf 35 = .ok (.goto (-31), 3) := by decide +kernel
theorem dX6_sheetsOf_38 : decode cX6_sheetsOf 38 = .ok (.iload_n 2, 1) := by decide +kernel
theorem dX6_sheetsOf_39 : decode cX6_sheetsOf 39 = .ok (.ireturn, 1) := by decide +kernel
theorem dX6_houseOf_0 : decode cX6_houseOf 0 = .ok (.aload_n 0, 1) := by decide +kernel
theorem dX6_houseOf_1 : decode cX6_houseOf 1 = .ok (.aload_n 0, 1) := by decide +kernel
theorem dX6_houseOf_2 : decode cX6_houseOf 2 = .ok (.iload_n 1, 1) := by decide +kernel
theorem dX6_houseOf_3 : decode cX6_houseOf 3 = .ok (.invokevirtual 101, 3) := by decide +kernel
theorem dX6_houseOf_6 : decode cX6_houseOf 6 = .ok (.ifCond .ne 7, 3) := by decide +kernel
theorem dX6_houseOf_9 : decode cX6_houseOf 9 = .ok (.iconst 1, 1) := by decide +kernel
theorem dX6_houseOf_10 : decode cX6_houseOf 10 = .ok (.goto 18, 3) := by decide +kernel
theorem dX6_houseOf_13 : decode cX6_houseOf 13 = .ok (.iload_n 2, 1) := by decide +kernel
theorem dX6_houseOf_14 : decode cX6_houseOf 14 = .ok (.iconst 0, 1) := by decide +kernel
theorem dX6_houseOf_15 : decode cX6_houseOf 15 = .ok (.bipush 6, 2) := by decide +kernel
theorem dX6_houseOf_17 : decode cX6_houseOf 17 = .ok (.invokestatic 72, 3) := by decide +kernel
theorem dX6_houseOf_20 : decode cX6_houseOf 20 = .ok (.ifCond .eq 7, 3) := by decide +kernel
theorem dX6_houseOf_23 : decode cX6_houseOf 23 = .ok (.iconst 0, 1) := by decide +kernel
theorem dX6_houseOf_24 : decode cX6_houseOf 24 = .ok (.goto 4, 3) := by decide +kernel
theorem dX6_houseOf_27 : decode cX6_houseOf 27 = .ok (.iconst 2, 1) := by decide +kernel
theorem dX6_houseOf_28 : decode cX6_houseOf 28 = .ok (.invokevirtual 86, 3) := by decide +kernel
theorem dX6_houseOf_31 : decode cX6_houseOf 31 = .ok (.ifCond .eq 5, 3) := by decide +kernel
theorem dX6_houseOf_34 : decode cX6_houseOf 34 = .ok (.iconst 0, 1) := by decide +kernel
theorem dX6_houseOf_35 : decode cX6_houseOf 35 = .ok (.ireturn, 1) := by decide +kernel
theorem dX6_houseOf_36 : decode cX6_houseOf 36 = .ok (.iload_n 2, 1) := by decide +kernel
theorem dX6_houseOf_37 : decode cX6_houseOf 37 = .ok (.tableswitch 72 0 5 #[39, 39, 46, 52, 59, 66], 39) := by decide +kernel
theorem dX6_houseOf_76 : decode cX6_houseOf 76 = .ok (.aload_n 0, 1) := by decide +kernel
theorem dX6_houseOf_77 : decode cX6_houseOf 77 = .ok (.iload_n 1, 1) := by decide +kernel
theorem dX6_houseOf_78 : decode cX6_houseOf 78 = .ok (.iload_n 2, 1) := by decide +kernel
theorem dX6_houseOf_79 : decode cX6_houseOf 79 = .ok (.invokevirtual 65, 3) := by decide +kernel
theorem dX6_houseOf_82 : decode cX6_houseOf 82 = .ok (.ireturn, 1) := by decide +kernel
theorem dX6_houseOf_83 : decode cX6_houseOf 83 = .ok (.aload_n 0, 1) := by decide +kernel
theorem dX6_houseOf_84 : decode cX6_houseOf 84 = .ok (.iload_n 1, 1) := by decide +kernel
theorem dX6_houseOf_85 : decode cX6_houseOf 85 = .ok (.invokevirtual 149, 3) := by decide +kernel
theorem dX6_houseOf_88 : decode cX6_houseOf 88 = .ok (.ireturn, 1) := by decide +kernel
theorem dX6_houseOf_89 : decode cX6_houseOf 89 = .ok (.aload_n 0, 1) := by decide +kernel
theorem dX6_houseOf_90 : decode cX6_houseOf 90 = .ok (.iload_n 1, 1) := by decide +kernel
theorem dX6_houseOf_91 : decode cX6_houseOf 91 = .ok (.iconst 1, 1) := by decide +kernel
theorem dX6_houseOf_92 : decode cX6_houseOf 92 = .ok (.invokevirtual 121, 3) := by decide +kernel
theorem dX6_houseOf_95 : decode cX6_houseOf 95 = .ok (.ireturn, 1) := by decide +kernel
theorem dX6_houseOf_96 : decode cX6_houseOf 96 = .ok (.aload_n 0, 1) := by decide +kernel
theorem dX6_houseOf_97 : decode cX6_houseOf 97 = .ok (.iload_n 1, 1) := by decide +kernel
theorem dX6_houseOf_98 : decode cX6_houseOf 98 = .ok (.iconst 2, 1) := by decide +kernel
theorem dX6_houseOf_99 : decode cX6_houseOf 99 = .ok (.invokevirtual 121, 3) := by decide +kernel
theorem dX6_houseOf_102 : decode cX6_houseOf 102 = .ok (.ireturn, 1) := by decide +kernel
theorem dX6_houseOf_103 : decode cX6_houseOf 103 = .ok (.aload_n 0, 1) := by decide +kernel
theorem dX6_houseOf_104 : decode cX6_houseOf 104 = .ok (.iload_n 1, 1) := by decide +kernel
theorem dX6_houseOf_105 : decode cX6_houseOf 105 = .ok (.invokevirtual 127, 3) := by decide +kernel
theorem dX6_houseOf_108 : decode cX6_houseOf 108 = .ok (.ireturn, 1) := by decide +kernel
theorem dX6_houseOf_109 : decode cX6_houseOf 109 = .ok (.aload_n 0, 1) := by decide +kernel
theorem dX6_houseOf_110 : decode cX6_houseOf 110 = .ok (.iload_n 1, 1) := by decide +kernel
theorem dX6_houseOf_111 : decode cX6_houseOf 111 = .ok (.iconst 2, 1) := by decide +kernel
theorem dX6_houseOf_112 : decode cX6_houseOf 112 = .ok (.invokevirtual 65, 3) := by decide +kernel
theorem dX6_houseOf_115 : decode cX6_houseOf 115 = .ok (.ireturn, 1) := by decide +kernel
theorem dX6_badOf_0 : decode cX6_badOf 0 = .ok (.iconst 0, 1) := by decide +kernel
theorem dX6_badOf_1 : decode cX6_badOf 1 = .ok (.istore_n 2, 1) := by decide +kernel
theorem dX6_badOf_2 : decode cX6_badOf 2 = .ok (.iconst 0, 1) := by decide +kernel
theorem dX6_badOf_3 : decode cX6_badOf 3 = .ok (.istore_n 3, 1) := by decide +kernel
theorem dX6_badOf_4 : decode cX6_badOf 4 = .ok (.iload_n 3, 1) := by decide +kernel
theorem dX6_badOf_5 : decode cX6_badOf 5 = .ok (.aload_n 0, 1) := by decide +kernel
theorem dX6_badOf_6 : decode cX6_badOf 6 = .ok (.iload_n 1, 1) := by decide +kernel
theorem dX6_badOf_7 : decode cX6_badOf 7 = .ok (.iconst 1, 1) := by decide +kernel
theorem dX6_badOf_8 : decode cX6_badOf 8 = .ok (.invokevirtual 80, 3) := by decide +kernel
theorem dX6_badOf_11 : decode cX6_badOf 11 = .ok (.if_icmp .ge 18, 3) := by decide +kernel
theorem dX6_badOf_14 : decode cX6_badOf 14 = .ok (.iload_n 2, 1) := by decide +kernel
theorem dX6_badOf_15 : decode cX6_badOf 15 = .ok (.aload_n 0, 1) := by decide +kernel
theorem dX6_badOf_16 : decode cX6_badOf 16 = .ok (.iload_n 1, 1) := by decide +kernel
theorem dX6_badOf_17 : decode cX6_badOf 17 = .ok (.iload_n 3, 1) := by decide +kernel
theorem dX6_badOf_18 : decode cX6_badOf 18 = .ok (.invokevirtual 130, 3) := by decide +kernel
theorem dX6_badOf_21 : decode cX6_badOf 21 = .ok (.iadd, 1) := by decide +kernel
theorem dX6_badOf_22 : decode cX6_badOf 22 = .ok (.istore_n 2, 1) := by decide +kernel
theorem dX6_badOf_23 : decode cX6_badOf 23 = .ok (.iinc 3 1, 3) := by decide +kernel
theorem dX6_badOf_26 : decode cX6_badOf 26 = .ok (.goto (-22), 3) := by decide +kernel
theorem dX6_badOf_29 : decode cX6_badOf 29 = .ok (.iload_n 2, 1) := by decide +kernel
theorem dX6_badOf_30 : decode cX6_badOf 30 = .ok (.ireturn, 1) := by decide +kernel
theorem dX6_sheetOf_0 : decode cX6_sheetOf 0 = .ok (.aload_n 0, 1) := by decide +kernel
theorem dX6_sheetOf_1 : decode cX6_sheetOf 1 = .ok (.aload_n 0, 1) := by decide +kernel
theorem dX6_sheetOf_2 : decode cX6_sheetOf 2 = .ok (.iload_n 1, 1) := by decide +kernel
theorem dX6_sheetOf_3 : decode cX6_sheetOf 3 = .ok (.invokevirtual 76, 3) := by decide +kernel
theorem dX6_sheetOf_6 : decode cX6_sheetOf 6 = .ok (.ifCond .ne 7, 3) := by decide +kernel
theorem dX6_sheetOf_9 : decode cX6_sheetOf 9 = .ok (.iconst 1, 1) := by decide +kernel
theorem dX6_sheetOf_10 : decode cX6_sheetOf 10 = .ok (.goto 17, 3) := by decide +kernel
theorem dX6_sheetOf_13 : decode cX6_sheetOf 13 = .ok (.iload_n 2, 1) := by decide +kernel
theorem dX6_sheetOf_14 : decode cX6_sheetOf 14 = .ok (.iconst 0, 1) := by decide +kernel
theorem dX6_sheetOf_15 : decode cX6_sheetOf 15 = .ok (.iconst 5, 1) := by decide +kernel
theorem dX6_sheetOf_16 : decode cX6_sheetOf 16 = .ok (.invokestatic 72, 3) := by decide +kernel
theorem dX6_sheetOf_19 : decode cX6_sheetOf 19 = .ok (.ifCond .eq 7, 3) := by decide +kernel
theorem dX6_sheetOf_22 : decode cX6_sheetOf 22 = .ok (.iconst 0, 1) := by decide +kernel
theorem dX6_sheetOf_23 : decode cX6_sheetOf 23 = .ok (.goto 4, 3) := by decide +kernel
theorem dX6_sheetOf_26 : decode cX6_sheetOf 26 = .ok (.iconst 2, 1) := by decide +kernel
theorem dX6_sheetOf_27 : decode cX6_sheetOf 27 = .ok (.invokevirtual 86, 3) := by decide +kernel
theorem dX6_sheetOf_30 : decode cX6_sheetOf 30 = .ok (.ifCond .eq 5, 3) := by decide +kernel
theorem dX6_sheetOf_33 : decode cX6_sheetOf 33 = .ok (.iconst 0, 1) := by decide +kernel
theorem dX6_sheetOf_34 : decode cX6_sheetOf 34 = .ok (.ireturn, 1) := by decide +kernel
theorem dX6_sheetOf_35 : decode cX6_sheetOf 35 = .ok (.iload_n 2, 1) := by decide +kernel
theorem dX6_sheetOf_36 : decode cX6_sheetOf 36 = .ok (.iconst 2, 1) := by decide +kernel
theorem dX6_sheetOf_37 : decode cX6_sheetOf 37 = .ok (.if_icmp .ge 12, 3) := by decide +kernel
theorem dX6_sheetOf_40 : decode cX6_sheetOf 40 = .ok (.aload_n 0, 1) := by decide +kernel
theorem dX6_sheetOf_41 : decode cX6_sheetOf 41 = .ok (.iload_n 1, 1) := by decide +kernel
theorem dX6_sheetOf_42 : decode cX6_sheetOf 42 = .ok (.iload_n 2, 1) := by decide +kernel
theorem dX6_sheetOf_43 : decode cX6_sheetOf 43 = .ok (.invokevirtual 80, 3) := by decide +kernel
theorem dX6_sheetOf_46 : decode cX6_sheetOf 46 = .ok (.goto 24, 3) := by decide +kernel
theorem dX6_sheetOf_49 : decode cX6_sheetOf 49 = .ok (.iload_n 2, 1) := by decide +kernel
theorem dX6_sheetOf_50 : decode cX6_sheetOf 50 = .ok (.iconst 5, 1) := by decide +kernel
theorem dX6_sheetOf_51 : decode cX6_sheetOf 51 = .ok (.if_icmp .ne 11, 3) := by decide +kernel
theorem dX6_sheetOf_54 : decode cX6_sheetOf 54 = .ok (.aload_n 0, 1) := by decide +kernel
theorem dX6_sheetOf_55 : decode cX6_sheetOf 55 = .ok (.iload_n 1, 1) := by decide +kernel
theorem dX6_sheetOf_56 : decode cX6_sheetOf 56 = .ok (.invokevirtual 152, 3) := by decide +kernel
theorem dX6_sheetOf_59 : decode cX6_sheetOf 59 = .ok (.goto 11, 3) := by decide +kernel
theorem dX6_sheetOf_62 : decode cX6_sheetOf 62 = .ok (.aload_n 0, 1) := by decide +kernel
theorem dX6_sheetOf_63 : decode cX6_sheetOf 63 = .ok (.iload_n 1, 1) := by decide +kernel
theorem dX6_sheetOf_64 : decode cX6_sheetOf 64 = .ok (.iload_n 2, 1) := by decide +kernel
theorem dX6_sheetOf_65 : decode cX6_sheetOf 65 = .ok (.iconst 1, 1) := by decide +kernel
theorem dX6_sheetOf_66 : decode cX6_sheetOf 66 = .ok (.isub, 1) := by decide +kernel
theorem dX6_sheetOf_67 : decode cX6_sheetOf 67 = .ok (.invokevirtual 118, 3) := by decide +kernel
theorem dX6_sheetOf_70 : decode cX6_sheetOf 70 = .ok (.ireturn, 1) := by decide +kernel
theorem dX6_isNowhere_0 : decode cX6_isNowhere 0 = .ok (.aload_n 0, 1) := by decide +kernel
theorem dX6_isNowhere_1 : decode cX6_isNowhere 1 = .ok (.aload_n 0, 1) := by decide +kernel
theorem dX6_isNowhere_2 : decode cX6_isNowhere 2 = .ok (.iload_n 1, 1) := by decide +kernel
theorem dX6_isNowhere_3 : decode cX6_isNowhere 3 = .ok (.iload_n 2, 1) := by decide +kernel
theorem dX6_isNowhere_4 : decode cX6_isNowhere 4 = .ok (.invokevirtual 114, 3) := by decide +kernel
theorem dX6_isNowhere_7 : decode cX6_isNowhere 7 = .ok (.ifCond .eq 7, 3) := by decide +kernel
theorem dX6_isNowhere_10 : decode cX6_isNowhere 10 = .ok (.iconst 0, 1) := by decide +kernel
theorem dX6_isNowhere_11 : decode cX6_isNowhere 11 = .ok (.goto 4, 3) := by decide +kernel
theorem dX6_isNowhere_14 : decode cX6_isNowhere 14 = .ok (.iconst 1, 1) := by decide +kernel
theorem dX6_isNowhere_15 : decode cX6_isNowhere 15 = .ok (.invokevirtual 86, 3) := by decide +kernel
theorem dX6_isNowhere_18 : decode cX6_isNowhere 18 = .ok (.ireturn, 1) := by decide +kernel
theorem dX6_letterAt_0 : decode cX6_letterAt 0 = .ok (.aload_n 0, 1) := by decide +kernel
theorem dX6_letterAt_1 : decode cX6_letterAt 1 = .ok (.iload_n 1, 1) := by decide +kernel
theorem dX6_letterAt_2 : decode cX6_letterAt 2 = .ok (.iload_n 2, 1) := by decide +kernel
theorem dX6_letterAt_3 : decode cX6_letterAt 3 = .ok (.invokevirtual 155, 3) := by decide +kernel
theorem dX6_letterAt_6 : decode cX6_letterAt 6 = .ok (.ifCond .eq 8, 3) := by decide +kernel
theorem dX6_letterAt_9 : decode cX6_letterAt 9 = .ok (.bipush 32, 2) := by decide +kernel
theorem dX6_letterAt_11 : decode cX6_letterAt 11 = .ok (.goto 24, 3) := by decide +kernel
theorem dX6_letterAt_14 : decode cX6_letterAt 14 = .ok (.bipush 96, 2) := by decide +kernel
theorem dX6_letterAt_16 : decode cX6_letterAt 16 = .ok (.aload_n 0, 1) := by decide +kernel
theorem dX6_letterAt_17 : decode cX6_letterAt 17 = .ok (.iload_n 1, 1) := by decide +kernel
theorem dX6_letterAt_18 : decode cX6_letterAt 18 = .ok (.iload_n 3, 1) := by decide +kernel
theorem dX6_letterAt_19 : decode cX6_letterAt 19 = .ok (.ifCond .eq 7, 3) := by decide +kernel
theorem dX6_letterAt_22 : decode cX6_letterAt 22 = .ok (.iconst 2, 1) := by decide +kernel
theorem dX6_letterAt_23 : decode cX6_letterAt 23 = .ok (.goto 5, 3) := by decide +kernel
theorem dX6_letterAt_26 : decode cX6_letterAt 26 = .ok (.bipush 10, 2) := by decide +kernel
theorem dX6_letterAt_28 : decode cX6_letterAt 28 = .ok (.iload_n 2, 1) := by decide +kernel
theorem dX6_letterAt_29 : decode cX6_letterAt 29 = .ok (.iadd, 1) := by decide +kernel
theorem dX6_letterAt_30 : decode cX6_letterAt 30 = .ok (.invokevirtual 80, 3) := by decide +kernel
theorem dX6_letterAt_33 : decode cX6_letterAt 33 = .ok (.iadd, 1) := by decide +kernel
theorem dX6_letterAt_34 : decode cX6_letterAt 34 = .ok (.i2c, 1) := by decide +kernel
theorem dX6_letterAt_35 : decode cX6_letterAt 35 = .ok (.ireturn, 1) := by decide +kernel
theorem dX6_markAt_0 : decode cX6_markAt 0 = .ok (.aload_n 0, 1) := by decide +kernel
theorem dX6_markAt_1 : decode cX6_markAt 1 = .ok (.iload_n 1, 1) := by decide +kernel
theorem dX6_markAt_2 : decode cX6_markAt 2 = .ok (.iload_n 2, 1) := by decide +kernel
theorem dX6_markAt_3 : decode cX6_markAt 3 = .ok (.invokevirtual 155, 3) := by decide +kernel
theorem dX6_markAt_6 : decode cX6_markAt 6 = .ok (.ifCond .eq 7, 3) := by decide +kernel
theorem dX6_markAt_9 : decode cX6_markAt 9 = .ok (.iconst 0, 1) := by decide +kernel
theorem dX6_markAt_10 : decode cX6_markAt 10 = .ok (.goto 9, 3) := by decide +kernel
theorem dX6_markAt_13 : decode cX6_markAt 13 = .ok (.aload_n 0, 1) := by decide +kernel
theorem dX6_markAt_14 : decode cX6_markAt 14 = .ok (.iload_n 1, 1) := by decide +kernel
theorem dX6_markAt_15 : decode cX6_markAt 15 = .ok (.iload_n 2, 1) := by decide +kernel
theorem dX6_markAt_16 : decode cX6_markAt 16 = .ok (.invokevirtual 111, 3) := by decide +kernel
theorem dX6_markAt_19 : decode cX6_markAt 19 = .ok (.ireturn, 1) := by decide +kernel
theorem dX6_fine_0 : decode cX6_fine 0 = .ok (.aload_n 0, 1) := by decide +kernel
theorem dX6_fine_1 : decode cX6_fine 1 = .ok (.iload_n 1, 1) := by decide +kernel
theorem dX6_fine_2 : decode cX6_fine 2 = .ok (.iload_n 2, 1) := by decide +kernel
theorem dX6_fine_3 : decode cX6_fine 3 = .ok (.invokevirtual 155, 3) := by decide +kernel
theorem dX6_fine_6 : decode cX6_fine 6 = .ok (.ifCond .eq 7, 3) := by decide +kernel
theorem dX6_fine_9 : decode cX6_fine 9 = .ok (.iconst 0, 1) := by decide +kernel
theorem dX6_fine_10 : decode cX6_fine 10 = .ok (.goto 9, 3) := by decide +kernel
theorem dX6_fine_13 : decode cX6_fine 13 = .ok (.aload_n 0, 1) := by decide +kernel
theorem dX6_fine_14 : decode cX6_fine 14 = .ok (.iload_n 1, 1) := by decide +kernel
theorem dX6_fine_15 : decode cX6_fine 15 = .ok (.iload_n 2, 1) := by decide +kernel
theorem dX6_fine_16 : decode cX6_fine 16 = .ok (.invokevirtual 133, 3) := by decide +kernel
theorem dX6_fine_19 : decode cX6_fine 19 = .ok (.ireturn, 1) := by decide +kernel
theorem dX6_finesOf_0 : decode cX6_finesOf 0 = .ok (.iconst 0, 1) := by decide +kernel
theorem dX6_finesOf_1 : decode cX6_finesOf 1 = .ok (.istore_n 2, 1) := by decide +kernel
theorem dX6_finesOf_2 : decode cX6_finesOf 2 = .ok (.iconst 0, 1) := by decide +kernel
theorem dX6_finesOf_3 : decode cX6_finesOf 3 = .ok (.istore_n 3, 1) := by decide +kernel
theorem dX6_finesOf_4 : decode cX6_finesOf 4 = .ok (.iload_n 3, 1) := by decide +kernel
theorem dX6_finesOf_5 : decode cX6_finesOf 5 = .ok (.aload_n 0, 1) := by decide +kernel
theorem dX6_finesOf_6 : decode cX6_finesOf 6 = .ok (.iload_n 1, 1) := by decide +kernel
theorem dX6_finesOf_7 : decode cX6_finesOf 7 = .ok (.iconst 1, 1) := by decide +kernel
theorem dX6_finesOf_8 : decode cX6_finesOf 8 = .ok (.invokevirtual 80, 3) := by decide +kernel
theorem dX6_finesOf_11 : decode cX6_finesOf 11 = .ok (.if_icmp .ge 18, 3) := by decide +kernel
theorem dX6_finesOf_14 : decode cX6_finesOf 14 = .ok (.iload_n 2, 1) := by decide +kernel
theorem dX6_finesOf_15 : decode cX6_finesOf 15 = .ok (.aload_n 0, 1) := by decide +kernel
theorem dX6_finesOf_16 : decode cX6_finesOf 16 = .ok (.iload_n 1, 1) := by decide +kernel
theorem dX6_finesOf_17 : decode cX6_finesOf 17 = .ok (.iload_n 3, 1) := by decide +kernel
theorem dX6_finesOf_18 : decode cX6_finesOf 18 = .ok (.invokevirtual 133, 3) := by decide +kernel
theorem dX6_finesOf_21 : decode cX6_finesOf 21 = .ok (.iadd, 1) := by decide +kernel
theorem dX6_finesOf_22 : decode cX6_finesOf 22 = .ok (.istore_n 2, 1) := by decide +kernel
theorem dX6_finesOf_23 : decode cX6_finesOf 23 = .ok (.iinc 3 1, 3) := by decide +kernel
theorem dX6_finesOf_26 : decode cX6_finesOf 26 = .ok (.goto (-22), 3) := by decide +kernel
theorem dX6_finesOf_29 : decode cX6_finesOf 29 = .ok (.iload_n 2, 1) := by decide +kernel
theorem dX6_finesOf_30 : decode cX6_finesOf 30 = .ok (.ireturn, 1) := by decide +kernel
theorem dX6_fines_0 : decode cX6_fines 0 = .ok (.aload_n 0, 1) := by decide +kernel
theorem dX6_fines_1 : decode cX6_fines 1 = .ok (.aload_n 0, 1) := by decide +kernel
theorem dX6_fines_2 : decode cX6_fines 2 = .ok (.iload_n 1, 1) := by decide +kernel
theorem dX6_fines_3 : decode cX6_fines 3 = .ok (.invokevirtual 76, 3) := by decide +kernel
end
section
theorem dX6_fines_6 : decode cX6_fines 6 = .ok (.ifCond .eq 7, 3) := by decide +kernel
theorem dX6_fines_9 : decode cX6_fines 9 = .ok (.iconst 0, 1) := by decide +kernel
theorem dX6_fines_10 : decode cX6_fines 10 = .ok (.goto 4, 3) := by decide +kernel
theorem dX6_fines_13 : decode cX6_fines 13 = .ok (.iconst 1, 1) := by decide +kernel
theorem dX6_fines_14 : decode cX6_fines 14 = .ok (.invokevirtual 86, 3) := by decide +kernel
theorem dX6_fines_17 : decode cX6_fines 17 = .ok (.ifCond .eq 7, 3) := by decide +kernel
theorem dX6_fines_20 : decode cX6_fines 20 = .ok (.iconst 0, 1) := by decide +kernel
theorem dX6_fines_21 : decode cX6_fines 21 = .ok (.goto 8, 3) := by decide +kernel
theorem dX6_fines_24 : decode cX6_fines 24 = .ok (.aload_n 0, 1) := by decide +kernel
theorem dX6_fines_25 : decode cX6_fines 25 = .ok (.iload_n 1, 1) := by decide +kernel
theorem dX6_fines_26 : decode cX6_fines 26 = .ok (.invokevirtual 158, 3) := by decide +kernel
theorem dX6_fines_29 : decode cX6_fines 29 = .ok (.ireturn, 1) := by decide +kernel
theorem dX6_canMend_0 : decode cX6_canMend 0 = .ok (.aload_n 0, 1) := by decide +kernel
theorem dX6_canMend_1 : decode cX6_canMend 1 = .ok (.aload_n 0, 1) := by decide +kernel
theorem dX6_canMend_2 : decode cX6_canMend 2 = .ok (.iload_n 1, 1) := by decide +kernel
theorem dX6_canMend_3 : decode cX6_canMend 3 = .ok (.invokevirtual 76, 3) := by decide +kernel
theorem dX6_canMend_6 : decode cX6_canMend 6 = .ok (.ifCond .eq 7, 3) := by decide +kernel
theorem dX6_canMend_9 : decode cX6_canMend 9 = .ok (.iconst 0, 1) := by decide +kernel
theorem dX6_canMend_10 : decode cX6_canMend 10 = .ok (.goto 4, 3) := by decide +kernel
theorem dX6_canMend_13 : decode cX6_canMend 13 = .ok (.iconst 1, 1) := by decide +kernel
theorem dX6_canMend_14 : decode cX6_canMend 14 = .ok (.invokevirtual 86, 3) := by decide +kernel
theorem dX6_canMend_17 : decode cX6_canMend 17 = .ok (.ifCond .ne 26, 3) := by decide +kernel
theorem dX6_canMend_20 : decode cX6_canMend 20 = .ok (.aload_n 0, 1) := by decide +kernel
theorem dX6_canMend_21 : decode cX6_canMend 21 = .ok (.aload_n 0, 1) := by decide +kernel
theorem dX6_canMend_22 : decode cX6_canMend 22 = .ok (.iload_n 1, 1) := by decide +kernel
theorem dX6_canMend_23 : decode cX6_canMend 23 = .ok (.iconst 0, 1) := by decide +kernel
theorem dX6_canMend_24 : decode cX6_canMend 24 = .ok (.invokevirtual 80, 3) := by decide +kernel
theorem dX6_canMend_27 : decode cX6_canMend 27 = .ok (.iconst 0, 1) := by decide +kernel
theorem dX6_canMend_28 : decode cX6_canMend 28 = .ok (.invokevirtual 65, 3) := by decide +kernel
theorem dX6_canMend_31 : decode cX6_canMend 31 = .ok (.aload_n 0, 1) := by decide +kernel
theorem dX6_canMend_32 : decode cX6_canMend 32 = .ok (.iload_n 1, 1) := by decide +kernel
theorem dX6_canMend_33 : decode cX6_canMend 33 = .ok (.invokevirtual 158, 3) := by decide +kernel
theorem dX6_canMend_36 : decode cX6_canMend 36 = .ok (.if_icmp .lt 7, 3) := by decide +kernel
theorem dX6_canMend_39 : decode cX6_canMend 39 = .ok (.iconst 1, 1) := by decide +kernel
theorem dX6_canMend_40 : decode cX6_canMend 40 = .ok (.goto 4, 3) := by decide +kernel
theorem dX6_canMend_43 : decode cX6_canMend 43 = .ok (.iconst 0, 1) := by decide +kernel
theorem dX6_canMend_44 : decode cX6_canMend 44 = .ok (.ireturn, 1) := by decide +kernel
theorem dX6_laughing_0 : decode cX6_laughing 0 = .ok (.aload_n 0, 1) := by decide +kernel
theorem dX6_laughing_1 : decode cX6_laughing 1 = .ok (.iload_n 1, 1) := by decide +kernel
theorem dX6_laughing_2 : decode cX6_laughing 2 = .ok (.iload_n 2, 1) := by decide +kernel
theorem dX6_laughing_3 : decode cX6_laughing 3 = .ok (.invokevirtual 155, 3) := by decide +kernel
theorem dX6_laughing_6 : decode cX6_laughing 6 = .ok (.ifCond .eq 7, 3) := by decide +kernel
theorem dX6_laughing_9 : decode cX6_laughing 9 = .ok (.iconst 0, 1) := by decide +kernel
theorem dX6_laughing_10 : decode cX6_laughing 10 = .ok (.goto 9, 3) := by decide +kernel
theorem dX6_laughing_13 : decode cX6_laughing 13 = .ok (.aload_n 0, 1) := by decide +kernel
theorem dX6_laughing_14 : decode cX6_laughing 14 = .ok (.iload_n 1, 1) := by decide +kernel
theorem dX6_laughing_15 : decode cX6_laughing 15 = .ok (.iload_n 2, 1) := by decide +kernel
theorem dX6_laughing_16 : decode cX6_laughing 16 = .ok (.invokevirtual 136, 3) := by decide +kernel
theorem dX6_laughing_19 : decode cX6_laughing 19 = .ok (.ireturn, 1) := by decide +kernel
theorem dX6_canLicense_0 : decode cX6_canLicense 0 = .ok (.aload_n 0, 1) := by decide +kernel
theorem dX6_canLicense_1 : decode cX6_canLicense 1 = .ok (.iload_n 1, 1) := by decide +kernel
theorem dX6_canLicense_2 : decode cX6_canLicense 2 = .ok (.iconst 0, 1) := by decide +kernel
theorem dX6_canLicense_3 : decode cX6_canLicense 3 = .ok (.invokevirtual 80, 3) := by decide +kernel
theorem dX6_canLicense_6 : decode cX6_canLicense 6 = .ok (.istore_n 3, 1) := by decide +kernel
theorem dX6_canLicense_7 : decode cX6_canLicense 7 = .ok (.aload_n 0, 1) := by decide +kernel
theorem dX6_canLicense_8 : decode cX6_canLicense 8 = .ok (.iload_n 1, 1) := by decide +kernel
theorem dX6_canLicense_9 : decode cX6_canLicense 9 = .ok (.iload_n 2, 1) := by decide +kernel
theorem dX6_canLicense_10 : decode cX6_canLicense 10 = .ok (.invokevirtual 111, 3) := by decide +kernel
theorem dX6_canLicense_13 : decode cX6_canLicense 13 = .ok (.iconst 1, 1) := by decide +kernel
theorem dX6_canLicense_14 : decode cX6_canLicense 14 = .ok (.if_icmp .ne 29, 3) := by decide +kernel
theorem dX6_canLicense_17 : decode cX6_canLicense 17 = .ok (.aload_n 0, 1) := by decide +kernel
theorem dX6_canLicense_18 : decode cX6_canLicense 18 = .ok (.iload_n 3, 1) := by decide +kernel
theorem dX6_canLicense_19 : decode cX6_canLicense 19 = .ok (.invokevirtual 124, 3) := by decide +kernel
theorem dX6_canLicense_22 : decode cX6_canLicense 22 = .ok (.ifCond .ne 21, 3) := by decide +kernel
theorem dX6_canLicense_25 : decode cX6_canLicense 25 = .ok (.aload_n 0, 1) := by decide +kernel
theorem dX6_canLicense_26 : decode cX6_canLicense 26 = .ok (.iload_n 3, 1) := by decide +kernel
theorem dX6_canLicense_27 : decode cX6_canLicense 27 = .ok (.iconst 0, 1) := by decide +kernel
theorem dX6_canLicense_28 : decode cX6_canLicense 28 = .ok (.invokevirtual 65, 3) := by decide +kernel
theorem dX6_canLicense_31 : decode cX6_canLicense 31 = .ok (.aload_n 0, 1) := by decide +kernel
theorem dX6_canLicense_32 : decode cX6_canLicense 32 = .ok (.iload_n 3, 1) := by decide +kernel
theorem dX6_canLicense_33 : decode cX6_canLicense 33 = .ok (.invokevirtual 127, 3) := by decide +kernel
theorem dX6_canLicense_36 : decode cX6_canLicense 36 = .ok (.if_icmp .lt 7, 3) := by decide +kernel
theorem dX6_canLicense_39 : decode cX6_canLicense 39 = .ok (.iconst 1, 1) := by decide +kernel
theorem dX6_canLicense_40 : decode cX6_canLicense 40 = .ok (.goto 4, 3) := by decide +kernel
theorem dX6_canLicense_43 : decode cX6_canLicense 43 = .ok (.iconst 0, 1) := by decide +kernel
theorem dX6_canLicense_44 : decode cX6_canLicense 44 = .ok (.ireturn, 1) := by decide +kernel
theorem dX6_bargain_0 : decode cX6_bargain 0 = .ok (.iconst (-1), 1) := by decide +kernel
theorem dX6_bargain_1 : decode cX6_bargain 1 = .ok (.istore_n 2, 1) := by decide +kernel
theorem dX6_bargain_2 : decode cX6_bargain 2 = .ok (.iconst 0, 1) := by decide +kernel
theorem dX6_bargain_3 : decode cX6_bargain 3 = .ok (.istore_n 3, 1) := by decide +kernel
theorem dX6_bargain_4 : decode cX6_bargain 4 = .ok (.iconst 0, 1) := by decide +kernel
theorem dX6_bargain_5 : decode cX6_bargain 5 = .ok (.istore 4, 2) := by decide +kernel
theorem dX6_bargain_7 : decode cX6_bargain 7 = .ok (.iload 4, 2) := by decide +kernel
theorem dX6_bargain_9 : decode cX6_bargain 9 = .ok (.bipush 8, 2) := by decide +kernel
theorem dX6_bargain_11 : decode cX6_bargain 11 = .ok (.aload_n 0, 1) := by decide +kernel
theorem dX6_bargain_12 : decode cX6_bargain 12 = .ok (.getfield 7, 3) := by decide +kernel
theorem dX6_bargain_15 : decode cX6_bargain 15 = .ok (.iconst 1, 1) := by decide +kernel
theorem dX6_bargain_16 : decode cX6_bargain 16 = .ok (.iaload, 1) := by decide +kernel
theorem dX6_bargain_17 : decode cX6_bargain 17 = .ok (.imul, 1) := by decide +kernel
theorem dX6_bargain_18 : decode cX6_bargain 18 = .ok (.if_icmp .ge 96, 3) := by decide +kernel
theorem dX6_bargain_21 : decode cX6_bargain 21 = .ok (.aload_n 0, 1) := by decide +kernel
theorem dX6_bargain_22 : decode cX6_bargain 22 = .ok (.iload 4, 2) := by decide +kernel
theorem dX6_bargain_24 : decode cX6_bargain 24 = .ok (.bipush 8, 2) := by decide +kernel
theorem dX6_bargain_26 : decode cX6_bargain 26 = .ok (.idiv, 1) := by decide +kernel
theorem dX6_bargain_27 : decode cX6_bargain 27 = .ok (.iload 4, 2) := by decide +kernel
theorem dX6_bargain_29 : decode cX6_bargain 29 = .ok (.bipush 8, 2) := by decide +kernel
theorem dX6_bargain_31 : decode cX6_bargain 31 = .ok (.irem, 1) := by decide +kernel
theorem dX6_bargain_32 : decode cX6_bargain 32 = .ok (.invokevirtual 114, 3) := by decide +kernel
theorem dX6_bargain_35 : decode cX6_bargain 35 = .ok (.ifCond .eq 73, 3) := by decide +kernel
theorem dX6_bargain_38 : decode cX6_bargain 38 = .ok (.aload_n 0, 1) := by decide +kernel
theorem dX6_bargain_39 : decode cX6_bargain 39 = .ok (.iload 4, 2) := by decide +kernel
theorem dX6_bargain_41 : decode cX6_bargain 41 = .ok (.bipush 8, 2) := by decide +kernel
theorem dX6_bargain_43 : decode cX6_bargain 43 = .ok (.idiv, 1) := by decide +kernel
theorem dX6_bargain_44 : decode cX6_bargain 44 = .ok (.iload 4, 2) := by decide +kernel
theorem dX6_bargain_46 : decode cX6_bargain 46 = .ok (.bipush 8, 2) := by decide +kernel
theorem dX6_bargain_48 : decode cX6_bargain 48 = .ok (.irem, 1) := by decide +kernel
theorem dX6_bargain_49 : decode cX6_bargain 49 = .ok (.invokevirtual 161, 3) := by decide +kernel
theorem dX6_bargain_52 : decode cX6_bargain 52 = .ok (.ifCond .ne 6, 3) := by decide +kernel
theorem dX6_bargain_55 : decode cX6_bargain 55 = .ok (.goto 53, 3) := by decide +kernel
theorem dX6_bargain_58 : decode cX6_bargain 58 = .ok (.aload_n 0, 1) := by decide +kernel
theorem dX6_bargain_59 : decode cX6_bargain 59 = .ok (.iload 4, 2) := by decide +kernel
theorem dX6_bargain_61 : decode cX6_bargain 61 = .ok (.bipush 8, 2) := by decide +kernel
theorem dX6_bargain_63 : decode cX6_bargain 63 = .ok (.idiv, 1) := by decide +kernel
theorem dX6_bargain_64 : decode cX6_bargain 64 = .ok (.iload 4, 2) := by decide +kernel
theorem dX6_bargain_66 : decode cX6_bargain 66 = .ok (.bipush 8, 2) := by decide +kernel
theorem dX6_bargain_68 : decode cX6_bargain 68 = .ok (.irem, 1) := by decide +kernel
theorem dX6_bargain_69 : decode cX6_bargain 69 = .ok (.invokevirtual 146, 3) := by decide +kernel
theorem dX6_bargain_72 : decode cX6_bargain 72 = .ok (.aload_n 0, 1) := by decide +kernel
theorem dX6_bargain_73 : decode cX6_bargain 73 = .ok (.aload_n 0, 1) := by decide +kernel
theorem dX6_bargain_74 : decode cX6_bargain 74 = .ok (.iload 4, 2) := by decide +kernel
theorem dX6_bargain_76 : decode cX6_bargain 76 = .ok (.bipush 8, 2) := by decide +kernel
theorem dX6_bargain_78 : decode cX6_bargain 78 = .ok (.idiv, 1) := by decide +kernel
theorem dX6_bargain_79 : decode cX6_bargain 79 = .ok (.iconst 0, 1) := by decide +kernel
theorem dX6_bargain_80 : decode cX6_bargain 80 = .ok (.invokevirtual 80, 3) := by decide +kernel
theorem dX6_bargain_83 : decode cX6_bargain 83 = .ok (.invokevirtual 127, 3) := by decide +kernel
theorem dX6_bargain_86 : decode cX6_bargain 86 = .ok (.isub, 1) := by decide +kernel
theorem dX6_bargain_87 : decode cX6_bargain 87 = .ok (.istore 5, 2) := by decide +kernel
theorem dX6_bargain_89 : decode cX6_bargain 89 = .ok (.iload_n 2, 1) := by decide +kernel
theorem dX6_bargain_90 : decode cX6_bargain 90 = .ok (.ifCond .lt 12, 3) := by decide +kernel
theorem dX6_bargain_93 : decode cX6_bargain 93 = .ok (.iload 5, 2) := by decide +kernel
theorem dX6_bargain_95 : decode cX6_bargain 95 = .ok (.iload_n 3, 1) := by decide +kernel
theorem dX6_bargain_96 : decode cX6_bargain 96 = .ok (.if_icmp .gt 6, 3) := by decide +kernel
theorem dX6_bargain_99 : decode cX6_bargain 99 = .ok (.goto 9, 3) := by decide +kernel
theorem dX6_bargain_102 : decode cX6_bargain 102 = .ok (.iload 4, 2) := by decide +kernel
theorem dX6_bargain_104 : decode cX6_bargain 104 = .ok (.istore_n 2, 1) := by decide +kernel
theorem dX6_bargain_105 : decode cX6_bargain 105 = .ok (.iload 5, 2) := by decide +kernel
theorem dX6_bargain_107 : decode cX6_bargain 107 = .ok (.istore_n 3, 1) := by decide +kernel
theorem dX6_bargain_108 : decode cX6_bargain 108 = .ok (.iinc 4 1, 3) := by decide +kernel
theorem dX6_bargain_111 : decode cX6_bargain 111 = .ok (.goto (-104), 3) := by decide +kernel
theorem dX6_bargain_114 : decode cX6_bargain 114 = .ok (.aload_n 0, 1) := by decide +kernel
theorem dX6_bargain_115 : decode cX6_bargain 115 = .ok (.iload_n 2, 1) := by decide +kernel
theorem dX6_bargain_116 : decode cX6_bargain 116 = .ok (.ifCond .ge 7, 3) := by decide +kernel
theorem dX6_bargain_119 : decode cX6_bargain 119 = .ok (.iconst 1, 1) := by decide +kernel
theorem dX6_bargain_120 : decode cX6_bargain 120 = .ok (.goto 4, 3) := by decide +kernel
theorem dX6_bargain_123 : decode cX6_bargain 123 = .ok (.iconst 0, 1) := by decide +kernel
theorem dX6_bargain_124 : decode cX6_bargain 124 = .ok (.invokevirtual 86, 3) := by decide +kernel
theorem dX6_bargain_127 : decode cX6_bargain 127 = .ok (.ifCond .eq 7, 3) := by decide +kernel
theorem dX6_bargain_130 : decode cX6_bargain 130 = .ok (.iconst 0, 1) := by decide +kernel
theorem dX6_bargain_131 : decode cX6_bargain 131 = .ok (.goto 18, 3) := by decide +kernel
theorem dX6_bargain_134 : decode cX6_bargain 134 = .ok (.iload_n 1, 1) := by decide +kernel
theorem dX6_bargain_135 : decode cX6_bargain 135 = .ok (.ifCond .eq 10, 3) := by decide +kernel
theorem dX6_bargain_138 : decode cX6_bargain 138 = .ok (.iload_n 2, 1) := by decide +kernel
theorem dX6_bargain_139 : decode cX6_bargain 139 = .ok (.bipush 8, 2) := by decide +kernel
theorem dX6_bargain_141 : decode cX6_bargain 141 = .ok (.irem, 1) := by decide +kernel
theorem dX6_bargain_142 : decode cX6_bargain 142 = .ok (.goto 7, 3) := by decide +kernel
theorem dX6_bargain_145 : decode cX6_bargain 145 = .ok (.iload_n 2, 1) := by decide +kernel
theorem dX6_bargain_146 : decode cX6_bargain 146 = .ok (.bipush 8, 2) := by decide +kernel
theorem dX6_bargain_148 : decode cX6_bargain 148 = .ok (.idiv, 1) := by decide +kernel
theorem dX6_bargain_149 : decode cX6_bargain 149 = .ok (.ireturn, 1) := by decide +kernel
theorem dX6_wouldShame_0 : decode cX6_wouldShame 0 = .ok (.aload_n 0, 1) := by decide +kernel
theorem dX6_wouldShame_1 : decode cX6_wouldShame 1 = .ok (.aload_n 0, 1) := by decide +kernel
theorem dX6_wouldShame_2 : decode cX6_wouldShame 2 = .ok (.iload_n 1, 1) := by decide +kernel
theorem dX6_wouldShame_3 : decode cX6_wouldShame 3 = .ok (.invokevirtual 101, 3) := by decide +kernel
theorem dX6_wouldShame_6 : decode cX6_wouldShame 6 = .ok (.ifCond .eq 7, 3) := by decide +kernel
theorem dX6_wouldShame_9 : decode cX6_wouldShame 9 = .ok (.iconst 0, 1) := by decide +kernel
theorem dX6_wouldShame_10 : decode cX6_wouldShame 10 = .ok (.goto 4, 3) := by decide +kernel
theorem dX6_wouldShame_13 : decode cX6_wouldShame 13 = .ok (.iconst 1, 1) := by decide +kernel
theorem dX6_wouldShame_14 : decode cX6_wouldShame 14 = .ok (.invokevirtual 86, 3) := by decide +kernel
theorem dX6_wouldShame_17 : decode cX6_wouldShame 17 = .ok (.ifCond .eq 5, 3) := by decide +kernel
theorem dX6_wouldShame_20 : decode cX6_wouldShame 20 = .ok (.iconst 0, 1) := by decide +kernel
theorem dX6_wouldShame_21 : decode cX6_wouldShame 21 = .ok (.ireturn, 1) := by decide +kernel
theorem dX6_wouldShame_22 : decode cX6_wouldShame 22 = .ok (.aload_n 0, 1) := by decide +kernel
theorem dX6_wouldShame_23 : decode cX6_wouldShame 23 = .ok (.iload_n 1, 1) := by decide +kernel
theorem dX6_wouldShame_24 : decode cX6_wouldShame 24 = .ok (.iconst 1, 1) := by decide +kernel
theorem dX6_wouldShame_25 : decode cX6_wouldShame 25 = .ok (.invokevirtual 65, 3) := by decide +kernel
theorem dX6_wouldShame_28 : decode cX6_wouldShame 28 = .ok (.istore_n 2, 1) := by decide +kernel
theorem dX6_wouldShame_29 : decode cX6_wouldShame 29 = .ok (.iconst 0, 1) := by decide +kernel
theorem dX6_wouldShame_30 : decode cX6_wouldShame 30 = .ok (.istore_n 3, 1) := by decide +kernel
theorem dX6_wouldShame_31 : decode cX6_wouldShame 31 = .ok (.iload_n 3, 1) := by decide +kernel
theorem dX6_wouldShame_32 : decode cX6_wouldShame 32 = .ok (.aload_n 0, 1) := by decide +kernel
theorem dX6_wouldShame_33 : decode cX6_wouldShame 33 = .ok (.getfield 7, 3) := by decide +kernel
theorem dX6_wouldShame_36 : decode cX6_wouldShame 36 = .ok (.iconst 1, 1) := by decide +kernel
theorem dX6_wouldShame_37 : decode cX6_wouldShame 37 = .ok (.iaload, 1) := by decide +kernel
theorem dX6_wouldShame_38 : decode cX6_wouldShame 38 = .ok (.if_icmp .ge 64, 3) := by decide +kernel
theorem dX6_wouldShame_41 : decode cX6_wouldShame 41 = .ok (.iconst 0, 1) := by decide +kernel
theorem dX6_wouldShame_42 : decode cX6_wouldShame 42 = .ok (.istore 4, 2) := by decide +kernel
theorem dX6_wouldShame_44 : decode cX6_wouldShame 44 = .ok (.iload 4, 2) := by decide +kernel
theorem dX6_wouldShame_46 : decode cX6_wouldShame 46 = .ok (.aload_n 0, 1) := by decide +kernel
theorem dX6_wouldShame_47 : decode cX6_wouldShame 47 = .ok (.iload_n 3, 1) := by decide +kernel
theorem dX6_wouldShame_48 : decode cX6_wouldShame 48 = .ok (.iconst 1, 1) := by decide +kernel
theorem dX6_wouldShame_49 : decode cX6_wouldShame 49 = .ok (.invokevirtual 80, 3) := by decide +kernel
theorem dX6_wouldShame_52 : decode cX6_wouldShame 52 = .ok (.if_icmp .ge 44, 3) := by decide +kernel
theorem dX6_wouldShame_55 : decode cX6_wouldShame 55 = .ok (.aload_n 0, 1) := by decide +kernel
theorem dX6_wouldShame_56 : decode cX6_wouldShame 56 = .ok (.iload_n 3, 1) := by decide +kernel
theorem dX6_wouldShame_57 : decode cX6_wouldShame 57 = .ok (.iconst 0, 1) := by decide +kernel
theorem dX6_wouldShame_58 : decode cX6_wouldShame 58 = .ok (.invokevirtual 80, 3) := by decide +kernel
theorem dX6_wouldShame_61 : decode cX6_wouldShame 61 = .ok (.iload_n 1, 1) := by decide +kernel
theorem dX6_wouldShame_62 : decode cX6_wouldShame 62 = .ok (.if_icmp .ne 34, 3) := by decide +kernel
theorem dX6_wouldShame_65 : decode cX6_wouldShame 65 = .ok (.iload_n 2, 1) := by decide +kernel
theorem dX6_wouldShame_66 : decode cX6_wouldShame 66 = .ok (.aload_n 0, 1) := by decide +kernel
theorem dX6_wouldShame_67 : decode cX6_wouldShame 67 = .ok (.iload_n 3, 1) := by decide +kernel
theorem dX6_wouldShame_68 : decode cX6_wouldShame 68 = .ok (.iload 4, 2) := by decide +kernel
theorem dX6_wouldShame_70 : decode cX6_wouldShame 70 = .ok (.invokevirtual 111, 3) := by decide +kernel
theorem dX6_wouldShame_73 : decode cX6_wouldShame 73 = .ok (.iconst 2, 1) := by decide +kernel
theorem dX6_wouldShame_74 : decode cX6_wouldShame 74 = .ok (.if_icmp .ne 13, 3) := by decide +kernel
theorem dX6_wouldShame_77 : decode cX6_wouldShame 77 = .ok (.aload_n 0, 1) := by decide +kernel
theorem dX6_wouldShame_78 : decode cX6_wouldShame 78 = .ok (.iload_n 3, 1) := by decide +kernel
theorem dX6_wouldShame_79 : decode cX6_wouldShame 79 = .ok (.iload 4, 2) := by decide +kernel
theorem dX6_wouldShame_81 : decode cX6_wouldShame 81 = .ok (.invokevirtual 130, 3) := by decide +kernel
theorem dX6_wouldShame_84 : decode cX6_wouldShame 84 = .ok (.goto 4, 3) := by decide +kernel
theorem dX6_wouldShame_87 : decode cX6_wouldShame 87 = .ok (.iconst 0, 1) := by decide +kernel
theorem dX6_wouldShame_88 : decode cX6_wouldShame 88 = .ok (.iadd, 1) := by decide +kernel
theorem dX6_wouldShame_89 : decode cX6_wouldShame 89 = .ok (.istore_n 2, 1) := by decide +kernel
theorem dX6_wouldShame_90 : decode cX6_wouldShame 90 = .ok (.iinc 4 1, 3) := by decide +kernel
theorem dX6_wouldShame_93 : decode cX6_wouldShame 93 = .ok (.goto (-49), 3) := by decide +kernel
theorem dX6_wouldShame_96 : decode cX6_wouldShame 96 = .ok (.iinc 3 1, 3) := by decide +kernel
theorem dX6_wouldShame_99 : decode cX6_wouldShame 99 = .ok (.goto (-68), 3) := by decide +kernel
theorem dX6_wouldShame_102 : decode cX6_wouldShame 102 = .ok (.iload_n 2, 1) := by decide +kernel
theorem dX6_wouldShame_103 : decode cX6_wouldShame 103 = .ok (.bipush 99, 2) := by decide +kernel
theorem dX6_wouldShame_105 : decode cX6_wouldShame 105 = .ok (.invokestatic 69, 3) := by decide +kernel
theorem dX6_wouldShame_108 : decode cX6_wouldShame 108 = .ok (.ireturn, 1) := by decide +kernel
theorem dX6_wouldLaugh_0 : decode cX6_wouldLaugh 0 = .ok (.aload_n 0, 1) := by decide +kernel
theorem dX6_wouldLaugh_1 : decode cX6_wouldLaugh 1 = .ok (.iconst 0, 1) := by decide +kernel
theorem dX6_wouldLaugh_2 : decode cX6_wouldLaugh 2 = .ok (.putfield 36, 3) := by decide +kernel
theorem dX6_wouldLaugh_5 : decode cX6_wouldLaugh 5 = .ok (.iconst 0, 1) := by decide +kernel
theorem dX6_wouldLaugh_6 : decode cX6_wouldLaugh 6 = .ok (.istore_n 2, 1) := by decide +kernel
theorem dX6_wouldLaugh_7 : decode cX6_wouldLaugh 7 = .ok (.iconst 0, 1) := by decide +kernel
theorem dX6_wouldLaugh_8 : decode cX6_wouldLaugh 8 = .ok (.istore_n 3, 1) := by decide +kernel
theorem dX6_wouldLaugh_9 : decode cX6_wouldLaugh 9 = .ok (.iload_n 3, 1) := by decide +kernel
theorem dX6_wouldLaugh_10 : decode cX6_wouldLaugh 10 = .ok (.aload_n 0, 1) := by decide +kernel
theorem dX6_wouldLaugh_11 : decode cX6_wouldLaugh 11 = .ok (.getfield 7, 3) := by decide +kernel
theorem dX6_wouldLaugh_14 : decode cX6_wouldLaugh 14 = .ok (.iconst 1, 1) := by decide +kernel
theorem dX6_wouldLaugh_15 : decode cX6_wouldLaugh 15 = .ok (.iaload, 1) := by decide +kernel
theorem dX6_wouldLaugh_16 : decode cX6_wouldLaugh 16 = .ok (.if_icmp .ge 54, 3) := by decide +kernel
theorem dX6_wouldLaugh_19 : decode cX6_wouldLaugh 19 = .ok (.iconst 0, 1) := by decide +kernel
theorem dX6_wouldLaugh_20 : decode cX6_wouldLaugh 20 = .ok (.istore 4, 2) := by decide +kernel
theorem dX6_wouldLaugh_22 : decode cX6_wouldLaugh 22 = .ok (.iload 4, 2) := by decide +kernel
theorem dX6_wouldLaugh_24 : decode cX6_wouldLaugh 24 = .ok (.aload_n 0, 1) := by decide +kernel
theorem dX6_wouldLaugh_25 : decode cX6_wouldLaugh 25 = .ok (.iload_n 3, 1) := by decide +kernel
theorem dX6_wouldLaugh_26 : decode cX6_wouldLaugh 26 = .ok (.iconst 1, 1) := by decide +kernel
theorem dX6_wouldLaugh_27 : decode cX6_wouldLaugh 27 = .ok (.invokevirtual 80, 3) := by decide +kernel
theorem dX6_wouldLaugh_30 : decode cX6_wouldLaugh 30 = .ok (.if_icmp .ge 34, 3) := by decide +kernel
theorem dX6_wouldLaugh_33 : decode cX6_wouldLaugh 33 = .ok (.iload_n 2, 1) := by decide +kernel
theorem dX6_wouldLaugh_34 : decode cX6_wouldLaugh 34 = .ok (.aload_n 0, 1) := by decide +kernel
theorem dX6_wouldLaugh_35 : decode cX6_wouldLaugh 35 = .ok (.iload_n 3, 1) := by decide +kernel
theorem dX6_wouldLaugh_36 : decode cX6_wouldLaugh 36 = .ok (.iload 4, 2) := by decide +kernel
theorem dX6_wouldLaugh_38 : decode cX6_wouldLaugh 38 = .ok (.invokevirtual 111, 3) := by decide +kernel
theorem dX6_wouldLaugh_41 : decode cX6_wouldLaugh 41 = .ok (.iconst 2, 1) := by decide +kernel
theorem dX6_wouldLaugh_42 : decode cX6_wouldLaugh 42 = .ok (.if_icmp .ne 13, 3) := by decide +kernel
theorem dX6_wouldLaugh_45 : decode cX6_wouldLaugh 45 = .ok (.aload_n 0, 1) := by decide +kernel
theorem dX6_wouldLaugh_46 : decode cX6_wouldLaugh 46 = .ok (.iload_n 3, 1) := by decide +kernel
theorem dX6_wouldLaugh_47 : decode cX6_wouldLaugh 47 = .ok (.iload 4, 2) := by decide +kernel
theorem dX6_wouldLaugh_49 : decode cX6_wouldLaugh 49 = .ok (.invokevirtual 146, 3) := by decide +kernel
theorem dX6_wouldLaugh_52 : decode cX6_wouldLaugh 52 = .ok (.goto 4, 3) := by decide +kernel
theorem dX6_wouldLaugh_55 : decode cX6_wouldLaugh 55 = .ok (.iconst 0, 1) := by decide +kernel
theorem dX6_wouldLaugh_56 : decode cX6_wouldLaugh 56 = .ok (.iadd, 1) := by decide +kernel
theorem dX6_wouldLaugh_57 : decode cX6_wouldLaugh 57 = .ok (.istore_n 2, 1) := by decide +kernel
theorem dX6_wouldLaugh_58 : decode cX6_wouldLaugh 58 = .ok (.iinc 4 1, 3) := by decide +kernel
theorem dX6_wouldLaugh_61 : decode cX6_wouldLaugh 61 = .ok (.goto (-39), 3) := by decide +kernel
theorem dX6_wouldLaugh_64 : decode cX6_wouldLaugh 64 = .ok (.iinc 3 1, 3) := by decide +kernel
theorem dX6_wouldLaugh_67 : decode cX6_wouldLaugh 67 = .ok (.goto (-58), 3) := by decide +kernel
theorem dX6_wouldLaugh_70 : decode cX6_wouldLaugh 70 = .ok (.iload_n 2, 1) := by decide +kernel
theorem dX6_wouldLaugh_71 : decode cX6_wouldLaugh 71 = .ok (.ireturn, 1) := by decide +kernel
theorem dX6_far_0 : decode cX6_far 0 = .ok (.iconst 0, 1) := by decide +kernel
theorem dX6_far_1 : decode cX6_far 1 = .ok (.istore_n 3, 1) := by decide +kernel
theorem dX6_far_2 : decode cX6_far 2 = .ok (.iconst 0, 1) := by decide +kernel
theorem dX6_far_3 : decode cX6_far 3 = .ok (.istore 4, 2) := by decide +kernel
theorem dX6_far_5 : decode cX6_far 5 = .ok (.iload 4, 2) := by decide +kernel
theorem dX6_far_7 : decode cX6_far 7 = .ok (.bipush 8, 2) := by decide +kernel
theorem dX6_far_9 : decode cX6_far 9 = .ok (.if_icmp .ge 39, 3) := by decide +kernel
theorem dX6_far_12 : decode cX6_far 12 = .ok (.iload_n 3, 1) := by decide +kernel
theorem dX6_far_13 : decode cX6_far 13 = .ok (.aload_n 0, 1) := by decide +kernel
theorem dX6_far_14 : decode cX6_far 14 = .ok (.iload_n 1, 1) := by decide +kernel
theorem dX6_far_15 : decode cX6_far 15 = .ok (.bipush 10, 2) := by decide +kernel
theorem dX6_far_17 : decode cX6_far 17 = .ok (.iload 4, 2) := by decide +kernel
theorem dX6_far_19 : decode cX6_far 19 = .ok (.iadd, 1) := by decide +kernel
theorem dX6_far_20 : decode cX6_far 20 = .ok (.invokevirtual 80, 3) := by decide +kernel
theorem dX6_far_23 : decode cX6_far 23 = .ok (.aload_n 0, 1) := by decide +kernel
theorem dX6_far_24 : decode cX6_far 24 = .ok (.iload_n 2, 1) := by decide +kernel
theorem dX6_far_25 : decode cX6_far 25 = .ok (.iconst 2, 1) := by decide +kernel
theorem dX6_far_26 : decode cX6_far 26 = .ok (.iload 4, 2) := by decide +kernel
theorem dX6_far_28 : decode cX6_far 28 = .ok (.iadd, 1) := by decide +kernel
theorem dX6_far_29 : decode cX6_far 29 = .ok (.invokevirtual 80, 3) := by decide +kernel
theorem dX6_far_32 : decode cX6_far 32 = .ok (.if_icmp .ne 7, 3) := by decide +kernel
theorem dX6_far_35 : decode cX6_far 35 = .ok (.iconst 0, 1) := by decide +kernel
theorem dX6_far_36 : decode cX6_far 36 = .ok (.goto 4, 3) := by decide +kernel
theorem dX6_far_39 : decode cX6_far 39 = .ok (.iconst 1, 1) := by decide +kernel
theorem dX6_far_40 : decode cX6_far 40 = .ok (.iadd, 1) := by decide +kernel
theorem dX6_far_41 : decode cX6_far 41 = .ok (.istore_n 3, 1) := by decide +kernel
theorem dX6_far_42 : decode cX6_far 42 = .ok (.iinc 4 1, 3) := by decide +kernel
theorem dX6_far_45 : decode cX6_far 45 = .ok (.goto (-40), 3) := by decide +kernel
theorem dX6_far_48 : decode cX6_far 48 = .ok (.iload_n 3, 1) := by decide +kernel
theorem dX6_far_49 : decode cX6_far 49 = .ok (.ireturn, 1) := by decide +kernel
theorem dX6_nearest_0 : decode cX6_nearest 0 = .ok (.aload_n 0, 1) := by decide +kernel
theorem dX6_nearest_1 : decode cX6_nearest 1 = .ok (.aload_n 0, 1) := by decide +kernel
theorem dX6_nearest_2 : decode cX6_nearest 2 = .ok (.iload_n 1, 1) := by decide +kernel
theorem dX6_nearest_3 : decode cX6_nearest 3 = .ok (.invokevirtual 76, 3) := by decide +kernel
theorem dX6_nearest_6 : decode cX6_nearest 6 = .ok (.ifCond .eq 7, 3) := by decide +kernel
theorem dX6_nearest_9 : decode cX6_nearest 9 = .ok (.iconst 0, 1) := by decide +kernel
theorem dX6_nearest_10 : decode cX6_nearest 10 = .ok (.goto 4, 3) := by decide +kernel
theorem dX6_nearest_13 : decode cX6_nearest 13 = .ok (.iconst 1, 1) := by decide +kernel
theorem dX6_nearest_14 : decode cX6_nearest 14 = .ok (.invokevirtual 86, 3) := by decide +kernel
theorem dX6_nearest_17 : decode cX6_nearest 17 = .ok (.ifCond .eq 5, 3) := by decide +kernel
theorem dX6_nearest_20 : decode cX6_nearest 20 = .ok (.iconst 0, 1) := by decide +kernel
theorem dX6_nearest_21 : decode cX6_nearest 21 = .ok (.ireturn, 1) := by decide +kernel
theorem dX6_nearest_22 : decode cX6_nearest 22 = .ok (.iconst 0, 1) := by decide +kernel
theorem dX6_nearest_23 : decode cX6_nearest 23 = .ok (.istore_n 2, 1) := by decide +kernel
theorem dX6_nearest_24 : decode cX6_nearest 24 = .ok (.iconst 1, 1) := by decide +kernel
theorem dX6_nearest_25 : decode cX6_nearest 25 = .ok (.istore_n 3, 1) := by decide +kernel
theorem dX6_nearest_26 : decode cX6_nearest 26 = .ok (.iload_n 3, 1) := by decide +kernel
theorem dX6_nearest_27 : decode cX6_nearest 27 = .ok (.aload_n 0, 1) := by decide +kernel
theorem dX6_nearest_28 : decode cX6_nearest 28 = .ok (.getfield 7, 3) := by decide +kernel
theorem dX6_nearest_31 : decode cX6_nearest 31 = .ok (.iconst 1, 1) := by decide +kernel
theorem dX6_nearest_32 : decode cX6_nearest 32 = .ok (.iaload, 1) := by decide +kernel
theorem dX6_nearest_33 : decode cX6_nearest 33 = .ok (.if_icmp .ge 26, 3) := by decide +kernel
theorem dX6_nearest_36 : decode cX6_nearest 36 = .ok (.aload_n 0, 1) := by decide +kernel
theorem dX6_nearest_37 : decode cX6_nearest 37 = .ok (.iload_n 1, 1) := by decide +kernel
theorem dX6_nearest_38 : decode cX6_nearest 38 = .ok (.iload_n 3, 1) := by decide +kernel
theorem dX6_nearest_39 : decode cX6_nearest 39 = .ok (.invokevirtual 164, 3) := by decide +kernel
theorem dX6_nearest_42 : decode cX6_nearest 42 = .ok (.aload_n 0, 1) := by decide +kernel
theorem dX6_nearest_43 : decode cX6_nearest 43 = .ok (.iload_n 1, 1) := by decide +kernel
theorem dX6_nearest_44 : decode cX6_nearest 44 = .ok (.iload_n 2, 1) := by decide +kernel
theorem dX6_nearest_45 : decode cX6_nearest 45 = .ok (.invokevirtual 164, 3) := by decide +kernel
theorem dX6_nearest_48 : decode cX6_nearest 48 = .ok (.if_icmp .ge 5, 3) := by decide +kernel
theorem dX6_nearest_51 : decode cX6_nearest 51 = .ok (.iload_n 3, 1) := by decide +kernel
theorem dX6_nearest_52 : decode cX6_nearest 52 = .ok (.istore_n 2, 1) := by decide +kernel
theorem dX6_nearest_53 : decode cX6_nearest 53 = .ok (.iinc 3 1, 3) := by decide +kernel
theorem dX6_nearest_56 : decode cX6_nearest 56 = .ok (.goto (-30), 3) := by decide +kernel
theorem dX6_nearest_59 : decode cX6_nearest 59 = .ok (.iload_n 2, 1) := by decide +kernel
theorem dX6_nearest_60 : decode cX6_nearest 60 = .ok (.ireturn, 1) := by decide +kernel
theorem dX6_calmIn_0 : decode cX6_calmIn 0 = .ok (.aload_n 0, 1) := by decide +kernel
theorem dX6_calmIn_1 : decode cX6_calmIn 1 = .ok (.aload_n 0, 1) := by decide +kernel
theorem dX6_calmIn_2 : decode cX6_calmIn 2 = .ok (.iload_n 1, 1) := by decide +kernel
theorem dX6_calmIn_3 : decode cX6_calmIn 3 = .ok (.invokevirtual 101, 3) := by decide +kernel
theorem dX6_calmIn_6 : decode cX6_calmIn 6 = .ok (.ifCond .eq 7, 3) := by decide +kernel
theorem dX6_calmIn_9 : decode cX6_calmIn 9 = .ok (.iconst 0, 1) := by decide +kernel
theorem dX6_calmIn_10 : decode cX6_calmIn 10 = .ok (.goto 4, 3) := by decide +kernel
theorem dX6_calmIn_13 : decode cX6_calmIn 13 = .ok (.iconst 1, 1) := by decide +kernel
theorem dX6_calmIn_14 : decode cX6_calmIn 14 = .ok (.invokevirtual 86, 3) := by decide +kernel
theorem dX6_calmIn_17 : decode cX6_calmIn 17 = .ok (.ifCond .ne 11, 3) := by decide +kernel
theorem dX6_calmIn_20 : decode cX6_calmIn 20 = .ok (.aload_n 0, 1) := by decide +kernel
theorem dX6_calmIn_21 : decode cX6_calmIn 21 = .ok (.iload_n 1, 1) := by decide +kernel
theorem dX6_calmIn_22 : decode cX6_calmIn 22 = .ok (.invokevirtual 124, 3) := by decide +kernel
theorem dX6_calmIn_25 : decode cX6_calmIn 25 = .ok (.ifCond .ne 7, 3) := by decide +kernel
theorem dX6_calmIn_28 : decode cX6_calmIn 28 = .ok (.iconst 0, 1) := by decide +kernel
theorem dX6_calmIn_29 : decode cX6_calmIn 29 = .ok (.goto 12, 3) := by decide +kernel
theorem dX6_calmIn_32 : decode cX6_calmIn 32 = .ok (.aload_n 0, 1) := by decide +kernel
theorem dX6_calmIn_33 : decode cX6_calmIn 33 = .ok (.iload_n 1, 1) := by decide +kernel
theorem dX6_calmIn_34 : decode cX6_calmIn 34 = .ok (.iconst 1, 1) := by decide +kernel
theorem dX6_calmIn_35 : decode cX6_calmIn 35 = .ok (.invokevirtual 65, 3) := by decide +kernel
theorem dX6_calmIn_38 : decode cX6_calmIn 38 = .ok (.bipush 20, 2) := by decide +kernel
theorem dX6_calmIn_40 : decode cX6_calmIn 40 = .ok (.isub, 1) := by decide +kernel
theorem dX6_calmIn_41 : decode cX6_calmIn 41 = .ok (.ireturn, 1) := by decide +kernel
theorem dX6_isMoreAshamed_0 : decode cX6_isMoreAshamed 0 = .ok (.aload_n 0, 1) := by decide +kernel
theorem dX6_isMoreAshamed_1 : decode cX6_isMoreAshamed 1 = .ok (.iload_n 1, 1) := by decide +kernel
theorem dX6_isMoreAshamed_2 : decode cX6_isMoreAshamed 2 = .ok (.iconst 1, 1) := by decide +kernel
theorem dX6_isMoreAshamed_3 : decode cX6_isMoreAshamed 3 = .ok (.invokevirtual 65, 3) := by decide +kernel
theorem dX6_isMoreAshamed_6 : decode cX6_isMoreAshamed 6 = .ok (.aload_n 0, 1) := by decide +kernel
theorem dX6_isMoreAshamed_7 : decode cX6_isMoreAshamed 7 = .ok (.iload_n 2, 1) := by decide +kernel
theorem dX6_isMoreAshamed_8 : decode cX6_isMoreAshamed 8 = .ok (.iconst 1, 1) := by decide +kernel
theorem dX6_isMoreAshamed_9 : decode cX6_isMoreAshamed 9 = .ok (.invokevirtual 65, 3) := by decide +kernel
theorem dX6_isMoreAshamed_12 : decode cX6_isMoreAshamed 12 = .ok (.isub, 1) := by decide +kernel
theorem dX6_isMoreAshamed_13 : decode cX6_isMoreAshamed 13 = .ok (.istore_n 3, 1) := by decide +kernel
theorem dX6_isMoreAshamed_14 : decode cX6_isMoreAshamed 14 = .ok (.iload_n 3, 1) := by decide +kernel
theorem dX6_isMoreAshamed_15 : decode cX6_isMoreAshamed 15 = .ok (.ifCond .eq 13, 3) := by decide +kernel
theorem dX6_isMoreAshamed_18 : decode cX6_isMoreAshamed 18 = .ok (.iload_n 3, 1) := by decide +kernel
theorem dX6_isMoreAshamed_19 : decode cX6_isMoreAshamed 19 = .ok (.ifCond .le 7, 3) := by decide +kernel
theorem dX6_isMoreAshamed_22 : decode cX6_isMoreAshamed 22 = .ok (.iconst 1, 1) := by decide +kernel
theorem dX6_isMoreAshamed_23 : decode cX6_isMoreAshamed 23 = .ok (.goto 4, 3) := by decide +kernel
theorem dX6_isMoreAshamed_26 : decode cX6_isMoreAshamed 26 = .ok (.iconst 0, 1) := by decide +kernel
theorem dX6_isMoreAshamed_27 : decode cX6_isMoreAshamed 27 = .ok (.ireturn, 1) := by decide +kernel
theorem dX6_isMoreAshamed_28 : decode cX6_isMoreAshamed 28 = .ok (.aload_n 0, 1) := by decide +kernel
theorem dX6_isMoreAshamed_29 : decode cX6_isMoreAshamed 29 = .ok (.iload_n 1, 1) := by decide +kernel
theorem dX6_isMoreAshamed_30 : decode cX6_isMoreAshamed 30 = .ok (.iconst 0, 1) := by decide +kernel
theorem dX6_isMoreAshamed_31 : decode cX6_isMoreAshamed 31 = .ok (.invokevirtual 65, 3) := by decide +kernel
theorem dX6_isMoreAshamed_34 : decode cX6_isMoreAshamed 34 = .ok (.aload_n 0, 1) := by decide +kernel
theorem dX6_isMoreAshamed_35 : decode cX6_isMoreAshamed 35 = .ok (.iload_n 2, 1) := by decide +kernel
theorem dX6_isMoreAshamed_36 : decode cX6_isMoreAshamed 36 = .ok (.iconst 0, 1) := by decide +kernel
theorem dX6_isMoreAshamed_37 : decode cX6_isMoreAshamed 37 = .ok (.invokevirtual 65, 3) := by decide +kernel
theorem dX6_isMoreAshamed_40 : decode cX6_isMoreAshamed 40 = .ok (.isub, 1) := by decide +kernel
theorem dX6_isMoreAshamed_41 : decode cX6_isMoreAshamed 41 = .ok (.istore 4, 2) := by decide +kernel
theorem dX6_isMoreAshamed_43 : decode cX6_isMoreAshamed 43 = .ok (.iload 4, 2) := by decide +kernel
theorem dX6_isMoreAshamed_45 : decode cX6_isMoreAshamed 45 = .ok (.ifCond .lt 13, 3) := by decide +kernel
theorem dX6_isMoreAshamed_48 : decode cX6_isMoreAshamed 48 = .ok (.iload 4, 2) := by decide +kernel
theorem dX6_isMoreAshamed_50 : decode cX6_isMoreAshamed 50 = .ok (.ifCond .ne 12, 3) := by decide +kernel
theorem dX6_isMoreAshamed_53 : decode cX6_isMoreAshamed 53 = .ok (.iload_n 1, 1) := by decide +kernel
theorem dX6_isMoreAshamed_54 : decode cX6_isMoreAshamed 54 = .ok (.iload_n 2, 1) := by decide +kernel
theorem dX6_isMoreAshamed_55 : decode cX6_isMoreAshamed 55 = .ok (.if_icmp .ge 7, 3) := by decide +kernel
theorem dX6_isMoreAshamed_58 : decode cX6_isMoreAshamed 58 = .ok (.iconst 1, 1) := by decide +kernel
theorem dX6_isMoreAshamed_59 : decode cX6_isMoreAshamed 59 = .ok (.goto 4, 3) := by decide +kernel
theorem dX6_isMoreAshamed_62 : decode cX6_isMoreAshamed 62 = .ok (.iconst 0, 1) := by decide +kernel
theorem dX6_isMoreAshamed_63 : decode cX6_isMoreAshamed 63 = .ok (.ireturn, 1) := by decide +kernel
theorem dX6_ashamed_0 : decode cX6_ashamed 0 = .ok (.iconst 0, 1) := by decide +kernel
theorem dX6_ashamed_1 : decode cX6_ashamed 1 = .ok (.istore_n 2, 1) := by decide +kernel
theorem dX6_ashamed_2 : decode cX6_ashamed 2 = .ok (.iload_n 2, 1) := by decide +kernel
theorem dX6_ashamed_3 : decode cX6_ashamed 3 = .ok (.aload_n 0, 1) := by decide +kernel
theorem dX6_ashamed_4 : decode cX6_ashamed 4 = .ok (.getfield 7, 3) := by decide +kernel
theorem dX6_ashamed_7 : decode cX6_ashamed 7 = .ok (.iconst 0, 1) := by decide +kernel
theorem dX6_ashamed_8 : decode cX6_ashamed 8 = .ok (.iaload, 1) := by decide +kernel
theorem dX6_ashamed_9 : decode cX6_ashamed 9 = .ok (.if_icmp .ge 64, 3) := by decide +kernel
theorem dX6_ashamed_12 : decode cX6_ashamed 12 = .ok (.iconst 0, 1) := by decide +kernel
theorem dX6_ashamed_13 : decode cX6_ashamed 13 = .ok (.istore_n 3, 1) := by decide +kernel
theorem dX6_ashamed_14 : decode cX6_ashamed 14 = .ok (.iconst 0, 1) := by decide +kernel
theorem dX6_ashamed_15 : decode cX6_ashamed 15 = .ok (.istore 4, 2) := by decide +kernel
theorem dX6_ashamed_17 : decode cX6_ashamed 17 = .ok (.iload 4, 2) := by decide +kernel
theorem dX6_ashamed_19 : decode cX6_ashamed 19 = .ok (.aload_n 0, 1) := by decide +kernel
theorem dX6_ashamed_20 : decode cX6_ashamed 20 = .ok (.getfield 7, 3) := by decide +kernel
theorem dX6_ashamed_23 : decode cX6_ashamed 23 = .ok (.iconst 0, 1) := by decide +kernel
theorem dX6_ashamed_24 : decode cX6_ashamed 24 = .ok (.iaload, 1) := by decide +kernel
theorem dX6_ashamed_25 : decode cX6_ashamed 25 = .ok (.if_icmp .ge 27, 3) := by decide +kernel
theorem dX6_ashamed_28 : decode cX6_ashamed 28 = .ok (.iload_n 3, 1) := by decide +kernel
theorem dX6_ashamed_29 : decode cX6_ashamed 29 = .ok (.aload_n 0, 1) := by decide +kernel
theorem dX6_ashamed_30 : decode cX6_ashamed 30 = .ok (.iload 4, 2) := by decide +kernel
theorem dX6_ashamed_32 : decode cX6_ashamed 32 = .ok (.iload_n 2, 1) := by decide +kernel
theorem dX6_ashamed_33 : decode cX6_ashamed 33 = .ok (.invokevirtual 167, 3) := by decide +kernel
theorem dX6_ashamed_36 : decode cX6_ashamed 36 = .ok (.ifCond .eq 7, 3) := by decide +kernel
theorem dX6_ashamed_39 : decode cX6_ashamed 39 = .ok (.iconst 1, 1) := by decide +kernel
theorem dX6_ashamed_40 : decode cX6_ashamed 40 = .ok (.goto 4, 3) := by decide +kernel
theorem dX6_ashamed_43 : decode cX6_ashamed 43 = .ok (.iconst 0, 1) := by decide +kernel
theorem dX6_ashamed_44 : decode cX6_ashamed 44 = .ok (.iadd, 1) := by decide +kernel
theorem dX6_ashamed_45 : decode cX6_ashamed 45 = .ok (.istore_n 3, 1) := by decide +kernel
theorem dX6_ashamed_46 : decode cX6_ashamed 46 = .ok (.iinc 4 1, 3) := by decide +kernel
theorem dX6_ashamed_49 : decode cX6_ashamed 49 = .ok (.goto (-32), 3) := by decide +kernel
theorem dX6_ashamed_52 : decode cX6_ashamed 52 = .ok (.iload_n 3, 1) := by decide +kernel
theorem dX6_ashamed_53 : decode cX6_ashamed 53 = .ok (.iload_n 1, 1) := by decide +kernel
theorem dX6_ashamed_54 : decode cX6_ashamed 54 = .ok (.if_icmp .eq 6, 3) := by decide +kernel
theorem dX6_ashamed_57 : decode cX6_ashamed 57 = .ok (.goto 10, 3) := by decide +kernel
theorem dX6_ashamed_60 : decode cX6_ashamed 60 = .ok (.aload_n 0, 1) := by decide +kernel
theorem dX6_ashamed_61 : decode cX6_ashamed 61 = .ok (.iconst 0, 1) := by decide +kernel
theorem dX6_ashamed_62 : decode cX6_ashamed 62 = .ok (.putfield 36, 3) := by decide +kernel
theorem dX6_ashamed_65 : decode cX6_ashamed 65 = .ok (.iload_n 2, 1) := by decide +kernel
theorem dX6_ashamed_66 : decode cX6_ashamed 66 = .ok (.ireturn, 1) := by decide +kernel
theorem dX6_ashamed_67 : decode cX6_ashamed 67 = .ok (.iinc 2 1, 3) := by decide +kernel
theorem dX6_ashamed_70 : decode cX6_ashamed 70 = .ok (.goto (-68), 3) := by decide +kernel
theorem dX6_ashamed_73 : decode cX6_ashamed 73 = .ok (.aload_n 0, 1) := by decide +kernel
theorem dX6_ashamed_74 : decode cX6_ashamed 74 = .ok (.iconst 1, 1) := by decide +kernel
theorem dX6_ashamed_75 : decode cX6_ashamed 75 = .ok (.putfield 36, 3) := by decide +kernel
theorem dX6_ashamed_78 : decode cX6_ashamed 78 = .ok (.iconst 0, 1) := by decide +kernel
theorem dX6_ashamed_79 : decode cX6_ashamed 79 = .ok (.ireturn, 1) := by decide +kernel
theorem dX6_isWorse_0 : decode cX6_isWorse 0 = .ok (.aload_n 0, 1) := by decide +kernel
theorem dX6_isWorse_1 : decode cX6_isWorse 1 = .ok (.iload_n 1, 1) := by decide +kernel
theorem dX6_isWorse_2 : decode cX6_isWorse 2 = .ok (.invokevirtual 152, 3) := by decide +kernel
theorem dX6_isWorse_5 : decode cX6_isWorse 5 = .ok (.aload_n 0, 1) := by decide +kernel
theorem dX6_isWorse_6 : decode cX6_isWorse 6 = .ok (.iload_n 2, 1) := by decide +kernel
theorem dX6_isWorse_7 : decode cX6_isWorse 7 = .ok (.invokevirtual 152, 3) := by decide +kernel
theorem dX6_isWorse_10 : decode cX6_isWorse 10 = .ok (.isub, 1) := by decide +kernel
theorem dX6_isWorse_11 : decode cX6_isWorse 11 = .ok (.istore_n 3, 1) := by decide +kernel
theorem dX6_isWorse_12 : decode cX6_isWorse 12 = .ok (.iload_n 3, 1) := by decide +kernel
theorem dX6_isWorse_13 : decode cX6_isWorse 13 = .ok (.ifCond .eq 13, 3) := by decide +kernel
theorem dX6_isWorse_16 : decode cX6_isWorse 16 = .ok (.iload_n 3, 1) := by decide +kernel
theorem dX6_isWorse_17 : decode cX6_isWorse 17 = .ok (.ifCond .le 7, 3) := by decide +kernel
theorem dX6_isWorse_20 : decode cX6_isWorse 20 = .ok (.iconst 1, 1) := by decide +kernel
theorem dX6_isWorse_21 : decode cX6_isWorse 21 = .ok (.goto 4, 3) := by decide +kernel
theorem dX6_isWorse_24 : decode cX6_isWorse 24 = .ok (.iconst 0, 1) := by decide +kernel
theorem dX6_isWorse_25 : decode cX6_isWorse 25 = .ok (.ireturn, 1) := by decide +kernel
theorem dX6_isWorse_26 : decode cX6_isWorse 26 = .ok (.aload_n 0, 1) := by decide +kernel
theorem dX6_isWorse_27 : decode cX6_isWorse 27 = .ok (.iload_n 1, 1) := by decide +kernel
theorem dX6_isWorse_28 : decode cX6_isWorse 28 = .ok (.iconst 1, 1) := by decide +kernel
theorem dX6_isWorse_29 : decode cX6_isWorse 29 = .ok (.invokevirtual 118, 3) := by decide +kernel
theorem dX6_isWorse_32 : decode cX6_isWorse 32 = .ok (.aload_n 0, 1) := by decide +kernel
theorem dX6_isWorse_33 : decode cX6_isWorse 33 = .ok (.iload_n 2, 1) := by decide +kernel
theorem dX6_isWorse_34 : decode cX6_isWorse 34 = .ok (.iconst 1, 1) := by decide +kernel
theorem dX6_isWorse_35 : decode cX6_isWorse 35 = .ok (.invokevirtual 118, 3) := by decide +kernel
theorem dX6_isWorse_38 : decode cX6_isWorse 38 = .ok (.isub, 1) := by decide +kernel
theorem dX6_isWorse_39 : decode cX6_isWorse 39 = .ok (.istore 4, 2) := by decide +kernel
theorem dX6_isWorse_41 : decode cX6_isWorse 41 = .ok (.iload 4, 2) := by decide +kernel
theorem dX6_isWorse_43 : decode cX6_isWorse 43 = .ok (.ifCond .gt 13, 3) := by decide +kernel
theorem dX6_isWorse_46 : decode cX6_isWorse 46 = .ok (.iload 4, 2) := by decide +kernel
theorem dX6_isWorse_48 : decode cX6_isWorse 48 = .ok (.ifCond .ne 12, 3) := by decide +kernel
theorem dX6_isWorse_51 : decode cX6_isWorse 51 = .ok (.iload_n 1, 1) := by decide +kernel
theorem dX6_isWorse_52 : decode cX6_isWorse 52 = .ok (.iload_n 2, 1) := by decide +kernel
theorem dX6_isWorse_53 : decode cX6_isWorse 53 = .ok (.if_icmp .ge 7, 3) := by decide +kernel
theorem dX6_isWorse_56 : decode cX6_isWorse 56 = .ok (.iconst 1, 1) := by decide +kernel
theorem dX6_isWorse_57 : decode cX6_isWorse 57 = .ok (.goto 4, 3) := by decide +kernel
theorem dX6_isWorse_60 : decode cX6_isWorse 60 = .ok (.iconst 0, 1) := by decide +kernel
theorem dX6_isWorse_61 : decode cX6_isWorse 61 = .ok (.ireturn, 1) := by decide +kernel
theorem dX6_worst_0 : decode cX6_worst 0 = .ok (.iconst 0, 1) := by decide +kernel
theorem dX6_worst_1 : decode cX6_worst 1 = .ok (.istore_n 2, 1) := by decide +kernel
theorem dX6_worst_2 : decode cX6_worst 2 = .ok (.iload_n 2, 1) := by decide +kernel
theorem dX6_worst_3 : decode cX6_worst 3 = .ok (.aload_n 0, 1) := by decide +kernel
theorem dX6_worst_4 : decode cX6_worst 4 = .ok (.getfield 7, 3) := by decide +kernel
theorem dX6_worst_7 : decode cX6_worst 7 = .ok (.iconst 1, 1) := by decide +kernel
theorem dX6_worst_8 : decode cX6_worst 8 = .ok (.iaload, 1) := by decide +kernel
theorem dX6_worst_9 : decode cX6_worst 9 = .ok (.if_icmp .ge 64, 3) := by decide +kernel
theorem dX6_worst_12 : decode cX6_worst 12 = .ok (.iconst 0, 1) := by decide +kernel
theorem dX6_worst_13 : decode cX6_worst 13 = .ok (.istore_n 3, 1) := by decide +kernel
theorem dX6_worst_14 : decode cX6_worst 14 = .ok (.iconst 0, 1) := by decide +kernel
theorem dX6_worst_15 : decode cX6_worst 15 = .ok (.istore 4, 2) := by decide +kernel
theorem dX6_worst_17 : decode cX6_worst 17 = .ok (.iload 4, 2) := by decide +kernel
theorem dX6_worst_19 : decode cX6_worst 19 = .ok (.aload_n 0, 1) := by decide +kernel
theorem dX6_worst_20 : decode cX6_worst 20 = .ok (.getfield 7, 3) := by decide +kernel
theorem dX6_worst_23 : decode cX6_worst 23 = .ok (.iconst 1, 1) := by decide +kernel
theorem dX6_worst_24 : decode cX6_worst 24 = .ok (.iaload, 1) := by decide +kernel
theorem dX6_worst_25 : decode cX6_worst 25 = .ok (.if_icmp .ge 27, 3) := by decide +kernel
theorem dX6_worst_28 : decode cX6_worst 28 = .ok (.iload_n 3, 1) := by decide +kernel
theorem dX6_worst_29 : decode cX6_worst 29 = .ok (.aload_n 0, 1) := by decide +kernel
theorem dX6_worst_30 : decode cX6_worst 30 = .ok (.iload 4, 2) := by decide +kernel
theorem dX6_worst_32 : decode cX6_worst 32 = .ok (.iload_n 2, 1) := by decide +kernel
theorem dX6_worst_33 : decode cX6_worst 33 = .ok (.invokevirtual 170, 3) := by decide +kernel
theorem dX6_worst_36 : decode cX6_worst 36 = .ok (.ifCond .eq 7, 3) := by decide +kernel
theorem dX6_worst_39 : decode cX6_worst 39 = .ok (.iconst 1, 1) := by decide +kernel
theorem dX6_worst_40 : decode cX6_worst 40 = .ok (.goto 4, 3) := by decide +kernel
theorem dX6_worst_43 : decode cX6_worst 43 = .ok (.iconst 0, 1) := by decide +kernel
theorem dX6_worst_44 : decode cX6_worst 44 = .ok (.iadd, 1) := by decide +kernel
theorem dX6_worst_45 : decode cX6_worst 45 = .ok (.istore_n 3, 1) := by decide +kernel
theorem dX6_worst_46 : decode cX6_worst 46 = .ok (.iinc 4 1, 3) := by decide +kernel
theorem dX6_worst_49 : decode cX6_worst 49 = .ok (.goto (-32), 3) := by decide +kernel
theorem dX6_worst_52 : decode cX6_worst 52 = .ok (.iload_n 3, 1) := by decide +kernel
theorem dX6_worst_53 : decode cX6_worst 53 = .ok (.iload_n 1, 1) := by decide +kernel
theorem dX6_worst_54 : decode cX6_worst 54 = .ok (.if_icmp .eq 6, 3) := by decide +kernel
theorem dX6_worst_57 : decode cX6_worst 57 = .ok (.goto 10, 3) := by decide +kernel
theorem dX6_worst_60 : decode cX6_worst 60 = .ok (.aload_n 0, 1) := by decide +kernel
theorem dX6_worst_61 : decode cX6_worst 61 = .ok (.iconst 0, 1) := by decide +kernel
theorem dX6_worst_62 : decode cX6_worst 62 = .ok (.putfield 36, 3) := by decide +kernel
theorem dX6_worst_65 : decode cX6_worst 65 = .ok (.iload_n 2, 1) := by decide +kernel
theorem dX6_worst_66 : decode cX6_worst 66 = .ok (.ireturn, 1) := by decide +kernel
theorem dX6_worst_67 : decode cX6_worst 67 = .ok (.iinc 2 1, 3) := by decide +kernel
theorem dX6_worst_70 : decode cX6_worst 70 = .ok (.goto (-68), 3) := by decide +kernel
theorem dX6_worst_73 : decode cX6_worst 73 = .ok (.aload_n 0, 1) := by decide +kernel
theorem dX6_worst_74 : decode cX6_worst 74 = .ok (.iconst 1, 1) := by decide +kernel
theorem dX6_worst_75 : decode cX6_worst 75 = .ok (.putfield 36, 3) := by decide +kernel
theorem dX6_worst_78 : decode cX6_worst 78 = .ok (.iconst 0, 1) := by decide +kernel
theorem dX6_worst_79 : decode cX6_worst 79 = .ok (.ireturn, 1) := by decide +kernel
theorem dX6_writes_0 : decode cX6_writes 0 = .ok (.aload_n 0, 1) := by decide +kernel
theorem dX6_writes_1 : decode cX6_writes 1 = .ok (.getfield 29, 3) := by decide +kernel
theorem dX6_writes_4 : decode cX6_writes 4 = .ok (.aload_n 0, 1) := by decide +kernel
theorem dX6_writes_5 : decode cX6_writes 5 = .ok (.getfield 173, 3) := by decide +kernel
theorem dX6_writes_8 : decode cX6_writes 8 = .ok (.iload_n 1, 1) := by decide +kernel
theorem dX6_writes_9 : decode cX6_writes 9 = .ok (.i2c, 1) := by decide +kernel
theorem dX6_writes_10 : decode cX6_writes 10 = .ok (.castore, 1) := by decide +kernel
theorem dX6_writes_11 : decode cX6_writes 11 = .ok (.aload_n 0, 1) := by decide +kernel
theorem dX6_writes_12 : decode cX6_writes 12 = .ok (.dup, 1) := by decide +kernel
theorem dX6_writes_13 : decode cX6_writes 13 = .ok (.getfield 173, 3) := by decide +kernel
theorem dX6_writes_16 : decode cX6_writes 16 = .ok (.iconst 1, 1) := by decide +kernel
theorem dX6_writes_17 : decode cX6_writes 17 = .ok (.iadd, 1) := by decide +kernel
theorem dX6_writes_18 : decode cX6_writes 18 = .ok (.putfield 173, 3) := by decide +kernel
theorem dX6_writes_21 : decode cX6_writes 21 = .ok (.return_, 1) := by decide +kernel
theorem dX6_writesNumber_0 : decode cX6_writesNumber 0 = .ok (.iload_n 1, 1) := by decide +kernel
theorem dX6_writesNumber_1 : decode cX6_writesNumber 1 = .ok (.bipush 9, 2) := by decide +kernel
theorem dX6_writesNumber_3 : decode cX6_writesNumber 3 = .ok (.if_icmp .le 14, 3) := by decide +kernel
theorem dX6_writesNumber_6 : decode cX6_writesNumber 6 = .ok (.aload_n 0, 1) := by decide +kernel
theorem dX6_writesNumber_7 : decode cX6_writesNumber 7 = .ok (.bipush 48, 2) := by decide +kernel
theorem dX6_writesNumber_9 : decode cX6_writesNumber 9 = .ok (.iload_n 1, 1) := by decide +kernel
theorem dX6_writesNumber_10 : decode cX6_writesNumber 10 = .ok (.bipush 10, 2) := by decide +kernel
theorem dX6_writesNumber_12 : decode cX6_writesNumber 12 = .ok (.idiv, 1) := by decide +kernel
theorem dX6_writesNumber_13 : decode cX6_writesNumber 13 = .ok (.iadd, 1) := by decide +kernel
theorem dX6_writesNumber_14 : decode cX6_writesNumber 14 = .ok (.invokevirtual 176, 3) := by decide +kernel
theorem dX6_writesNumber_17 : decode cX6_writesNumber 17 = .ok (.aload_n 0, 1) := by decide +kernel
theorem dX6_writesNumber_18 : decode cX6_writesNumber 18 = .ok (.bipush 48, 2) := by decide +kernel
theorem dX6_writesNumber_20 : decode cX6_writesNumber 20 = .ok (.iload_n 1, 1) := by decide +kernel
theorem dX6_writesNumber_21 : decode cX6_writesNumber 21 = .ok (.bipush 10, 2) := by decide +kernel
theorem dX6_writesNumber_23 : decode cX6_writesNumber 23 = .ok (.irem, 1) := by decide +kernel
theorem dX6_writesNumber_24 : decode cX6_writesNumber 24 = .ok (.iadd, 1) := by decide +kernel
theorem dX6_writesNumber_25 : decode cX6_writesNumber 25 = .ok (.invokevirtual 176, 3) := by decide +kernel
theorem dX6_writesNumber_28 : decode cX6_writesNumber 28 = .ok (.return_, 1) := by decide +kernel
theorem dX6_line_0 : decode cX6_line 0 = .ok (.aload_n 0, 1) := by decide +kernel
theorem dX6_line_1 : decode cX6_line 1 = .ok (.aload_n 0, 1) := by decide +kernel
theorem dX6_line_2 : decode cX6_line 2 = .ok (.iload_n 1, 1) := by decide +kernel
theorem dX6_line_3 : decode cX6_line 3 = .ok (.invokevirtual 76, 3) := by decide +kernel
theorem dX6_line_6 : decode cX6_line 6 = .ok (.ifCond .eq 7, 3) := by decide +kernel
theorem dX6_line_9 : decode cX6_line 9 = .ok (.iconst 0, 1) := by decide +kernel
theorem dX6_line_10 : decode cX6_line 10 = .ok (.goto 4, 3) := by decide +kernel
theorem dX6_line_13 : decode cX6_line 13 = .ok (.iconst 1, 1) := by decide +kernel
theorem dX6_line_14 : decode cX6_line 14 = .ok (.invokevirtual 86, 3) := by decide +kernel
theorem dX6_line_17 : decode cX6_line 17 = .ok (.ifCond .eq 5, 3) := by decide +kernel
theorem dX6_line_20 : decode cX6_line 20 = .ok (.iconst 0, 1) := by decide +kernel
theorem dX6_line_21 : decode cX6_line 21 = .ok (.ireturn, 1) := by decide +kernel
theorem dX6_line_22 : decode cX6_line 22 = .ok (.aload_n 0, 1) := by decide +kernel
theorem dX6_line_23 : decode cX6_line 23 = .ok (.iconst 0, 1) := by decide +kernel
theorem dX6_line_24 : decode cX6_line 24 = .ok (.putfield 173, 3) := by decide +kernel
theorem dX6_line_27 : decode cX6_line 27 = .ok (.aload_n 0, 1) := by decide +kernel
theorem dX6_line_28 : decode cX6_line 28 = .ok (.aload_n 0, 1) := by decide +kernel
theorem dX6_line_29 : decode cX6_line 29 = .ok (.iload_n 1, 1) := by decide +kernel
theorem dX6_line_30 : decode cX6_line 30 = .ok (.iconst 0, 1) := by decide +kernel
theorem dX6_line_31 : decode cX6_line 31 = .ok (.invokevirtual 80, 3) := by decide +kernel
theorem dX6_line_34 : decode cX6_line 34 = .ok (.invokevirtual 180, 3) := by decide +kernel
theorem dX6_line_37 : decode cX6_line 37 = .ok (.aload_n 0, 1) := by decide +kernel
theorem dX6_line_38 : decode cX6_line 38 = .ok (.bipush 58, 2) := by decide +kernel
theorem dX6_line_40 : decode cX6_line 40 = .ok (.invokevirtual 176, 3) := by decide +kernel
theorem dX6_line_43 : decode cX6_line 43 = .ok (.iconst 0, 1) := by decide +kernel
theorem dX6_line_44 : decode cX6_line 44 = .ok (.istore_n 2, 1) := by decide +kernel
theorem dX6_line_45 : decode cX6_line 45 = .ok (.iload_n 2, 1) := by decide +kernel
theorem dX6_line_46 : decode cX6_line 46 = .ok (.aload_n 0, 1) := by decide +kernel
theorem dX6_line_47 : decode cX6_line 47 = .ok (.iload_n 1, 1) := by decide +kernel
theorem dX6_line_48 : decode cX6_line 48 = .ok (.iconst 1, 1) := by decide +kernel
theorem dX6_line_49 : decode cX6_line 49 = .ok (.invokevirtual 80, 3) := by decide +kernel
theorem dX6_line_52 : decode cX6_line 52 = .ok (.if_icmp .ge 64, 3) := by decide +kernel
theorem dX6_line_55 : decode cX6_line 55 = .ok (.aload_n 0, 1) := by decide +kernel
theorem dX6_line_56 : decode cX6_line 56 = .ok (.iload_n 1, 1) := by decide +kernel
theorem dX6_line_57 : decode cX6_line 57 = .ok (.iload_n 2, 1) := by decide +kernel
theorem dX6_line_58 : decode cX6_line 58 = .ok (.invokevirtual 111, 3) := by decide +kernel
theorem dX6_line_61 : decode cX6_line 61 = .ok (.istore_n 3, 1) := by decide +kernel
theorem dX6_line_62 : decode cX6_line 62 = .ok (.aload_n 0, 1) := by decide +kernel
theorem dX6_line_63 : decode cX6_line 63 = .ok (.iload_n 3, 1) := by decide +kernel
theorem dX6_line_64 : decode cX6_line 64 = .ok (.ifCond .ne 8, 3) := by decide +kernel
theorem dX6_line_67 : decode cX6_line 67 = .ok (.bipush 97, 2) := by decide +kernel
theorem dX6_line_69 : decode cX6_line 69 = .ok (.goto 5, 3) := by decide +kernel
theorem dX6_line_72 : decode cX6_line 72 = .ok (.bipush 65, 2) := by decide +kernel
theorem dX6_line_74 : decode cX6_line 74 = .ok (.iconst 1, 1) := by decide +kernel
theorem dX6_line_75 : decode cX6_line 75 = .ok (.isub, 1) := by decide +kernel
theorem dX6_line_76 : decode cX6_line 76 = .ok (.aload_n 0, 1) := by decide +kernel
theorem dX6_line_77 : decode cX6_line 77 = .ok (.iload_n 1, 1) := by decide +kernel
theorem dX6_line_78 : decode cX6_line 78 = .ok (.bipush 10, 2) := by decide +kernel
theorem dX6_line_80 : decode cX6_line 80 = .ok (.iload_n 2, 1) := by decide +kernel
theorem dX6_line_81 : decode cX6_line 81 = .ok (.iadd, 1) := by decide +kernel
theorem dX6_line_82 : decode cX6_line 82 = .ok (.invokevirtual 80, 3) := by decide +kernel
theorem dX6_line_85 : decode cX6_line 85 = .ok (.iadd, 1) := by decide +kernel
theorem dX6_line_86 : decode cX6_line 86 = .ok (.invokevirtual 176, 3) := by decide +kernel
theorem dX6_line_89 : decode cX6_line 89 = .ok (.iload_n 3, 1) := by decide +kernel
theorem dX6_line_90 : decode cX6_line 90 = .ok (.iconst 1, 1) := by decide +kernel
theorem dX6_line_91 : decode cX6_line 91 = .ok (.if_icmp .le 19, 3) := by decide +kernel
theorem dX6_line_94 : decode cX6_line 94 = .ok (.aload_n 0, 1) := by decide +kernel
theorem dX6_line_95 : decode cX6_line 95 = .ok (.iload_n 3, 1) := by decide +kernel
theorem dX6_line_96 : decode cX6_line 96 = .ok (.iconst 2, 1) := by decide +kernel
theorem dX6_line_97 : decode cX6_line 97 = .ok (.if_icmp .ne 8, 3) := by decide +kernel
theorem dX6_line_100 : decode cX6_line 100 = .ok (.bipush 39, 2) := by decide +kernel
theorem dX6_line_102 : decode cX6_line 102 = .ok (.goto 5, 3) := by decide +kernel
theorem dX6_line_105 : decode cX6_line 105 = .ok (.bipush 33, 2) := by decide +kernel
theorem dX6_line_107 : decode cX6_line 107 = .ok (.invokevirtual 176, 3) := by decide +kernel
theorem dX6_line_110 : decode cX6_line 110 = .ok (.iinc 2 1, 3) := by decide +kernel
theorem dX6_line_113 : decode cX6_line 113 = .ok (.goto (-68), 3) := by decide +kernel
theorem dX6_line_116 : decode cX6_line 116 = .ok (.aload_n 0, 1) := by decide +kernel
theorem dX6_line_117 : decode cX6_line 117 = .ok (.getfield 173, 3) := by decide +kernel
theorem dX6_line_120 : decode cX6_line 120 = .ok (.ireturn, 1) := by decide +kernel
theorem dX6_houseLine_0 : decode cX6_houseLine 0 = .ok (.aload_n 0, 1) := by decide +kernel
theorem dX6_houseLine_1 : decode cX6_houseLine 1 = .ok (.aload_n 0, 1) := by decide +kernel
theorem dX6_houseLine_2 : decode cX6_houseLine 2 = .ok (.iload_n 1, 1) := by decide +kernel
theorem dX6_houseLine_3 : decode cX6_houseLine 3 = .ok (.invokevirtual 101, 3) := by decide +kernel
theorem dX6_houseLine_6 : decode cX6_houseLine 6 = .ok (.ifCond .eq 7, 3) := by decide +kernel
theorem dX6_houseLine_9 : decode cX6_houseLine 9 = .ok (.iconst 0, 1) := by decide +kernel
theorem dX6_houseLine_10 : decode cX6_houseLine 10 = .ok (.goto 4, 3) := by decide +kernel
theorem dX6_houseLine_13 : decode cX6_houseLine 13 = .ok (.iconst 1, 1) := by decide +kernel
theorem dX6_houseLine_14 : decode cX6_houseLine 14 = .ok (.invokevirtual 86, 3) := by decide +kernel
theorem dX6_houseLine_17 : decode cX6_houseLine 17 = .ok (.ifCond .eq 5, 3) := by decide +kernel
theorem dX6_houseLine_20 : decode cX6_houseLine 20 = .ok (.iconst 0, 1) := by decide +kernel
theorem dX6_houseLine_21 : decode cX6_houseLine 21 = .ok (.ireturn, 1) := by decide +kernel
theorem dX6_houseLine_22 : decode cX6_houseLine 22 = .ok (.aload_n 0, 1) := by decide +kernel
theorem dX6_houseLine_23 : decode cX6_houseLine 23 = .ok (.iconst 0, 1) := by decide +kernel
theorem dX6_houseLine_24 : decode cX6_houseLine 24 = .ok (.putfield 173, 3) := by decide +kernel
theorem dX6_houseLine_27 : decode cX6_houseLine 27 = .ok (.aload_n 0, 1) := by decide +kernel
theorem dX6_houseLine_28 : decode cX6_houseLine 28 = .ok (.iload_n 1, 1) := by decide +kernel
theorem dX6_houseLine_29 : decode cX6_houseLine 29 = .ok (.invokevirtual 180, 3) := by decide +kernel
theorem dX6_houseLine_32 : decode cX6_houseLine 32 = .ok (.aload_n 0, 1) := by decide +kernel
theorem dX6_houseLine_33 : decode cX6_houseLine 33 = .ok (.bipush 36, 2) := by decide +kernel
theorem dX6_houseLine_35 : decode cX6_houseLine 35 = .ok (.invokevirtual 176, 3) := by decide +kernel
theorem dX6_houseLine_38 : decode cX6_houseLine 38 = .ok (.aload_n 0, 1) := by decide +kernel
theorem dX6_houseLine_39 : decode cX6_houseLine 39 = .ok (.aload_n 0, 1) := by decide +kernel
theorem dX6_houseLine_40 : decode cX6_houseLine 40 = .ok (.iload_n 1, 1) := by decide +kernel
theorem dX6_houseLine_41 : decode cX6_houseLine 41 = .ok (.iconst 0, 1) := by decide +kernel
theorem dX6_houseLine_42 : decode cX6_houseLine 42 = .ok (.invokevirtual 65, 3) := by decide +kernel
theorem dX6_houseLine_45 : decode cX6_houseLine 45 = .ok (.invokevirtual 180, 3) := by decide +kernel
theorem dX6_houseLine_48 : decode cX6_houseLine 48 = .ok (.aload_n 0, 1) := by decide +kernel
theorem dX6_houseLine_49 : decode cX6_houseLine 49 = .ok (.bipush 126, 2) := by decide +kernel
theorem dX6_houseLine_51 : decode cX6_houseLine 51 = .ok (.invokevirtual 176, 3) := by decide +kernel
theorem dX6_houseLine_54 : decode cX6_houseLine 54 = .ok (.aload_n 0, 1) := by decide +kernel
theorem dX6_houseLine_55 : decode cX6_houseLine 55 = .ok (.aload_n 0, 1) := by decide +kernel
theorem dX6_houseLine_56 : decode cX6_houseLine 56 = .ok (.iload_n 1, 1) := by decide +kernel
theorem dX6_houseLine_57 : decode cX6_houseLine 57 = .ok (.iconst 1, 1) := by decide +kernel
theorem dX6_houseLine_58 : decode cX6_houseLine 58 = .ok (.invokevirtual 65, 3) := by decide +kernel
theorem dX6_houseLine_61 : decode cX6_houseLine 61 = .ok (.invokevirtual 180, 3) := by decide +kernel
theorem dX6_houseLine_64 : decode cX6_houseLine 64 = .ok (.aload_n 0, 1) := by decide +kernel
theorem dX6_houseLine_65 : decode cX6_houseLine 65 = .ok (.iload_n 1, 1) := by decide +kernel
theorem dX6_houseLine_66 : decode cX6_houseLine 66 = .ok (.invokevirtual 124, 3) := by decide +kernel
theorem dX6_houseLine_69 : decode cX6_houseLine 69 = .ok (.ifCond .eq 9, 3) := by decide +kernel
theorem dX6_houseLine_72 : decode cX6_houseLine 72 = .ok (.aload_n 0, 1) := by decide +kernel
theorem dX6_houseLine_73 : decode cX6_houseLine 73 = .ok (.bipush 42, 2) := by decide +kernel
theorem dX6_houseLine_75 : decode cX6_houseLine 75 = .ok (.invokevirtual 176, 3) := by decide +kernel
theorem dX6_houseLine_78 : decode cX6_houseLine 78 = .ok (.aload_n 0, 1) := by decide +kernel
theorem dX6_houseLine_79 : decode cX6_houseLine 79 = .ok (.getfield 173, 3) := by decide +kernel
theorem dX6_houseLine_82 : decode cX6_houseLine 82 = .ok (.ireturn, 1) := by decide +kernel
theorem dX6_character_0 : decode cX6_character 0 = .ok (.aload_n 0, 1) := by decide +kernel
theorem dX6_character_1 : decode cX6_character 1 = .ok (.iload_n 1, 1) := by decide +kernel
theorem dX6_character_2 : decode cX6_character 2 = .ok (.iconst 0, 1) := by decide +kernel
theorem dX6_character_3 : decode cX6_character 3 = .ok (.aload_n 0, 1) := by decide +kernel
theorem dX6_character_4 : decode cX6_character 4 = .ok (.getfield 173, 3) := by decide +kernel
theorem dX6_character_7 : decode cX6_character 7 = .ok (.iconst 1, 1) := by decide +kernel
theorem dX6_character_8 : decode cX6_character 8 = .ok (.isub, 1) := by decide +kernel
theorem dX6_character_9 : decode cX6_character 9 = .ok (.invokestatic 72, 3) := by decide +kernel
theorem dX6_character_12 : decode cX6_character 12 = .ok (.ifCond .eq 7, 3) := by decide +kernel
theorem dX6_character_15 : decode cX6_character 15 = .ok (.iconst 0, 1) := by decide +kernel
theorem dX6_character_16 : decode cX6_character 16 = .ok (.goto 4, 3) := by decide +kernel
theorem dX6_character_19 : decode cX6_character 19 = .ok (.iconst 1, 1) := by decide +kernel
theorem dX6_character_20 : decode cX6_character 20 = .ok (.invokevirtual 86, 3) := by decide +kernel
theorem dX6_character_23 : decode cX6_character 23 = .ok (.ifCond .eq 8, 3) := by decide +kernel
theorem dX6_character_26 : decode cX6_character 26 = .ok (.bipush 32, 2) := by decide +kernel
theorem dX6_character_28 : decode cX6_character 28 = .ok (.goto 9, 3) := by decide +kernel
theorem dX6_character_31 : decode cX6_character 31 = .ok (.aload_n 0, 1) := by decide +kernel
theorem dX6_character_32 : decode cX6_character 32 = .ok (.getfield 29, 3) := by decide +kernel
theorem dX6_character_35 : decode cX6_character 35 = .ok (.iload_n 1, 1) := by decide +kernel
theorem dX6_character_36 : decode cX6_character 36 = .ok (.caload, 1) := by decide +kernel
theorem dX6_character_37 : decode cX6_character 37 = .ok (.ireturn, 1) := by decide +kernel
theorem dX6_append_0 : decode cX6_append 0 = .ok (.aload_n 0, 1) := by decide +kernel
theorem dX6_append_1 : decode cX6_append 1 = .ok (.aload_n 0, 1) := by decide +kernel
theorem dX6_append_2 : decode cX6_append 2 = .ok (.getfield 183, 3) := by decide +kernel
theorem dX6_append_5 : decode cX6_append 5 = .ok (.bipush 60, 2) := by decide +kernel
theorem dX6_append_7 : decode cX6_append 7 = .ok (.if_icmp .ne 7, 3) := by decide +kernel
theorem dX6_append_10 : decode cX6_append 10 = .ok (.iconst 1, 1) := by decide +kernel
theorem dX6_append_11 : decode cX6_append 11 = .ok (.goto 4, 3) := by decide +kernel
theorem dX6_append_14 : decode cX6_append 14 = .ok (.iconst 0, 1) := by decide +kernel
theorem dX6_append_15 : decode cX6_append 15 = .ok (.invokevirtual 86, 3) := by decide +kernel
theorem dX6_append_18 : decode cX6_append 18 = .ok (.ifCond .eq 5, 3) := by decide +kernel
theorem dX6_append_21 : decode cX6_append 21 = .ok (.iconst 0, 1) := by decide +kernel
theorem dX6_append_22 : decode cX6_append 22 = .ok (.ireturn, 1) := by decide +kernel
theorem dX6_append_23 : decode cX6_append 23 = .ok (.aload_n 0, 1) := by decide +kernel
theorem dX6_append_24 : decode cX6_append 24 = .ok (.getfield 22, 3) := by decide +kernel
theorem dX6_append_27 : decode cX6_append 27 = .ok (.aload_n 0, 1) := by decide +kernel
theorem dX6_append_28 : decode cX6_append 28 = .ok (.getfield 183, 3) := by decide +kernel
theorem dX6_append_31 : decode cX6_append 31 = .ok (.iload_n 1, 1) := by decide +kernel
theorem dX6_append_32 : decode cX6_append 32 = .ok (.iastore, 1) := by decide +kernel
theorem dX6_append_33 : decode cX6_append 33 = .ok (.aload_n 0, 1) := by decide +kernel
theorem dX6_append_34 : decode cX6_append 34 = .ok (.dup, 1) := by decide +kernel
theorem dX6_append_35 : decode cX6_append 35 = .ok (.getfield 183, 3) := by decide +kernel
theorem dX6_append_38 : decode cX6_append 38 = .ok (.iconst 1, 1) := by decide +kernel
theorem dX6_append_39 : decode cX6_append 39 = .ok (.iadd, 1) := by decide +kernel
theorem dX6_append_40 : decode cX6_append 40 = .ok (.putfield 183, 3) := by decide +kernel
theorem dX6_append_43 : decode cX6_append 43 = .ok (.aload_n 0, 1) := by decide +kernel
theorem dX6_append_44 : decode cX6_append 44 = .ok (.getfield 183, 3) := by decide +kernel
theorem dX6_append_47 : decode cX6_append 47 = .ok (.ireturn, 1) := by decide +kernel
theorem dX6_here_0 : decode cX6_here 0 = .ok (.aload_n 0, 1) := by decide +kernel
theorem dX6_here_1 : decode cX6_here 1 = .ok (.getfield 186, 3) := by decide +kernel
theorem dX6_here_4 : decode cX6_here 4 = .ok (.aload_n 0, 1) := by decide +kernel
theorem dX6_here_5 : decode cX6_here 5 = .ok (.getfield 183, 3) := by decide +kernel
theorem dX6_here_8 : decode cX6_here 8 = .ok (.if_icmp .ge 15, 3) := by decide +kernel
theorem dX6_here_11 : decode cX6_here 11 = .ok (.aload_n 0, 1) := by decide +kernel
theorem dX6_here_12 : decode cX6_here 12 = .ok (.getfield 22, 3) := by decide +kernel
theorem dX6_here_15 : decode cX6_here 15 = .ok (.aload_n 0, 1) := by decide +kernel
theorem dX6_here_16 : decode cX6_here 16 = .ok (.getfield 186, 3) := by decide +kernel
theorem dX6_here_19 : decode cX6_here 19 = .ok (.iaload, 1) := by decide +kernel
theorem dX6_here_20 : decode cX6_here 20 = .ok (.goto 4, 3) := by decide +kernel
theorem dX6_here_23 : decode cX6_here 23 = .ok (.iconst (-1), 1) := by decide +kernel
theorem dX6_here_24 : decode cX6_here 24 = .ok (.ireturn, 1) := by decide +kernel
theorem dX6_skips_0 : decode cX6_skips 0 = .ok (.aload_n 0, 1) := by decide +kernel
theorem dX6_skips_1 : decode cX6_skips 1 = .ok (.invokevirtual 189, 3) := by decide +kernel
theorem dX6_skips_4 : decode cX6_skips 4 = .ok (.iload_n 1, 1) := by decide +kernel
theorem dX6_skips_5 : decode cX6_skips 5 = .ok (.if_icmp .eq 5, 3) := by decide +kernel
theorem dX6_skips_8 : decode cX6_skips 8 = .ok (.iconst 0, 1) := by decide +kernel
theorem dX6_skips_9 : decode cX6_skips 9 = .ok (.ireturn, 1) := by decide +kernel
theorem dX6_skips_10 : decode cX6_skips 10 = .ok (.aload_n 0, 1) := by decide +kernel
theorem dX6_skips_11 : decode cX6_skips 11 = .ok (.dup, 1) := by decide +kernel
theorem dX6_skips_12 : decode cX6_skips 12 = .ok (.getfield 186, 3) := by decide +kernel
theorem dX6_skips_15 : decode cX6_skips 15 = .ok (.iconst 1, 1) := by decide +kernel
theorem dX6_skips_16 : decode cX6_skips 16 = .ok (.iadd, 1) := by decide +kernel
theorem dX6_skips_17 : decode cX6_skips 17 = .ok (.putfield 186, 3) := by decide +kernel
theorem dX6_skips_20 : decode cX6_skips 20 = .ok (.iconst 1, 1) := by decide +kernel
theorem dX6_skips_21 : decode cX6_skips 21 = .ok (.ireturn, 1) := by decide +kernel
theorem dX6_figures_0 : decode cX6_figures 0 = .ok (.aload_n 0, 1) := by decide +kernel
theorem dX6_figures_1 : decode cX6_figures 1 = .ok (.invokevirtual 189, 3) := by decide +kernel
theorem dX6_figures_4 : decode cX6_figures 4 = .ok (.bipush 48, 2) := by decide +kernel
theorem dX6_figures_6 : decode cX6_figures 6 = .ok (.bipush 57, 2) := by decide +kernel
theorem dX6_figures_8 : decode cX6_figures 8 = .ok (.invokestatic 72, 3) := by decide +kernel
theorem dX6_figures_11 : decode cX6_figures 11 = .ok (.ifCond .ne 5, 3) := by decide +kernel
theorem dX6_figures_14 : decode cX6_figures 14 = .ok (.iconst 0, 1) := by decide +kernel
theorem dX6_figures_15 : decode cX6_figures 15 = .ok (.ireturn, 1) := by decide +kernel
theorem dX6_figures_16 : decode cX6_figures 16 = .ok (.aload_n 0, 1) := by decide +kernel
theorem dX6_figures_17 : decode cX6_figures 17 = .ok (.getfield 33, 3) := by decide +kernel
theorem dX6_figures_20 : decode cX6_figures 20 = .ok (.iload_n 1, 1) := by decide +kernel
theorem dX6_figures_21 : decode cX6_figures 21 = .ok (.iconst 0, 1) := by decide +kernel
theorem dX6_figures_22 : decode cX6_figures 22 = .ok (.iastore, 1) := by decide +kernel
theorem dX6_figures_23 : decode cX6_figures 23 = .ok (.iconst 0, 1) := by decide +kernel
theorem dX6_figures_24 : decode cX6_figures 24 = .ok (.istore_n 3, 1) := by decide +kernel
theorem dX6_figures_25 : decode cX6_figures 25 = .ok (.iload_n 3, 1) := by decide +kernel
theorem dX6_figures_26 : decode cX6_figures 26 = .ok (.iload_n 2, 1) := by decide +kernel
theorem dX6_figures_27 : decode cX6_figures 27 = .ok (.if_icmp .ge 56, 3) := by decide +kernel
theorem dX6_figures_30 : decode cX6_figures 30 = .ok (.aload_n 0, 1) := by decide +kernel
theorem dX6_figures_31 : decode cX6_figures 31 = .ok (.invokevirtual 189, 3) := by decide +kernel
theorem dX6_figures_34 : decode cX6_figures 34 = .ok (.bipush 48, 2) := by decide +kernel
theorem dX6_figures_36 : decode cX6_figures 36 = .ok (.bipush 57, 2) := by decide +kernel
theorem dX6_figures_38 : decode cX6_figures 38 = .ok (.invokestatic 72, 3) := by decide +kernel
theorem dX6_figures_41 : decode cX6_figures 41 = .ok (.ifCond .eq 42, 3) := by decide +kernel
theorem dX6_figures_44 : decode cX6_figures 44 = .ok (.aload_n 0, 1) := by decide +kernel
theorem dX6_figures_45 : decode cX6_figures 45 = .ok (.getfield 33, 3) := by decide +kernel
theorem dX6_figures_48 : decode cX6_figures 48 = .ok (.iload_n 1, 1) := by decide +kernel
theorem dX6_figures_49 : decode cX6_figures 49 = .ok (.bipush 10, 2) := by decide +kernel
theorem dX6_figures_51 : decode cX6_figures 51 = .ok (.aload_n 0, 1) := by decide +kernel
theorem dX6_figures_52 : decode cX6_figures 52 = .ok (.getfield 33, 3) := by decide +kernel
theorem dX6_figures_55 : decode cX6_figures 55 = .ok (.iload_n 1, 1) := by decide +kernel
theorem dX6_figures_56 : decode cX6_figures 56 = .ok (.iaload, 1) := by decide +kernel
theorem dX6_figures_57 : decode cX6_figures 57 = .ok (.imul, 1) := by decide +kernel
theorem dX6_figures_58 : decode cX6_figures 58 = .ok (.aload_n 0, 1) := by decide +kernel
theorem dX6_figures_59 : decode cX6_figures 59 = .ok (.invokevirtual 189, 3) := by decide +kernel
theorem dX6_figures_62 : decode cX6_figures 62 = .ok (.iadd, 1) := by decide +kernel
theorem dX6_figures_63 : decode cX6_figures 63 = .ok (.bipush 48, 2) := by decide +kernel
theorem dX6_figures_65 : decode cX6_figures 65 = .ok (.isub, 1) := by decide +kernel
theorem dX6_figures_66 : decode cX6_figures 66 = .ok (.iastore, 1) := by decide +kernel
theorem dX6_figures_67 : decode cX6_figures 67 = .ok (.aload_n 0, 1) := by decide +kernel
theorem dX6_figures_68 : decode cX6_figures 68 = .ok (.dup, 1) := by decide +kernel
theorem dX6_figures_69 : decode cX6_figures 69 = .ok (.getfield 186, 3) := by decide +kernel
theorem dX6_figures_72 : decode cX6_figures 72 = .ok (.iconst 1, 1) := by decide +kernel
theorem dX6_figures_73 : decode cX6_figures 73 = .ok (.iadd, 1) := by decide +kernel
theorem dX6_figures_74 : decode cX6_figures 74 = .ok (.putfield 186, 3) := by decide +kernel
theorem dX6_figures_77 : decode cX6_figures 77 = .ok (.iinc 3 1, 3) := by decide +kernel
theorem dX6_figures_80 : decode cX6_figures 80 = .ok (.goto (-55), 3) := by decide +kernel
theorem dX6_figures_83 : decode cX6_figures 83 = .ok (.iconst 1, 1) := by decide +kernel
theorem dX6_figures_84 : decode cX6_figures 84 = .ok (.ireturn, 1) := by decide +kernel
theorem dX6_wordHere_0 : decode cX6_wordHere 0 = .ok (.iconst 0, 1) := by decide +kernel
theorem dX6_wordHere_1 : decode cX6_wordHere 1 = .ok (.istore 4, 2) := by decide +kernel
theorem dX6_wordHere_3 : decode cX6_wordHere 3 = .ok (.aload_n 0, 1) := by decide +kernel
theorem dX6_wordHere_4 : decode cX6_wordHere 4 = .ok (.getfield 33, 3) := by decide +kernel
theorem dX6_wordHere_7 : decode cX6_wordHere 7 = .ok (.iload_n 1, 1) := by decide +kernel
theorem dX6_wordHere_8 : decode cX6_wordHere 8 = .ok (.iconst 0, 1) := by decide +kernel
theorem dX6_wordHere_9 : decode cX6_wordHere 9 = .ok (.iastore, 1) := by decide +kernel
theorem dX6_wordHere_10 : decode cX6_wordHere 10 = .ok (.iload 4, 2) := by decide +kernel
theorem dX6_wordHere_12 : decode cX6_wordHere 12 = .ok (.iload_n 3, 1) := by decide +kernel
theorem dX6_wordHere_13 : decode cX6_wordHere 13 = .ok (.if_icmp .ge 58, 3) := by decide +kernel
theorem dX6_wordHere_16 : decode cX6_wordHere 16 = .ok (.aload_n 0, 1) := by decide +kernel
theorem dX6_wordHere_17 : decode cX6_wordHere 17 = .ok (.invokevirtual 189, 3) := by decide +kernel
theorem dX6_wordHere_20 : decode cX6_wordHere 20 = .ok (.bipush 97, 2) := by decide +kernel
theorem dX6_wordHere_22 : decode cX6_wordHere 22 = .ok (.bipush 102, 2) := by decide +kernel
theorem dX6_wordHere_24 : decode cX6_wordHere 24 = .ok (.invokestatic 72, 3) := by decide +kernel
theorem dX6_wordHere_27 : decode cX6_wordHere 27 = .ok (.ifCond .eq 44, 3) := by decide +kernel
theorem dX6_wordHere_30 : decode cX6_wordHere 30 = .ok (.aload_n 0, 1) := by decide +kernel
theorem dX6_wordHere_31 : decode cX6_wordHere 31 = .ok (.getfield 33, 3) := by decide +kernel
theorem dX6_wordHere_34 : decode cX6_wordHere 34 = .ok (.iload_n 1, 1) := by decide +kernel
theorem dX6_wordHere_35 : decode cX6_wordHere 35 = .ok (.bipush 10, 2) := by decide +kernel
theorem dX6_wordHere_37 : decode cX6_wordHere 37 = .ok (.aload_n 0, 1) := by decide +kernel
theorem dX6_wordHere_38 : decode cX6_wordHere 38 = .ok (.getfield 33, 3) := by decide +kernel
theorem dX6_wordHere_41 : decode cX6_wordHere 41 = .ok (.iload_n 1, 1) := by decide +kernel
theorem dX6_wordHere_42 : decode cX6_wordHere 42 = .ok (.iaload, 1) := by decide +kernel
theorem dX6_wordHere_43 : decode cX6_wordHere 43 = .ok (.imul, 1) := by decide +kernel
theorem dX6_wordHere_44 : decode cX6_wordHere 44 = .ok (.aload_n 0, 1) := by decide +kernel
theorem dX6_wordHere_45 : decode cX6_wordHere 45 = .ok (.invokevirtual 189, 3) := by decide +kernel
theorem dX6_wordHere_48 : decode cX6_wordHere 48 = .ok (.iadd, 1) := by decide +kernel
theorem dX6_wordHere_49 : decode cX6_wordHere 49 = .ok (.bipush 97, 2) := by decide +kernel
theorem dX6_wordHere_51 : decode cX6_wordHere 51 = .ok (.isub, 1) := by decide +kernel
theorem dX6_wordHere_52 : decode cX6_wordHere 52 = .ok (.iconst 1, 1) := by decide +kernel
theorem dX6_wordHere_53 : decode cX6_wordHere 53 = .ok (.iadd, 1) := by decide +kernel
theorem dX6_wordHere_54 : decode cX6_wordHere 54 = .ok (.iastore, 1) := by decide +kernel
theorem dX6_wordHere_55 : decode cX6_wordHere 55 = .ok (.aload_n 0, 1) := by decide +kernel
theorem dX6_wordHere_56 : decode cX6_wordHere 56 = .ok (.dup, 1) := by decide +kernel
theorem dX6_wordHere_57 : decode cX6_wordHere 57 = .ok (.getfield 186, 3) := by decide +kernel
theorem dX6_wordHere_60 : decode cX6_wordHere 60 = .ok (.iconst 1, 1) := by decide +kernel
theorem dX6_wordHere_61 : decode cX6_wordHere 61 = .ok (.iadd, 1) := by decide +kernel
theorem dX6_wordHere_62 : decode cX6_wordHere 62 = .ok (.putfield 186, 3) := by decide +kernel
theorem dX6_wordHere_65 : decode cX6_wordHere 65 = .ok (.iinc 4 1, 3) := by decide +kernel
theorem dX6_wordHere_68 : decode cX6_wordHere 68 = .ok (.goto (-58), 3) := by decide +kernel
theorem dX6_wordHere_71 : decode cX6_wordHere 71 = .ok (.iload 4, 2) := by decide +kernel
theorem dX6_wordHere_73 : decode cX6_wordHere 73 = .ok (.iload_n 2, 1) := by decide +kernel
theorem dX6_wordHere_74 : decode cX6_wordHere 74 = .ok (.if_icmp .lt 7, 3) := by decide +kernel
theorem dX6_wordHere_77 : decode cX6_wordHere 77 = .ok (.iconst 1, 1) := by decide +kernel
theorem dX6_wordHere_78 : decode cX6_wordHere 78 = .ok (.goto 4, 3) := by decide +kernel
theorem dX6_wordHere_81 : decode cX6_wordHere 81 = .ok (.iconst 0, 1) := by decide +kernel
theorem dX6_wordHere_82 : decode cX6_wordHere 82 = .ok (.ireturn, 1) := by decide +kernel
theorem dX6_orderHere_0 : decode cX6_orderHere 0 = .ok (.iconst 4, 1) := by decide +kernel
theorem dX6_orderHere_1 : decode cX6_orderHere 1 = .ok (.aload_n 0, 1) := by decide +kernel
theorem dX6_orderHere_2 : decode cX6_orderHere 2 = .ok (.getfield 192, 3) := by decide +kernel
theorem dX6_orderHere_5 : decode cX6_orderHere 5 = .ok (.imul, 1) := by decide +kernel
theorem dX6_orderHere_6 : decode cX6_orderHere 6 = .ok (.istore_n 1, 1) := by decide +kernel
theorem dX6_orderHere_7 : decode cX6_orderHere 7 = .ok (.aload_n 0, 1) := by decide +kernel
theorem dX6_orderHere_8 : decode cX6_orderHere 8 = .ok (.getfield 33, 3) := by decide +kernel
theorem dX6_orderHere_11 : decode cX6_orderHere 11 = .ok (.iload_n 1, 1) := by decide +kernel
theorem dX6_orderHere_12 : decode cX6_orderHere 12 = .ok (.aload_n 0, 1) := by decide +kernel
theorem dX6_orderHere_13 : decode cX6_orderHere 13 = .ok (.invokevirtual 189, 3) := by decide +kernel
theorem dX6_orderHere_16 : decode cX6_orderHere 16 = .ok (.iastore, 1) := by decide +kernel
theorem dX6_orderHere_17 : decode cX6_orderHere 17 = .ok (.aload_n 0, 1) := by decide +kernel
theorem dX6_orderHere_18 : decode cX6_orderHere 18 = .ok (.bipush 101, 2) := by decide +kernel
theorem dX6_orderHere_20 : decode cX6_orderHere 20 = .ok (.invokevirtual 195, 3) := by decide +kernel
theorem dX6_orderHere_23 : decode cX6_orderHere 23 = .ok (.ifCond .ne 12, 3) := by decide +kernel
theorem dX6_orderHere_26 : decode cX6_orderHere 26 = .ok (.aload_n 0, 1) := by decide +kernel
theorem dX6_orderHere_27 : decode cX6_orderHere 27 = .ok (.bipush 100, 2) := by decide +kernel
theorem dX6_orderHere_29 : decode cX6_orderHere 29 = .ok (.invokevirtual 195, 3) := by decide +kernel
theorem dX6_orderHere_32 : decode cX6_orderHere 32 = .ok (.ifCond .eq 5, 3) := by decide +kernel
theorem dX6_orderHere_35 : decode cX6_orderHere 35 = .ok (.iconst 1, 1) := by decide +kernel
theorem dX6_orderHere_36 : decode cX6_orderHere 36 = .ok (.ireturn, 1) := by decide +kernel
theorem dX6_orderHere_37 : decode cX6_orderHere 37 = .ok (.aload_n 0, 1) := by decide +kernel
theorem dX6_orderHere_38 : decode cX6_orderHere 38 = .ok (.bipush 104, 2) := by decide +kernel
theorem dX6_orderHere_40 : decode cX6_orderHere 40 = .ok (.invokevirtual 195, 3) := by decide +kernel
theorem dX6_orderHere_43 : decode cX6_orderHere 43 = .ok (.ifCond .eq 12, 3) := by decide +kernel
theorem dX6_orderHere_46 : decode cX6_orderHere 46 = .ok (.aload_n 0, 1) := by decide +kernel
theorem dX6_orderHere_47 : decode cX6_orderHere 47 = .ok (.iload_n 1, 1) := by decide +kernel
theorem dX6_orderHere_48 : decode cX6_orderHere 48 = .ok (.iconst 1, 1) := by decide +kernel
theorem dX6_orderHere_49 : decode cX6_orderHere 49 = .ok (.iadd, 1) := by decide +kernel
theorem dX6_orderHere_50 : decode cX6_orderHere 50 = .ok (.iconst 2, 1) := by decide +kernel
theorem dX6_orderHere_51 : decode cX6_orderHere 51 = .ok (.invokevirtual 198, 3) := by decide +kernel
theorem dX6_orderHere_54 : decode cX6_orderHere 54 = .ok (.ireturn, 1) := by decide +kernel
theorem dX6_orderHere_55 : decode cX6_orderHere 55 = .ok (.aload_n 0, 1) := by decide +kernel
theorem dX6_orderHere_56 : decode cX6_orderHere 56 = .ok (.bipush 115, 2) := by decide +kernel
theorem dX6_orderHere_58 : decode cX6_orderHere 58 = .ok (.invokevirtual 195, 3) := by decide +kernel
theorem dX6_orderHere_61 : decode cX6_orderHere 61 = .ok (.ifCond .eq 42, 3) := by decide +kernel
theorem dX6_orderHere_64 : decode cX6_orderHere 64 = .ok (.aload_n 0, 1) := by decide +kernel
theorem dX6_orderHere_65 : decode cX6_orderHere 65 = .ok (.iload_n 1, 1) := by decide +kernel
theorem dX6_orderHere_66 : decode cX6_orderHere 66 = .ok (.iconst 1, 1) := by decide +kernel
theorem dX6_orderHere_67 : decode cX6_orderHere 67 = .ok (.iadd, 1) := by decide +kernel
theorem dX6_orderHere_68 : decode cX6_orderHere 68 = .ok (.iconst 1, 1) := by decide +kernel
theorem dX6_orderHere_69 : decode cX6_orderHere 69 = .ok (.invokevirtual 198, 3) := by decide +kernel
theorem dX6_orderHere_72 : decode cX6_orderHere 72 = .ok (.ifCond .eq 29, 3) := by decide +kernel
theorem dX6_orderHere_75 : decode cX6_orderHere 75 = .ok (.aload_n 0, 1) := by decide +kernel
theorem dX6_orderHere_76 : decode cX6_orderHere 76 = .ok (.bipush 61, 2) := by decide +kernel
theorem dX6_orderHere_78 : decode cX6_orderHere 78 = .ok (.invokevirtual 195, 3) := by decide +kernel
theorem dX6_orderHere_81 : decode cX6_orderHere 81 = .ok (.ifCond .eq 20, 3) := by decide +kernel
theorem dX6_orderHere_84 : decode cX6_orderHere 84 = .ok (.aload_n 0, 1) := by decide +kernel
theorem dX6_orderHere_85 : decode cX6_orderHere 85 = .ok (.iload_n 1, 1) := by decide +kernel
theorem dX6_orderHere_86 : decode cX6_orderHere 86 = .ok (.iconst 2, 1) := by decide +kernel
theorem dX6_orderHere_87 : decode cX6_orderHere 87 = .ok (.iadd, 1) := by decide +kernel
theorem dX6_orderHere_88 : decode cX6_orderHere 88 = .ok (.iconst 3, 1) := by decide +kernel
theorem dX6_orderHere_89 : decode cX6_orderHere 89 = .ok (.bipush 8, 2) := by decide +kernel
theorem dX6_orderHere_91 : decode cX6_orderHere 91 = .ok (.invokevirtual 201, 3) := by decide +kernel
theorem dX6_orderHere_94 : decode cX6_orderHere 94 = .ok (.ifCond .eq 7, 3) := by decide +kernel
theorem dX6_orderHere_97 : decode cX6_orderHere 97 = .ok (.iconst 1, 1) := by decide +kernel
theorem dX6_orderHere_98 : decode cX6_orderHere 98 = .ok (.goto 4, 3) := by decide +kernel
theorem dX6_orderHere_101 : decode cX6_orderHere 101 = .ok (.iconst 0, 1) := by decide +kernel
theorem dX6_orderHere_102 : decode cX6_orderHere 102 = .ok (.ireturn, 1) := by decide +kernel
theorem dX6_orderHere_103 : decode cX6_orderHere 103 = .ok (.aload_n 0, 1) := by decide +kernel
theorem dX6_orderHere_104 : decode cX6_orderHere 104 = .ok (.bipush 109, 2) := by decide +kernel
theorem dX6_orderHere_106 : decode cX6_orderHere 106 = .ok (.invokevirtual 195, 3) := by decide +kernel
theorem dX6_orderHere_109 : decode cX6_orderHere 109 = .ok (.ifCond .eq 43, 3) := by decide +kernel
theorem dX6_orderHere_112 : decode cX6_orderHere 112 = .ok (.aload_n 0, 1) := by decide +kernel
theorem dX6_orderHere_113 : decode cX6_orderHere 113 = .ok (.iload_n 1, 1) := by decide +kernel
theorem dX6_orderHere_114 : decode cX6_orderHere 114 = .ok (.iconst 1, 1) := by decide +kernel
theorem dX6_orderHere_115 : decode cX6_orderHere 115 = .ok (.iadd, 1) := by decide +kernel
theorem dX6_orderHere_116 : decode cX6_orderHere 116 = .ok (.iconst 1, 1) := by decide +kernel
theorem dX6_orderHere_117 : decode cX6_orderHere 117 = .ok (.invokevirtual 198, 3) := by decide +kernel
theorem dX6_orderHere_120 : decode cX6_orderHere 120 = .ok (.ifCond .eq 30, 3) := by decide +kernel
theorem dX6_orderHere_123 : decode cX6_orderHere 123 = .ok (.aload_n 0, 1) := by decide +kernel
theorem dX6_orderHere_124 : decode cX6_orderHere 124 = .ok (.iload_n 1, 1) := by decide +kernel
theorem dX6_orderHere_125 : decode cX6_orderHere 125 = .ok (.iconst 2, 1) := by decide +kernel
theorem dX6_orderHere_126 : decode cX6_orderHere 126 = .ok (.iadd, 1) := by decide +kernel
theorem dX6_orderHere_127 : decode cX6_orderHere 127 = .ok (.iconst 1, 1) := by decide +kernel
theorem dX6_orderHere_128 : decode cX6_orderHere 128 = .ok (.invokevirtual 198, 3) := by decide +kernel
theorem dX6_orderHere_131 : decode cX6_orderHere 131 = .ok (.ifCond .eq 19, 3) := by decide +kernel
theorem dX6_orderHere_134 : decode cX6_orderHere 134 = .ok (.aload_n 0, 1) := by decide +kernel
theorem dX6_orderHere_135 : decode cX6_orderHere 135 = .ok (.iload_n 1, 1) := by decide +kernel
theorem dX6_orderHere_136 : decode cX6_orderHere 136 = .ok (.iconst 3, 1) := by decide +kernel
theorem dX6_orderHere_137 : decode cX6_orderHere 137 = .ok (.iadd, 1) := by decide +kernel
theorem dX6_orderHere_138 : decode cX6_orderHere 138 = .ok (.iconst 1, 1) := by decide +kernel
theorem dX6_orderHere_139 : decode cX6_orderHere 139 = .ok (.iconst 1, 1) := by decide +kernel
theorem dX6_orderHere_140 : decode cX6_orderHere 140 = .ok (.invokevirtual 201, 3) := by decide +kernel
theorem dX6_orderHere_143 : decode cX6_orderHere 143 = .ok (.ifCond .eq 7, 3) := by decide +kernel
theorem dX6_orderHere_146 : decode cX6_orderHere 146 = .ok (.iconst 1, 1) := by decide +kernel
theorem dX6_orderHere_147 : decode cX6_orderHere 147 = .ok (.goto 4, 3) := by decide +kernel
theorem dX6_orderHere_150 : decode cX6_orderHere 150 = .ok (.iconst 0, 1) := by decide +kernel
theorem dX6_orderHere_151 : decode cX6_orderHere 151 = .ok (.ireturn, 1) := by decide +kernel
theorem dX6_orderHere_152 : decode cX6_orderHere 152 = .ok (.aload_n 0, 1) := by decide +kernel
theorem dX6_orderHere_153 : decode cX6_orderHere 153 = .ok (.bipush 108, 2) := by decide +kernel
theorem dX6_orderHere_155 : decode cX6_orderHere 155 = .ok (.invokevirtual 195, 3) := by decide +kernel
theorem dX6_orderHere_158 : decode cX6_orderHere 158 = .ok (.ifCond .ne 21, 3) := by decide +kernel
theorem dX6_orderHere_161 : decode cX6_orderHere 161 = .ok (.aload_n 0, 1) := by decide +kernel
theorem dX6_orderHere_162 : decode cX6_orderHere 162 = .ok (.bipush 99, 2) := by decide +kernel
theorem dX6_orderHere_164 : decode cX6_orderHere 164 = .ok (.invokevirtual 195, 3) := by decide +kernel
theorem dX6_orderHere_167 : decode cX6_orderHere 167 = .ok (.ifCond .ne 12, 3) := by decide +kernel
theorem dX6_orderHere_170 : decode cX6_orderHere 170 = .ok (.aload_n 0, 1) := by decide +kernel
theorem dX6_orderHere_171 : decode cX6_orderHere 171 = .ok (.bipush 114, 2) := by decide +kernel
theorem dX6_orderHere_173 : decode cX6_orderHere 173 = .ok (.invokevirtual 195, 3) := by decide +kernel
theorem dX6_orderHere_176 : decode cX6_orderHere 176 = .ok (.ifCond .eq 31, 3) := by decide +kernel
theorem dX6_orderHere_179 : decode cX6_orderHere 179 = .ok (.aload_n 0, 1) := by decide +kernel
theorem dX6_orderHere_180 : decode cX6_orderHere 180 = .ok (.iload_n 1, 1) := by decide +kernel
theorem dX6_orderHere_181 : decode cX6_orderHere 181 = .ok (.iconst 1, 1) := by decide +kernel
theorem dX6_orderHere_182 : decode cX6_orderHere 182 = .ok (.iadd, 1) := by decide +kernel
theorem dX6_orderHere_183 : decode cX6_orderHere 183 = .ok (.iconst 1, 1) := by decide +kernel
theorem dX6_orderHere_184 : decode cX6_orderHere 184 = .ok (.invokevirtual 198, 3) := by decide +kernel
theorem dX6_orderHere_187 : decode cX6_orderHere 187 = .ok (.ifCond .eq 18, 3) := by decide +kernel
theorem dX6_orderHere_190 : decode cX6_orderHere 190 = .ok (.aload_n 0, 1) := by decide +kernel
theorem dX6_orderHere_191 : decode cX6_orderHere 191 = .ok (.iload_n 1, 1) := by decide +kernel
theorem dX6_orderHere_192 : decode cX6_orderHere 192 = .ok (.iconst 2, 1) := by decide +kernel
theorem dX6_orderHere_193 : decode cX6_orderHere 193 = .ok (.iadd, 1) := by decide +kernel
theorem dX6_orderHere_194 : decode cX6_orderHere 194 = .ok (.iconst 1, 1) := by decide +kernel
theorem dX6_orderHere_195 : decode cX6_orderHere 195 = .ok (.invokevirtual 198, 3) := by decide +kernel
theorem dX6_orderHere_198 : decode cX6_orderHere 198 = .ok (.ifCond .eq 7, 3) := by decide +kernel
theorem dX6_orderHere_201 : decode cX6_orderHere 201 = .ok (.iconst 1, 1) := by decide +kernel
theorem dX6_orderHere_202 : decode cX6_orderHere 202 = .ok (.goto 4, 3) := by decide +kernel
theorem dX6_orderHere_205 : decode cX6_orderHere 205 = .ok (.iconst 0, 1) := by decide +kernel
theorem dX6_orderHere_206 : decode cX6_orderHere 206 = .ok (.ireturn, 1) := by decide +kernel
theorem dX6_orderHere_207 : decode cX6_orderHere 207 = .ok (.aload_n 0, 1) := by decide +kernel
theorem dX6_orderHere_208 : decode cX6_orderHere 208 = .ok (.bipush 120, 2) := by decide +kernel
theorem dX6_orderHere_210 : decode cX6_orderHere 210 = .ok (.invokevirtual 195, 3) := by decide +kernel
theorem dX6_orderHere_213 : decode cX6_orderHere 213 = .ok (.ifCond .eq 18, 3) := by decide +kernel
theorem dX6_orderHere_216 : decode cX6_orderHere 216 = .ok (.aload_n 0, 1) := by decide +kernel
theorem dX6_orderHere_217 : decode cX6_orderHere 217 = .ok (.iload_n 1, 1) := by decide +kernel
theorem dX6_orderHere_218 : decode cX6_orderHere 218 = .ok (.iconst 1, 1) := by decide +kernel
theorem dX6_orderHere_219 : decode cX6_orderHere 219 = .ok (.iadd, 1) := by decide +kernel
theorem dX6_orderHere_220 : decode cX6_orderHere 220 = .ok (.iconst 1, 1) := by decide +kernel
theorem dX6_orderHere_221 : decode cX6_orderHere 221 = .ok (.invokevirtual 198, 3) := by decide +kernel
theorem dX6_orderHere_224 : decode cX6_orderHere 224 = .ok (.ifCond .eq 7, 3) := by decide +kernel
theorem dX6_orderHere_227 : decode cX6_orderHere 227 = .ok (.iconst 1, 1) := by decide +kernel
theorem dX6_orderHere_228 : decode cX6_orderHere 228 = .ok (.goto 4, 3) := by decide +kernel
theorem dX6_orderHere_231 : decode cX6_orderHere 231 = .ok (.iconst 0, 1) := by decide +kernel
theorem dX6_orderHere_232 : decode cX6_orderHere 232 = .ok (.ireturn, 1) := by decide +kernel
theorem dX6_isText_0 : decode cX6_isText 0 = .ok (.aload_n 0, 1) := by decide +kernel
theorem dX6_isText_1 : decode cX6_isText 1 = .ok (.iconst 0, 1) := by decide +kernel
theorem dX6_isText_2 : decode cX6_isText 2 = .ok (.putfield 186, 3) := by decide +kernel
theorem dX6_isText_5 : decode cX6_isText 5 = .ok (.aload_n 0, 1) := by decide +kernel
theorem dX6_isText_6 : decode cX6_isText 6 = .ok (.iconst 0, 1) := by decide +kernel
theorem dX6_isText_7 : decode cX6_isText 7 = .ok (.putfield 192, 3) := by decide +kernel
theorem dX6_isText_10 : decode cX6_isText 10 = .ok (.aload_n 0, 1) := by decide +kernel
theorem dX6_isText_11 : decode cX6_isText 11 = .ok (.invokevirtual 204, 3) := by decide +kernel
theorem dX6_isText_14 : decode cX6_isText 14 = .ok (.ifCond .ne 5, 3) := by decide +kernel
theorem dX6_isText_17 : decode cX6_isText 17 = .ok (.iconst 0, 1) := by decide +kernel
theorem dX6_isText_18 : decode cX6_isText 18 = .ok (.ireturn, 1) := by decide +kernel
theorem dX6_isText_19 : decode cX6_isText 19 = .ok (.aload_n 0, 1) := by decide +kernel
theorem dX6_isText_20 : decode cX6_isText 20 = .ok (.dup, 1) := by decide +kernel
theorem dX6_isText_21 : decode cX6_isText 21 = .ok (.getfield 192, 3) := by decide +kernel
theorem dX6_isText_24 : decode cX6_isText 24 = .ok (.iconst 1, 1) := by decide +kernel
theorem dX6_isText_25 : decode cX6_isText 25 = .ok (.iadd, 1) := by decide +kernel
theorem dX6_isText_26 : decode cX6_isText 26 = .ok (.putfield 192, 3) := by decide +kernel
theorem dX6_isText_29 : decode cX6_isText 29 = .ok (.aload_n 0, 1) := by decide +kernel
theorem dX6_isText_30 : decode cX6_isText 30 = .ok (.bipush 59, 2) := by decide +kernel
theorem dX6_isText_32 : decode cX6_isText 32 = .ok (.invokevirtual 195, 3) := by decide +kernel
theorem dX6_isText_35 : decode cX6_isText 35 = .ok (.ifCond .ne (-25), 3) := by decide +kernel
theorem dX6_isText_38 : decode cX6_isText 38 = .ok (.aload_n 0, 1) := by decide +kernel
theorem dX6_isText_39 : decode cX6_isText 39 = .ok (.getfield 186, 3) := by decide +kernel
theorem dX6_isText_42 : decode cX6_isText 42 = .ok (.aload_n 0, 1) := by decide +kernel
theorem dX6_isText_43 : decode cX6_isText 43 = .ok (.getfield 183, 3) := by decide +kernel
theorem dX6_isText_46 : decode cX6_isText 46 = .ok (.if_icmp .ne 7, 3) := by decide +kernel
theorem dX6_isText_49 : decode cX6_isText 49 = .ok (.iconst 1, 1) := by decide +kernel
theorem dX6_isText_50 : decode cX6_isText 50 = .ok (.goto 4, 3) := by decide +kernel
theorem dX6_isText_53 : decode cX6_isText 53 = .ok (.iconst 0, 1) := by decide +kernel
theorem dX6_isText_54 : decode cX6_isText 54 = .ok (.ireturn, 1) := by decide +kernel
theorem dX6_carries_0 : decode cX6_carries 0 = .ok (.aload_n 0, 1) := by decide +kernel
theorem dX6_carries_1 : decode cX6_carries 1 = .ok (.getfield 33, 3) := by decide +kernel
theorem dX6_carries_4 : decode cX6_carries 4 = .ok (.iload_n 1, 1) := by decide +kernel
theorem dX6_carries_5 : decode cX6_carries 5 = .ok (.iconst 1, 1) := by decide +kernel
theorem dX6_carries_6 : decode cX6_carries 6 = .ok (.iadd, 1) := by decide +kernel
theorem dX6_carries_7 : decode cX6_carries 7 = .ok (.iaload, 1) := by decide +kernel
theorem dX6_carries_8 : decode cX6_carries 8 = .ok (.istore_n 2, 1) := by decide +kernel
theorem dX6_carries_9 : decode cX6_carries 9 = .ok (.aload_n 0, 1) := by decide +kernel
theorem dX6_carries_10 : decode cX6_carries 10 = .ok (.getfield 33, 3) := by decide +kernel
theorem dX6_carries_13 : decode cX6_carries 13 = .ok (.iload_n 1, 1) := by decide +kernel
theorem dX6_carries_14 : decode cX6_carries 14 = .ok (.iconst 2, 1) := by decide +kernel
theorem dX6_carries_15 : decode cX6_carries 15 = .ok (.iadd, 1) := by decide +kernel
theorem dX6_carries_16 : decode cX6_carries 16 = .ok (.iaload, 1) := by decide +kernel
theorem dX6_carries_17 : decode cX6_carries 17 = .ok (.istore_n 3, 1) := by decide +kernel
theorem dX6_carries_18 : decode cX6_carries 18 = .ok (.aload_n 0, 1) := by decide +kernel
theorem dX6_carries_19 : decode cX6_carries 19 = .ok (.getfield 33, 3) := by decide +kernel
theorem dX6_carries_22 : decode cX6_carries 22 = .ok (.iload_n 1, 1) := by decide +kernel
theorem dX6_carries_23 : decode cX6_carries 23 = .ok (.iaload, 1) := by decide +kernel
theorem dX6_carries_24 : decode cX6_carries 24 = .ok (.tableswitch 168 99 120 #[143, 168, 163, 168, 168, 104, 168, 168, 168, 136, 117, 168, 168, 168, 168, 150, 110, 168, 168, 168, 168, 157], 104) := by decide +kernel
theorem dX6_carries_128 : decode cX6_carries 128 = .ok (.aload_n 0, 1) := by decide +kernel
theorem dX6_carries_129 : decode cX6_carries 129 = .ok (.iload_n 2, 1) := by decide +kernel
theorem dX6_carries_130 : decode cX6_carries 130 = .ok (.invokevirtual 208, 3) := by decide +kernel
theorem dX6_carries_133 : decode cX6_carries 133 = .ok (.ireturn, 1) := by decide +kernel
theorem dX6_carries_134 : decode cX6_carries 134 = .ok (.aload_n 0, 1) := by decide +kernel
theorem dX6_carries_135 : decode cX6_carries 135 = .ok (.iload_n 2, 1) := by decide +kernel
theorem dX6_carries_136 : decode cX6_carries 136 = .ok (.iload_n 3, 1) := by decide +kernel
theorem dX6_carries_137 : decode cX6_carries 137 = .ok (.invokevirtual 211, 3) := by decide +kernel
theorem dX6_carries_140 : decode cX6_carries 140 = .ok (.ireturn, 1) := by decide +kernel
theorem dX6_carries_141 : decode cX6_carries 141 = .ok (.aload_n 0, 1) := by decide +kernel
theorem dX6_carries_142 : decode cX6_carries 142 = .ok (.iload_n 2, 1) := by decide +kernel
theorem dX6_carries_143 : decode cX6_carries 143 = .ok (.iload_n 3, 1) := by decide +kernel
theorem dX6_carries_144 : decode cX6_carries 144 = .ok (.bipush 96, 2) := by decide +kernel
theorem dX6_carries_146 : decode cX6_carries 146 = .ok (.aload_n 0, 1) := by decide +kernel
theorem dX6_carries_147 : decode cX6_carries 147 = .ok (.getfield 33, 3) := by decide +kernel
theorem dX6_carries_150 : decode cX6_carries 150 = .ok (.iload_n 1, 1) := by decide +kernel
theorem dX6_carries_151 : decode cX6_carries 151 = .ok (.iconst 3, 1) := by decide +kernel
theorem dX6_carries_152 : decode cX6_carries 152 = .ok (.iadd, 1) := by decide +kernel
theorem dX6_carries_153 : decode cX6_carries 153 = .ok (.iaload, 1) := by decide +kernel
theorem dX6_carries_154 : decode cX6_carries 154 = .ok (.iadd, 1) := by decide +kernel
theorem dX6_carries_155 : decode cX6_carries 155 = .ok (.i2c, 1) := by decide +kernel
theorem dX6_carries_156 : decode cX6_carries 156 = .ok (.invokevirtual 214, 3) := by decide +kernel
theorem dX6_carries_159 : decode cX6_carries 159 = .ok (.ireturn, 1) := by decide +kernel
theorem dX6_carries_160 : decode cX6_carries 160 = .ok (.aload_n 0, 1) := by decide +kernel
theorem dX6_carries_161 : decode cX6_carries 161 = .ok (.iload_n 2, 1) := by decide +kernel
theorem dX6_carries_162 : decode cX6_carries 162 = .ok (.iload_n 3, 1) := by decide +kernel
theorem dX6_carries_163 : decode cX6_carries 163 = .ok (.invokevirtual 218, 3) := by decide +kernel
theorem dX6_carries_166 : decode cX6_carries 166 = .ok (.ireturn, 1) := by decide +kernel
theorem dX6_carries_167 : decode cX6_carries 167 = .ok (.aload_n 0, 1) := by decide +kernel
theorem dX6_carries_168 : decode cX6_carries 168 = .ok (.iload_n 2, 1) := by decide +kernel
theorem dX6_carries_169 : decode cX6_carries 169 = .ok (.iload_n 3, 1) := by decide +kernel
theorem dX6_carries_170 : decode cX6_carries 170 = .ok (.invokevirtual 221, 3) := by decide +kernel
theorem dX6_carries_173 : decode cX6_carries 173 = .ok (.ireturn, 1) := by decide +kernel
theorem dX6_carries_174 : decode cX6_carries 174 = .ok (.aload_n 0, 1) := by decide +kernel
theorem dX6_carries_175 : decode cX6_carries 175 = .ok (.iload_n 2, 1) := by decide +kernel
theorem dX6_carries_176 : decode cX6_carries 176 = .ok (.iload_n 3, 1) := by decide +kernel
theorem dX6_carries_177 : decode cX6_carries 177 = .ok (.invokevirtual 224, 3) := by decide +kernel
theorem dX6_carries_180 : decode cX6_carries 180 = .ok (.ireturn, 1) := by decide +kernel
theorem dX6_carries_181 : decode cX6_carries 181 = .ok (.aload_n 0, 1) := by decide +kernel
theorem dX6_carries_182 : decode cX6_carries 182 = .ok (.iload_n 2, 1) := by decide +kernel
theorem dX6_carries_183 : decode cX6_carries 183 = .ok (.invokevirtual 227, 3) := by decide +kernel
theorem dX6_carries_186 : decode cX6_carries 186 = .ok (.ireturn, 1) := by decide +kernel
theorem dX6_carries_187 : decode cX6_carries 187 = .ok (.aload_n 0, 1) := by decide +kernel
theorem dX6_carries_188 : decode cX6_carries 188 = .ok (.invokevirtual 230, 3) := by decide +kernel
theorem dX6_carries_191 : decode cX6_carries 191 = .ok (.ireturn, 1) := by decide +kernel
theorem dX6_carries_192 : decode cX6_carries 192 = .ok (.aload_n 0, 1) := by decide +kernel
theorem dX6_carries_193 : decode cX6_carries 193 = .ok (.invokevirtual 233, 3) := by decide +kernel
theorem dX6_carries_196 : decode cX6_carries 196 = .ok (.ireturn, 1) := by decide +kernel
theorem dX6_refusesRun_0 : decode cX6_refusesRun 0 = .ok (.aload_n 0, 1) := by decide +kernel
theorem dX6_refusesRun_1 : decode cX6_refusesRun 1 = .ok (.getfield 43, 3) := by decide +kernel
theorem dX6_refusesRun_4 : decode cX6_refusesRun 4 = .ok (.istore_n 2, 1) := by decide +kernel
theorem dX6_refusesRun_5 : decode cX6_refusesRun 5 = .ok (.aload_n 0, 1) := by decide +kernel
theorem dX6_refusesRun_6 : decode cX6_refusesRun 6 = .ok (.getfield 46, 3) := by decide +kernel
theorem dX6_refusesRun_9 : decode cX6_refusesRun 9 = .ok (.istore_n 3, 1) := by decide +kernel
theorem dX6_refusesRun_10 : decode cX6_refusesRun 10 = .ok (.aload_n 0, 1) := by decide +kernel
theorem dX6_refusesRun_11 : decode cX6_refusesRun 11 = .ok (.iconst 2, 1) := by decide +kernel
theorem dX6_refusesRun_12 : decode cX6_refusesRun 12 = .ok (.bipush 9, 2) := by decide +kernel
theorem dX6_refusesRun_14 : decode cX6_refusesRun 14 = .ok (.iload_n 1, 1) := by decide +kernel
theorem dX6_refusesRun_15 : decode cX6_refusesRun 15 = .ok (.invokevirtual 89, 3) := by decide +kernel
theorem dX6_refusesRun_18 : decode cX6_refusesRun 18 = .ok (.pop, 1) := by decide +kernel
theorem dX6_refusesRun_19 : decode cX6_refusesRun 19 = .ok (.aload_n 0, 1) := by decide +kernel
theorem dX6_refusesRun_20 : decode cX6_refusesRun 20 = .ok (.iload_n 2, 1) := by decide +kernel
theorem dX6_refusesRun_21 : decode cX6_refusesRun 21 = .ok (.putfield 49, 3) := by decide +kernel
theorem dX6_refusesRun_24 : decode cX6_refusesRun 24 = .ok (.aload_n 0, 1) := by decide +kernel
theorem dX6_refusesRun_25 : decode cX6_refusesRun 25 = .ok (.iload_n 3, 1) := by decide +kernel
theorem dX6_refusesRun_26 : decode cX6_refusesRun 26 = .ok (.putfield 52, 3) := by decide +kernel
theorem dX6_refusesRun_29 : decode cX6_refusesRun 29 = .ok (.iconst 0, 1) := by decide +kernel
theorem dX6_refusesRun_30 : decode cX6_refusesRun 30 = .ok (.ireturn, 1) := by decide +kernel
theorem dX6_run_0 : decode cX6_run 0 = .ok (.aload_n 0, 1) := by decide +kernel
theorem dX6_run_1 : decode cX6_run 1 = .ok (.invokevirtual 236, 3) := by decide +kernel
theorem dX6_run_4 : decode cX6_run 4 = .ok (.istore_n 1, 1) := by decide +kernel
theorem dX6_run_5 : decode cX6_run 5 = .ok (.aload_n 0, 1) := by decide +kernel
theorem dX6_run_6 : decode cX6_run 6 = .ok (.iload_n 1, 1) := by decide +kernel
theorem dX6_run_7 : decode cX6_run 7 = .ok (.ifCond .eq 7, 3) := by decide +kernel
theorem dX6_run_10 : decode cX6_run 10 = .ok (.iconst (-1), 1) := by decide +kernel
theorem dX6_run_11 : decode cX6_run 11 = .ok (.goto 7, 3) := by decide +kernel
theorem dX6_run_14 : decode cX6_run 14 = .ok (.aload_n 0, 1) := by decide +kernel
theorem dX6_run_15 : decode cX6_run 15 = .ok (.getfield 186, 3) := by decide +kernel
theorem dX6_run_18 : decode cX6_run 18 = .ok (.putfield 25, 3) := by decide +kernel
theorem dX6_run_21 : decode cX6_run 21 = .ok (.aload_n 0, 1) := by decide +kernel
theorem dX6_run_22 : decode cX6_run 22 = .ok (.iconst 0, 1) := by decide +kernel
theorem dX6_run_23 : decode cX6_run 23 = .ok (.putfield 183, 3) := by decide +kernel
theorem dX6_run_26 : decode cX6_run 26 = .ok (.aload_n 0, 1) := by decide +kernel
theorem dX6_run_27 : decode cX6_run 27 = .ok (.iload_n 1, 1) := by decide +kernel
theorem dX6_run_28 : decode cX6_run 28 = .ok (.ifCond .eq 7, 3) := by decide +kernel
theorem dX6_run_31 : decode cX6_run 31 = .ok (.iconst 0, 1) := by decide +kernel
theorem dX6_run_32 : decode cX6_run 32 = .ok (.goto 4, 3) := by decide +kernel
theorem dX6_run_35 : decode cX6_run 35 = .ok (.iconst 1, 1) := by decide +kernel
theorem dX6_run_36 : decode cX6_run 36 = .ok (.invokevirtual 86, 3) := by decide +kernel
theorem dX6_run_39 : decode cX6_run 39 = .ok (.ifCond .eq 5, 3) := by decide +kernel
theorem dX6_run_42 : decode cX6_run 42 = .ok (.iconst 0, 1) := by decide +kernel
theorem dX6_run_43 : decode cX6_run 43 = .ok (.ireturn, 1) := by decide +kernel
theorem dX6_run_44 : decode cX6_run 44 = .ok (.aload_n 0, 1) := by decide +kernel
theorem dX6_run_45 : decode cX6_run 45 = .ok (.getfield 7, 3) := by decide +kernel
theorem dX6_run_48 : decode cX6_run 48 = .ok (.iconst 0, 1) := by decide +kernel
theorem dX6_run_49 : decode cX6_run 49 = .ok (.aload_n 0, 1) := by decide +kernel
theorem dX6_run_50 : decode cX6_run 50 = .ok (.getfield 19, 3) := by decide +kernel
theorem dX6_run_53 : decode cX6_run 53 = .ok (.iconst 0, 1) := by decide +kernel
theorem dX6_run_54 : decode cX6_run 54 = .ok (.invokestatic 61, 3) := by decide +kernel
theorem dX6_run_57 : decode cX6_run 57 = .ok (.aload_n 0, 1) := by decide +kernel
theorem dX6_run_58 : decode cX6_run 58 = .ok (.iconst 1, 1) := by decide +kernel
theorem dX6_run_59 : decode cX6_run 59 = .ok (.putfield 55, 3) := by decide +kernel
theorem dX6_run_62 : decode cX6_run 62 = .ok (.iconst 0, 1) := by decide +kernel
theorem dX6_run_63 : decode cX6_run 63 = .ok (.istore_n 2, 1) := by decide +kernel
theorem dX6_run_64 : decode cX6_run 64 = .ok (.iconst 0, 1) := by decide +kernel
theorem dX6_run_65 : decode cX6_run 65 = .ok (.istore_n 3, 1) := by decide +kernel
theorem dX6_run_66 : decode cX6_run 66 = .ok (.iload_n 2, 1) := by decide +kernel
theorem dX6_run_67 : decode cX6_run 67 = .ok (.aload_n 0, 1) := by decide +kernel
theorem dX6_run_68 : decode cX6_run 68 = .ok (.getfield 192, 3) := by decide +kernel
theorem dX6_run_71 : decode cX6_run 71 = .ok (.if_icmp .ge 31, 3) := by decide +kernel
theorem dX6_run_74 : decode cX6_run 74 = .ok (.aload_n 0, 1) := by decide +kernel
theorem dX6_run_75 : decode cX6_run 75 = .ok (.getfield 36, 3) := by decide +kernel
theorem dX6_run_78 : decode cX6_run 78 = .ok (.ifCond .ne 24, 3) := by decide +kernel
theorem dX6_run_81 : decode cX6_run 81 = .ok (.aload_n 0, 1) := by decide +kernel
theorem dX6_run_82 : decode cX6_run 82 = .ok (.iconst 4, 1) := by decide +kernel
theorem dX6_run_83 : decode cX6_run 83 = .ok (.iload_n 2, 1) := by decide +kernel
theorem dX6_run_84 : decode cX6_run 84 = .ok (.imul, 1) := by decide +kernel
theorem dX6_run_85 : decode cX6_run 85 = .ok (.invokevirtual 239, 3) := by decide +kernel
theorem dX6_run_88 : decode cX6_run 88 = .ok (.istore_n 3, 1) := by decide +kernel
theorem dX6_run_89 : decode cX6_run 89 = .ok (.aload_n 0, 1) := by decide +kernel
theorem dX6_run_90 : decode cX6_run 90 = .ok (.getfield 36, 3) := by decide +kernel
theorem dX6_run_93 : decode cX6_run 93 = .ok (.ifCond .ne (-27), 3) := by decide +kernel
theorem dX6_run_96 : decode cX6_run 96 = .ok (.iinc 2 1, 3) := by decide +kernel
theorem dX6_run_99 : decode cX6_run 99 = .ok (.goto (-33), 3) := by decide +kernel
theorem dX6_run_102 : decode cX6_run 102 = .ok (.aload_n 0, 1) := by decide +kernel
theorem dX6_run_103 : decode cX6_run 103 = .ok (.iconst 0, 1) := by decide +kernel
theorem dX6_run_104 : decode cX6_run 104 = .ok (.putfield 55, 3) := by decide +kernel
theorem dX6_run_107 : decode cX6_run 107 = .ok (.aload_n 0, 1) := by decide +kernel
theorem dX6_run_108 : decode cX6_run 108 = .ok (.getfield 36, 3) := by decide +kernel
theorem dX6_run_111 : decode cX6_run 111 = .ok (.ifCond .le 44, 3) := by decide +kernel
theorem dX6_run_114 : decode cX6_run 114 = .ok (.aload_n 0, 1) := by decide +kernel
theorem dX6_run_115 : decode cX6_run 115 = .ok (.getfield 19, 3) := by decide +kernel
theorem dX6_run_118 : decode cX6_run 118 = .ok (.iconst 0, 1) := by decide +kernel
theorem dX6_run_119 : decode cX6_run 119 = .ok (.aload_n 0, 1) := by decide +kernel
theorem dX6_run_120 : decode cX6_run 120 = .ok (.getfield 7, 3) := by decide +kernel
theorem dX6_run_123 : decode cX6_run 123 = .ok (.iconst 0, 1) := by decide +kernel
theorem dX6_run_124 : decode cX6_run 124 = .ok (.invokestatic 61, 3) := by decide +kernel
theorem dX6_run_127 : decode cX6_run 127 = .ok (.aload_n 0, 1) := by decide +kernel
theorem dX6_run_128 : decode cX6_run 128 = .ok (.getfield 39, 3) := by decide +kernel
theorem dX6_run_131 : decode cX6_run 131 = .ok (.ifCond .eq 9, 3) := by decide +kernel
theorem dX6_run_134 : decode cX6_run 134 = .ok (.aload_n 0, 1) := by decide +kernel
theorem dX6_run_135 : decode cX6_run 135 = .ok (.iload_n 2, 1) := by decide +kernel
theorem dX6_run_136 : decode cX6_run 136 = .ok (.invokevirtual 242, 3) := by decide +kernel
theorem dX6_run_139 : decode cX6_run 139 = .ok (.ireturn, 1) := by decide +kernel
theorem dX6_run_140 : decode cX6_run 140 = .ok (.aload_n 0, 1) := by decide +kernel
theorem dX6_run_141 : decode cX6_run 141 = .ok (.iconst 1, 1) := by decide +kernel
theorem dX6_run_142 : decode cX6_run 142 = .ok (.putfield 36, 3) := by decide +kernel
theorem dX6_run_145 : decode cX6_run 145 = .ok (.iload_n 3, 1) := by decide +kernel
theorem dX6_run_146 : decode cX6_run 146 = .ok (.ifCond .le 7, 3) := by decide +kernel
theorem dX6_run_149 : decode cX6_run 149 = .ok (.iconst 0, 1) := by decide +kernel
theorem dX6_run_150 : decode cX6_run 150 = .ok (.goto 4, 3) := by decide +kernel
theorem dX6_run_153 : decode cX6_run 153 = .ok (.iload_n 3, 1) := by decide +kernel
theorem dX6_run_154 : decode cX6_run 154 = .ok (.ireturn, 1) := by decide +kernel
theorem dX6_run_155 : decode cX6_run 155 = .ok (.aload_n 0, 1) := by decide +kernel
theorem dX6_run_156 : decode cX6_run 156 = .ok (.aload_n 0, 1) := by decide +kernel
theorem dX6_run_157 : decode cX6_run 157 = .ok (.getfield 19, 3) := by decide +kernel
theorem dX6_run_160 : decode cX6_run 160 = .ok (.invokevirtual 93, 3) := by decide +kernel
theorem dX6_run_163 : decode cX6_run 163 = .ok (.aload_n 0, 1) := by decide +kernel
theorem dX6_run_164 : decode cX6_run 164 = .ok (.getfield 192, 3) := by decide +kernel
theorem dX6_run_167 : decode cX6_run 167 = .ok (.ireturn, 1) := by decide +kernel
theorem dX6_errorPosition_0 : decode cX6_errorPosition 0 = .ok (.aload_n 0, 1) := by decide +kernel
theorem dX6_errorPosition_1 : decode cX6_errorPosition 1 = .ok (.iconst 0, 1) := by decide +kernel
theorem dX6_errorPosition_2 : decode cX6_errorPosition 2 = .ok (.putfield 36, 3) := by decide +kernel
theorem dX6_errorPosition_5 : decode cX6_errorPosition 5 = .ok (.aload_n 0, 1) := by decide +kernel
theorem dX6_errorPosition_6 : decode cX6_errorPosition 6 = .ok (.getfield 25, 3) := by decide +kernel
theorem dX6_errorPosition_9 : decode cX6_errorPosition 9 = .ok (.ireturn, 1) := by decide +kernel
theorem dX6_refusal_0 : decode cX6_refusal 0 = .ok (.aload_n 0, 1) := by decide +kernel
theorem dX6_refusal_1 : decode cX6_refusal 1 = .ok (.iload_n 1, 1) := by decide +kernel
theorem dX6_refusal_2 : decode cX6_refusal 2 = .ok (.ifCond .eq 10, 3) := by decide +kernel
theorem dX6_refusal_5 : decode cX6_refusal 5 = .ok (.aload_n 0, 1) := by decide +kernel
theorem dX6_refusal_6 : decode cX6_refusal 6 = .ok (.getfield 49, 3) := by decide +kernel
theorem dX6_refusal_9 : decode cX6_refusal 9 = .ok (.goto 7, 3) := by decide +kernel
theorem dX6_refusal_12 : decode cX6_refusal 12 = .ok (.aload_n 0, 1) := by decide +kernel
theorem dX6_refusal_13 : decode cX6_refusal 13 = .ok (.getfield 43, 3) := by decide +kernel
theorem dX6_refusal_16 : decode cX6_refusal 16 = .ok (.ifCond .ne 7, 3) := by decide +kernel
theorem dX6_refusal_19 : decode cX6_refusal 19 = .ok (.iconst 1, 1) := by decide +kernel
theorem dX6_refusal_20 : decode cX6_refusal 20 = .ok (.goto 4, 3) := by decide +kernel
theorem dX6_refusal_23 : decode cX6_refusal 23 = .ok (.iconst 0, 1) := by decide +kernel
theorem dX6_refusal_24 : decode cX6_refusal 24 = .ok (.invokevirtual 86, 3) := by decide +kernel
theorem dX6_refusal_27 : decode cX6_refusal 27 = .ok (.ifCond .eq 5, 3) := by decide +kernel
theorem dX6_refusal_30 : decode cX6_refusal 30 = .ok (.iconst 0, 1) := by decide +kernel
theorem dX6_refusal_31 : decode cX6_refusal 31 = .ok (.ireturn, 1) := by decide +kernel
theorem dX6_refusal_32 : decode cX6_refusal 32 = .ok (.iload_n 1, 1) := by decide +kernel
theorem dX6_refusal_33 : decode cX6_refusal 33 = .ok (.ifCond .eq 21, 3) := by decide +kernel
theorem dX6_refusal_36 : decode cX6_refusal 36 = .ok (.iload_n 2, 1) := by decide +kernel
theorem dX6_refusal_37 : decode cX6_refusal 37 = .ok (.ifCond .eq 10, 3) := by decide +kernel
theorem dX6_refusal_40 : decode cX6_refusal 40 = .ok (.aload_n 0, 1) := by decide +kernel
theorem dX6_refusal_41 : decode cX6_refusal 41 = .ok (.getfield 52, 3) := by decide +kernel
theorem dX6_refusal_44 : decode cX6_refusal 44 = .ok (.goto 25, 3) := by decide +kernel
theorem dX6_refusal_47 : decode cX6_refusal 47 = .ok (.aload_n 0, 1) := by decide +kernel
theorem dX6_refusal_48 : decode cX6_refusal 48 = .ok (.getfield 49, 3) := by decide +kernel
theorem dX6_refusal_51 : decode cX6_refusal 51 = .ok (.goto 18, 3) := by decide +kernel
theorem dX6_refusal_54 : decode cX6_refusal 54 = .ok (.iload_n 2, 1) := by decide +kernel
theorem dX6_refusal_55 : decode cX6_refusal 55 = .ok (.ifCond .eq 10, 3) := by decide +kernel
theorem dX6_refusal_58 : decode cX6_refusal 58 = .ok (.aload_n 0, 1) := by decide +kernel
theorem dX6_refusal_59 : decode cX6_refusal 59 = .ok (.getfield 46, 3) := by decide +kernel
theorem dX6_refusal_62 : decode cX6_refusal 62 = .ok (.goto 7, 3) := by decide +kernel
theorem dX6_refusal_65 : decode cX6_refusal 65 = .ok (.aload_n 0, 1) := by decide +kernel
theorem dX6_refusal_66 : decode cX6_refusal 66 = .ok (.getfield 43, 3) := by decide +kernel
theorem dX6_refusal_69 : decode cX6_refusal 69 = .ok (.ireturn, 1) := by decide +kernel
theorem dX6_all_0 : decode cX6_all 0 = .ok (.iconst 0, 1) := by decide +kernel
theorem dX6_all_1 : decode cX6_all 1 = .ok (.istore_n 2, 1) := by decide +kernel
theorem dX6_all_2 : decode cX6_all 2 = .ok (.iconst 0, 1) := by decide +kernel
theorem dX6_all_3 : decode cX6_all 3 = .ok (.istore_n 3, 1) := by decide +kernel
theorem dX6_all_4 : decode cX6_all 4 = .ok (.iload_n 3, 1) := by decide +kernel
theorem dX6_all_5 : decode cX6_all 5 = .ok (.aload_n 0, 1) := by decide +kernel
theorem dX6_all_6 : decode cX6_all 6 = .ok (.getfield 7, 3) := by decide +kernel
theorem dX6_all_9 : decode cX6_all 9 = .ok (.iconst 1, 1) := by decide +kernel
theorem dX6_all_10 : decode cX6_all 10 = .ok (.iaload, 1) := by decide +kernel
theorem dX6_all_11 : decode cX6_all 11 = .ok (.if_icmp .ge 18, 3) := by decide +kernel
theorem dX6_all_14 : decode cX6_all 14 = .ok (.iload_n 2, 1) := by decide +kernel
theorem dX6_all_15 : decode cX6_all 15 = .ok (.aload_n 0, 1) := by decide +kernel
theorem dX6_all_16 : decode cX6_all 16 = .ok (.iload_n 3, 1) := by decide +kernel
theorem dX6_all_17 : decode cX6_all 17 = .ok (.iload_n 1, 1) := by decide +kernel
theorem dX6_all_18 : decode cX6_all 18 = .ok (.invokevirtual 118, 3) := by decide +kernel
theorem dX6_all_21 : decode cX6_all 21 = .ok (.iadd, 1) := by decide +kernel
theorem dX6_all_22 : decode cX6_all 22 = .ok (.istore_n 2, 1) := by decide +kernel
theorem dX6_all_23 : decode cX6_all 23 = .ok (.iinc 3 1, 3) := by decide +kernel
theorem dX6_all_26 : decode cX6_all 26 = .ok (.goto (-22), 3) := by decide +kernel
theorem dX6_all_29 : decode cX6_all 29 = .ok (.iload_n 2, 1) := by decide +kernel
theorem dX6_all_30 : decode cX6_all 30 = .ok (.ireturn, 1) := by decide +kernel
theorem dX6_summed_0 : decode cX6_summed 0 = .ok (.iconst 0, 1) := by decide +kernel
theorem dX6_summed_1 : decode cX6_summed 1 = .ok (.istore_n 2, 1) := by decide +kernel
theorem dX6_summed_2 : decode cX6_summed 2 = .ok (.iconst 0, 1) := by decide +kernel
theorem dX6_summed_3 : decode cX6_summed 3 = .ok (.istore_n 3, 1) := by decide +kernel
theorem dX6_summed_4 : decode cX6_summed 4 = .ok (.iload_n 3, 1) := by decide +kernel
theorem dX6_summed_5 : decode cX6_summed 5 = .ok (.aload_n 0, 1) := by decide +kernel
theorem dX6_summed_6 : decode cX6_summed 6 = .ok (.getfield 7, 3) := by decide +kernel
theorem dX6_summed_9 : decode cX6_summed 9 = .ok (.iconst 0, 1) := by decide +kernel
theorem dX6_summed_10 : decode cX6_summed 10 = .ok (.iaload, 1) := by decide +kernel
theorem dX6_summed_11 : decode cX6_summed 11 = .ok (.if_icmp .ge 18, 3) := by decide +kernel
theorem dX6_summed_14 : decode cX6_summed 14 = .ok (.iload_n 2, 1) := by decide +kernel
theorem dX6_summed_15 : decode cX6_summed 15 = .ok (.aload_n 0, 1) := by decide +kernel
theorem dX6_summed_16 : decode cX6_summed 16 = .ok (.iload_n 3, 1) := by decide +kernel
theorem dX6_summed_17 : decode cX6_summed 17 = .ok (.iload_n 1, 1) := by decide +kernel
theorem dX6_summed_18 : decode cX6_summed 18 = .ok (.invokevirtual 65, 3) := by decide +kernel
theorem dX6_summed_21 : decode cX6_summed 21 = .ok (.iadd, 1) := by decide +kernel
theorem dX6_summed_22 : decode cX6_summed 22 = .ok (.istore_n 2, 1) := by decide +kernel
theorem dX6_summed_23 : decode cX6_summed 23 = .ok (.iinc 3 1, 3) := by decide +kernel
theorem dX6_summed_26 : decode cX6_summed 26 = .ok (.goto (-22), 3) := by decide +kernel
theorem dX6_summed_29 : decode cX6_summed 29 = .ok (.iload_n 2, 1) := by decide +kernel
theorem dX6_summed_30 : decode cX6_summed 30 = .ok (.ireturn, 1) := by decide +kernel
theorem dX6_account_0 : decode cX6_account 0 = .ok (.aload_n 0, 1) := by decide +kernel
theorem dX6_account_1 : decode cX6_account 1 = .ok (.iload_n 1, 1) := by decide +kernel
theorem dX6_account_2 : decode cX6_account 2 = .ok (.iconst 0, 1) := by decide +kernel
theorem dX6_account_3 : decode cX6_account 3 = .ok (.bipush 14, 2) := by decide +kernel
theorem dX6_account_5 : decode cX6_account 5 = .ok (.invokestatic 72, 3) := by decide +kernel
theorem dX6_account_8 : decode cX6_account 8 = .ok (.ifCond .eq 7, 3) := by decide +kernel
theorem dX6_account_11 : decode cX6_account 11 = .ok (.iconst 0, 1) := by decide +kernel
theorem dX6_account_12 : decode cX6_account 12 = .ok (.goto 4, 3) := by decide +kernel
theorem dX6_account_15 : decode cX6_account 15 = .ok (.iconst 1, 1) := by decide +kernel
theorem dX6_account_16 : decode cX6_account 16 = .ok (.invokevirtual 86, 3) := by decide +kernel
theorem dX6_account_19 : decode cX6_account 19 = .ok (.ifCond .eq 5, 3) := by decide +kernel
theorem dX6_account_22 : decode cX6_account 22 = .ok (.iconst 0, 1) := by decide +kernel
theorem dX6_account_23 : decode cX6_account 23 = .ok (.ireturn, 1) := by decide +kernel
theorem dX6_account_24 : decode cX6_account 24 = .ok (.iload_n 1, 1) := by decide +kernel
theorem dX6_account_25 : decode cX6_account 25 = .ok (.tableswitch 110 5 14 #[55, 55, 55, 63, 70, 78, 86, 94, 100, 105], 55) := by decide +kernel
theorem dX6_account_80 : decode cX6_account 80 = .ok (.aload_n 0, 1) := by decide +kernel
theorem dX6_account_81 : decode cX6_account 81 = .ok (.iload_n 1, 1) := by decide +kernel
theorem dX6_account_82 : decode cX6_account 82 = .ok (.iconst 4, 1) := by decide +kernel
theorem dX6_account_83 : decode cX6_account 83 = .ok (.isub, 1) := by decide +kernel
theorem dX6_account_84 : decode cX6_account 84 = .ok (.invokevirtual 245, 3) := by decide +kernel
theorem dX6_account_87 : decode cX6_account 87 = .ok (.ireturn, 1) := by decide +kernel
theorem dX6_account_88 : decode cX6_account 88 = .ok (.aload_n 0, 1) := by decide +kernel
theorem dX6_account_89 : decode cX6_account 89 = .ok (.getfield 7, 3) := by decide +kernel
theorem dX6_account_92 : decode cX6_account 92 = .ok (.iconst 5, 1) := by decide +kernel
theorem dX6_account_93 : decode cX6_account 93 = .ok (.iaload, 1) := by decide +kernel
theorem dX6_account_94 : decode cX6_account 94 = .ok (.ireturn, 1) := by decide +kernel
theorem dX6_account_95 : decode cX6_account 95 = .ok (.aload_n 0, 1) := by decide +kernel
theorem dX6_account_96 : decode cX6_account 96 = .ok (.getfield 7, 3) := by decide +kernel
theorem dX6_account_99 : decode cX6_account 99 = .ok (.bipush 6, 2) := by decide +kernel
theorem dX6_account_101 : decode cX6_account 101 = .ok (.iaload, 1) := by decide +kernel
theorem dX6_account_102 : decode cX6_account 102 = .ok (.ireturn, 1) := by decide +kernel
theorem dX6_account_103 : decode cX6_account 103 = .ok (.aload_n 0, 1) := by decide +kernel
theorem dX6_account_104 : decode cX6_account 104 = .ok (.getfield 7, 3) := by decide +kernel
theorem dX6_account_107 : decode cX6_account 107 = .ok (.bipush 7, 2) := by decide +kernel
theorem dX6_account_109 : decode cX6_account 109 = .ok (.iaload, 1) := by decide +kernel
theorem dX6_account_110 : decode cX6_account 110 = .ok (.ireturn, 1) := by decide +kernel
theorem dX6_account_111 : decode cX6_account 111 = .ok (.aload_n 0, 1) := by decide +kernel
theorem dX6_account_112 : decode cX6_account 112 = .ok (.getfield 7, 3) := by decide +kernel
theorem dX6_account_115 : decode cX6_account 115 = .ok (.bipush 8, 2) := by decide +kernel
theorem dX6_account_117 : decode cX6_account 117 = .ok (.iaload, 1) := by decide +kernel
theorem dX6_account_118 : decode cX6_account 118 = .ok (.ireturn, 1) := by decide +kernel
theorem dX6_account_119 : decode cX6_account 119 = .ok (.aload_n 0, 1) := by decide +kernel
theorem dX6_account_120 : decode cX6_account 120 = .ok (.iconst 0, 1) := by decide +kernel
theorem dX6_account_121 : decode cX6_account 121 = .ok (.invokevirtual 248, 3) := by decide +kernel
theorem dX6_account_124 : decode cX6_account 124 = .ok (.ireturn, 1) := by decide +kernel
theorem dX6_account_125 : decode cX6_account 125 = .ok (.aload_n 0, 1) := by decide +kernel
theorem dX6_account_126 : decode cX6_account 126 = .ok (.getfield 183, 3) := by decide +kernel
theorem dX6_account_129 : decode cX6_account 129 = .ok (.ireturn, 1) := by decide +kernel
theorem dX6_account_130 : decode cX6_account 130 = .ok (.aload_n 0, 1) := by decide +kernel
theorem dX6_account_131 : decode cX6_account 131 = .ok (.getfield 58, 3) := by decide +kernel
theorem dX6_account_134 : decode cX6_account 134 = .ok (.ireturn, 1) := by decide +kernel
theorem dX6_account_135 : decode cX6_account 135 = .ok (.aload_n 0, 1) := by decide +kernel
theorem dX6_account_136 : decode cX6_account 136 = .ok (.getfield 7, 3) := by decide +kernel
theorem dX6_account_139 : decode cX6_account 139 = .ok (.iload_n 1, 1) := by decide +kernel
theorem dX6_account_140 : decode cX6_account 140 = .ok (.iaload, 1) := by decide +kernel
theorem dX6_account_141 : decode cX6_account 141 = .ok (.ireturn, 1) := by decide +kernel
theorem dX6_isWell_0 : decode cX6_isWell 0 = .ok (.aload_n 0, 1) := by decide +kernel
theorem dX6_isWell_1 : decode cX6_isWell 1 = .ok (.iconst 0, 1) := by decide +kernel
theorem dX6_isWell_2 : decode cX6_isWell 2 = .ok (.putfield 36, 3) := by decide +kernel
theorem dX6_isWell_5 : decode cX6_isWell 5 = .ok (.iconst 0, 1) := by decide +kernel
theorem dX6_isWell_6 : decode cX6_isWell 6 = .ok (.istore_n 1, 1) := by decide +kernel
theorem dX6_isWell_7 : decode cX6_isWell 7 = .ok (.iload_n 1, 1) := by decide +kernel
theorem dX6_isWell_8 : decode cX6_isWell 8 = .ok (.aload_n 0, 1) := by decide +kernel
theorem dX6_isWell_9 : decode cX6_isWell 9 = .ok (.getfield 7, 3) := by decide +kernel
theorem dX6_isWell_12 : decode cX6_isWell 12 = .ok (.iconst 1, 1) := by decide +kernel
theorem dX6_isWell_13 : decode cX6_isWell 13 = .ok (.iaload, 1) := by decide +kernel
theorem dX6_isWell_14 : decode cX6_isWell 14 = .ok (.if_icmp .ge 60, 3) := by decide +kernel
theorem dX6_isWell_17 : decode cX6_isWell 17 = .ok (.iconst 0, 1) := by decide +kernel
theorem dX6_isWell_18 : decode cX6_isWell 18 = .ok (.istore_n 2, 1) := by decide +kernel
theorem dX6_isWell_19 : decode cX6_isWell 19 = .ok (.iload_n 2, 1) := by decide +kernel
theorem dX6_isWell_20 : decode cX6_isWell 20 = .ok (.aload_n 0, 1) := by decide +kernel
theorem dX6_isWell_21 : decode cX6_isWell 21 = .ok (.iload_n 1, 1) := by decide +kernel
theorem dX6_isWell_22 : decode cX6_isWell 22 = .ok (.iconst 1, 1) := by decide +kernel
theorem dX6_isWell_23 : decode cX6_isWell 23 = .ok (.invokevirtual 80, 3) := by decide +kernel
theorem dX6_isWell_26 : decode cX6_isWell 26 = .ok (.if_icmp .ge 42, 3) := by decide +kernel
theorem dX6_isWell_29 : decode cX6_isWell 29 = .ok (.aload_n 0, 1) := by decide +kernel
theorem dX6_isWell_30 : decode cX6_isWell 30 = .ok (.iload_n 1, 1) := by decide +kernel
theorem dX6_isWell_31 : decode cX6_isWell 31 = .ok (.iload_n 2, 1) := by decide +kernel
theorem dX6_isWell_32 : decode cX6_isWell 32 = .ok (.invokevirtual 111, 3) := by decide +kernel
theorem dX6_isWell_35 : decode cX6_isWell 35 = .ok (.ifCond .le 7, 3) := by decide +kernel
theorem dX6_isWell_38 : decode cX6_isWell 38 = .ok (.iconst 1, 1) := by decide +kernel
theorem dX6_isWell_39 : decode cX6_isWell 39 = .ok (.goto 4, 3) := by decide +kernel
theorem dX6_isWell_42 : decode cX6_isWell 42 = .ok (.iconst 0, 1) := by decide +kernel
theorem dX6_isWell_43 : decode cX6_isWell 43 = .ok (.aload_n 0, 1) := by decide +kernel
theorem dX6_isWell_44 : decode cX6_isWell 44 = .ok (.iload_n 1, 1) := by decide +kernel
theorem dX6_isWell_45 : decode cX6_isWell 45 = .ok (.iload_n 2, 1) := by decide +kernel
theorem dX6_isWell_46 : decode cX6_isWell 46 = .ok (.invokevirtual 130, 3) := by decide +kernel
theorem dX6_isWell_49 : decode cX6_isWell 49 = .ok (.ifCond .le 7, 3) := by decide +kernel
theorem dX6_isWell_52 : decode cX6_isWell 52 = .ok (.iconst 1, 1) := by decide +kernel
theorem dX6_isWell_53 : decode cX6_isWell 53 = .ok (.goto 4, 3) := by decide +kernel
theorem dX6_isWell_56 : decode cX6_isWell 56 = .ok (.iconst 0, 1) := by decide +kernel
theorem dX6_isWell_57 : decode cX6_isWell 57 = .ok (.if_icmp .eq 5, 3) := by decide +kernel
theorem dX6_isWell_60 : decode cX6_isWell 60 = .ok (.iconst 0, 1) := by decide +kernel
theorem dX6_isWell_61 : decode cX6_isWell 61 = .ok (.ireturn, 1) := by decide +kernel
theorem dX6_isWell_62 : decode cX6_isWell 62 = .ok (.iinc 2 1, 3) := by decide +kernel
theorem dX6_isWell_65 : decode cX6_isWell 65 = .ok (.goto (-46), 3) := by decide +kernel
theorem dX6_isWell_68 : decode cX6_isWell 68 = .ok (.iinc 1 1, 3) := by decide +kernel
theorem dX6_isWell_71 : decode cX6_isWell 71 = .ok (.goto (-64), 3) := by decide +kernel
theorem dX6_isWell_74 : decode cX6_isWell 74 = .ok (.iconst 1, 1) := by decide +kernel
theorem dX6_isWell_75 : decode cX6_isWell 75 = .ok (.ireturn, 1) := by decide +kernel
theorem dX6_meanShame_0 : decode cX6_meanShame 0 = .ok (.aload_n 0, 1) := by decide +kernel
theorem dX6_meanShame_1 : decode cX6_meanShame 1 = .ok (.aload_n 0, 1) := by decide +kernel
theorem dX6_meanShame_2 : decode cX6_meanShame 2 = .ok (.getfield 7, 3) := by decide +kernel
theorem dX6_meanShame_5 : decode cX6_meanShame 5 = .ok (.iconst 0, 1) := by decide +kernel
theorem dX6_meanShame_6 : decode cX6_meanShame 6 = .ok (.iaload, 1) := by decide +kernel
theorem dX6_meanShame_7 : decode cX6_meanShame 7 = .ok (.ifCond .ne 7, 3) := by decide +kernel
theorem dX6_meanShame_10 : decode cX6_meanShame 10 = .ok (.iconst 1, 1) := by decide +kernel
theorem dX6_meanShame_11 : decode cX6_meanShame 11 = .ok (.goto 4, 3) := by decide +kernel
theorem dX6_meanShame_14 : decode cX6_meanShame 14 = .ok (.iconst 0, 1) := by decide +kernel
theorem dX6_meanShame_15 : decode cX6_meanShame 15 = .ok (.invokevirtual 86, 3) := by decide +kernel
theorem dX6_meanShame_18 : decode cX6_meanShame 18 = .ok (.ifCond .eq 7, 3) := by decide +kernel
theorem dX6_meanShame_21 : decode cX6_meanShame 21 = .ok (.dconst 0, 1) := by decide +kernel
theorem dX6_meanShame_22 : decode cX6_meanShame 22 = .ok (.goto 17, 3) := by decide +kernel
theorem dX6_meanShame_25 : decode cX6_meanShame 25 = .ok (.aload_n 0, 1) := by decide +kernel
theorem dX6_meanShame_26 : decode cX6_meanShame 26 = .ok (.iconst 1, 1) := by decide +kernel
theorem dX6_meanShame_27 : decode cX6_meanShame 27 = .ok (.invokevirtual 248, 3) := by decide +kernel
theorem dX6_meanShame_30 : decode cX6_meanShame 30 = .ok (.i2d, 1) := by decide +kernel
theorem dX6_meanShame_31 : decode cX6_meanShame 31 = .ok (.aload_n 0, 1) := by decide +kernel
theorem dX6_meanShame_32 : decode cX6_meanShame 32 = .ok (.getfield 7, 3) := by decide +kernel
theorem dX6_meanShame_35 : decode cX6_meanShame 35 = .ok (.iconst 0, 1) := by decide +kernel
theorem dX6_meanShame_36 : decode cX6_meanShame 36 = .ok (.iaload, 1) := by decide +kernel
theorem dX6_meanShame_37 : decode cX6_meanShame 37 = .ok (.i2d, 1) := by decide +kernel
theorem dX6_meanShame_38 : decode cX6_meanShame 38 = .ok (.ddiv, 1) := by decide +kernel
theorem dX6_meanShame_39 : decode cX6_meanShame 39 = .ok (.dreturn, 1) := by decide +kernel
theorem dX6_errorShare_0 : decode cX6_errorShare 0 = .ok (.aload_n 0, 1) := by decide +kernel
theorem dX6_errorShare_1 : decode cX6_errorShare 1 = .ok (.aload_n 0, 1) := by decide +kernel
theorem dX6_errorShare_2 : decode cX6_errorShare 2 = .ok (.getfield 7, 3) := by decide +kernel
theorem dX6_errorShare_5 : decode cX6_errorShare 5 = .ok (.iconst 1, 1) := by decide +kernel
theorem dX6_errorShare_6 : decode cX6_errorShare 6 = .ok (.iaload, 1) := by decide +kernel
theorem dX6_errorShare_7 : decode cX6_errorShare 7 = .ok (.ifCond .ne 7, 3) := by decide +kernel
theorem dX6_errorShare_10 : decode cX6_errorShare 10 = .ok (.iconst 1, 1) := by decide +kernel
theorem dX6_errorShare_11 : decode cX6_errorShare 11 = .ok (.goto 4, 3) := by decide +kernel
theorem dX6_errorShare_14 : decode cX6_errorShare 14 = .ok (.iconst 0, 1) := by decide +kernel
theorem dX6_errorShare_15 : decode cX6_errorShare 15 = .ok (.invokevirtual 86, 3) := by decide +kernel
theorem dX6_errorShare_18 : decode cX6_errorShare 18 = .ok (.ifCond .eq 5, 3) := by decide +kernel
theorem dX6_errorShare_21 : decode cX6_errorShare 21 = .ok (.fconst 0, 1) := by decide +kernel
theorem dX6_errorShare_22 : decode cX6_errorShare 22 = .ok (.freturn, 1) := by decide +kernel
theorem dX6_errorShare_23 : decode cX6_errorShare 23 = .ok (.iconst 0, 1) := by decide +kernel
theorem dX6_errorShare_24 : decode cX6_errorShare 24 = .ok (.istore_n 1, 1) := by decide +kernel
theorem dX6_errorShare_25 : decode cX6_errorShare 25 = .ok (.iconst 0, 1) := by decide +kernel
theorem dX6_errorShare_26 : decode cX6_errorShare 26 = .ok (.istore_n 2, 1) := by decide +kernel
theorem dX6_errorShare_27 : decode cX6_errorShare 27 = .ok (.iload_n 2, 1) := by decide +kernel
theorem dX6_errorShare_28 : decode cX6_errorShare 28 = .ok (.aload_n 0, 1) := by decide +kernel
theorem dX6_errorShare_29 : decode cX6_errorShare 29 = .ok (.getfield 7, 3) := by decide +kernel
theorem dX6_errorShare_32 : decode cX6_errorShare 32 = .ok (.iconst 1, 1) := by decide +kernel
theorem dX6_errorShare_33 : decode cX6_errorShare 33 = .ok (.iaload, 1) := by decide +kernel
theorem dX6_errorShare_34 : decode cX6_errorShare 34 = .ok (.if_icmp .ge 18, 3) := by decide +kernel
theorem dX6_errorShare_37 : decode cX6_errorShare 37 = .ok (.iload_n 1, 1) := by decide +kernel
theorem dX6_errorShare_38 : decode cX6_errorShare 38 = .ok (.aload_n 0, 1) := by decide +kernel
theorem dX6_errorShare_39 : decode cX6_errorShare 39 = .ok (.iload_n 2, 1) := by decide +kernel
theorem dX6_errorShare_40 : decode cX6_errorShare 40 = .ok (.iconst 1, 1) := by decide +kernel
theorem dX6_errorShare_41 : decode cX6_errorShare 41 = .ok (.invokevirtual 80, 3) := by decide +kernel
theorem dX6_errorShare_44 : decode cX6_errorShare 44 = .ok (.iadd, 1) := by decide +kernel
theorem dX6_errorShare_45 : decode cX6_errorShare 45 = .ok (.istore_n 1, 1) := by decide +kernel
theorem dX6_errorShare_46 : decode cX6_errorShare 46 = .ok (.iinc 2 1, 3) := by decide +kernel
theorem dX6_errorShare_49 : decode cX6_errorShare 49 = .ok (.goto (-22), 3) := by decide +kernel
theorem dX6_errorShare_52 : decode cX6_errorShare 52 = .ok (.aload_n 0, 1) := by decide +kernel
theorem dX6_errorShare_53 : decode cX6_errorShare 53 = .ok (.iconst 1, 1) := by decide +kernel
theorem dX6_errorShare_54 : decode cX6_errorShare 54 = .ok (.invokevirtual 245, 3) := by decide +kernel
theorem dX6_errorShare_57 : decode cX6_errorShare 57 = .ok (.i2f, 1) := by decide +kernel
theorem dX6_errorShare_58 : decode cX6_errorShare 58 = .ok (.iload_n 1, 1) := by decide +kernel
theorem dX6_errorShare_59 : decode cX6_errorShare 59 = .ok (.i2f, 1) := by decide +kernel
theorem dX6_errorShare_60 : decode cX6_errorShare 60 = .ok (.fdiv, 1) := by decide +kernel
theorem dX6_errorShare_61 : decode cX6_errorShare 61 = .ok (.freturn, 1) := by decide +kernel
theorem dX6_undo_0 : decode cX6_undo 0 = .ok (.aload_n 0, 1) := by decide +kernel
theorem dX6_undo_1 : decode cX6_undo 1 = .ok (.aload_n 0, 1) := by decide +kernel
theorem dX6_undo_2 : decode cX6_undo 2 = .ok (.getfield 58, 3) := by decide +kernel
theorem dX6_undo_5 : decode cX6_undo 5 = .ok (.ifCond .ne 7, 3) := by decide +kernel
theorem dX6_undo_8 : decode cX6_undo 8 = .ok (.iconst 1, 1) := by decide +kernel
theorem dX6_undo_9 : decode cX6_undo 9 = .ok (.goto 4, 3) := by decide +kernel
theorem dX6_undo_12 : decode cX6_undo 12 = .ok (.iconst 0, 1) := by decide +kernel
theorem dX6_undo_13 : decode cX6_undo 13 = .ok (.invokevirtual 86, 3) := by decide +kernel
theorem dX6_undo_16 : decode cX6_undo 16 = .ok (.ifCond .eq 5, 3) := by decide +kernel
theorem dX6_undo_19 : decode cX6_undo 19 = .ok (.iconst 0, 1) := by decide +kernel
theorem dX6_undo_20 : decode cX6_undo 20 = .ok (.ireturn, 1) := by decide +kernel
theorem dX6_undo_21 : decode cX6_undo 21 = .ok (.aload_n 0, 1) := by decide +kernel
theorem dX6_undo_22 : decode cX6_undo 22 = .ok (.dup, 1) := by decide +kernel
theorem dX6_undo_23 : decode cX6_undo 23 = .ok (.getfield 58, 3) := by decide +kernel
theorem dX6_undo_26 : decode cX6_undo 26 = .ok (.iconst 1, 1) := by decide +kernel
theorem dX6_undo_27 : decode cX6_undo 27 = .ok (.isub, 1) := by decide +kernel
theorem dX6_undo_28 : decode cX6_undo 28 = .ok (.putfield 58, 3) := by decide +kernel
theorem dX6_undo_31 : decode cX6_undo 31 = .ok (.aload_n 0, 1) := by decide +kernel
theorem dX6_undo_32 : decode cX6_undo 32 = .ok (.getfield 13, 3) := by decide +kernel
theorem dX6_undo_35 : decode cX6_undo 35 = .ok (.sipush 240, 3) := by decide +kernel
theorem dX6_undo_38 : decode cX6_undo 38 = .ok (.aload_n 0, 1) := by decide +kernel
theorem dX6_undo_39 : decode cX6_undo 39 = .ok (.getfield 58, 3) := by decide +kernel
theorem dX6_undo_42 : decode cX6_undo 42 = .ok (.imul, 1) := by decide +kernel
theorem dX6_undo_43 : decode cX6_undo 43 = .ok (.aload_n 0, 1) := by decide +kernel
theorem dX6_undo_44 : decode cX6_undo 44 = .ok (.getfield 7, 3) := by decide +kernel
theorem dX6_undo_47 : decode cX6_undo 47 = .ok (.iconst 0, 1) := by decide +kernel
theorem dX6_undo_48 : decode cX6_undo 48 = .ok (.invokestatic 61, 3) := by decide +kernel
theorem dX6_undo_51 : decode cX6_undo 51 = .ok (.aload_n 0, 1) := by decide +kernel
theorem dX6_undo_52 : decode cX6_undo 52 = .ok (.getfield 58, 3) := by decide +kernel
theorem dX6_undo_55 : decode cX6_undo 55 = .ok (.ireturn, 1) := by decide +kernel
theorem dX6_save_0 : decode cX6_save 0 = .ok (.aload_n 0, 1) := by decide +kernel
theorem dX6_save_1 : decode cX6_save 1 = .ok (.iconst 0, 1) := by decide +kernel
theorem dX6_save_2 : decode cX6_save 2 = .ok (.putfield 36, 3) := by decide +kernel
theorem dX6_save_5 : decode cX6_save 5 = .ok (.aload_n 0, 1) := by decide +kernel
theorem dX6_save_6 : decode cX6_save 6 = .ok (.iconst 1, 1) := by decide +kernel
theorem dX6_save_7 : decode cX6_save 7 = .ok (.putfield 251, 3) := by decide +kernel
theorem dX6_save_10 : decode cX6_save 10 = .ok (.aload_n 0, 1) := by decide +kernel
theorem dX6_save_11 : decode cX6_save 11 = .ok (.getfield 7, 3) := by decide +kernel
theorem dX6_save_14 : decode cX6_save 14 = .ok (.iconst 0, 1) := by decide +kernel
theorem dX6_save_15 : decode cX6_save 15 = .ok (.aload_n 0, 1) := by decide +kernel
theorem dX6_save_16 : decode cX6_save 16 = .ok (.getfield 16, 3) := by decide +kernel
theorem dX6_save_19 : decode cX6_save 19 = .ok (.iconst 0, 1) := by decide +kernel
theorem dX6_save_20 : decode cX6_save 20 = .ok (.invokestatic 61, 3) := by decide +kernel
theorem dX6_save_23 : decode cX6_save 23 = .ok (.aload_n 0, 1) := by decide +kernel
theorem dX6_save_24 : decode cX6_save 24 = .ok (.getfield 7, 3) := by decide +kernel
theorem dX6_save_27 : decode cX6_save 27 = .ok (.iconst 1, 1) := by decide +kernel
theorem dX6_save_28 : decode cX6_save 28 = .ok (.iaload, 1) := by decide +kernel
theorem dX6_save_29 : decode cX6_save 29 = .ok (.ireturn, 1) := by decide +kernel
theorem dX6_restore_0 : decode cX6_restore 0 = .ok (.aload_n 0, 1) := by decide +kernel
theorem dX6_restore_1 : decode cX6_restore 1 = .ok (.aload_n 0, 1) := by decide +kernel
theorem dX6_restore_2 : decode cX6_restore 2 = .ok (.getfield 251, 3) := by decide +kernel
theorem dX6_restore_5 : decode cX6_restore 5 = .ok (.ifCond .eq 7, 3) := by decide +kernel
theorem dX6_restore_8 : decode cX6_restore 8 = .ok (.iconst 0, 1) := by decide +kernel
theorem dX6_restore_9 : decode cX6_restore 9 = .ok (.goto 4, 3) := by decide +kernel
theorem dX6_restore_12 : decode cX6_restore 12 = .ok (.iconst 1, 1) := by decide +kernel
theorem dX6_restore_13 : decode cX6_restore 13 = .ok (.invokevirtual 86, 3) := by decide +kernel
theorem dX6_restore_16 : decode cX6_restore 16 = .ok (.ifCond .eq 5, 3) := by decide +kernel
theorem dX6_restore_19 : decode cX6_restore 19 = .ok (.iconst 0, 1) := by decide +kernel
theorem dX6_restore_20 : decode cX6_restore 20 = .ok (.ireturn, 1) := by decide +kernel
theorem dX6_restore_21 : decode cX6_restore 21 = .ok (.aload_n 0, 1) := by decide +kernel
theorem dX6_restore_22 : decode cX6_restore 22 = .ok (.getfield 16, 3) := by decide +kernel
theorem dX6_restore_25 : decode cX6_restore 25 = .ok (.iconst 0, 1) := by decide +kernel
theorem dX6_restore_26 : decode cX6_restore 26 = .ok (.aload_n 0, 1) := by decide +kernel
theorem dX6_restore_27 : decode cX6_restore 27 = .ok (.getfield 7, 3) := by decide +kernel
theorem dX6_restore_30 : decode cX6_restore 30 = .ok (.iconst 0, 1) := by decide +kernel
theorem dX6_restore_31 : decode cX6_restore 31 = .ok (.invokestatic 61, 3) := by decide +kernel
theorem dX6_restore_34 : decode cX6_restore 34 = .ok (.aload_n 0, 1) := by decide +kernel
theorem dX6_restore_35 : decode cX6_restore 35 = .ok (.iconst 0, 1) := by decide +kernel
theorem dX6_restore_36 : decode cX6_restore 36 = .ok (.putfield 58, 3) := by decide +kernel
theorem dX6_restore_39 : decode cX6_restore 39 = .ok (.aload_n 0, 1) := by decide +kernel
theorem dX6_restore_40 : decode cX6_restore 40 = .ok (.getfield 7, 3) := by decide +kernel
theorem dX6_restore_43 : decode cX6_restore 43 = .ok (.iconst 1, 1) := by decide +kernel
theorem dX6_restore_44 : decode cX6_restore 44 = .ok (.iaload, 1) := by decide +kernel
theorem dX6_restore_45 : decode cX6_restore 45 = .ok (.ireturn, 1) := by decide +kernel
end
section
theorem dL_house_0 : decode cL_house 0 = .ok (.aload_n 2, 1) := by decide +kernel
theorem dL_house_1 : decode cL_house 1 = .ok (.iconst 0, 1) := by decide +kernel
theorem dL_house_2 : decode cL_house 2 = .ok (.aload_n 0, 1) := by decide +kernel
theorem dL_house_3 : decode cL_house 3 = .ok (.iload_n 1, 1) := by decide +kernel
theorem dL_house_4 : decode cL_house 4 = .ok (.invokevirtual 7, 3) := by decide +kernel
theorem dL_house_7 : decode cL_house 7 = .ok (.i2l, 1) := by decide +kernel
theorem dL_house_8 : decode cL_house 8 = .ok (.lastore, 1) := by decide +kernel
theorem dL_house_9 : decode cL_house 9 = .ok (.goto 9, 3) := by decide +kernel
theorem dL_house_12 : decode cL_house 12 = .ok (.astore_n 3, 1) := by decide +kernel
theorem dL_house_13 : decode cL_house 13 = .ok (.iconst 1, 1) := by decide +kernel
theorem dL_house_14 : decode cL_house 14 = .ok (.ireturn, 1) := by decide +kernel
theorem dL_house_15 : decode cL_house 15 = .ok (.astore_n 3, 1) := by decide +kernel
theorem dL_house_16 : decode cL_house 16 = .ok (.iconst 2, 1) := by decide +kernel
theorem dL_house_17 : decode cL_house 17 = .ok (.ireturn, 1) := by decide +kernel
theorem dL_house_18 : decode cL_house 18 = .ok (.iconst 0, 1) := by decide +kernel
theorem dL_house_19 : decode cL_house 19 = .ok (.ireturn, 1) := by decide +kernel
theorem dL_sheet_0 : decode cL_sheet 0 = .ok (.aload_n 3, 1) := by decide +kernel
theorem dL_sheet_1 : decode cL_sheet 1 = .ok (.iconst 0, 1) := by decide +kernel
theorem dL_sheet_2 : decode cL_sheet 2 = .ok (.aload_n 0, 1) := by decide +kernel
theorem dL_sheet_3 : decode cL_sheet 3 = .ok (.iload_n 1, 1) := by decide +kernel
theorem dL_sheet_4 : decode cL_sheet 4 = .ok (.iload_n 2, 1) := by decide +kernel
theorem dL_sheet_5 : decode cL_sheet 5 = .ok (.invokevirtual 17, 3) := by decide +kernel
theorem dL_sheet_8 : decode cL_sheet 8 = .ok (.i2l, 1) := by decide +kernel
theorem dL_sheet_9 : decode cL_sheet 9 = .ok (.lastore, 1) := by decide +kernel
theorem dL_sheet_10 : decode cL_sheet 10 = .ok (.goto 15, 3) := by decide +kernel
theorem dL_sheet_13 : decode cL_sheet 13 = .ok (.astore 4, 2) := by decide +kernel
theorem dL_sheet_15 : decode cL_sheet 15 = .ok (.iconst 1, 1) := by decide +kernel
theorem dL_sheet_16 : decode cL_sheet 16 = .ok (.ireturn, 1) := by decide +kernel
theorem dL_sheet_17 : decode cL_sheet 17 = .ok (.astore 4, 2) := by decide +kernel
theorem dL_sheet_19 : decode cL_sheet 19 = .ok (.iconst 2, 1) := by decide +kernel
theorem dL_sheet_20 : decode cL_sheet 20 = .ok (.ireturn, 1) := by decide +kernel
theorem dL_sheet_21 : decode cL_sheet 21 = .ok (.astore 4, 2) := by decide +kernel
theorem dL_sheet_23 : decode cL_sheet 23 = .ok (.iconst 3, 1) := by decide +kernel
theorem dL_sheet_24 : decode cL_sheet 24 = .ok (.ireturn, 1) := by decide +kernel
theorem dL_sheet_25 : decode cL_sheet 25 = .ok (.iconst 0, 1) := by decide +kernel
theorem dL_sheet_26 : decode cL_sheet 26 = .ok (.ireturn, 1) := by decide +kernel
theorem dL_take_0 : decode cL_take 0 = .ok (.aload_n 2, 1) := by decide +kernel
theorem dL_take_1 : decode cL_take 1 = .ok (.iconst 0, 1) := by decide +kernel
theorem dL_take_2 : decode cL_take 2 = .ok (.aload_n 0, 1) := by decide +kernel
theorem dL_take_3 : decode cL_take 3 = .ok (.iload_n 1, 1) := by decide +kernel
theorem dL_take_4 : decode cL_take 4 = .ok (.invokevirtual 23, 3) := by decide +kernel
theorem dL_take_7 : decode cL_take 7 = .ok (.i2l, 1) := by decide +kernel
theorem dL_take_8 : decode cL_take 8 = .ok (.lastore, 1) := by decide +kernel
theorem dL_take_9 : decode cL_take 9 = .ok (.goto 6, 3) := by decide +kernel
theorem dL_take_12 : decode cL_take 12 = .ok (.astore_n 3, 1) := by decide +kernel
theorem dL_take_13 : decode cL_take 13 = .ok (.iconst 1, 1) := by decide +kernel
theorem dL_take_14 : decode cL_take 14 = .ok (.ireturn, 1) := by decide +kernel
theorem dL_take_15 : decode cL_take 15 = .ok (.iconst 0, 1) := by decide +kernel
theorem dL_take_16 : decode cL_take 16 = .ok (.ireturn, 1) := by decide +kernel
theorem dL_set_0 : decode cL_set 0 = .ok (.aload 4, 2) := by decide +kernel
theorem dL_set_2 : decode cL_set 2 = .ok (.iconst 0, 1) := by decide +kernel
theorem dL_set_3 : decode cL_set 3 = .ok (.aload_n 0, 1) := by decide +kernel
theorem dL_set_4 : decode cL_set 4 = .ok (.iload_n 1, 1) := by decide +kernel
theorem dL_set_5 : decode cL_set 5 = .ok (.iload_n 2, 1) := by decide +kernel
theorem dL_set_6 : decode cL_set 6 = .ok (.iload_n 3, 1) := by decide +kernel
theorem dL_set_7 : decode cL_set 7 = .ok (.invokevirtual 26, 3) := by decide +kernel
theorem dL_set_10 : decode cL_set 10 = .ok (.i2l, 1) := by decide +kernel
theorem dL_set_11 : decode cL_set 11 = .ok (.lastore, 1) := by decide +kernel
theorem dL_set_12 : decode cL_set 12 = .ok (.goto 15, 3) := by decide +kernel
theorem dL_set_15 : decode cL_set 15 = .ok (.astore 5, 2) := by decide +kernel
theorem dL_set_17 : decode cL_set 17 = .ok (.iconst 1, 1) := by decide +kernel
theorem dL_set_18 : decode cL_set 18 = .ok (.ireturn, 1) := by decide +kernel
theorem dL_set_19 : decode cL_set 19 = .ok (.astore 5, 2) := by decide +kernel
theorem dL_set_21 : decode cL_set 21 = .ok (.iconst 2, 1) := by decide +kernel
theorem dL_set_22 : decode cL_set 22 = .ok (.ireturn, 1) := by decide +kernel
theorem dL_set_23 : decode cL_set 23 = .ok (.astore 5, 2) := by decide +kernel
theorem dL_set_25 : decode cL_set 25 = .ok (.iconst 3, 1) := by decide +kernel
theorem dL_set_26 : decode cL_set 26 = .ok (.ireturn, 1) := by decide +kernel
theorem dL_set_27 : decode cL_set 27 = .ok (.iconst 0, 1) := by decide +kernel
theorem dL_set_28 : decode cL_set 28 = .ok (.ireturn, 1) := by decide +kernel
theorem dL_license_0 : decode cL_license 0 = .ok (.aload_n 3, 1) := by decide +kernel
theorem dL_license_1 : decode cL_license 1 = .ok (.iconst 0, 1) := by decide +kernel
theorem dL_license_2 : decode cL_license 2 = .ok (.aload_n 0, 1) := by decide +kernel
theorem dL_license_3 : decode cL_license 3 = .ok (.iload_n 1, 1) := by decide +kernel
theorem dL_license_4 : decode cL_license 4 = .ok (.iload_n 2, 1) := by decide +kernel
theorem dL_license_5 : decode cL_license 5 = .ok (.invokevirtual 30, 3) := by decide +kernel
theorem dL_license_8 : decode cL_license 8 = .ok (.i2l, 1) := by decide +kernel
theorem dL_license_9 : decode cL_license 9 = .ok (.lastore, 1) := by decide +kernel
theorem dL_license_10 : decode cL_license 10 = .ok (.goto 11, 3) := by decide +kernel
theorem dL_license_13 : decode cL_license 13 = .ok (.astore 4, 2) := by decide +kernel
theorem dL_license_15 : decode cL_license 15 = .ok (.iconst 1, 1) := by decide +kernel
theorem dL_license_16 : decode cL_license 16 = .ok (.ireturn, 1) := by decide +kernel
theorem dL_license_17 : decode cL_license 17 = .ok (.astore 4, 2) := by decide +kernel
theorem dL_license_19 : decode cL_license 19 = .ok (.iconst 2, 1) := by decide +kernel
theorem dL_license_20 : decode cL_license 20 = .ok (.ireturn, 1) := by decide +kernel
theorem dL_license_21 : decode cL_license 21 = .ok (.iconst 0, 1) := by decide +kernel
theorem dL_license_22 : decode cL_license 22 = .ok (.ireturn, 1) := by decide +kernel
theorem dL_correct_0 : decode cL_correct 0 = .ok (.aload_n 3, 1) := by decide +kernel
theorem dL_correct_1 : decode cL_correct 1 = .ok (.iconst 0, 1) := by decide +kernel
theorem dL_correct_2 : decode cL_correct 2 = .ok (.aload_n 0, 1) := by decide +kernel
theorem dL_correct_3 : decode cL_correct 3 = .ok (.iload_n 1, 1) := by decide +kernel
theorem dL_correct_4 : decode cL_correct 4 = .ok (.iload_n 2, 1) := by decide +kernel
theorem dL_correct_5 : decode cL_correct 5 = .ok (.invokevirtual 33, 3) := by decide +kernel
theorem dL_correct_8 : decode cL_correct 8 = .ok (.i2l, 1) := by decide +kernel
theorem dL_correct_9 : decode cL_correct 9 = .ok (.lastore, 1) := by decide +kernel
theorem dL_correct_10 : decode cL_correct 10 = .ok (.goto 11, 3) := by decide +kernel
theorem dL_correct_13 : decode cL_correct 13 = .ok (.astore 4, 2) := by decide +kernel
theorem dL_correct_15 : decode cL_correct 15 = .ok (.iconst 1, 1) := by decide +kernel
theorem dL_correct_16 : decode cL_correct 16 = .ok (.ireturn, 1) := by decide +kernel
theorem dL_correct_17 : decode cL_correct 17 = .ok (.astore 4, 2) := by decide +kernel
theorem dL_correct_19 : decode cL_correct 19 = .ok (.iconst 2, 1) := by decide +kernel
theorem dL_correct_20 : decode cL_correct 20 = .ok (.ireturn, 1) := by decide +kernel
theorem dL_correct_21 : decode cL_correct 21 = .ok (.iconst 0, 1) := by decide +kernel
theorem dL_correct_22 : decode cL_correct 22 = .ok (.ireturn, 1) := by decide +kernel
theorem dL_reader_0 : decode cL_reader 0 = .ok (.aload_n 3, 1) := by decide +kernel
theorem dL_reader_1 : decode cL_reader 1 = .ok (.iconst 0, 1) := by decide +kernel
theorem dL_reader_2 : decode cL_reader 2 = .ok (.aload_n 0, 1) := by decide +kernel
theorem dL_reader_3 : decode cL_reader 3 = .ok (.iload_n 1, 1) := by decide +kernel
theorem dL_reader_4 : decode cL_reader 4 = .ok (.iload_n 2, 1) := by decide +kernel
theorem dL_reader_5 : decode cL_reader 5 = .ok (.invokevirtual 36, 3) := by decide +kernel
theorem dL_reader_8 : decode cL_reader 8 = .ok (.i2l, 1) := by decide +kernel
theorem dL_reader_9 : decode cL_reader 9 = .ok (.lastore, 1) := by decide +kernel
theorem dL_reader_10 : decode cL_reader 10 = .ok (.goto 11, 3) := by decide +kernel
theorem dL_reader_13 : decode cL_reader 13 = .ok (.astore 4, 2) := by decide +kernel
theorem dL_reader_15 : decode cL_reader 15 = .ok (.iconst 1, 1) := by decide +kernel
theorem dL_reader_16 : decode cL_reader 16 = .ok (.ireturn, 1) := by decide +kernel
theorem dL_reader_17 : decode cL_reader 17 = .ok (.astore 4, 2) := by decide +kernel
theorem dL_reader_19 : decode cL_reader 19 = .ok (.iconst 2, 1) := by decide +kernel
theorem dL_reader_20 : decode cL_reader 20 = .ok (.ireturn, 1) := by decide +kernel
theorem dL_reader_21 : decode cL_reader 21 = .ok (.iconst 0, 1) := by decide +kernel
theorem dL_reader_22 : decode cL_reader 22 = .ok (.ireturn, 1) := by decide +kernel
theorem dL_edition_0 : decode cL_edition 0 = .ok (.aload_n 1, 1) := by decide +kernel
theorem dL_edition_1 : decode cL_edition 1 = .ok (.iconst 0, 1) := by decide +kernel
theorem dL_edition_2 : decode cL_edition 2 = .ok (.aload_n 0, 1) := by decide +kernel
theorem dL_edition_3 : decode cL_edition 3 = .ok (.invokevirtual 39, 3) := by decide +kernel
theorem dL_edition_6 : decode cL_edition 6 = .ok (.i2l, 1) := by decide +kernel
theorem dL_edition_7 : decode cL_edition 7 = .ok (.lastore, 1) := by decide +kernel
theorem dL_edition_8 : decode cL_edition 8 = .ok (.goto 6, 3) := by decide +kernel
theorem dL_edition_11 : decode cL_edition 11 = .ok (.astore_n 2, 1) := by decide +kernel
theorem dL_edition_12 : decode cL_edition 12 = .ok (.iconst 1, 1) := by decide +kernel
theorem dL_edition_13 : decode cL_edition 13 = .ok (.ireturn, 1) := by decide +kernel
theorem dL_edition_14 : decode cL_edition 14 = .ok (.iconst 0, 1) := by decide +kernel
theorem dL_edition_15 : decode cL_edition 15 = .ok (.ireturn, 1) := by decide +kernel
theorem dL_houseOf_0 : decode cL_houseOf 0 = .ok (.aload_n 3, 1) := by decide +kernel
theorem dL_houseOf_1 : decode cL_houseOf 1 = .ok (.iconst 0, 1) := by decide +kernel
theorem dL_houseOf_2 : decode cL_houseOf 2 = .ok (.aload_n 0, 1) := by decide +kernel
theorem dL_houseOf_3 : decode cL_houseOf 3 = .ok (.iload_n 1, 1) := by decide +kernel
theorem dL_houseOf_4 : decode cL_houseOf 4 = .ok (.iload_n 2, 1) := by decide +kernel
theorem dL_houseOf_5 : decode cL_houseOf 5 = .ok (.invokevirtual 43, 3) := by decide +kernel
theorem dL_houseOf_8 : decode cL_houseOf 8 = .ok (.i2l, 1) := by decide +kernel
theorem dL_houseOf_9 : decode cL_houseOf 9 = .ok (.lastore, 1) := by decide +kernel
theorem dL_houseOf_10 : decode cL_houseOf 10 = .ok (.goto 11, 3) := by decide +kernel
theorem dL_houseOf_13 : decode cL_houseOf 13 = .ok (.astore 4, 2) := by decide +kernel
theorem dL_houseOf_15 : decode cL_houseOf 15 = .ok (.iconst 1, 1) := by decide +kernel
theorem dL_houseOf_16 : decode cL_houseOf 16 = .ok (.ireturn, 1) := by decide +kernel
theorem dL_houseOf_17 : decode cL_houseOf 17 = .ok (.astore 4, 2) := by decide +kernel
theorem dL_houseOf_19 : decode cL_houseOf 19 = .ok (.iconst 2, 1) := by decide +kernel
theorem dL_houseOf_20 : decode cL_houseOf 20 = .ok (.ireturn, 1) := by decide +kernel
theorem dL_houseOf_21 : decode cL_houseOf 21 = .ok (.iconst 0, 1) := by decide +kernel
theorem dL_houseOf_22 : decode cL_houseOf 22 = .ok (.ireturn, 1) := by decide +kernel
theorem dL_sheetOf_0 : decode cL_sheetOf 0 = .ok (.aload_n 3, 1) := by decide +kernel
theorem dL_sheetOf_1 : decode cL_sheetOf 1 = .ok (.iconst 0, 1) := by decide +kernel
theorem dL_sheetOf_2 : decode cL_sheetOf 2 = .ok (.aload_n 0, 1) := by decide +kernel
theorem dL_sheetOf_3 : decode cL_sheetOf 3 = .ok (.iload_n 1, 1) := by decide +kernel
theorem dL_sheetOf_4 : decode cL_sheetOf 4 = .ok (.iload_n 2, 1) := by decide +kernel
theorem dL_sheetOf_5 : decode cL_sheetOf 5 = .ok (.invokevirtual 46, 3) := by decide +kernel
theorem dL_sheetOf_8 : decode cL_sheetOf 8 = .ok (.i2l, 1) := by decide +kernel
theorem dL_sheetOf_9 : decode cL_sheetOf 9 = .ok (.lastore, 1) := by decide +kernel
theorem dL_sheetOf_10 : decode cL_sheetOf 10 = .ok (.goto 11, 3) := by decide +kernel
theorem dL_sheetOf_13 : decode cL_sheetOf 13 = .ok (.astore 4, 2) := by decide +kernel
theorem dL_sheetOf_15 : decode cL_sheetOf 15 = .ok (.iconst 1, 1) := by decide +kernel
theorem dL_sheetOf_16 : decode cL_sheetOf 16 = .ok (.ireturn, 1) := by decide +kernel
theorem dL_sheetOf_17 : decode cL_sheetOf 17 = .ok (.astore 4, 2) := by decide +kernel
theorem dL_sheetOf_19 : decode cL_sheetOf 19 = .ok (.iconst 2, 1) := by decide +kernel
theorem dL_sheetOf_20 : decode cL_sheetOf 20 = .ok (.ireturn, 1) := by decide +kernel
theorem dL_sheetOf_21 : decode cL_sheetOf 21 = .ok (.iconst 0, 1) := by decide +kernel
theorem dL_sheetOf_22 : decode cL_sheetOf 22 = .ok (.ireturn, 1) := by decide +kernel
theorem dL_letterAt_0 : decode cL_letterAt 0 = .ok (.aload 4, 2) := by decide +kernel
theorem dL_letterAt_2 : decode cL_letterAt 2 = .ok (.iconst 0, 1) := by decide +kernel
theorem dL_letterAt_3 : decode cL_letterAt 3 = .ok (.aload_n 0, 1) := by decide +kernel
theorem dL_letterAt_4 : decode cL_letterAt 4 = .ok (.iload_n 1, 1) := by decide +kernel
theorem dL_letterAt_5 : decode cL_letterAt 5 = .ok (.iload_n 2, 1) := by decide +kernel
theorem dL_letterAt_6 : decode cL_letterAt 6 = .ok (.iload_n 3, 1) := by decide +kernel
theorem dL_letterAt_7 : decode cL_letterAt 7 = .ok (.invokevirtual 49, 3) := by decide +kernel
theorem dL_letterAt_10 : decode cL_letterAt 10 = .ok (.i2l, 1) := by decide +kernel
theorem dL_letterAt_11 : decode cL_letterAt 11 = .ok (.lastore, 1) := by decide +kernel
theorem dL_letterAt_12 : decode cL_letterAt 12 = .ok (.goto 7, 3) := by decide +kernel
theorem dL_letterAt_15 : decode cL_letterAt 15 = .ok (.astore 5, 2) := by decide +kernel
theorem dL_letterAt_17 : decode cL_letterAt 17 = .ok (.iconst 1, 1) := by decide +kernel
theorem dL_letterAt_18 : decode cL_letterAt 18 = .ok (.ireturn, 1) := by decide +kernel
theorem dL_letterAt_19 : decode cL_letterAt 19 = .ok (.iconst 0, 1) := by decide +kernel
theorem dL_letterAt_20 : decode cL_letterAt 20 = .ok (.ireturn, 1) := by decide +kernel
theorem dL_markAt_0 : decode cL_markAt 0 = .ok (.aload_n 3, 1) := by decide +kernel
theorem dL_markAt_1 : decode cL_markAt 1 = .ok (.iconst 0, 1) := by decide +kernel
theorem dL_markAt_2 : decode cL_markAt 2 = .ok (.aload_n 0, 1) := by decide +kernel
theorem dL_markAt_3 : decode cL_markAt 3 = .ok (.iload_n 1, 1) := by decide +kernel
theorem dL_markAt_4 : decode cL_markAt 4 = .ok (.iload_n 2, 1) := by decide +kernel
theorem dL_markAt_5 : decode cL_markAt 5 = .ok (.invokevirtual 53, 3) := by decide +kernel
theorem dL_markAt_8 : decode cL_markAt 8 = .ok (.i2l, 1) := by decide +kernel
theorem dL_markAt_9 : decode cL_markAt 9 = .ok (.lastore, 1) := by decide +kernel
theorem dL_markAt_10 : decode cL_markAt 10 = .ok (.goto 7, 3) := by decide +kernel
theorem dL_markAt_13 : decode cL_markAt 13 = .ok (.astore 4, 2) := by decide +kernel
theorem dL_markAt_15 : decode cL_markAt 15 = .ok (.iconst 1, 1) := by decide +kernel
theorem dL_markAt_16 : decode cL_markAt 16 = .ok (.ireturn, 1) := by decide +kernel
theorem dL_markAt_17 : decode cL_markAt 17 = .ok (.iconst 0, 1) := by decide +kernel
theorem dL_markAt_18 : decode cL_markAt 18 = .ok (.ireturn, 1) := by decide +kernel
theorem dL_fine_0 : decode cL_fine 0 = .ok (.aload 4, 2) := by decide +kernel
theorem dL_fine_2 : decode cL_fine 2 = .ok (.iconst 0, 1) := by decide +kernel
theorem dL_fine_3 : decode cL_fine 3 = .ok (.aload_n 0, 1) := by decide +kernel
theorem dL_fine_4 : decode cL_fine 4 = .ok (.iload_n 1, 1) := by decide +kernel
theorem dL_fine_5 : decode cL_fine 5 = .ok (.iload_n 2, 1) := by decide +kernel
theorem dL_fine_6 : decode cL_fine 6 = .ok (.iload_n 3, 1) := by decide +kernel
theorem dL_fine_7 : decode cL_fine 7 = .ok (.invokevirtual 56, 3) := by decide +kernel
theorem dL_fine_10 : decode cL_fine 10 = .ok (.i2l, 1) := by decide +kernel
theorem dL_fine_11 : decode cL_fine 11 = .ok (.lastore, 1) := by decide +kernel
theorem dL_fine_12 : decode cL_fine 12 = .ok (.goto 7, 3) := by decide +kernel
theorem dL_fine_15 : decode cL_fine 15 = .ok (.astore 5, 2) := by decide +kernel
theorem dL_fine_17 : decode cL_fine 17 = .ok (.iconst 1, 1) := by decide +kernel
theorem dL_fine_18 : decode cL_fine 18 = .ok (.ireturn, 1) := by decide +kernel
theorem dL_fine_19 : decode cL_fine 19 = .ok (.iconst 0, 1) := by decide +kernel
theorem dL_fine_20 : decode cL_fine 20 = .ok (.ireturn, 1) := by decide +kernel
theorem dL_fines_0 : decode cL_fines 0 = .ok (.aload_n 3, 1) := by decide +kernel
theorem dL_fines_1 : decode cL_fines 1 = .ok (.iconst 0, 1) := by decide +kernel
theorem dL_fines_2 : decode cL_fines 2 = .ok (.aload_n 0, 1) := by decide +kernel
theorem dL_fines_3 : decode cL_fines 3 = .ok (.iload_n 1, 1) := by decide +kernel
theorem dL_fines_4 : decode cL_fines 4 = .ok (.iload_n 2, 1) := by decide +kernel
theorem dL_fines_5 : decode cL_fines 5 = .ok (.invokevirtual 60, 3) := by decide +kernel
theorem dL_fines_8 : decode cL_fines 8 = .ok (.i2l, 1) := by decide +kernel
theorem dL_fines_9 : decode cL_fines 9 = .ok (.lastore, 1) := by decide +kernel
theorem dL_fines_10 : decode cL_fines 10 = .ok (.goto 7, 3) := by decide +kernel
theorem dL_fines_13 : decode cL_fines 13 = .ok (.astore 4, 2) := by decide +kernel
theorem dL_fines_15 : decode cL_fines 15 = .ok (.iconst 1, 1) := by decide +kernel
theorem dL_fines_16 : decode cL_fines 16 = .ok (.ireturn, 1) := by decide +kernel
theorem dL_fines_17 : decode cL_fines 17 = .ok (.iconst 0, 1) := by decide +kernel
theorem dL_fines_18 : decode cL_fines 18 = .ok (.ireturn, 1) := by decide +kernel
theorem dL_canMend_0 : decode cL_canMend 0 = .ok (.aload_n 2, 1) := by decide +kernel
theorem dL_canMend_1 : decode cL_canMend 1 = .ok (.iconst 0, 1) := by decide +kernel
theorem dL_canMend_2 : decode cL_canMend 2 = .ok (.aload_n 0, 1) := by decide +kernel
theorem dL_canMend_3 : decode cL_canMend 3 = .ok (.iload_n 1, 1) := by decide +kernel
theorem dL_canMend_4 : decode cL_canMend 4 = .ok (.invokevirtual 64, 3) := by decide +kernel
theorem dL_canMend_7 : decode cL_canMend 7 = .ok (.ifCond .eq 7, 3) := by decide +kernel
theorem dL_canMend_10 : decode cL_canMend 10 = .ok (.lconst 1, 1) := by decide +kernel
theorem dL_canMend_11 : decode cL_canMend 11 = .ok (.goto 4, 3) := by decide +kernel
theorem dL_canMend_14 : decode cL_canMend 14 = .ok (.lconst 0, 1) := by decide +kernel
theorem dL_canMend_15 : decode cL_canMend 15 = .ok (.lastore, 1) := by decide +kernel
theorem dL_canMend_16 : decode cL_canMend 16 = .ok (.goto 6, 3) := by decide +kernel
theorem dL_canMend_19 : decode cL_canMend 19 = .ok (.astore_n 3, 1) := by decide +kernel
theorem dL_canMend_20 : decode cL_canMend 20 = .ok (.iconst 1, 1) := by decide +kernel
theorem dL_canMend_21 : decode cL_canMend 21 = .ok (.ireturn, 1) := by decide +kernel
theorem dL_canMend_22 : decode cL_canMend 22 = .ok (.iconst 0, 1) := by decide +kernel
theorem dL_canMend_23 : decode cL_canMend 23 = .ok (.ireturn, 1) := by decide +kernel
theorem dL_laughing_0 : decode cL_laughing 0 = .ok (.aload_n 3, 1) := by decide +kernel
theorem dL_laughing_1 : decode cL_laughing 1 = .ok (.iconst 0, 1) := by decide +kernel
theorem dL_laughing_2 : decode cL_laughing 2 = .ok (.aload_n 0, 1) := by decide +kernel
theorem dL_laughing_3 : decode cL_laughing 3 = .ok (.iload_n 1, 1) := by decide +kernel
theorem dL_laughing_4 : decode cL_laughing 4 = .ok (.iload_n 2, 1) := by decide +kernel
theorem dL_laughing_5 : decode cL_laughing 5 = .ok (.invokevirtual 68, 3) := by decide +kernel
theorem dL_laughing_8 : decode cL_laughing 8 = .ok (.i2l, 1) := by decide +kernel
theorem dL_laughing_9 : decode cL_laughing 9 = .ok (.lastore, 1) := by decide +kernel
theorem dL_laughing_10 : decode cL_laughing 10 = .ok (.goto 7, 3) := by decide +kernel
theorem dL_laughing_13 : decode cL_laughing 13 = .ok (.astore 4, 2) := by decide +kernel
theorem dL_laughing_15 : decode cL_laughing 15 = .ok (.iconst 1, 1) := by decide +kernel
theorem dL_laughing_16 : decode cL_laughing 16 = .ok (.ireturn, 1) := by decide +kernel
theorem dL_laughing_17 : decode cL_laughing 17 = .ok (.iconst 0, 1) := by decide +kernel
theorem dL_laughing_18 : decode cL_laughing 18 = .ok (.ireturn, 1) := by decide +kernel
theorem dL_bargain_0 : decode cL_bargain 0 = .ok (.aload_n 2, 1) := by decide +kernel
theorem dL_bargain_1 : decode cL_bargain 1 = .ok (.iconst 0, 1) := by decide +kernel
theorem dL_bargain_2 : decode cL_bargain 2 = .ok (.aload_n 0, 1) := by decide +kernel
theorem dL_bargain_3 : decode cL_bargain 3 = .ok (.iload_n 1, 1) := by decide +kernel
theorem dL_bargain_4 : decode cL_bargain 4 = .ok (.invokevirtual 71, 3) := by decide +kernel
theorem dL_bargain_7 : decode cL_bargain 7 = .ok (.i2l, 1) := by decide +kernel
theorem dL_bargain_8 : decode cL_bargain 8 = .ok (.lastore, 1) := by decide +kernel
theorem dL_bargain_9 : decode cL_bargain 9 = .ok (.goto 6, 3) := by decide +kernel
theorem dL_bargain_12 : decode cL_bargain 12 = .ok (.astore_n 3, 1) := by decide +kernel
theorem dL_bargain_13 : decode cL_bargain 13 = .ok (.iconst 1, 1) := by decide +kernel
theorem dL_bargain_14 : decode cL_bargain 14 = .ok (.ireturn, 1) := by decide +kernel
theorem dL_bargain_15 : decode cL_bargain 15 = .ok (.iconst 0, 1) := by decide +kernel
theorem dL_bargain_16 : decode cL_bargain 16 = .ok (.ireturn, 1) := by decide +kernel
theorem dL_wouldShame_0 : decode cL_wouldShame 0 = .ok (.aload_n 2, 1) := by decide +kernel
theorem dL_wouldShame_1 : decode cL_wouldShame 1 = .ok (.iconst 0, 1) := by decide +kernel
theorem dL_wouldShame_2 : decode cL_wouldShame 2 = .ok (.aload_n 0, 1) := by decide +kernel
theorem dL_wouldShame_3 : decode cL_wouldShame 3 = .ok (.iload_n 1, 1) := by decide +kernel
theorem dL_wouldShame_4 : decode cL_wouldShame 4 = .ok (.invokevirtual 77, 3) := by decide +kernel
theorem dL_wouldShame_7 : decode cL_wouldShame 7 = .ok (.i2l, 1) := by decide +kernel
theorem dL_wouldShame_8 : decode cL_wouldShame 8 = .ok (.lastore, 1) := by decide +kernel
theorem dL_wouldShame_9 : decode cL_wouldShame 9 = .ok (.goto 6, 3) := by decide +kernel
theorem dL_wouldShame_12 : decode cL_wouldShame 12 = .ok (.astore_n 3, 1) := by decide +kernel
theorem dL_wouldShame_13 : decode cL_wouldShame 13 = .ok (.iconst 1, 1) := by decide +kernel
theorem dL_wouldShame_14 : decode cL_wouldShame 14 = .ok (.ireturn, 1) := by decide +kernel
theorem dL_wouldShame_15 : decode cL_wouldShame 15 = .ok (.iconst 0, 1) := by decide +kernel
theorem dL_wouldShame_16 : decode cL_wouldShame 16 = .ok (.ireturn, 1) := by decide +kernel
theorem dL_nearest_0 : decode cL_nearest 0 = .ok (.aload_n 2, 1) := by decide +kernel
theorem dL_nearest_1 : decode cL_nearest 1 = .ok (.iconst 0, 1) := by decide +kernel
theorem dL_nearest_2 : decode cL_nearest 2 = .ok (.aload_n 0, 1) := by decide +kernel
theorem dL_nearest_3 : decode cL_nearest 3 = .ok (.iload_n 1, 1) := by decide +kernel
theorem dL_nearest_4 : decode cL_nearest 4 = .ok (.invokevirtual 80, 3) := by decide +kernel
theorem dL_nearest_7 : decode cL_nearest 7 = .ok (.i2l, 1) := by decide +kernel
theorem dL_nearest_8 : decode cL_nearest 8 = .ok (.lastore, 1) := by decide +kernel
theorem dL_nearest_9 : decode cL_nearest 9 = .ok (.goto 6, 3) := by decide +kernel
theorem dL_nearest_12 : decode cL_nearest 12 = .ok (.astore_n 3, 1) := by decide +kernel
theorem dL_nearest_13 : decode cL_nearest 13 = .ok (.iconst 1, 1) := by decide +kernel
theorem dL_nearest_14 : decode cL_nearest 14 = .ok (.ireturn, 1) := by decide +kernel
theorem dL_nearest_15 : decode cL_nearest 15 = .ok (.iconst 0, 1) := by decide +kernel
theorem dL_nearest_16 : decode cL_nearest 16 = .ok (.ireturn, 1) := by decide +kernel
theorem dL_calmIn_0 : decode cL_calmIn 0 = .ok (.aload_n 2, 1) := by decide +kernel
theorem dL_calmIn_1 : decode cL_calmIn 1 = .ok (.iconst 0, 1) := by decide +kernel
theorem dL_calmIn_2 : decode cL_calmIn 2 = .ok (.aload_n 0, 1) := by decide +kernel
theorem dL_calmIn_3 : decode cL_calmIn 3 = .ok (.iload_n 1, 1) := by decide +kernel
theorem dL_calmIn_4 : decode cL_calmIn 4 = .ok (.invokevirtual 83, 3) := by decide +kernel
theorem dL_calmIn_7 : decode cL_calmIn 7 = .ok (.i2l, 1) := by decide +kernel
theorem dL_calmIn_8 : decode cL_calmIn 8 = .ok (.lastore, 1) := by decide +kernel
theorem dL_calmIn_9 : decode cL_calmIn 9 = .ok (.goto 6, 3) := by decide +kernel
theorem dL_calmIn_12 : decode cL_calmIn 12 = .ok (.astore_n 3, 1) := by decide +kernel
theorem dL_calmIn_13 : decode cL_calmIn 13 = .ok (.iconst 1, 1) := by decide +kernel
theorem dL_calmIn_14 : decode cL_calmIn 14 = .ok (.ireturn, 1) := by decide +kernel
theorem dL_calmIn_15 : decode cL_calmIn 15 = .ok (.iconst 0, 1) := by decide +kernel
theorem dL_calmIn_16 : decode cL_calmIn 16 = .ok (.ireturn, 1) := by decide +kernel
theorem dL_ashamed_0 : decode cL_ashamed 0 = .ok (.aload_n 2, 1) := by decide +kernel
theorem dL_ashamed_1 : decode cL_ashamed 1 = .ok (.iconst 0, 1) := by decide +kernel
theorem dL_ashamed_2 : decode cL_ashamed 2 = .ok (.aload_n 0, 1) := by decide +kernel
theorem dL_ashamed_3 : decode cL_ashamed 3 = .ok (.iload_n 1, 1) := by decide +kernel
theorem dL_ashamed_4 : decode cL_ashamed 4 = .ok (.invokevirtual 86, 3) := by decide +kernel
theorem dL_ashamed_7 : decode cL_ashamed 7 = .ok (.i2l, 1) := by decide +kernel
theorem dL_ashamed_8 : decode cL_ashamed 8 = .ok (.lastore, 1) := by decide +kernel
theorem dL_ashamed_9 : decode cL_ashamed 9 = .ok (.goto 6, 3) := by decide +kernel
theorem dL_ashamed_12 : decode cL_ashamed 12 = .ok (.astore_n 3, 1) := by decide +kernel
theorem dL_ashamed_13 : decode cL_ashamed 13 = .ok (.iconst 1, 1) := by decide +kernel
theorem dL_ashamed_14 : decode cL_ashamed 14 = .ok (.ireturn, 1) := by decide +kernel
theorem dL_ashamed_15 : decode cL_ashamed 15 = .ok (.iconst 0, 1) := by decide +kernel
theorem dL_ashamed_16 : decode cL_ashamed 16 = .ok (.ireturn, 1) := by decide +kernel
theorem dL_worst_0 : decode cL_worst 0 = .ok (.aload_n 2, 1) := by decide +kernel
theorem dL_worst_1 : decode cL_worst 1 = .ok (.iconst 0, 1) := by decide +kernel
theorem dL_worst_2 : decode cL_worst 2 = .ok (.aload_n 0, 1) := by decide +kernel
theorem dL_worst_3 : decode cL_worst 3 = .ok (.iload_n 1, 1) := by decide +kernel
theorem dL_worst_4 : decode cL_worst 4 = .ok (.invokevirtual 89, 3) := by decide +kernel
theorem dL_worst_7 : decode cL_worst 7 = .ok (.i2l, 1) := by decide +kernel
theorem dL_worst_8 : decode cL_worst 8 = .ok (.lastore, 1) := by decide +kernel
theorem dL_worst_9 : decode cL_worst 9 = .ok (.goto 6, 3) := by decide +kernel
theorem dL_worst_12 : decode cL_worst 12 = .ok (.astore_n 3, 1) := by decide +kernel
theorem dL_worst_13 : decode cL_worst 13 = .ok (.iconst 1, 1) := by decide +kernel
theorem dL_worst_14 : decode cL_worst 14 = .ok (.ireturn, 1) := by decide +kernel
theorem dL_worst_15 : decode cL_worst 15 = .ok (.iconst 0, 1) := by decide +kernel
theorem dL_worst_16 : decode cL_worst 16 = .ok (.ireturn, 1) := by decide +kernel
theorem dL_line_0 : decode cL_line 0 = .ok (.aload_n 2, 1) := by decide +kernel
theorem dL_line_1 : decode cL_line 1 = .ok (.iconst 0, 1) := by decide +kernel
theorem dL_line_2 : decode cL_line 2 = .ok (.aload_n 0, 1) := by decide +kernel
theorem dL_line_3 : decode cL_line 3 = .ok (.iload_n 1, 1) := by decide +kernel
theorem dL_line_4 : decode cL_line 4 = .ok (.invokevirtual 92, 3) := by decide +kernel
theorem dL_line_7 : decode cL_line 7 = .ok (.i2l, 1) := by decide +kernel
theorem dL_line_8 : decode cL_line 8 = .ok (.lastore, 1) := by decide +kernel
theorem dL_line_9 : decode cL_line 9 = .ok (.goto 6, 3) := by decide +kernel
theorem dL_line_12 : decode cL_line 12 = .ok (.astore_n 3, 1) := by decide +kernel
theorem dL_line_13 : decode cL_line 13 = .ok (.iconst 1, 1) := by decide +kernel
theorem dL_line_14 : decode cL_line 14 = .ok (.ireturn, 1) := by decide +kernel
theorem dL_line_15 : decode cL_line 15 = .ok (.iconst 0, 1) := by decide +kernel
theorem dL_line_16 : decode cL_line 16 = .ok (.ireturn, 1) := by decide +kernel
theorem dL_houseLine_0 : decode cL_houseLine 0 = .ok (.aload_n 2, 1) := by decide +kernel
theorem dL_houseLine_1 : decode cL_houseLine 1 = .ok (.iconst 0, 1) := by decide +kernel
theorem dL_houseLine_2 : decode cL_houseLine 2 = .ok (.aload_n 0, 1) := by decide +kernel
theorem dL_houseLine_3 : decode cL_houseLine 3 = .ok (.iload_n 1, 1) := by decide +kernel
theorem dL_houseLine_4 : decode cL_houseLine 4 = .ok (.invokevirtual 95, 3) := by decide +kernel
theorem dL_houseLine_7 : decode cL_houseLine 7 = .ok (.i2l, 1) := by decide +kernel
theorem dL_houseLine_8 : decode cL_houseLine 8 = .ok (.lastore, 1) := by decide +kernel
theorem dL_houseLine_9 : decode cL_houseLine 9 = .ok (.goto 6, 3) := by decide +kernel
theorem dL_houseLine_12 : decode cL_houseLine 12 = .ok (.astore_n 3, 1) := by decide +kernel
theorem dL_houseLine_13 : decode cL_houseLine 13 = .ok (.iconst 1, 1) := by decide +kernel
theorem dL_houseLine_14 : decode cL_houseLine 14 = .ok (.ireturn, 1) := by decide +kernel
theorem dL_houseLine_15 : decode cL_houseLine 15 = .ok (.iconst 0, 1) := by decide +kernel
theorem dL_houseLine_16 : decode cL_houseLine 16 = .ok (.ireturn, 1) := by decide +kernel
theorem dL_character_0 : decode cL_character 0 = .ok (.aload_n 2, 1) := by decide +kernel
theorem dL_character_1 : decode cL_character 1 = .ok (.iconst 0, 1) := by decide +kernel
theorem dL_character_2 : decode cL_character 2 = .ok (.aload_n 0, 1) := by decide +kernel
theorem dL_character_3 : decode cL_character 3 = .ok (.iload_n 1, 1) := by decide +kernel
theorem dL_character_4 : decode cL_character 4 = .ok (.invokevirtual 98, 3) := by decide +kernel
theorem dL_character_7 : decode cL_character 7 = .ok (.i2l, 1) := by decide +kernel
theorem dL_character_8 : decode cL_character 8 = .ok (.lastore, 1) := by decide +kernel
theorem dL_character_9 : decode cL_character 9 = .ok (.goto 6, 3) := by decide +kernel
theorem dL_character_12 : decode cL_character 12 = .ok (.astore_n 3, 1) := by decide +kernel
theorem dL_character_13 : decode cL_character 13 = .ok (.iconst 1, 1) := by decide +kernel
theorem dL_character_14 : decode cL_character 14 = .ok (.ireturn, 1) := by decide +kernel
theorem dL_character_15 : decode cL_character 15 = .ok (.iconst 0, 1) := by decide +kernel
theorem dL_character_16 : decode cL_character 16 = .ok (.ireturn, 1) := by decide +kernel
theorem dL_append_0 : decode cL_append 0 = .ok (.aload_n 2, 1) := by decide +kernel
theorem dL_append_1 : decode cL_append 1 = .ok (.iconst 0, 1) := by decide +kernel
theorem dL_append_2 : decode cL_append 2 = .ok (.aload_n 0, 1) := by decide +kernel
theorem dL_append_3 : decode cL_append 3 = .ok (.iload_n 1, 1) := by decide +kernel
theorem dL_append_4 : decode cL_append 4 = .ok (.invokevirtual 102, 3) := by decide +kernel
theorem dL_append_7 : decode cL_append 7 = .ok (.i2l, 1) := by decide +kernel
theorem dL_append_8 : decode cL_append 8 = .ok (.lastore, 1) := by decide +kernel
theorem dL_append_9 : decode cL_append 9 = .ok (.goto 6, 3) := by decide +kernel
theorem dL_append_12 : decode cL_append 12 = .ok (.astore_n 3, 1) := by decide +kernel
theorem dL_append_13 : decode cL_append 13 = .ok (.iconst 1, 1) := by decide +kernel
theorem dL_append_14 : decode cL_append 14 = .ok (.ireturn, 1) := by decide +kernel
theorem dL_append_15 : decode cL_append 15 = .ok (.iconst 0, 1) := by decide +kernel
theorem dL_append_16 : decode cL_append 16 = .ok (.ireturn, 1) := by decide +kernel
theorem dL_run_0 : decode cL_run 0 = .ok (.aload_n 1, 1) := by decide +kernel
theorem dL_run_1 : decode cL_run 1 = .ok (.iconst 0, 1) := by decide +kernel
theorem dL_run_2 : decode cL_run 2 = .ok (.aload_n 0, 1) := by decide +kernel
theorem dL_run_3 : decode cL_run 3 = .ok (.invokevirtual 108, 3) := by decide +kernel
theorem dL_run_6 : decode cL_run 6 = .ok (.i2l, 1) := by decide +kernel
theorem dL_run_7 : decode cL_run 7 = .ok (.lastore, 1) := by decide +kernel
theorem dL_run_8 : decode cL_run 8 = .ok (.goto 9, 3) := by decide +kernel
theorem dL_run_11 : decode cL_run 11 = .ok (.astore_n 2, 1) := by decide +kernel
theorem dL_run_12 : decode cL_run 12 = .ok (.iconst 1, 1) := by decide +kernel
theorem dL_run_13 : decode cL_run 13 = .ok (.ireturn, 1) := by decide +kernel
theorem dL_run_14 : decode cL_run 14 = .ok (.astore_n 2, 1) := by decide +kernel
theorem dL_run_15 : decode cL_run 15 = .ok (.iconst 2, 1) := by decide +kernel
theorem dL_run_16 : decode cL_run 16 = .ok (.ireturn, 1) := by decide +kernel
theorem dL_run_17 : decode cL_run 17 = .ok (.iconst 0, 1) := by decide +kernel
theorem dL_run_18 : decode cL_run 18 = .ok (.ireturn, 1) := by decide +kernel
theorem dL_refusal_0 : decode cL_refusal 0 = .ok (.aload_n 3, 1) := by decide +kernel
theorem dL_refusal_1 : decode cL_refusal 1 = .ok (.iconst 0, 1) := by decide +kernel
theorem dL_refusal_2 : decode cL_refusal 2 = .ok (.aload_n 0, 1) := by decide +kernel
theorem dL_refusal_3 : decode cL_refusal 3 = .ok (.iload_n 1, 1) := by decide +kernel
theorem dL_refusal_4 : decode cL_refusal 4 = .ok (.iload_n 2, 1) := by decide +kernel
theorem dL_refusal_5 : decode cL_refusal 5 = .ok (.invokevirtual 111, 3) := by decide +kernel
theorem dL_refusal_8 : decode cL_refusal 8 = .ok (.i2l, 1) := by decide +kernel
theorem dL_refusal_9 : decode cL_refusal 9 = .ok (.lastore, 1) := by decide +kernel
theorem dL_refusal_10 : decode cL_refusal 10 = .ok (.goto 7, 3) := by decide +kernel
theorem dL_refusal_13 : decode cL_refusal 13 = .ok (.astore 4, 2) := by decide +kernel
theorem dL_refusal_15 : decode cL_refusal 15 = .ok (.iconst 1, 1) := by decide +kernel
theorem dL_refusal_16 : decode cL_refusal 16 = .ok (.ireturn, 1) := by decide +kernel
theorem dL_refusal_17 : decode cL_refusal 17 = .ok (.iconst 0, 1) := by decide +kernel
theorem dL_refusal_18 : decode cL_refusal 18 = .ok (.ireturn, 1) := by decide +kernel
theorem dL_account_0 : decode cL_account 0 = .ok (.aload_n 2, 1) := by decide +kernel
theorem dL_account_1 : decode cL_account 1 = .ok (.iconst 0, 1) := by decide +kernel
theorem dL_account_2 : decode cL_account 2 = .ok (.aload_n 0, 1) := by decide +kernel
theorem dL_account_3 : decode cL_account 3 = .ok (.iload_n 1, 1) := by decide +kernel
theorem dL_account_4 : decode cL_account 4 = .ok (.invokevirtual 115, 3) := by decide +kernel
theorem dL_account_7 : decode cL_account 7 = .ok (.i2l, 1) := by decide +kernel
theorem dL_account_8 : decode cL_account 8 = .ok (.lastore, 1) := by decide +kernel
theorem dL_account_9 : decode cL_account 9 = .ok (.goto 6, 3) := by decide +kernel
theorem dL_account_12 : decode cL_account 12 = .ok (.astore_n 3, 1) := by decide +kernel
theorem dL_account_13 : decode cL_account 13 = .ok (.iconst 1, 1) := by decide +kernel
theorem dL_account_14 : decode cL_account 14 = .ok (.ireturn, 1) := by decide +kernel
theorem dL_account_15 : decode cL_account 15 = .ok (.iconst 0, 1) := by decide +kernel
theorem dL_account_16 : decode cL_account 16 = .ok (.ireturn, 1) := by decide +kernel
theorem dL_meanShame_0 : decode cL_meanShame 0 = .ok (.aload_n 1, 1) := by decide +kernel
theorem dL_meanShame_1 : decode cL_meanShame 1 = .ok (.iconst 0, 1) := by decide +kernel
theorem dL_meanShame_2 : decode cL_meanShame 2 = .ok (.aload_n 0, 1) := by decide +kernel
theorem dL_meanShame_3 : decode cL_meanShame 3 = .ok (.invokevirtual 118, 3) := by decide +kernel
theorem dL_meanShame_6 : decode cL_meanShame 6 = .ok (.dastore, 1) := by decide +kernel
theorem dL_meanShame_7 : decode cL_meanShame 7 = .ok (.goto 6, 3) := by decide +kernel
theorem dL_meanShame_10 : decode cL_meanShame 10 = .ok (.astore_n 2, 1) := by decide +kernel
theorem dL_meanShame_11 : decode cL_meanShame 11 = .ok (.iconst 1, 1) := by decide +kernel
theorem dL_meanShame_12 : decode cL_meanShame 12 = .ok (.ireturn, 1) := by decide +kernel
theorem dL_meanShame_13 : decode cL_meanShame 13 = .ok (.iconst 0, 1) := by decide +kernel
theorem dL_meanShame_14 : decode cL_meanShame 14 = .ok (.ireturn, 1) := by decide +kernel
theorem dL_errorShare_0 : decode cL_errorShare 0 = .ok (.aload_n 1, 1) := by decide +kernel
theorem dL_errorShare_1 : decode cL_errorShare 1 = .ok (.iconst 0, 1) := by decide +kernel
theorem dL_errorShare_2 : decode cL_errorShare 2 = .ok (.aload_n 0, 1) := by decide +kernel
theorem dL_errorShare_3 : decode cL_errorShare 3 = .ok (.invokevirtual 124, 3) := by decide +kernel
theorem dL_errorShare_6 : decode cL_errorShare 6 = .ok (.f2d, 1) := by decide +kernel
theorem dL_errorShare_7 : decode cL_errorShare 7 = .ok (.dastore, 1) := by decide +kernel
theorem dL_errorShare_8 : decode cL_errorShare 8 = .ok (.goto 6, 3) := by decide +kernel
theorem dL_errorShare_11 : decode cL_errorShare 11 = .ok (.astore_n 2, 1) := by decide +kernel
theorem dL_errorShare_12 : decode cL_errorShare 12 = .ok (.iconst 1, 1) := by decide +kernel
theorem dL_errorShare_13 : decode cL_errorShare 13 = .ok (.ireturn, 1) := by decide +kernel
theorem dL_errorShare_14 : decode cL_errorShare 14 = .ok (.iconst 0, 1) := by decide +kernel
theorem dL_errorShare_15 : decode cL_errorShare 15 = .ok (.ireturn, 1) := by decide +kernel
theorem dL_undo_0 : decode cL_undo 0 = .ok (.aload_n 1, 1) := by decide +kernel
theorem dL_undo_1 : decode cL_undo 1 = .ok (.iconst 0, 1) := by decide +kernel
theorem dL_undo_2 : decode cL_undo 2 = .ok (.aload_n 0, 1) := by decide +kernel
theorem dL_undo_3 : decode cL_undo 3 = .ok (.invokevirtual 128, 3) := by decide +kernel
theorem dL_undo_6 : decode cL_undo 6 = .ok (.i2l, 1) := by decide +kernel
theorem dL_undo_7 : decode cL_undo 7 = .ok (.lastore, 1) := by decide +kernel
theorem dL_undo_8 : decode cL_undo 8 = .ok (.goto 6, 3) := by decide +kernel
theorem dL_undo_11 : decode cL_undo 11 = .ok (.astore_n 2, 1) := by decide +kernel
theorem dL_undo_12 : decode cL_undo 12 = .ok (.iconst 1, 1) := by decide +kernel
theorem dL_undo_13 : decode cL_undo 13 = .ok (.ireturn, 1) := by decide +kernel
theorem dL_undo_14 : decode cL_undo 14 = .ok (.iconst 0, 1) := by decide +kernel
theorem dL_undo_15 : decode cL_undo 15 = .ok (.ireturn, 1) := by decide +kernel
theorem dL_restore_0 : decode cL_restore 0 = .ok (.aload_n 1, 1) := by decide +kernel
theorem dL_restore_1 : decode cL_restore 1 = .ok (.iconst 0, 1) := by decide +kernel
theorem dL_restore_2 : decode cL_restore 2 = .ok (.aload_n 0, 1) := by decide +kernel
theorem dL_restore_3 : decode cL_restore 3 = .ok (.invokevirtual 131, 3) := by decide +kernel
theorem dL_restore_6 : decode cL_restore 6 = .ok (.i2l, 1) := by decide +kernel
theorem dL_restore_7 : decode cL_restore 7 = .ok (.lastore, 1) := by decide +kernel
theorem dL_restore_8 : decode cL_restore 8 = .ok (.goto 6, 3) := by decide +kernel
theorem dL_restore_11 : decode cL_restore 11 = .ok (.astore_n 2, 1) := by decide +kernel
theorem dL_restore_12 : decode cL_restore 12 = .ok (.iconst 1, 1) := by decide +kernel
theorem dL_restore_13 : decode cL_restore 13 = .ok (.ireturn, 1) := by decide +kernel
theorem dL_restore_14 : decode cL_restore 14 = .ok (.iconst 0, 1) := by decide +kernel
theorem dL_restore_15 : decode cL_restore 15 = .ok (.ireturn, 1) := by decide +kernel
theorem dL_law_0 : decode cL_law 0 = .ok (.new 8, 3) := by decide +kernel
theorem dL_law_3 : decode cL_law 3 = .ok (.dup, 1) := by decide +kernel
theorem dL_law_4 : decode cL_law 4 = .ok (.invokespecial 134, 3) := by decide +kernel
theorem dL_law_7 : decode cL_law 7 = .ok (.astore_n 1, 1) := by decide +kernel
theorem dL_law_8 : decode cL_law 8 = .ok (.new 135, 3) := by decide +kernel
theorem dL_law_11 : decode cL_law 11 = .ok (.dup, 1) := by decide +kernel
theorem dL_law_12 : decode cL_law 12 = .ok (.invokespecial 137, 3) := by decide +kernel
theorem dL_law_15 : decode cL_law 15 = .ok (.astore_n 2, 1) := by decide +kernel
theorem dL_law_16 : decode cL_law 16 = .ok (.iconst 1, 1) := by decide +kernel
theorem dL_law_17 : decode cL_law 17 = .ok (.newarray .long, 2) := by decide +kernel
theorem dL_law_19 : decode cL_law 19 = .ok (.astore_n 3, 1) := by decide +kernel
theorem dL_law_20 : decode cL_law 20 = .ok (.iconst 1, 1) := by decide +kernel
theorem dL_law_21 : decode cL_law 21 = .ok (.newarray .double, 2) := by decide +kernel
theorem dL_law_23 : decode cL_law 23 = .ok (.astore 4, 2) := by decide +kernel
theorem dL_law_25 : decode cL_law 25 = .ok (.iconst 0, 1) := by decide +kernel
theorem dL_law_26 : decode cL_law 26 = .ok (.istore 5, 2) := by decide +kernel
theorem dL_law_28 : decode cL_law 28 = .ok (.iload 5, 2) := by decide +kernel
theorem dL_law_30 : decode cL_law 30 = .ok (.aload_n 0, 1) := by decide +kernel
theorem dL_law_31 : decode cL_law 31 = .ok (.arraylength, 1) := by decide +kernel
theorem dL_law_32 : decode cL_law 32 = .ok (.iconst 4, 1) := by decide +kernel
theorem dL_law_33 : decode cL_law 33 = .ok (.isub, 1) := by decide +kernel
theorem dL_law_34 : decode cL_law 34 = .ok (.if_icmp .gt 2395, 3) := by decide +kernel
theorem dL_law_37 : decode cL_law 37 = .ok (.aload_n 0, 1) := by decide +kernel
theorem dL_law_38 : decode cL_law 38 = .ok (.iload 5, 2) := by decide +kernel
theorem dL_law_40 : decode cL_law 40 = .ok (.iaload, 1) := by decide +kernel
theorem dL_law_41 : decode cL_law 41 = .ok (.bipush 63, 2) := by decide +kernel
theorem dL_law_43 : decode cL_law 43 = .ok (.iand, 1) := by decide +kernel
theorem dL_law_44 : decode cL_law 44 = .ok (.tableswitch 2379 0 37 #[168, 224, 292, 348, 430, 498, 566, 634, 678, 691, 759, 827, 923, 991, 1087, 1171, 1234, 1302, 1374, 1430, 1471, 1527, 1583, 1639, 1695, 1751, 1807, 1863, 1921, 1965, 1978, 2078, 2134, 2147, 2212, 2278, 2322, 2335], 168) := by decide +kernel
theorem dL_law_212 : decode cL_law 212 = .ok (.aload_n 1, 1) := by decide +kernel
theorem dL_law_213 : decode cL_law 213 = .ok (.aload_n 0, 1) := by decide +kernel
theorem dL_law_214 : decode cL_law 214 = .ok (.iload 5, 2) := by decide +kernel
theorem dL_law_216 : decode cL_law 216 = .ok (.iconst 1, 1) := by decide +kernel
theorem dL_law_217 : decode cL_law 217 = .ok (.iadd, 1) := by decide +kernel
theorem dL_law_218 : decode cL_law 218 = .ok (.iaload, 1) := by decide +kernel
theorem dL_law_219 : decode cL_law 219 = .ok (.aload_n 3, 1) := by decide +kernel
theorem dL_law_220 : decode cL_law 220 = .ok (.invokestatic 138, 3) := by decide +kernel
theorem dL_law_223 : decode cL_law 223 = .ok (.istore 6, 2) := by decide +kernel
theorem dL_law_225 : decode cL_law 225 = .ok (.aload_n 2, 1) := by decide +kernel
theorem dL_law_226 : decode cL_law 226 = .ok (.aload_n 0, 1) := by decide +kernel
theorem dL_law_227 : decode cL_law 227 = .ok (.iload 5, 2) := by decide +kernel
theorem dL_law_229 : decode cL_law 229 = .ok (.iconst 1, 1) := by decide +kernel
theorem dL_law_230 : decode cL_law 230 = .ok (.iadd, 1) := by decide +kernel
theorem dL_law_231 : decode cL_law 231 = .ok (.iaload, 1) := by decide +kernel
theorem dL_law_232 : decode cL_law 232 = .ok (.invokevirtual 143, 3) := by decide +kernel
theorem dL_law_235 : decode cL_law 235 = .ok (.istore 7, 2) := by decide +kernel
theorem dL_law_237 : decode cL_law 237 = .ok (.aload_n 2, 1) := by decide +kernel
theorem dL_law_238 : decode cL_law 238 = .ok (.invokevirtual 144, 3) := by decide +kernel
theorem dL_law_241 : decode cL_law 241 = .ok (.iload 6, 2) := by decide +kernel
theorem dL_law_243 : decode cL_law 243 = .ok (.if_icmp .eq 5, 3) := by decide +kernel
theorem dL_law_246 : decode cL_law 246 = .ok (.iconst 0, 1) := by decide +kernel
theorem dL_law_247 : decode cL_law 247 = .ok (.ireturn, 1) := by decide +kernel
theorem dL_law_248 : decode cL_law 248 = .ok (.iload 6, 2) := by decide +kernel
theorem dL_law_250 : decode cL_law 250 = .ok (.ifCond .ne 15, 3) := by decide +kernel
theorem dL_law_253 : decode cL_law 253 = .ok (.aload_n 3, 1) := by decide +kernel
theorem dL_law_254 : decode cL_law 254 = .ok (.iconst 0, 1) := by decide +kernel
theorem dL_law_255 : decode cL_law 255 = .ok (.laload, 1) := by decide +kernel
theorem dL_law_256 : decode cL_law 256 = .ok (.iload 7, 2) := by decide +kernel
theorem dL_law_258 : decode cL_law 258 = .ok (.i2l, 1) := by decide +kernel
theorem dL_law_259 : decode cL_law 259 = .ok (.lcmp, 1) := by decide +kernel
theorem dL_law_260 : decode cL_law 260 = .ok (.ifCond .eq 5, 3) := by decide +kernel
theorem dL_law_263 : decode cL_law 263 = .ok (.iconst 0, 1) := by decide +kernel
theorem dL_law_264 : decode cL_law 264 = .ok (.ireturn, 1) := by decide +kernel
theorem dL_law_265 : decode cL_law 265 = .ok (.goto 2158, 3) := by decide +kernel
theorem dL_law_268 : decode cL_law 268 = .ok (.aload_n 1, 1) := by decide +kernel
theorem dL_law_269 : decode cL_law 269 = .ok (.aload_n 0, 1) := by decide +kernel
theorem dL_law_270 : decode cL_law 270 = .ok (.iload 5, 2) := by decide +kernel
theorem dL_law_272 : decode cL_law 272 = .ok (.iconst 1, 1) := by decide +kernel
theorem dL_law_273 : decode cL_law 273 = .ok (.iadd, 1) := by decide +kernel
theorem dL_law_274 : decode cL_law 274 = .ok (.iaload, 1) := by decide +kernel
theorem dL_law_275 : decode cL_law 275 = .ok (.aload_n 0, 1) := by decide +kernel
theorem dL_law_276 : decode cL_law 276 = .ok (.iload 5, 2) := by decide +kernel
theorem dL_law_278 : decode cL_law 278 = .ok (.iconst 2, 1) := by decide +kernel
theorem dL_law_279 : decode cL_law 279 = .ok (.iadd, 1) := by decide +kernel
theorem dL_law_280 : decode cL_law 280 = .ok (.iaload, 1) := by decide +kernel
theorem dL_law_281 : decode cL_law 281 = .ok (.aload_n 3, 1) := by decide +kernel
theorem dL_law_282 : decode cL_law 282 = .ok (.invokestatic 147, 3) := by decide +kernel
theorem dL_law_285 : decode cL_law 285 = .ok (.istore 6, 2) := by decide +kernel
theorem dL_law_287 : decode cL_law 287 = .ok (.aload_n 2, 1) := by decide +kernel
theorem dL_law_288 : decode cL_law 288 = .ok (.aload_n 0, 1) := by decide +kernel
theorem dL_law_289 : decode cL_law 289 = .ok (.iload 5, 2) := by decide +kernel
theorem dL_law_291 : decode cL_law 291 = .ok (.iconst 1, 1) := by decide +kernel
theorem dL_law_292 : decode cL_law 292 = .ok (.iadd, 1) := by decide +kernel
theorem dL_law_293 : decode cL_law 293 = .ok (.iaload, 1) := by decide +kernel
theorem dL_law_294 : decode cL_law 294 = .ok (.aload_n 0, 1) := by decide +kernel
theorem dL_law_295 : decode cL_law 295 = .ok (.iload 5, 2) := by decide +kernel
theorem dL_law_297 : decode cL_law 297 = .ok (.iconst 2, 1) := by decide +kernel
theorem dL_law_298 : decode cL_law 298 = .ok (.iadd, 1) := by decide +kernel
theorem dL_law_299 : decode cL_law 299 = .ok (.iaload, 1) := by decide +kernel
theorem dL_law_300 : decode cL_law 300 = .ok (.invokevirtual 150, 3) := by decide +kernel
theorem dL_law_303 : decode cL_law 303 = .ok (.istore 7, 2) := by decide +kernel
theorem dL_law_305 : decode cL_law 305 = .ok (.aload_n 2, 1) := by decide +kernel
theorem dL_law_306 : decode cL_law 306 = .ok (.invokevirtual 144, 3) := by decide +kernel
theorem dL_law_309 : decode cL_law 309 = .ok (.iload 6, 2) := by decide +kernel
theorem dL_law_311 : decode cL_law 311 = .ok (.if_icmp .eq 5, 3) := by decide +kernel
theorem dL_law_314 : decode cL_law 314 = .ok (.iconst 0, 1) := by decide +kernel
theorem dL_law_315 : decode cL_law 315 = .ok (.ireturn, 1) := by decide +kernel
theorem dL_law_316 : decode cL_law 316 = .ok (.iload 6, 2) := by decide +kernel
theorem dL_law_318 : decode cL_law 318 = .ok (.ifCond .ne 15, 3) := by decide +kernel
theorem dL_law_321 : decode cL_law 321 = .ok (.aload_n 3, 1) := by decide +kernel
theorem dL_law_322 : decode cL_law 322 = .ok (.iconst 0, 1) := by decide +kernel
theorem dL_law_323 : decode cL_law 323 = .ok (.laload, 1) := by decide +kernel
theorem dL_law_324 : decode cL_law 324 = .ok (.iload 7, 2) := by decide +kernel
theorem dL_law_326 : decode cL_law 326 = .ok (.i2l, 1) := by decide +kernel
theorem dL_law_327 : decode cL_law 327 = .ok (.lcmp, 1) := by decide +kernel
theorem dL_law_328 : decode cL_law 328 = .ok (.ifCond .eq 5, 3) := by decide +kernel
theorem dL_law_331 : decode cL_law 331 = .ok (.iconst 0, 1) := by decide +kernel
theorem dL_law_332 : decode cL_law 332 = .ok (.ireturn, 1) := by decide +kernel
theorem dL_law_333 : decode cL_law 333 = .ok (.goto 2090, 3) := by decide +kernel
theorem dL_law_336 : decode cL_law 336 = .ok (.aload_n 1, 1) := by decide +kernel
theorem dL_law_337 : decode cL_law 337 = .ok (.aload_n 0, 1) := by decide +kernel
theorem dL_law_338 : decode cL_law 338 = .ok (.iload 5, 2) := by decide +kernel
theorem dL_law_340 : decode cL_law 340 = .ok (.iconst 1, 1) := by decide +kernel
theorem dL_law_341 : decode cL_law 341 = .ok (.iadd, 1) := by decide +kernel
theorem dL_law_342 : decode cL_law 342 = .ok (.iaload, 1) := by decide +kernel
theorem dL_law_343 : decode cL_law 343 = .ok (.aload_n 3, 1) := by decide +kernel
theorem dL_law_344 : decode cL_law 344 = .ok (.invokestatic 151, 3) := by decide +kernel
theorem dL_law_347 : decode cL_law 347 = .ok (.istore 6, 2) := by decide +kernel
theorem dL_law_349 : decode cL_law 349 = .ok (.aload_n 2, 1) := by decide +kernel
theorem dL_law_350 : decode cL_law 350 = .ok (.aload_n 0, 1) := by decide +kernel
theorem dL_law_351 : decode cL_law 351 = .ok (.iload 5, 2) := by decide +kernel
theorem dL_law_353 : decode cL_law 353 = .ok (.iconst 1, 1) := by decide +kernel
theorem dL_law_354 : decode cL_law 354 = .ok (.iadd, 1) := by decide +kernel
theorem dL_law_355 : decode cL_law 355 = .ok (.iaload, 1) := by decide +kernel
theorem dL_law_356 : decode cL_law 356 = .ok (.invokevirtual 153, 3) := by decide +kernel
theorem dL_law_359 : decode cL_law 359 = .ok (.istore 7, 2) := by decide +kernel
theorem dL_law_361 : decode cL_law 361 = .ok (.aload_n 2, 1) := by decide +kernel
theorem dL_law_362 : decode cL_law 362 = .ok (.invokevirtual 144, 3) := by decide +kernel
theorem dL_law_365 : decode cL_law 365 = .ok (.iload 6, 2) := by decide +kernel
theorem dL_law_367 : decode cL_law 367 = .ok (.if_icmp .eq 5, 3) := by decide +kernel
theorem dL_law_370 : decode cL_law 370 = .ok (.iconst 0, 1) := by decide +kernel
theorem dL_law_371 : decode cL_law 371 = .ok (.ireturn, 1) := by decide +kernel
theorem dL_law_372 : decode cL_law 372 = .ok (.iload 6, 2) := by decide +kernel
theorem dL_law_374 : decode cL_law 374 = .ok (.ifCond .ne 15, 3) := by decide +kernel
theorem dL_law_377 : decode cL_law 377 = .ok (.aload_n 3, 1) := by decide +kernel
theorem dL_law_378 : decode cL_law 378 = .ok (.iconst 0, 1) := by decide +kernel
theorem dL_law_379 : decode cL_law 379 = .ok (.laload, 1) := by decide +kernel
theorem dL_law_380 : decode cL_law 380 = .ok (.iload 7, 2) := by decide +kernel
theorem dL_law_382 : decode cL_law 382 = .ok (.i2l, 1) := by decide +kernel
theorem dL_law_383 : decode cL_law 383 = .ok (.lcmp, 1) := by decide +kernel
theorem dL_law_384 : decode cL_law 384 = .ok (.ifCond .eq 5, 3) := by decide +kernel
theorem dL_law_387 : decode cL_law 387 = .ok (.iconst 0, 1) := by decide +kernel
theorem dL_law_388 : decode cL_law 388 = .ok (.ireturn, 1) := by decide +kernel
theorem dL_law_389 : decode cL_law 389 = .ok (.goto 2034, 3) := by decide +kernel
theorem dL_law_392 : decode cL_law 392 = .ok (.aload_n 1, 1) := by decide +kernel
theorem dL_law_393 : decode cL_law 393 = .ok (.aload_n 0, 1) := by decide +kernel
theorem dL_law_394 : decode cL_law 394 = .ok (.iload 5, 2) := by decide +kernel
theorem dL_law_396 : decode cL_law 396 = .ok (.iconst 1, 1) := by decide +kernel
theorem dL_law_397 : decode cL_law 397 = .ok (.iadd, 1) := by decide +kernel
theorem dL_law_398 : decode cL_law 398 = .ok (.iaload, 1) := by decide +kernel
theorem dL_law_399 : decode cL_law 399 = .ok (.aload_n 0, 1) := by decide +kernel
theorem dL_law_400 : decode cL_law 400 = .ok (.iload 5, 2) := by decide +kernel
theorem dL_law_402 : decode cL_law 402 = .ok (.iconst 2, 1) := by decide +kernel
theorem dL_law_403 : decode cL_law 403 = .ok (.iadd, 1) := by decide +kernel
theorem dL_law_404 : decode cL_law 404 = .ok (.iaload, 1) := by decide +kernel
theorem dL_law_405 : decode cL_law 405 = .ok (.aload_n 0, 1) := by decide +kernel
theorem dL_law_406 : decode cL_law 406 = .ok (.iload 5, 2) := by decide +kernel
theorem dL_law_408 : decode cL_law 408 = .ok (.iconst 3, 1) := by decide +kernel
theorem dL_law_409 : decode cL_law 409 = .ok (.iadd, 1) := by decide +kernel
theorem dL_law_410 : decode cL_law 410 = .ok (.iaload, 1) := by decide +kernel
theorem dL_law_411 : decode cL_law 411 = .ok (.i2c, 1) := by decide +kernel
theorem dL_law_412 : decode cL_law 412 = .ok (.aload_n 3, 1) := by decide +kernel
theorem dL_law_413 : decode cL_law 413 = .ok (.invokestatic 154, 3) := by decide +kernel
theorem dL_law_416 : decode cL_law 416 = .ok (.istore 6, 2) := by decide +kernel
theorem dL_law_418 : decode cL_law 418 = .ok (.aload_n 2, 1) := by decide +kernel
theorem dL_law_419 : decode cL_law 419 = .ok (.aload_n 0, 1) := by decide +kernel
theorem dL_law_420 : decode cL_law 420 = .ok (.iload 5, 2) := by decide +kernel
theorem dL_law_422 : decode cL_law 422 = .ok (.iconst 1, 1) := by decide +kernel
theorem dL_law_423 : decode cL_law 423 = .ok (.iadd, 1) := by decide +kernel
theorem dL_law_424 : decode cL_law 424 = .ok (.iaload, 1) := by decide +kernel
theorem dL_law_425 : decode cL_law 425 = .ok (.aload_n 0, 1) := by decide +kernel
theorem dL_law_426 : decode cL_law 426 = .ok (.iload 5, 2) := by decide +kernel
theorem dL_law_428 : decode cL_law 428 = .ok (.iconst 2, 1) := by decide +kernel
theorem dL_law_429 : decode cL_law 429 = .ok (.iadd, 1) := by decide +kernel
theorem dL_law_430 : decode cL_law 430 = .ok (.iaload, 1) := by decide +kernel
theorem dL_law_431 : decode cL_law 431 = .ok (.aload_n 0, 1) := by decide +kernel
theorem dL_law_432 : decode cL_law 432 = .ok (.iload 5, 2) := by decide +kernel
theorem dL_law_434 : decode cL_law 434 = .ok (.iconst 3, 1) := by decide +kernel
theorem dL_law_435 : decode cL_law 435 = .ok (.iadd, 1) := by decide +kernel
theorem dL_law_436 : decode cL_law 436 = .ok (.iaload, 1) := by decide +kernel
theorem dL_law_437 : decode cL_law 437 = .ok (.i2c, 1) := by decide +kernel
theorem dL_law_438 : decode cL_law 438 = .ok (.invokevirtual 157, 3) := by decide +kernel
theorem dL_law_441 : decode cL_law 441 = .ok (.istore 7, 2) := by decide +kernel
theorem dL_law_443 : decode cL_law 443 = .ok (.aload_n 2, 1) := by decide +kernel
theorem dL_law_444 : decode cL_law 444 = .ok (.invokevirtual 144, 3) := by decide +kernel
theorem dL_law_447 : decode cL_law 447 = .ok (.iload 6, 2) := by decide +kernel
theorem dL_law_449 : decode cL_law 449 = .ok (.if_icmp .eq 5, 3) := by decide +kernel
theorem dL_law_452 : decode cL_law 452 = .ok (.iconst 0, 1) := by decide +kernel
theorem dL_law_453 : decode cL_law 453 = .ok (.ireturn, 1) := by decide +kernel
theorem dL_law_454 : decode cL_law 454 = .ok (.iload 6, 2) := by decide +kernel
theorem dL_law_456 : decode cL_law 456 = .ok (.ifCond .ne 15, 3) := by decide +kernel
theorem dL_law_459 : decode cL_law 459 = .ok (.aload_n 3, 1) := by decide +kernel
theorem dL_law_460 : decode cL_law 460 = .ok (.iconst 0, 1) := by decide +kernel
theorem dL_law_461 : decode cL_law 461 = .ok (.laload, 1) := by decide +kernel
theorem dL_law_462 : decode cL_law 462 = .ok (.iload 7, 2) := by decide +kernel
theorem dL_law_464 : decode cL_law 464 = .ok (.i2l, 1) := by decide +kernel
theorem dL_law_465 : decode cL_law 465 = .ok (.lcmp, 1) := by decide +kernel
theorem dL_law_466 : decode cL_law 466 = .ok (.ifCond .eq 5, 3) := by decide +kernel
theorem dL_law_469 : decode cL_law 469 = .ok (.iconst 0, 1) := by decide +kernel
theorem dL_law_470 : decode cL_law 470 = .ok (.ireturn, 1) := by decide +kernel
theorem dL_law_471 : decode cL_law 471 = .ok (.goto 1952, 3) := by decide +kernel
theorem dL_law_474 : decode cL_law 474 = .ok (.aload_n 1, 1) := by decide +kernel
theorem dL_law_475 : decode cL_law 475 = .ok (.aload_n 0, 1) := by decide +kernel
theorem dL_law_476 : decode cL_law 476 = .ok (.iload 5, 2) := by decide +kernel
theorem dL_law_478 : decode cL_law 478 = .ok (.iconst 1, 1) := by decide +kernel
theorem dL_law_479 : decode cL_law 479 = .ok (.iadd, 1) := by decide +kernel
theorem dL_law_480 : decode cL_law 480 = .ok (.iaload, 1) := by decide +kernel
theorem dL_law_481 : decode cL_law 481 = .ok (.aload_n 0, 1) := by decide +kernel
theorem dL_law_482 : decode cL_law 482 = .ok (.iload 5, 2) := by decide +kernel
theorem dL_law_484 : decode cL_law 484 = .ok (.iconst 2, 1) := by decide +kernel
theorem dL_law_485 : decode cL_law 485 = .ok (.iadd, 1) := by decide +kernel
theorem dL_law_486 : decode cL_law 486 = .ok (.iaload, 1) := by decide +kernel
theorem dL_law_487 : decode cL_law 487 = .ok (.aload_n 3, 1) := by decide +kernel
theorem dL_law_488 : decode cL_law 488 = .ok (.invokestatic 158, 3) := by decide +kernel
theorem dL_law_491 : decode cL_law 491 = .ok (.istore 6, 2) := by decide +kernel
theorem dL_law_493 : decode cL_law 493 = .ok (.aload_n 2, 1) := by decide +kernel
theorem dL_law_494 : decode cL_law 494 = .ok (.aload_n 0, 1) := by decide +kernel
theorem dL_law_495 : decode cL_law 495 = .ok (.iload 5, 2) := by decide +kernel
theorem dL_law_497 : decode cL_law 497 = .ok (.iconst 1, 1) := by decide +kernel
theorem dL_law_498 : decode cL_law 498 = .ok (.iadd, 1) := by decide +kernel
theorem dL_law_499 : decode cL_law 499 = .ok (.iaload, 1) := by decide +kernel
theorem dL_law_500 : decode cL_law 500 = .ok (.aload_n 0, 1) := by decide +kernel
theorem dL_law_501 : decode cL_law 501 = .ok (.iload 5, 2) := by decide +kernel
theorem dL_law_503 : decode cL_law 503 = .ok (.iconst 2, 1) := by decide +kernel
theorem dL_law_504 : decode cL_law 504 = .ok (.iadd, 1) := by decide +kernel
theorem dL_law_505 : decode cL_law 505 = .ok (.iaload, 1) := by decide +kernel
theorem dL_law_506 : decode cL_law 506 = .ok (.invokevirtual 160, 3) := by decide +kernel
theorem dL_law_509 : decode cL_law 509 = .ok (.istore 7, 2) := by decide +kernel
theorem dL_law_511 : decode cL_law 511 = .ok (.aload_n 2, 1) := by decide +kernel
theorem dL_law_512 : decode cL_law 512 = .ok (.invokevirtual 144, 3) := by decide +kernel
theorem dL_law_515 : decode cL_law 515 = .ok (.iload 6, 2) := by decide +kernel
theorem dL_law_517 : decode cL_law 517 = .ok (.if_icmp .eq 5, 3) := by decide +kernel
theorem dL_law_520 : decode cL_law 520 = .ok (.iconst 0, 1) := by decide +kernel
theorem dL_law_521 : decode cL_law 521 = .ok (.ireturn, 1) := by decide +kernel
theorem dL_law_522 : decode cL_law 522 = .ok (.iload 6, 2) := by decide +kernel
theorem dL_law_524 : decode cL_law 524 = .ok (.ifCond .ne 15, 3) := by decide +kernel
theorem dL_law_527 : decode cL_law 527 = .ok (.aload_n 3, 1) := by decide +kernel
theorem dL_law_528 : decode cL_law 528 = .ok (.iconst 0, 1) := by decide +kernel
theorem dL_law_529 : decode cL_law 529 = .ok (.laload, 1) := by decide +kernel
theorem dL_law_530 : decode cL_law 530 = .ok (.iload 7, 2) := by decide +kernel
theorem dL_law_532 : decode cL_law 532 = .ok (.i2l, 1) := by decide +kernel
theorem dL_law_533 : decode cL_law 533 = .ok (.lcmp, 1) := by decide +kernel
theorem dL_law_534 : decode cL_law 534 = .ok (.ifCond .eq 5, 3) := by decide +kernel
theorem dL_law_537 : decode cL_law 537 = .ok (.iconst 0, 1) := by decide +kernel
theorem dL_law_538 : decode cL_law 538 = .ok (.ireturn, 1) := by decide +kernel
theorem dL_law_539 : decode cL_law 539 = .ok (.goto 1884, 3) := by decide +kernel
theorem dL_law_542 : decode cL_law 542 = .ok (.aload_n 1, 1) := by decide +kernel
theorem dL_law_543 : decode cL_law 543 = .ok (.aload_n 0, 1) := by decide +kernel
theorem dL_law_544 : decode cL_law 544 = .ok (.iload 5, 2) := by decide +kernel
theorem dL_law_546 : decode cL_law 546 = .ok (.iconst 1, 1) := by decide +kernel
theorem dL_law_547 : decode cL_law 547 = .ok (.iadd, 1) := by decide +kernel
theorem dL_law_548 : decode cL_law 548 = .ok (.iaload, 1) := by decide +kernel
theorem dL_law_549 : decode cL_law 549 = .ok (.aload_n 0, 1) := by decide +kernel
theorem dL_law_550 : decode cL_law 550 = .ok (.iload 5, 2) := by decide +kernel
theorem dL_law_552 : decode cL_law 552 = .ok (.iconst 2, 1) := by decide +kernel
theorem dL_law_553 : decode cL_law 553 = .ok (.iadd, 1) := by decide +kernel
theorem dL_law_554 : decode cL_law 554 = .ok (.iaload, 1) := by decide +kernel
theorem dL_law_555 : decode cL_law 555 = .ok (.aload_n 3, 1) := by decide +kernel
theorem dL_law_556 : decode cL_law 556 = .ok (.invokestatic 161, 3) := by decide +kernel
theorem dL_law_559 : decode cL_law 559 = .ok (.istore 6, 2) := by decide +kernel
theorem dL_law_561 : decode cL_law 561 = .ok (.aload_n 2, 1) := by decide +kernel
theorem dL_law_562 : decode cL_law 562 = .ok (.aload_n 0, 1) := by decide +kernel
theorem dL_law_563 : decode cL_law 563 = .ok (.iload 5, 2) := by decide +kernel
theorem dL_law_565 : decode cL_law 565 = .ok (.iconst 1, 1) := by decide +kernel
theorem dL_law_566 : decode cL_law 566 = .ok (.iadd, 1) := by decide +kernel
theorem dL_law_567 : decode cL_law 567 = .ok (.iaload, 1) := by decide +kernel
theorem dL_law_568 : decode cL_law 568 = .ok (.aload_n 0, 1) := by decide +kernel
theorem dL_law_569 : decode cL_law 569 = .ok (.iload 5, 2) := by decide +kernel
theorem dL_law_571 : decode cL_law 571 = .ok (.iconst 2, 1) := by decide +kernel
theorem dL_law_572 : decode cL_law 572 = .ok (.iadd, 1) := by decide +kernel
theorem dL_law_573 : decode cL_law 573 = .ok (.iaload, 1) := by decide +kernel
theorem dL_law_574 : decode cL_law 574 = .ok (.invokevirtual 163, 3) := by decide +kernel
theorem dL_law_577 : decode cL_law 577 = .ok (.istore 7, 2) := by decide +kernel
theorem dL_law_579 : decode cL_law 579 = .ok (.aload_n 2, 1) := by decide +kernel
theorem dL_law_580 : decode cL_law 580 = .ok (.invokevirtual 144, 3) := by decide +kernel
theorem dL_law_583 : decode cL_law 583 = .ok (.iload 6, 2) := by decide +kernel
theorem dL_law_585 : decode cL_law 585 = .ok (.if_icmp .eq 5, 3) := by decide +kernel
theorem dL_law_588 : decode cL_law 588 = .ok (.iconst 0, 1) := by decide +kernel
theorem dL_law_589 : decode cL_law 589 = .ok (.ireturn, 1) := by decide +kernel
theorem dL_law_590 : decode cL_law 590 = .ok (.iload 6, 2) := by decide +kernel
theorem dL_law_592 : decode cL_law 592 = .ok (.ifCond .ne 15, 3) := by decide +kernel
theorem dL_law_595 : decode cL_law 595 = .ok (.aload_n 3, 1) := by decide +kernel
theorem dL_law_596 : decode cL_law 596 = .ok (.iconst 0, 1) := by decide +kernel
theorem dL_law_597 : decode cL_law 597 = .ok (.laload, 1) := by decide +kernel
theorem dL_law_598 : decode cL_law 598 = .ok (.iload 7, 2) := by decide +kernel
theorem dL_law_600 : decode cL_law 600 = .ok (.i2l, 1) := by decide +kernel
theorem dL_law_601 : decode cL_law 601 = .ok (.lcmp, 1) := by decide +kernel
theorem dL_law_602 : decode cL_law 602 = .ok (.ifCond .eq 5, 3) := by decide +kernel
theorem dL_law_605 : decode cL_law 605 = .ok (.iconst 0, 1) := by decide +kernel
theorem dL_law_606 : decode cL_law 606 = .ok (.ireturn, 1) := by decide +kernel
theorem dL_law_607 : decode cL_law 607 = .ok (.goto 1816, 3) := by decide +kernel
theorem dL_law_610 : decode cL_law 610 = .ok (.aload_n 1, 1) := by decide +kernel
theorem dL_law_611 : decode cL_law 611 = .ok (.aload_n 0, 1) := by decide +kernel
theorem dL_law_612 : decode cL_law 612 = .ok (.iload 5, 2) := by decide +kernel
theorem dL_law_614 : decode cL_law 614 = .ok (.iconst 1, 1) := by decide +kernel
theorem dL_law_615 : decode cL_law 615 = .ok (.iadd, 1) := by decide +kernel
theorem dL_law_616 : decode cL_law 616 = .ok (.iaload, 1) := by decide +kernel
theorem dL_law_617 : decode cL_law 617 = .ok (.aload_n 0, 1) := by decide +kernel
theorem dL_law_618 : decode cL_law 618 = .ok (.iload 5, 2) := by decide +kernel
theorem dL_law_620 : decode cL_law 620 = .ok (.iconst 2, 1) := by decide +kernel
theorem dL_law_621 : decode cL_law 621 = .ok (.iadd, 1) := by decide +kernel
theorem dL_law_622 : decode cL_law 622 = .ok (.iaload, 1) := by decide +kernel
theorem dL_law_623 : decode cL_law 623 = .ok (.aload_n 3, 1) := by decide +kernel
theorem dL_law_624 : decode cL_law 624 = .ok (.invokestatic 164, 3) := by decide +kernel
theorem dL_law_627 : decode cL_law 627 = .ok (.istore 6, 2) := by decide +kernel
theorem dL_law_629 : decode cL_law 629 = .ok (.aload_n 2, 1) := by decide +kernel
theorem dL_law_630 : decode cL_law 630 = .ok (.aload_n 0, 1) := by decide +kernel
theorem dL_law_631 : decode cL_law 631 = .ok (.iload 5, 2) := by decide +kernel
theorem dL_law_633 : decode cL_law 633 = .ok (.iconst 1, 1) := by decide +kernel
theorem dL_law_634 : decode cL_law 634 = .ok (.iadd, 1) := by decide +kernel
theorem dL_law_635 : decode cL_law 635 = .ok (.iaload, 1) := by decide +kernel
theorem dL_law_636 : decode cL_law 636 = .ok (.aload_n 0, 1) := by decide +kernel
theorem dL_law_637 : decode cL_law 637 = .ok (.iload 5, 2) := by decide +kernel
theorem dL_law_639 : decode cL_law 639 = .ok (.iconst 2, 1) := by decide +kernel
theorem dL_law_640 : decode cL_law 640 = .ok (.iadd, 1) := by decide +kernel
theorem dL_law_641 : decode cL_law 641 = .ok (.iaload, 1) := by decide +kernel
theorem dL_law_642 : decode cL_law 642 = .ok (.invokevirtual 166, 3) := by decide +kernel
theorem dL_law_645 : decode cL_law 645 = .ok (.istore 7, 2) := by decide +kernel
theorem dL_law_647 : decode cL_law 647 = .ok (.aload_n 2, 1) := by decide +kernel
theorem dL_law_648 : decode cL_law 648 = .ok (.invokevirtual 144, 3) := by decide +kernel
theorem dL_law_651 : decode cL_law 651 = .ok (.iload 6, 2) := by decide +kernel
theorem dL_law_653 : decode cL_law 653 = .ok (.if_icmp .eq 5, 3) := by decide +kernel
theorem dL_law_656 : decode cL_law 656 = .ok (.iconst 0, 1) := by decide +kernel
theorem dL_law_657 : decode cL_law 657 = .ok (.ireturn, 1) := by decide +kernel
theorem dL_law_658 : decode cL_law 658 = .ok (.iload 6, 2) := by decide +kernel
theorem dL_law_660 : decode cL_law 660 = .ok (.ifCond .ne 15, 3) := by decide +kernel
theorem dL_law_663 : decode cL_law 663 = .ok (.aload_n 3, 1) := by decide +kernel
theorem dL_law_664 : decode cL_law 664 = .ok (.iconst 0, 1) := by decide +kernel
theorem dL_law_665 : decode cL_law 665 = .ok (.laload, 1) := by decide +kernel
theorem dL_law_666 : decode cL_law 666 = .ok (.iload 7, 2) := by decide +kernel
theorem dL_law_668 : decode cL_law 668 = .ok (.i2l, 1) := by decide +kernel
theorem dL_law_669 : decode cL_law 669 = .ok (.lcmp, 1) := by decide +kernel
theorem dL_law_670 : decode cL_law 670 = .ok (.ifCond .eq 5, 3) := by decide +kernel
theorem dL_law_673 : decode cL_law 673 = .ok (.iconst 0, 1) := by decide +kernel
theorem dL_law_674 : decode cL_law 674 = .ok (.ireturn, 1) := by decide +kernel
theorem dL_law_675 : decode cL_law 675 = .ok (.goto 1748, 3) := by decide +kernel
theorem dL_law_678 : decode cL_law 678 = .ok (.aload_n 1, 1) := by decide +kernel
theorem dL_law_679 : decode cL_law 679 = .ok (.aload_n 3, 1) := by decide +kernel
theorem dL_law_680 : decode cL_law 680 = .ok (.invokestatic 167, 3) := by decide +kernel
theorem dL_law_683 : decode cL_law 683 = .ok (.istore 6, 2) := by decide +kernel
theorem dL_law_685 : decode cL_law 685 = .ok (.aload_n 2, 1) := by decide +kernel
theorem dL_law_686 : decode cL_law 686 = .ok (.invokevirtual 170, 3) := by decide +kernel
theorem dL_law_689 : decode cL_law 689 = .ok (.istore 7, 2) := by decide +kernel
theorem dL_law_691 : decode cL_law 691 = .ok (.aload_n 2, 1) := by decide +kernel
theorem dL_law_692 : decode cL_law 692 = .ok (.invokevirtual 144, 3) := by decide +kernel
theorem dL_law_695 : decode cL_law 695 = .ok (.iload 6, 2) := by decide +kernel
theorem dL_law_697 : decode cL_law 697 = .ok (.if_icmp .eq 5, 3) := by decide +kernel
theorem dL_law_700 : decode cL_law 700 = .ok (.iconst 0, 1) := by decide +kernel
theorem dL_law_701 : decode cL_law 701 = .ok (.ireturn, 1) := by decide +kernel
theorem dL_law_702 : decode cL_law 702 = .ok (.iload 6, 2) := by decide +kernel
theorem dL_law_704 : decode cL_law 704 = .ok (.ifCond .ne 15, 3) := by decide +kernel
theorem dL_law_707 : decode cL_law 707 = .ok (.aload_n 3, 1) := by decide +kernel
theorem dL_law_708 : decode cL_law 708 = .ok (.iconst 0, 1) := by decide +kernel
theorem dL_law_709 : decode cL_law 709 = .ok (.laload, 1) := by decide +kernel
theorem dL_law_710 : decode cL_law 710 = .ok (.iload 7, 2) := by decide +kernel
theorem dL_law_712 : decode cL_law 712 = .ok (.i2l, 1) := by decide +kernel
theorem dL_law_713 : decode cL_law 713 = .ok (.lcmp, 1) := by decide +kernel
theorem dL_law_714 : decode cL_law 714 = .ok (.ifCond .eq 5, 3) := by decide +kernel
theorem dL_law_717 : decode cL_law 717 = .ok (.iconst 0, 1) := by decide +kernel
theorem dL_law_718 : decode cL_law 718 = .ok (.ireturn, 1) := by decide +kernel
theorem dL_law_719 : decode cL_law 719 = .ok (.goto 1704, 3) := by decide +kernel
theorem dL_law_722 : decode cL_law 722 = .ok (.aload_n 1, 1) := by decide +kernel
theorem dL_law_723 : decode cL_law 723 = .ok (.invokevirtual 171, 3) := by decide +kernel
theorem dL_law_726 : decode cL_law 726 = .ok (.aload_n 2, 1) := by decide +kernel
theorem dL_law_727 : decode cL_law 727 = .ok (.invokevirtual 174, 3) := by decide +kernel
theorem dL_law_730 : decode cL_law 730 = .ok (.if_icmp .eq 1693, 3) := by decide +kernel
theorem dL_law_733 : decode cL_law 733 = .ok (.iconst 0, 1) := by decide +kernel
theorem dL_law_734 : decode cL_law 734 = .ok (.ireturn, 1) := by decide +kernel
theorem dL_law_735 : decode cL_law 735 = .ok (.aload_n 1, 1) := by decide +kernel
theorem dL_law_736 : decode cL_law 736 = .ok (.aload_n 0, 1) := by decide +kernel
theorem dL_law_737 : decode cL_law 737 = .ok (.iload 5, 2) := by decide +kernel
theorem dL_law_739 : decode cL_law 739 = .ok (.iconst 1, 1) := by decide +kernel
theorem dL_law_740 : decode cL_law 740 = .ok (.iadd, 1) := by decide +kernel
theorem dL_law_741 : decode cL_law 741 = .ok (.iaload, 1) := by decide +kernel
theorem dL_law_742 : decode cL_law 742 = .ok (.aload_n 0, 1) := by decide +kernel
theorem dL_law_743 : decode cL_law 743 = .ok (.iload 5, 2) := by decide +kernel
theorem dL_law_745 : decode cL_law 745 = .ok (.iconst 2, 1) := by decide +kernel
theorem dL_law_746 : decode cL_law 746 = .ok (.iadd, 1) := by decide +kernel
theorem dL_law_747 : decode cL_law 747 = .ok (.iaload, 1) := by decide +kernel
theorem dL_law_748 : decode cL_law 748 = .ok (.aload_n 3, 1) := by decide +kernel
theorem dL_law_749 : decode cL_law 749 = .ok (.invokestatic 175, 3) := by decide +kernel
theorem dL_law_752 : decode cL_law 752 = .ok (.istore 6, 2) := by decide +kernel
theorem dL_law_754 : decode cL_law 754 = .ok (.aload_n 2, 1) := by decide +kernel
theorem dL_law_755 : decode cL_law 755 = .ok (.aload_n 0, 1) := by decide +kernel
theorem dL_law_756 : decode cL_law 756 = .ok (.iload 5, 2) := by decide +kernel
theorem dL_law_758 : decode cL_law 758 = .ok (.iconst 1, 1) := by decide +kernel
theorem dL_law_759 : decode cL_law 759 = .ok (.iadd, 1) := by decide +kernel
theorem dL_law_760 : decode cL_law 760 = .ok (.iaload, 1) := by decide +kernel
theorem dL_law_761 : decode cL_law 761 = .ok (.aload_n 0, 1) := by decide +kernel
theorem dL_law_762 : decode cL_law 762 = .ok (.iload 5, 2) := by decide +kernel
theorem dL_law_764 : decode cL_law 764 = .ok (.iconst 2, 1) := by decide +kernel
theorem dL_law_765 : decode cL_law 765 = .ok (.iadd, 1) := by decide +kernel
theorem dL_law_766 : decode cL_law 766 = .ok (.iaload, 1) := by decide +kernel
theorem dL_law_767 : decode cL_law 767 = .ok (.invokevirtual 177, 3) := by decide +kernel
theorem dL_law_770 : decode cL_law 770 = .ok (.istore 7, 2) := by decide +kernel
theorem dL_law_772 : decode cL_law 772 = .ok (.aload_n 2, 1) := by decide +kernel
theorem dL_law_773 : decode cL_law 773 = .ok (.invokevirtual 144, 3) := by decide +kernel
theorem dL_law_776 : decode cL_law 776 = .ok (.iload 6, 2) := by decide +kernel
theorem dL_law_778 : decode cL_law 778 = .ok (.if_icmp .eq 5, 3) := by decide +kernel
theorem dL_law_781 : decode cL_law 781 = .ok (.iconst 0, 1) := by decide +kernel
theorem dL_law_782 : decode cL_law 782 = .ok (.ireturn, 1) := by decide +kernel
theorem dL_law_783 : decode cL_law 783 = .ok (.iload 6, 2) := by decide +kernel
theorem dL_law_785 : decode cL_law 785 = .ok (.ifCond .ne 15, 3) := by decide +kernel
theorem dL_law_788 : decode cL_law 788 = .ok (.aload_n 3, 1) := by decide +kernel
theorem dL_law_789 : decode cL_law 789 = .ok (.iconst 0, 1) := by decide +kernel
theorem dL_law_790 : decode cL_law 790 = .ok (.laload, 1) := by decide +kernel
theorem dL_law_791 : decode cL_law 791 = .ok (.iload 7, 2) := by decide +kernel
theorem dL_law_793 : decode cL_law 793 = .ok (.i2l, 1) := by decide +kernel
theorem dL_law_794 : decode cL_law 794 = .ok (.lcmp, 1) := by decide +kernel
theorem dL_law_795 : decode cL_law 795 = .ok (.ifCond .eq 5, 3) := by decide +kernel
theorem dL_law_798 : decode cL_law 798 = .ok (.iconst 0, 1) := by decide +kernel
theorem dL_law_799 : decode cL_law 799 = .ok (.ireturn, 1) := by decide +kernel
theorem dL_law_800 : decode cL_law 800 = .ok (.goto 1623, 3) := by decide +kernel
theorem dL_law_803 : decode cL_law 803 = .ok (.aload_n 1, 1) := by decide +kernel
theorem dL_law_804 : decode cL_law 804 = .ok (.aload_n 0, 1) := by decide +kernel
theorem dL_law_805 : decode cL_law 805 = .ok (.iload 5, 2) := by decide +kernel
theorem dL_law_807 : decode cL_law 807 = .ok (.iconst 1, 1) := by decide +kernel
theorem dL_law_808 : decode cL_law 808 = .ok (.iadd, 1) := by decide +kernel
theorem dL_law_809 : decode cL_law 809 = .ok (.iaload, 1) := by decide +kernel
theorem dL_law_810 : decode cL_law 810 = .ok (.aload_n 0, 1) := by decide +kernel
theorem dL_law_811 : decode cL_law 811 = .ok (.iload 5, 2) := by decide +kernel
theorem dL_law_813 : decode cL_law 813 = .ok (.iconst 2, 1) := by decide +kernel
theorem dL_law_814 : decode cL_law 814 = .ok (.iadd, 1) := by decide +kernel
theorem dL_law_815 : decode cL_law 815 = .ok (.iaload, 1) := by decide +kernel
theorem dL_law_816 : decode cL_law 816 = .ok (.aload_n 3, 1) := by decide +kernel
theorem dL_law_817 : decode cL_law 817 = .ok (.invokestatic 178, 3) := by decide +kernel
theorem dL_law_820 : decode cL_law 820 = .ok (.istore 6, 2) := by decide +kernel
theorem dL_law_822 : decode cL_law 822 = .ok (.aload_n 2, 1) := by decide +kernel
theorem dL_law_823 : decode cL_law 823 = .ok (.aload_n 0, 1) := by decide +kernel
theorem dL_law_824 : decode cL_law 824 = .ok (.iload 5, 2) := by decide +kernel
theorem dL_law_826 : decode cL_law 826 = .ok (.iconst 1, 1) := by decide +kernel
theorem dL_law_827 : decode cL_law 827 = .ok (.iadd, 1) := by decide +kernel
theorem dL_law_828 : decode cL_law 828 = .ok (.iaload, 1) := by decide +kernel
theorem dL_law_829 : decode cL_law 829 = .ok (.aload_n 0, 1) := by decide +kernel
theorem dL_law_830 : decode cL_law 830 = .ok (.iload 5, 2) := by decide +kernel
theorem dL_law_832 : decode cL_law 832 = .ok (.iconst 2, 1) := by decide +kernel
theorem dL_law_833 : decode cL_law 833 = .ok (.iadd, 1) := by decide +kernel
theorem dL_law_834 : decode cL_law 834 = .ok (.iaload, 1) := by decide +kernel
theorem dL_law_835 : decode cL_law 835 = .ok (.invokevirtual 180, 3) := by decide +kernel
theorem dL_law_838 : decode cL_law 838 = .ok (.istore 7, 2) := by decide +kernel
theorem dL_law_840 : decode cL_law 840 = .ok (.aload_n 2, 1) := by decide +kernel
theorem dL_law_841 : decode cL_law 841 = .ok (.invokevirtual 144, 3) := by decide +kernel
theorem dL_law_844 : decode cL_law 844 = .ok (.iload 6, 2) := by decide +kernel
theorem dL_law_846 : decode cL_law 846 = .ok (.if_icmp .eq 5, 3) := by decide +kernel
theorem dL_law_849 : decode cL_law 849 = .ok (.iconst 0, 1) := by decide +kernel
theorem dL_law_850 : decode cL_law 850 = .ok (.ireturn, 1) := by decide +kernel
theorem dL_law_851 : decode cL_law 851 = .ok (.iload 6, 2) := by decide +kernel
theorem dL_law_853 : decode cL_law 853 = .ok (.ifCond .ne 15, 3) := by decide +kernel
theorem dL_law_856 : decode cL_law 856 = .ok (.aload_n 3, 1) := by decide +kernel
theorem dL_law_857 : decode cL_law 857 = .ok (.iconst 0, 1) := by decide +kernel
theorem dL_law_858 : decode cL_law 858 = .ok (.laload, 1) := by decide +kernel
theorem dL_law_859 : decode cL_law 859 = .ok (.iload 7, 2) := by decide +kernel
theorem dL_law_861 : decode cL_law 861 = .ok (.i2l, 1) := by decide +kernel
theorem dL_law_862 : decode cL_law 862 = .ok (.lcmp, 1) := by decide +kernel
theorem dL_law_863 : decode cL_law 863 = .ok (.ifCond .eq 5, 3) := by decide +kernel
theorem dL_law_866 : decode cL_law 866 = .ok (.iconst 0, 1) := by decide +kernel
theorem dL_law_867 : decode cL_law 867 = .ok (.ireturn, 1) := by decide +kernel
theorem dL_law_868 : decode cL_law 868 = .ok (.goto 1555, 3) := by decide +kernel
theorem dL_law_871 : decode cL_law 871 = .ok (.aload_n 1, 1) := by decide +kernel
theorem dL_law_872 : decode cL_law 872 = .ok (.aload_n 0, 1) := by decide +kernel
theorem dL_law_873 : decode cL_law 873 = .ok (.iload 5, 2) := by decide +kernel
theorem dL_law_875 : decode cL_law 875 = .ok (.iconst 1, 1) := by decide +kernel
theorem dL_law_876 : decode cL_law 876 = .ok (.iadd, 1) := by decide +kernel
theorem dL_law_877 : decode cL_law 877 = .ok (.iaload, 1) := by decide +kernel
theorem dL_law_878 : decode cL_law 878 = .ok (.aload_n 0, 1) := by decide +kernel
theorem dL_law_879 : decode cL_law 879 = .ok (.iload 5, 2) := by decide +kernel
theorem dL_law_881 : decode cL_law 881 = .ok (.iconst 2, 1) := by decide +kernel
theorem dL_law_882 : decode cL_law 882 = .ok (.iadd, 1) := by decide +kernel
theorem dL_law_883 : decode cL_law 883 = .ok (.iaload, 1) := by decide +kernel
theorem dL_law_884 : decode cL_law 884 = .ok (.aload_n 0, 1) := by decide +kernel
theorem dL_law_885 : decode cL_law 885 = .ok (.iload 5, 2) := by decide +kernel
theorem dL_law_887 : decode cL_law 887 = .ok (.iconst 3, 1) := by decide +kernel
theorem dL_law_888 : decode cL_law 888 = .ok (.iadd, 1) := by decide +kernel
theorem dL_law_889 : decode cL_law 889 = .ok (.iaload, 1) := by decide +kernel
theorem dL_law_890 : decode cL_law 890 = .ok (.ifCond .eq 7, 3) := by decide +kernel
theorem dL_law_893 : decode cL_law 893 = .ok (.iconst 1, 1) := by decide +kernel
theorem dL_law_894 : decode cL_law 894 = .ok (.goto 4, 3) := by decide +kernel
theorem dL_law_897 : decode cL_law 897 = .ok (.iconst 0, 1) := by decide +kernel
theorem dL_law_898 : decode cL_law 898 = .ok (.aload_n 3, 1) := by decide +kernel
theorem dL_law_899 : decode cL_law 899 = .ok (.invokestatic 181, 3) := by decide +kernel
theorem dL_law_902 : decode cL_law 902 = .ok (.istore 6, 2) := by decide +kernel
theorem dL_law_904 : decode cL_law 904 = .ok (.aload_n 2, 1) := by decide +kernel
theorem dL_law_905 : decode cL_law 905 = .ok (.aload_n 0, 1) := by decide +kernel
theorem dL_law_906 : decode cL_law 906 = .ok (.iload 5, 2) := by decide +kernel
theorem dL_law_908 : decode cL_law 908 = .ok (.iconst 1, 1) := by decide +kernel
theorem dL_law_909 : decode cL_law 909 = .ok (.iadd, 1) := by decide +kernel
theorem dL_law_910 : decode cL_law 910 = .ok (.iaload, 1) := by decide +kernel
theorem dL_law_911 : decode cL_law 911 = .ok (.aload_n 0, 1) := by decide +kernel
theorem dL_law_912 : decode cL_law 912 = .ok (.iload 5, 2) := by decide +kernel
theorem dL_law_914 : decode cL_law 914 = .ok (.iconst 2, 1) := by decide +kernel
theorem dL_law_915 : decode cL_law 915 = .ok (.iadd, 1) := by decide +kernel
theorem dL_law_916 : decode cL_law 916 = .ok (.iaload, 1) := by decide +kernel
theorem dL_law_917 : decode cL_law 917 = .ok (.aload_n 0, 1) := by decide +kernel
theorem dL_law_918 : decode cL_law 918 = .ok (.iload 5, 2) := by decide +kernel
theorem dL_law_920 : decode cL_law 920 = .ok (.iconst 3, 1) := by decide +kernel
theorem dL_law_921 : decode cL_law 921 = .ok (.iadd, 1) := by decide +kernel
theorem dL_law_922 : decode cL_law 922 = .ok (.iaload, 1) := by decide +kernel
theorem dL_law_923 : decode cL_law 923 = .ok (.ifCond .eq 7, 3) := by decide +kernel
theorem dL_law_926 : decode cL_law 926 = .ok (.iconst 1, 1) := by decide +kernel
theorem dL_law_927 : decode cL_law 927 = .ok (.goto 4, 3) := by decide +kernel
theorem dL_law_930 : decode cL_law 930 = .ok (.iconst 0, 1) := by decide +kernel
theorem dL_law_931 : decode cL_law 931 = .ok (.invokevirtual 184, 3) := by decide +kernel
theorem dL_law_934 : decode cL_law 934 = .ok (.istore 7, 2) := by decide +kernel
theorem dL_law_936 : decode cL_law 936 = .ok (.aload_n 2, 1) := by decide +kernel
theorem dL_law_937 : decode cL_law 937 = .ok (.invokevirtual 144, 3) := by decide +kernel
theorem dL_law_940 : decode cL_law 940 = .ok (.iload 6, 2) := by decide +kernel
theorem dL_law_942 : decode cL_law 942 = .ok (.if_icmp .eq 5, 3) := by decide +kernel
theorem dL_law_945 : decode cL_law 945 = .ok (.iconst 0, 1) := by decide +kernel
theorem dL_law_946 : decode cL_law 946 = .ok (.ireturn, 1) := by decide +kernel
theorem dL_law_947 : decode cL_law 947 = .ok (.iload 6, 2) := by decide +kernel
theorem dL_law_949 : decode cL_law 949 = .ok (.ifCond .ne 15, 3) := by decide +kernel
theorem dL_law_952 : decode cL_law 952 = .ok (.aload_n 3, 1) := by decide +kernel
theorem dL_law_953 : decode cL_law 953 = .ok (.iconst 0, 1) := by decide +kernel
theorem dL_law_954 : decode cL_law 954 = .ok (.laload, 1) := by decide +kernel
theorem dL_law_955 : decode cL_law 955 = .ok (.iload 7, 2) := by decide +kernel
theorem dL_law_957 : decode cL_law 957 = .ok (.i2l, 1) := by decide +kernel
theorem dL_law_958 : decode cL_law 958 = .ok (.lcmp, 1) := by decide +kernel
theorem dL_law_959 : decode cL_law 959 = .ok (.ifCond .eq 5, 3) := by decide +kernel
theorem dL_law_962 : decode cL_law 962 = .ok (.iconst 0, 1) := by decide +kernel
theorem dL_law_963 : decode cL_law 963 = .ok (.ireturn, 1) := by decide +kernel
theorem dL_law_964 : decode cL_law 964 = .ok (.goto 1459, 3) := by decide +kernel
theorem dL_law_967 : decode cL_law 967 = .ok (.aload_n 1, 1) := by decide +kernel
theorem dL_law_968 : decode cL_law 968 = .ok (.aload_n 0, 1) := by decide +kernel
theorem dL_law_969 : decode cL_law 969 = .ok (.iload 5, 2) := by decide +kernel
theorem dL_law_971 : decode cL_law 971 = .ok (.iconst 1, 1) := by decide +kernel
theorem dL_law_972 : decode cL_law 972 = .ok (.iadd, 1) := by decide +kernel
theorem dL_law_973 : decode cL_law 973 = .ok (.iaload, 1) := by decide +kernel
theorem dL_law_974 : decode cL_law 974 = .ok (.aload_n 0, 1) := by decide +kernel
theorem dL_law_975 : decode cL_law 975 = .ok (.iload 5, 2) := by decide +kernel
theorem dL_law_977 : decode cL_law 977 = .ok (.iconst 2, 1) := by decide +kernel
theorem dL_law_978 : decode cL_law 978 = .ok (.iadd, 1) := by decide +kernel
theorem dL_law_979 : decode cL_law 979 = .ok (.iaload, 1) := by decide +kernel
theorem dL_law_980 : decode cL_law 980 = .ok (.aload_n 3, 1) := by decide +kernel
theorem dL_law_981 : decode cL_law 981 = .ok (.invokestatic 185, 3) := by decide +kernel
theorem dL_law_984 : decode cL_law 984 = .ok (.istore 6, 2) := by decide +kernel
theorem dL_law_986 : decode cL_law 986 = .ok (.aload_n 2, 1) := by decide +kernel
theorem dL_law_987 : decode cL_law 987 = .ok (.aload_n 0, 1) := by decide +kernel
theorem dL_law_988 : decode cL_law 988 = .ok (.iload 5, 2) := by decide +kernel
theorem dL_law_990 : decode cL_law 990 = .ok (.iconst 1, 1) := by decide +kernel
theorem dL_law_991 : decode cL_law 991 = .ok (.iadd, 1) := by decide +kernel
theorem dL_law_992 : decode cL_law 992 = .ok (.iaload, 1) := by decide +kernel
theorem dL_law_993 : decode cL_law 993 = .ok (.aload_n 0, 1) := by decide +kernel
theorem dL_law_994 : decode cL_law 994 = .ok (.iload 5, 2) := by decide +kernel
theorem dL_law_996 : decode cL_law 996 = .ok (.iconst 2, 1) := by decide +kernel
theorem dL_law_997 : decode cL_law 997 = .ok (.iadd, 1) := by decide +kernel
theorem dL_law_998 : decode cL_law 998 = .ok (.iaload, 1) := by decide +kernel
theorem dL_law_999 : decode cL_law 999 = .ok (.invokevirtual 187, 3) := by decide +kernel
theorem dL_law_1002 : decode cL_law 1002 = .ok (.istore 7, 2) := by decide +kernel
theorem dL_law_1004 : decode cL_law 1004 = .ok (.aload_n 2, 1) := by decide +kernel
theorem dL_law_1005 : decode cL_law 1005 = .ok (.invokevirtual 144, 3) := by decide +kernel
theorem dL_law_1008 : decode cL_law 1008 = .ok (.iload 6, 2) := by decide +kernel
theorem dL_law_1010 : decode cL_law 1010 = .ok (.if_icmp .eq 5, 3) := by decide +kernel
theorem dL_law_1013 : decode cL_law 1013 = .ok (.iconst 0, 1) := by decide +kernel
theorem dL_law_1014 : decode cL_law 1014 = .ok (.ireturn, 1) := by decide +kernel
theorem dL_law_1015 : decode cL_law 1015 = .ok (.iload 6, 2) := by decide +kernel
theorem dL_law_1017 : decode cL_law 1017 = .ok (.ifCond .ne 15, 3) := by decide +kernel
theorem dL_law_1020 : decode cL_law 1020 = .ok (.aload_n 3, 1) := by decide +kernel
theorem dL_law_1021 : decode cL_law 1021 = .ok (.iconst 0, 1) := by decide +kernel
theorem dL_law_1022 : decode cL_law 1022 = .ok (.laload, 1) := by decide +kernel
theorem dL_law_1023 : decode cL_law 1023 = .ok (.iload 7, 2) := by decide +kernel
theorem dL_law_1025 : decode cL_law 1025 = .ok (.i2l, 1) := by decide +kernel
theorem dL_law_1026 : decode cL_law 1026 = .ok (.lcmp, 1) := by decide +kernel
theorem dL_law_1027 : decode cL_law 1027 = .ok (.ifCond .eq 5, 3) := by decide +kernel
theorem dL_law_1030 : decode cL_law 1030 = .ok (.iconst 0, 1) := by decide +kernel
theorem dL_law_1031 : decode cL_law 1031 = .ok (.ireturn, 1) := by decide +kernel
theorem dL_law_1032 : decode cL_law 1032 = .ok (.goto 1391, 3) := by decide +kernel
theorem dL_law_1035 : decode cL_law 1035 = .ok (.aload_n 1, 1) := by decide +kernel
theorem dL_law_1036 : decode cL_law 1036 = .ok (.aload_n 0, 1) := by decide +kernel
theorem dL_law_1037 : decode cL_law 1037 = .ok (.iload 5, 2) := by decide +kernel
theorem dL_law_1039 : decode cL_law 1039 = .ok (.iconst 1, 1) := by decide +kernel
theorem dL_law_1040 : decode cL_law 1040 = .ok (.iadd, 1) := by decide +kernel
theorem dL_law_1041 : decode cL_law 1041 = .ok (.iaload, 1) := by decide +kernel
theorem dL_law_1042 : decode cL_law 1042 = .ok (.aload_n 0, 1) := by decide +kernel
theorem dL_law_1043 : decode cL_law 1043 = .ok (.iload 5, 2) := by decide +kernel
theorem dL_law_1045 : decode cL_law 1045 = .ok (.iconst 2, 1) := by decide +kernel
theorem dL_law_1046 : decode cL_law 1046 = .ok (.iadd, 1) := by decide +kernel
theorem dL_law_1047 : decode cL_law 1047 = .ok (.iaload, 1) := by decide +kernel
theorem dL_law_1048 : decode cL_law 1048 = .ok (.aload_n 0, 1) := by decide +kernel
theorem dL_law_1049 : decode cL_law 1049 = .ok (.iload 5, 2) := by decide +kernel
theorem dL_law_1051 : decode cL_law 1051 = .ok (.iconst 3, 1) := by decide +kernel
theorem dL_law_1052 : decode cL_law 1052 = .ok (.iadd, 1) := by decide +kernel
theorem dL_law_1053 : decode cL_law 1053 = .ok (.iaload, 1) := by decide +kernel
theorem dL_law_1054 : decode cL_law 1054 = .ok (.ifCond .eq 7, 3) := by decide +kernel
theorem dL_law_1057 : decode cL_law 1057 = .ok (.iconst 1, 1) := by decide +kernel
theorem dL_law_1058 : decode cL_law 1058 = .ok (.goto 4, 3) := by decide +kernel
theorem dL_law_1061 : decode cL_law 1061 = .ok (.iconst 0, 1) := by decide +kernel
theorem dL_law_1062 : decode cL_law 1062 = .ok (.aload_n 3, 1) := by decide +kernel
theorem dL_law_1063 : decode cL_law 1063 = .ok (.invokestatic 188, 3) := by decide +kernel
theorem dL_law_1066 : decode cL_law 1066 = .ok (.istore 6, 2) := by decide +kernel
theorem dL_law_1068 : decode cL_law 1068 = .ok (.aload_n 2, 1) := by decide +kernel
theorem dL_law_1069 : decode cL_law 1069 = .ok (.aload_n 0, 1) := by decide +kernel
theorem dL_law_1070 : decode cL_law 1070 = .ok (.iload 5, 2) := by decide +kernel
theorem dL_law_1072 : decode cL_law 1072 = .ok (.iconst 1, 1) := by decide +kernel
theorem dL_law_1073 : decode cL_law 1073 = .ok (.iadd, 1) := by decide +kernel
theorem dL_law_1074 : decode cL_law 1074 = .ok (.iaload, 1) := by decide +kernel
theorem dL_law_1075 : decode cL_law 1075 = .ok (.aload_n 0, 1) := by decide +kernel
theorem dL_law_1076 : decode cL_law 1076 = .ok (.iload 5, 2) := by decide +kernel
theorem dL_law_1078 : decode cL_law 1078 = .ok (.iconst 2, 1) := by decide +kernel
theorem dL_law_1079 : decode cL_law 1079 = .ok (.iadd, 1) := by decide +kernel
theorem dL_law_1080 : decode cL_law 1080 = .ok (.iaload, 1) := by decide +kernel
theorem dL_law_1081 : decode cL_law 1081 = .ok (.aload_n 0, 1) := by decide +kernel
theorem dL_law_1082 : decode cL_law 1082 = .ok (.iload 5, 2) := by decide +kernel
theorem dL_law_1084 : decode cL_law 1084 = .ok (.iconst 3, 1) := by decide +kernel
theorem dL_law_1085 : decode cL_law 1085 = .ok (.iadd, 1) := by decide +kernel
theorem dL_law_1086 : decode cL_law 1086 = .ok (.iaload, 1) := by decide +kernel
theorem dL_law_1087 : decode cL_law 1087 = .ok (.ifCond .eq 7, 3) := by decide +kernel
theorem dL_law_1090 : decode cL_law 1090 = .ok (.iconst 1, 1) := by decide +kernel
theorem dL_law_1091 : decode cL_law 1091 = .ok (.goto 4, 3) := by decide +kernel
theorem dL_law_1094 : decode cL_law 1094 = .ok (.iconst 0, 1) := by decide +kernel
theorem dL_law_1095 : decode cL_law 1095 = .ok (.invokevirtual 190, 3) := by decide +kernel
theorem dL_law_1098 : decode cL_law 1098 = .ok (.istore 7, 2) := by decide +kernel
theorem dL_law_1100 : decode cL_law 1100 = .ok (.aload_n 2, 1) := by decide +kernel
theorem dL_law_1101 : decode cL_law 1101 = .ok (.invokevirtual 144, 3) := by decide +kernel
theorem dL_law_1104 : decode cL_law 1104 = .ok (.iload 6, 2) := by decide +kernel
theorem dL_law_1106 : decode cL_law 1106 = .ok (.if_icmp .eq 5, 3) := by decide +kernel
theorem dL_law_1109 : decode cL_law 1109 = .ok (.iconst 0, 1) := by decide +kernel
theorem dL_law_1110 : decode cL_law 1110 = .ok (.ireturn, 1) := by decide +kernel
theorem dL_law_1111 : decode cL_law 1111 = .ok (.iload 6, 2) := by decide +kernel
theorem dL_law_1113 : decode cL_law 1113 = .ok (.ifCond .ne 15, 3) := by decide +kernel
theorem dL_law_1116 : decode cL_law 1116 = .ok (.aload_n 3, 1) := by decide +kernel
theorem dL_law_1117 : decode cL_law 1117 = .ok (.iconst 0, 1) := by decide +kernel
theorem dL_law_1118 : decode cL_law 1118 = .ok (.laload, 1) := by decide +kernel
theorem dL_law_1119 : decode cL_law 1119 = .ok (.iload 7, 2) := by decide +kernel
theorem dL_law_1121 : decode cL_law 1121 = .ok (.i2l, 1) := by decide +kernel
theorem dL_law_1122 : decode cL_law 1122 = .ok (.lcmp, 1) := by decide +kernel
theorem dL_law_1123 : decode cL_law 1123 = .ok (.ifCond .eq 5, 3) := by decide +kernel
theorem dL_law_1126 : decode cL_law 1126 = .ok (.iconst 0, 1) := by decide +kernel
theorem dL_law_1127 : decode cL_law 1127 = .ok (.ireturn, 1) := by decide +kernel
theorem dL_law_1128 : decode cL_law 1128 = .ok (.goto 1295, 3) := by decide +kernel
theorem dL_law_1131 : decode cL_law 1131 = .ok (.aload_n 1, 1) := by decide +kernel
theorem dL_law_1132 : decode cL_law 1132 = .ok (.aload_n 0, 1) := by decide +kernel
theorem dL_law_1133 : decode cL_law 1133 = .ok (.iload 5, 2) := by decide +kernel
theorem dL_law_1135 : decode cL_law 1135 = .ok (.iconst 1, 1) := by decide +kernel
theorem dL_law_1136 : decode cL_law 1136 = .ok (.iadd, 1) := by decide +kernel
theorem dL_law_1137 : decode cL_law 1137 = .ok (.iaload, 1) := by decide +kernel
theorem dL_law_1138 : decode cL_law 1138 = .ok (.aload_n 0, 1) := by decide +kernel
theorem dL_law_1139 : decode cL_law 1139 = .ok (.iload 5, 2) := by decide +kernel
theorem dL_law_1141 : decode cL_law 1141 = .ok (.iconst 2, 1) := by decide +kernel
theorem dL_law_1142 : decode cL_law 1142 = .ok (.iadd, 1) := by decide +kernel
theorem dL_law_1143 : decode cL_law 1143 = .ok (.iaload, 1) := by decide +kernel
theorem dL_law_1144 : decode cL_law 1144 = .ok (.ifCond .eq 7, 3) := by decide +kernel
theorem dL_law_1147 : decode cL_law 1147 = .ok (.iconst 1, 1) := by decide +kernel
theorem dL_law_1148 : decode cL_law 1148 = .ok (.goto 4, 3) := by decide +kernel
theorem dL_law_1151 : decode cL_law 1151 = .ok (.iconst 0, 1) := by decide +kernel
theorem dL_law_1152 : decode cL_law 1152 = .ok (.aload_n 3, 1) := by decide +kernel
theorem dL_law_1153 : decode cL_law 1153 = .ok (.invokestatic 191, 3) := by decide +kernel
theorem dL_law_1156 : decode cL_law 1156 = .ok (.istore 6, 2) := by decide +kernel
theorem dL_law_1158 : decode cL_law 1158 = .ok (.aload_n 2, 1) := by decide +kernel
theorem dL_law_1159 : decode cL_law 1159 = .ok (.aload_n 0, 1) := by decide +kernel
theorem dL_law_1160 : decode cL_law 1160 = .ok (.iload 5, 2) := by decide +kernel
theorem dL_law_1162 : decode cL_law 1162 = .ok (.iconst 1, 1) := by decide +kernel
theorem dL_law_1163 : decode cL_law 1163 = .ok (.iadd, 1) := by decide +kernel
theorem dL_law_1164 : decode cL_law 1164 = .ok (.iaload, 1) := by decide +kernel
theorem dL_law_1165 : decode cL_law 1165 = .ok (.aload_n 0, 1) := by decide +kernel
theorem dL_law_1166 : decode cL_law 1166 = .ok (.iload 5, 2) := by decide +kernel
theorem dL_law_1168 : decode cL_law 1168 = .ok (.iconst 2, 1) := by decide +kernel
theorem dL_law_1169 : decode cL_law 1169 = .ok (.iadd, 1) := by decide +kernel
theorem dL_law_1170 : decode cL_law 1170 = .ok (.iaload, 1) := by decide +kernel
theorem dL_law_1171 : decode cL_law 1171 = .ok (.ifCond .eq 7, 3) := by decide +kernel
theorem dL_law_1174 : decode cL_law 1174 = .ok (.iconst 1, 1) := by decide +kernel
theorem dL_law_1175 : decode cL_law 1175 = .ok (.goto 4, 3) := by decide +kernel
theorem dL_law_1178 : decode cL_law 1178 = .ok (.iconst 0, 1) := by decide +kernel
theorem dL_law_1179 : decode cL_law 1179 = .ok (.invokevirtual 194, 3) := by decide +kernel
theorem dL_law_1182 : decode cL_law 1182 = .ok (.istore 7, 2) := by decide +kernel
theorem dL_law_1184 : decode cL_law 1184 = .ok (.aload_n 2, 1) := by decide +kernel
theorem dL_law_1185 : decode cL_law 1185 = .ok (.invokevirtual 144, 3) := by decide +kernel
theorem dL_law_1188 : decode cL_law 1188 = .ok (.iload 6, 2) := by decide +kernel
theorem dL_law_1190 : decode cL_law 1190 = .ok (.if_icmp .eq 5, 3) := by decide +kernel
theorem dL_law_1193 : decode cL_law 1193 = .ok (.iconst 0, 1) := by decide +kernel
theorem dL_law_1194 : decode cL_law 1194 = .ok (.ireturn, 1) := by decide +kernel
theorem dL_law_1195 : decode cL_law 1195 = .ok (.iload 6, 2) := by decide +kernel
theorem dL_law_1197 : decode cL_law 1197 = .ok (.ifCond .ne 15, 3) := by decide +kernel
theorem dL_law_1200 : decode cL_law 1200 = .ok (.aload_n 3, 1) := by decide +kernel
theorem dL_law_1201 : decode cL_law 1201 = .ok (.iconst 0, 1) := by decide +kernel
theorem dL_law_1202 : decode cL_law 1202 = .ok (.laload, 1) := by decide +kernel
theorem dL_law_1203 : decode cL_law 1203 = .ok (.iload 7, 2) := by decide +kernel
theorem dL_law_1205 : decode cL_law 1205 = .ok (.i2l, 1) := by decide +kernel
theorem dL_law_1206 : decode cL_law 1206 = .ok (.lcmp, 1) := by decide +kernel
theorem dL_law_1207 : decode cL_law 1207 = .ok (.ifCond .eq 5, 3) := by decide +kernel
theorem dL_law_1210 : decode cL_law 1210 = .ok (.iconst 0, 1) := by decide +kernel
theorem dL_law_1211 : decode cL_law 1211 = .ok (.ireturn, 1) := by decide +kernel
theorem dL_law_1212 : decode cL_law 1212 = .ok (.goto 1211, 3) := by decide +kernel
theorem dL_law_1215 : decode cL_law 1215 = .ok (.aload_n 1, 1) := by decide +kernel
theorem dL_law_1216 : decode cL_law 1216 = .ok (.aload_n 0, 1) := by decide +kernel
theorem dL_law_1217 : decode cL_law 1217 = .ok (.iload 5, 2) := by decide +kernel
theorem dL_law_1219 : decode cL_law 1219 = .ok (.iconst 1, 1) := by decide +kernel
theorem dL_law_1220 : decode cL_law 1220 = .ok (.iadd, 1) := by decide +kernel
theorem dL_law_1221 : decode cL_law 1221 = .ok (.iaload, 1) := by decide +kernel
theorem dL_law_1222 : decode cL_law 1222 = .ok (.aload_n 3, 1) := by decide +kernel
theorem dL_law_1223 : decode cL_law 1223 = .ok (.invokestatic 195, 3) := by decide +kernel
theorem dL_law_1226 : decode cL_law 1226 = .ok (.istore 6, 2) := by decide +kernel
theorem dL_law_1228 : decode cL_law 1228 = .ok (.aload_n 2, 1) := by decide +kernel
theorem dL_law_1229 : decode cL_law 1229 = .ok (.aload_n 0, 1) := by decide +kernel
theorem dL_law_1230 : decode cL_law 1230 = .ok (.iload 5, 2) := by decide +kernel
theorem dL_law_1232 : decode cL_law 1232 = .ok (.iconst 1, 1) := by decide +kernel
theorem dL_law_1233 : decode cL_law 1233 = .ok (.iadd, 1) := by decide +kernel
theorem dL_law_1234 : decode cL_law 1234 = .ok (.iaload, 1) := by decide +kernel
theorem dL_law_1235 : decode cL_law 1235 = .ok (.invokevirtual 197, 3) := by decide +kernel
theorem dL_law_1238 : decode cL_law 1238 = .ok (.istore 7, 2) := by decide +kernel
theorem dL_law_1240 : decode cL_law 1240 = .ok (.aload_n 2, 1) := by decide +kernel
theorem dL_law_1241 : decode cL_law 1241 = .ok (.invokevirtual 144, 3) := by decide +kernel
theorem dL_law_1244 : decode cL_law 1244 = .ok (.iload 6, 2) := by decide +kernel
theorem dL_law_1246 : decode cL_law 1246 = .ok (.if_icmp .eq 5, 3) := by decide +kernel
theorem dL_law_1249 : decode cL_law 1249 = .ok (.iconst 0, 1) := by decide +kernel
theorem dL_law_1250 : decode cL_law 1250 = .ok (.ireturn, 1) := by decide +kernel
theorem dL_law_1251 : decode cL_law 1251 = .ok (.iload 6, 2) := by decide +kernel
theorem dL_law_1253 : decode cL_law 1253 = .ok (.ifCond .ne 22, 3) := by decide +kernel
theorem dL_law_1256 : decode cL_law 1256 = .ok (.aload_n 3, 1) := by decide +kernel
theorem dL_law_1257 : decode cL_law 1257 = .ok (.iconst 0, 1) := by decide +kernel
theorem dL_law_1258 : decode cL_law 1258 = .ok (.laload, 1) := by decide +kernel
theorem dL_law_1259 : decode cL_law 1259 = .ok (.iload 7, 2) := by decide +kernel
theorem dL_law_1261 : decode cL_law 1261 = .ok (.ifCond .eq 7, 3) := by decide +kernel
theorem dL_law_1264 : decode cL_law 1264 = .ok (.lconst 1, 1) := by decide +kernel
theorem dL_law_1265 : decode cL_law 1265 = .ok (.goto 4, 3) := by decide +kernel
theorem dL_law_1268 : decode cL_law 1268 = .ok (.lconst 0, 1) := by decide +kernel
theorem dL_law_1269 : decode cL_law 1269 = .ok (.lcmp, 1) := by decide +kernel
theorem dL_law_1270 : decode cL_law 1270 = .ok (.ifCond .eq 5, 3) := by decide +kernel
theorem dL_law_1273 : decode cL_law 1273 = .ok (.iconst 0, 1) := by decide +kernel
theorem dL_law_1274 : decode cL_law 1274 = .ok (.ireturn, 1) := by decide +kernel
theorem dL_law_1275 : decode cL_law 1275 = .ok (.goto 1148, 3) := by decide +kernel
theorem dL_law_1278 : decode cL_law 1278 = .ok (.aload_n 1, 1) := by decide +kernel
theorem dL_law_1279 : decode cL_law 1279 = .ok (.aload_n 0, 1) := by decide +kernel
theorem dL_law_1280 : decode cL_law 1280 = .ok (.iload 5, 2) := by decide +kernel
theorem dL_law_1282 : decode cL_law 1282 = .ok (.iconst 1, 1) := by decide +kernel
theorem dL_law_1283 : decode cL_law 1283 = .ok (.iadd, 1) := by decide +kernel
theorem dL_law_1284 : decode cL_law 1284 = .ok (.iaload, 1) := by decide +kernel
theorem dL_law_1285 : decode cL_law 1285 = .ok (.aload_n 0, 1) := by decide +kernel
theorem dL_law_1286 : decode cL_law 1286 = .ok (.iload 5, 2) := by decide +kernel
theorem dL_law_1288 : decode cL_law 1288 = .ok (.iconst 2, 1) := by decide +kernel
theorem dL_law_1289 : decode cL_law 1289 = .ok (.iadd, 1) := by decide +kernel
theorem dL_law_1290 : decode cL_law 1290 = .ok (.iaload, 1) := by decide +kernel
theorem dL_law_1291 : decode cL_law 1291 = .ok (.aload_n 3, 1) := by decide +kernel
theorem dL_law_1292 : decode cL_law 1292 = .ok (.invokestatic 198, 3) := by decide +kernel
theorem dL_law_1295 : decode cL_law 1295 = .ok (.istore 6, 2) := by decide +kernel
theorem dL_law_1297 : decode cL_law 1297 = .ok (.aload_n 2, 1) := by decide +kernel
theorem dL_law_1298 : decode cL_law 1298 = .ok (.aload_n 0, 1) := by decide +kernel
theorem dL_law_1299 : decode cL_law 1299 = .ok (.iload 5, 2) := by decide +kernel
theorem dL_law_1301 : decode cL_law 1301 = .ok (.iconst 1, 1) := by decide +kernel
theorem dL_law_1302 : decode cL_law 1302 = .ok (.iadd, 1) := by decide +kernel
theorem dL_law_1303 : decode cL_law 1303 = .ok (.iaload, 1) := by decide +kernel
theorem dL_law_1304 : decode cL_law 1304 = .ok (.aload_n 0, 1) := by decide +kernel
theorem dL_law_1305 : decode cL_law 1305 = .ok (.iload 5, 2) := by decide +kernel
theorem dL_law_1307 : decode cL_law 1307 = .ok (.iconst 2, 1) := by decide +kernel
theorem dL_law_1308 : decode cL_law 1308 = .ok (.iadd, 1) := by decide +kernel
theorem dL_law_1309 : decode cL_law 1309 = .ok (.iaload, 1) := by decide +kernel
theorem dL_law_1310 : decode cL_law 1310 = .ok (.invokevirtual 200, 3) := by decide +kernel
theorem dL_law_1313 : decode cL_law 1313 = .ok (.istore 7, 2) := by decide +kernel
theorem dL_law_1315 : decode cL_law 1315 = .ok (.aload_n 2, 1) := by decide +kernel
theorem dL_law_1316 : decode cL_law 1316 = .ok (.invokevirtual 144, 3) := by decide +kernel
theorem dL_law_1319 : decode cL_law 1319 = .ok (.iload 6, 2) := by decide +kernel
theorem dL_law_1321 : decode cL_law 1321 = .ok (.if_icmp .eq 5, 3) := by decide +kernel
theorem dL_law_1324 : decode cL_law 1324 = .ok (.iconst 0, 1) := by decide +kernel
theorem dL_law_1325 : decode cL_law 1325 = .ok (.ireturn, 1) := by decide +kernel
theorem dL_law_1326 : decode cL_law 1326 = .ok (.iload 6, 2) := by decide +kernel
theorem dL_law_1328 : decode cL_law 1328 = .ok (.ifCond .ne 15, 3) := by decide +kernel
theorem dL_law_1331 : decode cL_law 1331 = .ok (.aload_n 3, 1) := by decide +kernel
theorem dL_law_1332 : decode cL_law 1332 = .ok (.iconst 0, 1) := by decide +kernel
theorem dL_law_1333 : decode cL_law 1333 = .ok (.laload, 1) := by decide +kernel
theorem dL_law_1334 : decode cL_law 1334 = .ok (.iload 7, 2) := by decide +kernel
theorem dL_law_1336 : decode cL_law 1336 = .ok (.i2l, 1) := by decide +kernel
theorem dL_law_1337 : decode cL_law 1337 = .ok (.lcmp, 1) := by decide +kernel
theorem dL_law_1338 : decode cL_law 1338 = .ok (.ifCond .eq 5, 3) := by decide +kernel
theorem dL_law_1341 : decode cL_law 1341 = .ok (.iconst 0, 1) := by decide +kernel
theorem dL_law_1342 : decode cL_law 1342 = .ok (.ireturn, 1) := by decide +kernel
theorem dL_law_1343 : decode cL_law 1343 = .ok (.goto 1080, 3) := by decide +kernel
theorem dL_law_1346 : decode cL_law 1346 = .ok (.aload_n 1, 1) := by decide +kernel
theorem dL_law_1347 : decode cL_law 1347 = .ok (.aload_n 0, 1) := by decide +kernel
theorem dL_law_1348 : decode cL_law 1348 = .ok (.iload 5, 2) := by decide +kernel
theorem dL_law_1350 : decode cL_law 1350 = .ok (.iconst 1, 1) := by decide +kernel
theorem dL_law_1351 : decode cL_law 1351 = .ok (.iadd, 1) := by decide +kernel
theorem dL_law_1352 : decode cL_law 1352 = .ok (.iaload, 1) := by decide +kernel
theorem dL_law_1353 : decode cL_law 1353 = .ok (.ifCond .eq 7, 3) := by decide +kernel
theorem dL_law_1356 : decode cL_law 1356 = .ok (.iconst 1, 1) := by decide +kernel
theorem dL_law_1357 : decode cL_law 1357 = .ok (.goto 4, 3) := by decide +kernel
theorem dL_law_1360 : decode cL_law 1360 = .ok (.iconst 0, 1) := by decide +kernel
theorem dL_law_1361 : decode cL_law 1361 = .ok (.aload_n 3, 1) := by decide +kernel
theorem dL_law_1362 : decode cL_law 1362 = .ok (.invokestatic 201, 3) := by decide +kernel
theorem dL_law_1365 : decode cL_law 1365 = .ok (.istore 6, 2) := by decide +kernel
theorem dL_law_1367 : decode cL_law 1367 = .ok (.aload_n 2, 1) := by decide +kernel
theorem dL_law_1368 : decode cL_law 1368 = .ok (.aload_n 0, 1) := by decide +kernel
theorem dL_law_1369 : decode cL_law 1369 = .ok (.iload 5, 2) := by decide +kernel
theorem dL_law_1371 : decode cL_law 1371 = .ok (.iconst 1, 1) := by decide +kernel
theorem dL_law_1372 : decode cL_law 1372 = .ok (.iadd, 1) := by decide +kernel
theorem dL_law_1373 : decode cL_law 1373 = .ok (.iaload, 1) := by decide +kernel
theorem dL_law_1374 : decode cL_law 1374 = .ok (.ifCond .eq 7, 3) := by decide +kernel
theorem dL_law_1377 : decode cL_law 1377 = .ok (.iconst 1, 1) := by decide +kernel
theorem dL_law_1378 : decode cL_law 1378 = .ok (.goto 4, 3) := by decide +kernel
theorem dL_law_1381 : decode cL_law 1381 = .ok (.iconst 0, 1) := by decide +kernel
theorem dL_law_1382 : decode cL_law 1382 = .ok (.invokevirtual 204, 3) := by decide +kernel
theorem dL_law_1385 : decode cL_law 1385 = .ok (.istore 7, 2) := by decide +kernel
theorem dL_law_1387 : decode cL_law 1387 = .ok (.aload_n 2, 1) := by decide +kernel
theorem dL_law_1388 : decode cL_law 1388 = .ok (.invokevirtual 144, 3) := by decide +kernel
theorem dL_law_1391 : decode cL_law 1391 = .ok (.iload 6, 2) := by decide +kernel
theorem dL_law_1393 : decode cL_law 1393 = .ok (.if_icmp .eq 5, 3) := by decide +kernel
theorem dL_law_1396 : decode cL_law 1396 = .ok (.iconst 0, 1) := by decide +kernel
theorem dL_law_1397 : decode cL_law 1397 = .ok (.ireturn, 1) := by decide +kernel
theorem dL_law_1398 : decode cL_law 1398 = .ok (.iload 6, 2) := by decide +kernel
theorem dL_law_1400 : decode cL_law 1400 = .ok (.ifCond .ne 15, 3) := by decide +kernel
theorem dL_law_1403 : decode cL_law 1403 = .ok (.aload_n 3, 1) := by decide +kernel
theorem dL_law_1404 : decode cL_law 1404 = .ok (.iconst 0, 1) := by decide +kernel
theorem dL_law_1405 : decode cL_law 1405 = .ok (.laload, 1) := by decide +kernel
theorem dL_law_1406 : decode cL_law 1406 = .ok (.iload 7, 2) := by decide +kernel
theorem dL_law_1408 : decode cL_law 1408 = .ok (.i2l, 1) := by decide +kernel
theorem dL_law_1409 : decode cL_law 1409 = .ok (.lcmp, 1) := by decide +kernel
theorem dL_law_1410 : decode cL_law 1410 = .ok (.ifCond .eq 5, 3) := by decide +kernel
theorem dL_law_1413 : decode cL_law 1413 = .ok (.iconst 0, 1) := by decide +kernel
theorem dL_law_1414 : decode cL_law 1414 = .ok (.ireturn, 1) := by decide +kernel
theorem dL_law_1415 : decode cL_law 1415 = .ok (.goto 1008, 3) := by decide +kernel
theorem dL_law_1418 : decode cL_law 1418 = .ok (.aload_n 1, 1) := by decide +kernel
theorem dL_law_1419 : decode cL_law 1419 = .ok (.aload_n 0, 1) := by decide +kernel
theorem dL_law_1420 : decode cL_law 1420 = .ok (.iload 5, 2) := by decide +kernel
theorem dL_law_1422 : decode cL_law 1422 = .ok (.iconst 1, 1) := by decide +kernel
theorem dL_law_1423 : decode cL_law 1423 = .ok (.iadd, 1) := by decide +kernel
theorem dL_law_1424 : decode cL_law 1424 = .ok (.iaload, 1) := by decide +kernel
theorem dL_law_1425 : decode cL_law 1425 = .ok (.aload_n 3, 1) := by decide +kernel
theorem dL_law_1426 : decode cL_law 1426 = .ok (.invokestatic 205, 3) := by decide +kernel
theorem dL_law_1429 : decode cL_law 1429 = .ok (.istore 6, 2) := by decide +kernel
theorem dL_law_1431 : decode cL_law 1431 = .ok (.aload_n 2, 1) := by decide +kernel
theorem dL_law_1432 : decode cL_law 1432 = .ok (.aload_n 0, 1) := by decide +kernel
theorem dL_law_1433 : decode cL_law 1433 = .ok (.iload 5, 2) := by decide +kernel
theorem dL_law_1435 : decode cL_law 1435 = .ok (.iconst 1, 1) := by decide +kernel
theorem dL_law_1436 : decode cL_law 1436 = .ok (.iadd, 1) := by decide +kernel
theorem dL_law_1437 : decode cL_law 1437 = .ok (.iaload, 1) := by decide +kernel
theorem dL_law_1438 : decode cL_law 1438 = .ok (.invokevirtual 207, 3) := by decide +kernel
theorem dL_law_1441 : decode cL_law 1441 = .ok (.istore 7, 2) := by decide +kernel
theorem dL_law_1443 : decode cL_law 1443 = .ok (.aload_n 2, 1) := by decide +kernel
theorem dL_law_1444 : decode cL_law 1444 = .ok (.invokevirtual 144, 3) := by decide +kernel
theorem dL_law_1447 : decode cL_law 1447 = .ok (.iload 6, 2) := by decide +kernel
theorem dL_law_1449 : decode cL_law 1449 = .ok (.if_icmp .eq 5, 3) := by decide +kernel
theorem dL_law_1452 : decode cL_law 1452 = .ok (.iconst 0, 1) := by decide +kernel
theorem dL_law_1453 : decode cL_law 1453 = .ok (.ireturn, 1) := by decide +kernel
theorem dL_law_1454 : decode cL_law 1454 = .ok (.iload 6, 2) := by decide +kernel
theorem dL_law_1456 : decode cL_law 1456 = .ok (.ifCond .ne 15, 3) := by decide +kernel
theorem dL_law_1459 : decode cL_law 1459 = .ok (.aload_n 3, 1) := by decide +kernel
theorem dL_law_1460 : decode cL_law 1460 = .ok (.iconst 0, 1) := by decide +kernel
theorem dL_law_1461 : decode cL_law 1461 = .ok (.laload, 1) := by decide +kernel
theorem dL_law_1462 : decode cL_law 1462 = .ok (.iload 7, 2) := by decide +kernel
theorem dL_law_1464 : decode cL_law 1464 = .ok (.i2l, 1) := by decide +kernel
theorem dL_law_1465 : decode cL_law 1465 = .ok (.lcmp, 1) := by decide +kernel
theorem dL_law_1466 : decode cL_law 1466 = .ok (.ifCond .eq 5, 3) := by decide +kernel
theorem dL_law_1469 : decode cL_law 1469 = .ok (.iconst 0, 1) := by decide +kernel
theorem dL_law_1470 : decode cL_law 1470 = .ok (.ireturn, 1) := by decide +kernel
theorem dL_law_1471 : decode cL_law 1471 = .ok (.goto 952, 3) := by decide +kernel
theorem dL_law_1474 : decode cL_law 1474 = .ok (.aload_n 1, 1) := by decide +kernel
theorem dL_law_1475 : decode cL_law 1475 = .ok (.aload_n 0, 1) := by decide +kernel
theorem dL_law_1476 : decode cL_law 1476 = .ok (.iload 5, 2) := by decide +kernel
theorem dL_law_1478 : decode cL_law 1478 = .ok (.iconst 1, 1) := by decide +kernel
theorem dL_law_1479 : decode cL_law 1479 = .ok (.iadd, 1) := by decide +kernel
theorem dL_law_1480 : decode cL_law 1480 = .ok (.iaload, 1) := by decide +kernel
theorem dL_law_1481 : decode cL_law 1481 = .ok (.ifCond .eq 7, 3) := by decide +kernel
theorem dL_law_1484 : decode cL_law 1484 = .ok (.iconst 1, 1) := by decide +kernel
theorem dL_law_1485 : decode cL_law 1485 = .ok (.goto 4, 3) := by decide +kernel
theorem dL_law_1488 : decode cL_law 1488 = .ok (.iconst 0, 1) := by decide +kernel
theorem dL_law_1489 : decode cL_law 1489 = .ok (.invokevirtual 208, 3) := by decide +kernel
theorem dL_law_1492 : decode cL_law 1492 = .ok (.aload_n 2, 1) := by decide +kernel
theorem dL_law_1493 : decode cL_law 1493 = .ok (.aload_n 0, 1) := by decide +kernel
theorem dL_law_1494 : decode cL_law 1494 = .ok (.iload 5, 2) := by decide +kernel
theorem dL_law_1496 : decode cL_law 1496 = .ok (.iconst 1, 1) := by decide +kernel
theorem dL_law_1497 : decode cL_law 1497 = .ok (.iadd, 1) := by decide +kernel
theorem dL_law_1498 : decode cL_law 1498 = .ok (.iaload, 1) := by decide +kernel
theorem dL_law_1499 : decode cL_law 1499 = .ok (.ifCond .eq 7, 3) := by decide +kernel
theorem dL_law_1502 : decode cL_law 1502 = .ok (.iconst 1, 1) := by decide +kernel
theorem dL_law_1503 : decode cL_law 1503 = .ok (.goto 4, 3) := by decide +kernel
theorem dL_law_1506 : decode cL_law 1506 = .ok (.iconst 0, 1) := by decide +kernel
theorem dL_law_1507 : decode cL_law 1507 = .ok (.invokevirtual 211, 3) := by decide +kernel
theorem dL_law_1510 : decode cL_law 1510 = .ok (.if_icmp .eq 913, 3) := by decide +kernel
theorem dL_law_1513 : decode cL_law 1513 = .ok (.iconst 0, 1) := by decide +kernel
theorem dL_law_1514 : decode cL_law 1514 = .ok (.ireturn, 1) := by decide +kernel
theorem dL_law_1515 : decode cL_law 1515 = .ok (.aload_n 1, 1) := by decide +kernel
theorem dL_law_1516 : decode cL_law 1516 = .ok (.aload_n 0, 1) := by decide +kernel
theorem dL_law_1517 : decode cL_law 1517 = .ok (.iload 5, 2) := by decide +kernel
theorem dL_law_1519 : decode cL_law 1519 = .ok (.iconst 1, 1) := by decide +kernel
theorem dL_law_1520 : decode cL_law 1520 = .ok (.iadd, 1) := by decide +kernel
theorem dL_law_1521 : decode cL_law 1521 = .ok (.iaload, 1) := by decide +kernel
theorem dL_law_1522 : decode cL_law 1522 = .ok (.aload_n 3, 1) := by decide +kernel
theorem dL_law_1523 : decode cL_law 1523 = .ok (.invokestatic 212, 3) := by decide +kernel
theorem dL_law_1526 : decode cL_law 1526 = .ok (.istore 6, 2) := by decide +kernel
theorem dL_law_1528 : decode cL_law 1528 = .ok (.aload_n 2, 1) := by decide +kernel
theorem dL_law_1529 : decode cL_law 1529 = .ok (.aload_n 0, 1) := by decide +kernel
theorem dL_law_1530 : decode cL_law 1530 = .ok (.iload 5, 2) := by decide +kernel
theorem dL_law_1532 : decode cL_law 1532 = .ok (.iconst 1, 1) := by decide +kernel
theorem dL_law_1533 : decode cL_law 1533 = .ok (.iadd, 1) := by decide +kernel
theorem dL_law_1534 : decode cL_law 1534 = .ok (.iaload, 1) := by decide +kernel
theorem dL_law_1535 : decode cL_law 1535 = .ok (.invokevirtual 214, 3) := by decide +kernel
theorem dL_law_1538 : decode cL_law 1538 = .ok (.istore 7, 2) := by decide +kernel
theorem dL_law_1540 : decode cL_law 1540 = .ok (.aload_n 2, 1) := by decide +kernel
theorem dL_law_1541 : decode cL_law 1541 = .ok (.invokevirtual 144, 3) := by decide +kernel
theorem dL_law_1544 : decode cL_law 1544 = .ok (.iload 6, 2) := by decide +kernel
theorem dL_law_1546 : decode cL_law 1546 = .ok (.if_icmp .eq 5, 3) := by decide +kernel
theorem dL_law_1549 : decode cL_law 1549 = .ok (.iconst 0, 1) := by decide +kernel
theorem dL_law_1550 : decode cL_law 1550 = .ok (.ireturn, 1) := by decide +kernel
theorem dL_law_1551 : decode cL_law 1551 = .ok (.iload 6, 2) := by decide +kernel
theorem dL_law_1553 : decode cL_law 1553 = .ok (.ifCond .ne 15, 3) := by decide +kernel
theorem dL_law_1556 : decode cL_law 1556 = .ok (.aload_n 3, 1) := by decide +kernel
theorem dL_law_1557 : decode cL_law 1557 = .ok (.iconst 0, 1) := by decide +kernel
theorem dL_law_1558 : decode cL_law 1558 = .ok (.laload, 1) := by decide +kernel
theorem dL_law_1559 : decode cL_law 1559 = .ok (.iload 7, 2) := by decide +kernel
theorem dL_law_1561 : decode cL_law 1561 = .ok (.i2l, 1) := by decide +kernel
theorem dL_law_1562 : decode cL_law 1562 = .ok (.lcmp, 1) := by decide +kernel
theorem dL_law_1563 : decode cL_law 1563 = .ok (.ifCond .eq 5, 3) := by decide +kernel
theorem dL_law_1566 : decode cL_law 1566 = .ok (.iconst 0, 1) := by decide +kernel
theorem dL_law_1567 : decode cL_law 1567 = .ok (.ireturn, 1) := by decide +kernel
theorem dL_law_1568 : decode cL_law 1568 = .ok (.goto 855, 3) := by decide +kernel
theorem dL_law_1571 : decode cL_law 1571 = .ok (.aload_n 1, 1) := by decide +kernel
theorem dL_law_1572 : decode cL_law 1572 = .ok (.aload_n 0, 1) := by decide +kernel
theorem dL_law_1573 : decode cL_law 1573 = .ok (.iload 5, 2) := by decide +kernel
theorem dL_law_1575 : decode cL_law 1575 = .ok (.iconst 1, 1) := by decide +kernel
theorem dL_law_1576 : decode cL_law 1576 = .ok (.iadd, 1) := by decide +kernel
theorem dL_law_1577 : decode cL_law 1577 = .ok (.iaload, 1) := by decide +kernel
theorem dL_law_1578 : decode cL_law 1578 = .ok (.aload_n 3, 1) := by decide +kernel
theorem dL_law_1579 : decode cL_law 1579 = .ok (.invokestatic 215, 3) := by decide +kernel
theorem dL_law_1582 : decode cL_law 1582 = .ok (.istore 6, 2) := by decide +kernel
theorem dL_law_1584 : decode cL_law 1584 = .ok (.aload_n 2, 1) := by decide +kernel
theorem dL_law_1585 : decode cL_law 1585 = .ok (.aload_n 0, 1) := by decide +kernel
theorem dL_law_1586 : decode cL_law 1586 = .ok (.iload 5, 2) := by decide +kernel
theorem dL_law_1588 : decode cL_law 1588 = .ok (.iconst 1, 1) := by decide +kernel
theorem dL_law_1589 : decode cL_law 1589 = .ok (.iadd, 1) := by decide +kernel
theorem dL_law_1590 : decode cL_law 1590 = .ok (.iaload, 1) := by decide +kernel
theorem dL_law_1591 : decode cL_law 1591 = .ok (.invokevirtual 217, 3) := by decide +kernel
theorem dL_law_1594 : decode cL_law 1594 = .ok (.istore 7, 2) := by decide +kernel
theorem dL_law_1596 : decode cL_law 1596 = .ok (.aload_n 2, 1) := by decide +kernel
theorem dL_law_1597 : decode cL_law 1597 = .ok (.invokevirtual 144, 3) := by decide +kernel
theorem dL_law_1600 : decode cL_law 1600 = .ok (.iload 6, 2) := by decide +kernel
theorem dL_law_1602 : decode cL_law 1602 = .ok (.if_icmp .eq 5, 3) := by decide +kernel
theorem dL_law_1605 : decode cL_law 1605 = .ok (.iconst 0, 1) := by decide +kernel
theorem dL_law_1606 : decode cL_law 1606 = .ok (.ireturn, 1) := by decide +kernel
theorem dL_law_1607 : decode cL_law 1607 = .ok (.iload 6, 2) := by decide +kernel
theorem dL_law_1609 : decode cL_law 1609 = .ok (.ifCond .ne 15, 3) := by decide +kernel
theorem dL_law_1612 : decode cL_law 1612 = .ok (.aload_n 3, 1) := by decide +kernel
theorem dL_law_1613 : decode cL_law 1613 = .ok (.iconst 0, 1) := by decide +kernel
theorem dL_law_1614 : decode cL_law 1614 = .ok (.laload, 1) := by decide +kernel
theorem dL_law_1615 : decode cL_law 1615 = .ok (.iload 7, 2) := by decide +kernel
theorem dL_law_1617 : decode cL_law 1617 = .ok (.i2l, 1) := by decide +kernel
theorem dL_law_1618 : decode cL_law 1618 = .ok (.lcmp, 1) := by decide +kernel
theorem dL_law_1619 : decode cL_law 1619 = .ok (.ifCond .eq 5, 3) := by decide +kernel
theorem dL_law_1622 : decode cL_law 1622 = .ok (.iconst 0, 1) := by decide +kernel
theorem dL_law_1623 : decode cL_law 1623 = .ok (.ireturn, 1) := by decide +kernel
theorem dL_law_1624 : decode cL_law 1624 = .ok (.goto 799, 3) := by decide +kernel
theorem dL_law_1627 : decode cL_law 1627 = .ok (.aload_n 1, 1) := by decide +kernel
theorem dL_law_1628 : decode cL_law 1628 = .ok (.aload_n 0, 1) := by decide +kernel
theorem dL_law_1629 : decode cL_law 1629 = .ok (.iload 5, 2) := by decide +kernel
theorem dL_law_1631 : decode cL_law 1631 = .ok (.iconst 1, 1) := by decide +kernel
theorem dL_law_1632 : decode cL_law 1632 = .ok (.iadd, 1) := by decide +kernel
theorem dL_law_1633 : decode cL_law 1633 = .ok (.iaload, 1) := by decide +kernel
theorem dL_law_1634 : decode cL_law 1634 = .ok (.aload_n 3, 1) := by decide +kernel
theorem dL_law_1635 : decode cL_law 1635 = .ok (.invokestatic 218, 3) := by decide +kernel
theorem dL_law_1638 : decode cL_law 1638 = .ok (.istore 6, 2) := by decide +kernel
theorem dL_law_1640 : decode cL_law 1640 = .ok (.aload_n 2, 1) := by decide +kernel
theorem dL_law_1641 : decode cL_law 1641 = .ok (.aload_n 0, 1) := by decide +kernel
theorem dL_law_1642 : decode cL_law 1642 = .ok (.iload 5, 2) := by decide +kernel
theorem dL_law_1644 : decode cL_law 1644 = .ok (.iconst 1, 1) := by decide +kernel
theorem dL_law_1645 : decode cL_law 1645 = .ok (.iadd, 1) := by decide +kernel
theorem dL_law_1646 : decode cL_law 1646 = .ok (.iaload, 1) := by decide +kernel
theorem dL_law_1647 : decode cL_law 1647 = .ok (.invokevirtual 220, 3) := by decide +kernel
theorem dL_law_1650 : decode cL_law 1650 = .ok (.istore 7, 2) := by decide +kernel
theorem dL_law_1652 : decode cL_law 1652 = .ok (.aload_n 2, 1) := by decide +kernel
theorem dL_law_1653 : decode cL_law 1653 = .ok (.invokevirtual 144, 3) := by decide +kernel
theorem dL_law_1656 : decode cL_law 1656 = .ok (.iload 6, 2) := by decide +kernel
theorem dL_law_1658 : decode cL_law 1658 = .ok (.if_icmp .eq 5, 3) := by decide +kernel
theorem dL_law_1661 : decode cL_law 1661 = .ok (.iconst 0, 1) := by decide +kernel
theorem dL_law_1662 : decode cL_law 1662 = .ok (.ireturn, 1) := by decide +kernel
theorem dL_law_1663 : decode cL_law 1663 = .ok (.iload 6, 2) := by decide +kernel
theorem dL_law_1665 : decode cL_law 1665 = .ok (.ifCond .ne 15, 3) := by decide +kernel
theorem dL_law_1668 : decode cL_law 1668 = .ok (.aload_n 3, 1) := by decide +kernel
theorem dL_law_1669 : decode cL_law 1669 = .ok (.iconst 0, 1) := by decide +kernel
theorem dL_law_1670 : decode cL_law 1670 = .ok (.laload, 1) := by decide +kernel
theorem dL_law_1671 : decode cL_law 1671 = .ok (.iload 7, 2) := by decide +kernel
theorem dL_law_1673 : decode cL_law 1673 = .ok (.i2l, 1) := by decide +kernel
theorem dL_law_1674 : decode cL_law 1674 = .ok (.lcmp, 1) := by decide +kernel
theorem dL_law_1675 : decode cL_law 1675 = .ok (.ifCond .eq 5, 3) := by decide +kernel
theorem dL_law_1678 : decode cL_law 1678 = .ok (.iconst 0, 1) := by decide +kernel
theorem dL_law_1679 : decode cL_law 1679 = .ok (.ireturn, 1) := by decide +kernel
theorem dL_law_1680 : decode cL_law 1680 = .ok (.goto 743, 3) := by decide +kernel
theorem dL_law_1683 : decode cL_law 1683 = .ok (.aload_n 1, 1) := by decide +kernel
theorem dL_law_1684 : decode cL_law 1684 = .ok (.aload_n 0, 1) := by decide +kernel
theorem dL_law_1685 : decode cL_law 1685 = .ok (.iload 5, 2) := by decide +kernel
theorem dL_law_1687 : decode cL_law 1687 = .ok (.iconst 1, 1) := by decide +kernel
theorem dL_law_1688 : decode cL_law 1688 = .ok (.iadd, 1) := by decide +kernel
theorem dL_law_1689 : decode cL_law 1689 = .ok (.iaload, 1) := by decide +kernel
theorem dL_law_1690 : decode cL_law 1690 = .ok (.aload_n 3, 1) := by decide +kernel
theorem dL_law_1691 : decode cL_law 1691 = .ok (.invokestatic 221, 3) := by decide +kernel
theorem dL_law_1694 : decode cL_law 1694 = .ok (.istore 6, 2) := by decide +kernel
theorem dL_law_1696 : decode cL_law 1696 = .ok (.aload_n 2, 1) := by decide +kernel
theorem dL_law_1697 : decode cL_law 1697 = .ok (.aload_n 0, 1) := by decide +kernel
theorem dL_law_1698 : decode cL_law 1698 = .ok (.iload 5, 2) := by decide +kernel
theorem dL_law_1700 : decode cL_law 1700 = .ok (.iconst 1, 1) := by decide +kernel
theorem dL_law_1701 : decode cL_law 1701 = .ok (.iadd, 1) := by decide +kernel
theorem dL_law_1702 : decode cL_law 1702 = .ok (.iaload, 1) := by decide +kernel
theorem dL_law_1703 : decode cL_law 1703 = .ok (.invokevirtual 223, 3) := by decide +kernel
theorem dL_law_1706 : decode cL_law 1706 = .ok (.istore 7, 2) := by decide +kernel
theorem dL_law_1708 : decode cL_law 1708 = .ok (.aload_n 2, 1) := by decide +kernel
theorem dL_law_1709 : decode cL_law 1709 = .ok (.invokevirtual 144, 3) := by decide +kernel
theorem dL_law_1712 : decode cL_law 1712 = .ok (.iload 6, 2) := by decide +kernel
theorem dL_law_1714 : decode cL_law 1714 = .ok (.if_icmp .eq 5, 3) := by decide +kernel
theorem dL_law_1717 : decode cL_law 1717 = .ok (.iconst 0, 1) := by decide +kernel
theorem dL_law_1718 : decode cL_law 1718 = .ok (.ireturn, 1) := by decide +kernel
theorem dL_law_1719 : decode cL_law 1719 = .ok (.iload 6, 2) := by decide +kernel
theorem dL_law_1721 : decode cL_law 1721 = .ok (.ifCond .ne 15, 3) := by decide +kernel
theorem dL_law_1724 : decode cL_law 1724 = .ok (.aload_n 3, 1) := by decide +kernel
theorem dL_law_1725 : decode cL_law 1725 = .ok (.iconst 0, 1) := by decide +kernel
theorem dL_law_1726 : decode cL_law 1726 = .ok (.laload, 1) := by decide +kernel
theorem dL_law_1727 : decode cL_law 1727 = .ok (.iload 7, 2) := by decide +kernel
theorem dL_law_1729 : decode cL_law 1729 = .ok (.i2l, 1) := by decide +kernel
theorem dL_law_1730 : decode cL_law 1730 = .ok (.lcmp, 1) := by decide +kernel
theorem dL_law_1731 : decode cL_law 1731 = .ok (.ifCond .eq 5, 3) := by decide +kernel
theorem dL_law_1734 : decode cL_law 1734 = .ok (.iconst 0, 1) := by decide +kernel
theorem dL_law_1735 : decode cL_law 1735 = .ok (.ireturn, 1) := by decide +kernel
theorem dL_law_1736 : decode cL_law 1736 = .ok (.goto 687, 3) := by decide +kernel
theorem dL_law_1739 : decode cL_law 1739 = .ok (.aload_n 1, 1) := by decide +kernel
theorem dL_law_1740 : decode cL_law 1740 = .ok (.aload_n 0, 1) := by decide +kernel
theorem dL_law_1741 : decode cL_law 1741 = .ok (.iload 5, 2) := by decide +kernel
theorem dL_law_1743 : decode cL_law 1743 = .ok (.iconst 1, 1) := by decide +kernel
theorem dL_law_1744 : decode cL_law 1744 = .ok (.iadd, 1) := by decide +kernel
theorem dL_law_1745 : decode cL_law 1745 = .ok (.iaload, 1) := by decide +kernel
theorem dL_law_1746 : decode cL_law 1746 = .ok (.aload_n 3, 1) := by decide +kernel
theorem dL_law_1747 : decode cL_law 1747 = .ok (.invokestatic 224, 3) := by decide +kernel
theorem dL_law_1750 : decode cL_law 1750 = .ok (.istore 6, 2) := by decide +kernel
theorem dL_law_1752 : decode cL_law 1752 = .ok (.aload_n 2, 1) := by decide +kernel
theorem dL_law_1753 : decode cL_law 1753 = .ok (.aload_n 0, 1) := by decide +kernel
theorem dL_law_1754 : decode cL_law 1754 = .ok (.iload 5, 2) := by decide +kernel
theorem dL_law_1756 : decode cL_law 1756 = .ok (.iconst 1, 1) := by decide +kernel
theorem dL_law_1757 : decode cL_law 1757 = .ok (.iadd, 1) := by decide +kernel
theorem dL_law_1758 : decode cL_law 1758 = .ok (.iaload, 1) := by decide +kernel
theorem dL_law_1759 : decode cL_law 1759 = .ok (.invokevirtual 226, 3) := by decide +kernel
theorem dL_law_1762 : decode cL_law 1762 = .ok (.istore 7, 2) := by decide +kernel
theorem dL_law_1764 : decode cL_law 1764 = .ok (.aload_n 2, 1) := by decide +kernel
theorem dL_law_1765 : decode cL_law 1765 = .ok (.invokevirtual 144, 3) := by decide +kernel
theorem dL_law_1768 : decode cL_law 1768 = .ok (.iload 6, 2) := by decide +kernel
theorem dL_law_1770 : decode cL_law 1770 = .ok (.if_icmp .eq 5, 3) := by decide +kernel
theorem dL_law_1773 : decode cL_law 1773 = .ok (.iconst 0, 1) := by decide +kernel
theorem dL_law_1774 : decode cL_law 1774 = .ok (.ireturn, 1) := by decide +kernel
theorem dL_law_1775 : decode cL_law 1775 = .ok (.iload 6, 2) := by decide +kernel
theorem dL_law_1777 : decode cL_law 1777 = .ok (.ifCond .ne 15, 3) := by decide +kernel
theorem dL_law_1780 : decode cL_law 1780 = .ok (.aload_n 3, 1) := by decide +kernel
theorem dL_law_1781 : decode cL_law 1781 = .ok (.iconst 0, 1) := by decide +kernel
theorem dL_law_1782 : decode cL_law 1782 = .ok (.laload, 1) := by decide +kernel
theorem dL_law_1783 : decode cL_law 1783 = .ok (.iload 7, 2) := by decide +kernel
theorem dL_law_1785 : decode cL_law 1785 = .ok (.i2l, 1) := by decide +kernel
theorem dL_law_1786 : decode cL_law 1786 = .ok (.lcmp, 1) := by decide +kernel
theorem dL_law_1787 : decode cL_law 1787 = .ok (.ifCond .eq 5, 3) := by decide +kernel
theorem dL_law_1790 : decode cL_law 1790 = .ok (.iconst 0, 1) := by decide +kernel
theorem dL_law_1791 : decode cL_law 1791 = .ok (.ireturn, 1) := by decide +kernel
theorem dL_law_1792 : decode cL_law 1792 = .ok (.goto 631, 3) := by decide +kernel
theorem dL_law_1795 : decode cL_law 1795 = .ok (.aload_n 1, 1) := by decide +kernel
theorem dL_law_1796 : decode cL_law 1796 = .ok (.aload_n 0, 1) := by decide +kernel
theorem dL_law_1797 : decode cL_law 1797 = .ok (.iload 5, 2) := by decide +kernel
theorem dL_law_1799 : decode cL_law 1799 = .ok (.iconst 1, 1) := by decide +kernel
theorem dL_law_1800 : decode cL_law 1800 = .ok (.iadd, 1) := by decide +kernel
theorem dL_law_1801 : decode cL_law 1801 = .ok (.iaload, 1) := by decide +kernel
theorem dL_law_1802 : decode cL_law 1802 = .ok (.aload_n 3, 1) := by decide +kernel
theorem dL_law_1803 : decode cL_law 1803 = .ok (.invokestatic 227, 3) := by decide +kernel
theorem dL_law_1806 : decode cL_law 1806 = .ok (.istore 6, 2) := by decide +kernel
theorem dL_law_1808 : decode cL_law 1808 = .ok (.aload_n 2, 1) := by decide +kernel
theorem dL_law_1809 : decode cL_law 1809 = .ok (.aload_n 0, 1) := by decide +kernel
theorem dL_law_1810 : decode cL_law 1810 = .ok (.iload 5, 2) := by decide +kernel
theorem dL_law_1812 : decode cL_law 1812 = .ok (.iconst 1, 1) := by decide +kernel
theorem dL_law_1813 : decode cL_law 1813 = .ok (.iadd, 1) := by decide +kernel
theorem dL_law_1814 : decode cL_law 1814 = .ok (.iaload, 1) := by decide +kernel
theorem dL_law_1815 : decode cL_law 1815 = .ok (.invokevirtual 229, 3) := by decide +kernel
theorem dL_law_1818 : decode cL_law 1818 = .ok (.istore 7, 2) := by decide +kernel
theorem dL_law_1820 : decode cL_law 1820 = .ok (.aload_n 2, 1) := by decide +kernel
theorem dL_law_1821 : decode cL_law 1821 = .ok (.invokevirtual 144, 3) := by decide +kernel
theorem dL_law_1824 : decode cL_law 1824 = .ok (.iload 6, 2) := by decide +kernel
theorem dL_law_1826 : decode cL_law 1826 = .ok (.if_icmp .eq 5, 3) := by decide +kernel
theorem dL_law_1829 : decode cL_law 1829 = .ok (.iconst 0, 1) := by decide +kernel
theorem dL_law_1830 : decode cL_law 1830 = .ok (.ireturn, 1) := by decide +kernel
theorem dL_law_1831 : decode cL_law 1831 = .ok (.iload 6, 2) := by decide +kernel
theorem dL_law_1833 : decode cL_law 1833 = .ok (.ifCond .ne 15, 3) := by decide +kernel
theorem dL_law_1836 : decode cL_law 1836 = .ok (.aload_n 3, 1) := by decide +kernel
theorem dL_law_1837 : decode cL_law 1837 = .ok (.iconst 0, 1) := by decide +kernel
theorem dL_law_1838 : decode cL_law 1838 = .ok (.laload, 1) := by decide +kernel
theorem dL_law_1839 : decode cL_law 1839 = .ok (.iload 7, 2) := by decide +kernel
theorem dL_law_1841 : decode cL_law 1841 = .ok (.i2l, 1) := by decide +kernel
theorem dL_law_1842 : decode cL_law 1842 = .ok (.lcmp, 1) := by decide +kernel
theorem dL_law_1843 : decode cL_law 1843 = .ok (.ifCond .eq 5, 3) := by decide +kernel
theorem dL_law_1846 : decode cL_law 1846 = .ok (.iconst 0, 1) := by decide +kernel
theorem dL_law_1847 : decode cL_law 1847 = .ok (.ireturn, 1) := by decide +kernel
theorem dL_law_1848 : decode cL_law 1848 = .ok (.goto 575, 3) := by decide +kernel
theorem dL_law_1851 : decode cL_law 1851 = .ok (.aload_n 1, 1) := by decide +kernel
theorem dL_law_1852 : decode cL_law 1852 = .ok (.aload_n 0, 1) := by decide +kernel
theorem dL_law_1853 : decode cL_law 1853 = .ok (.iload 5, 2) := by decide +kernel
theorem dL_law_1855 : decode cL_law 1855 = .ok (.iconst 1, 1) := by decide +kernel
theorem dL_law_1856 : decode cL_law 1856 = .ok (.iadd, 1) := by decide +kernel
theorem dL_law_1857 : decode cL_law 1857 = .ok (.iaload, 1) := by decide +kernel
theorem dL_law_1858 : decode cL_law 1858 = .ok (.aload_n 3, 1) := by decide +kernel
theorem dL_law_1859 : decode cL_law 1859 = .ok (.invokestatic 230, 3) := by decide +kernel
theorem dL_law_1862 : decode cL_law 1862 = .ok (.istore 6, 2) := by decide +kernel
theorem dL_law_1864 : decode cL_law 1864 = .ok (.aload_n 2, 1) := by decide +kernel
theorem dL_law_1865 : decode cL_law 1865 = .ok (.aload_n 0, 1) := by decide +kernel
theorem dL_law_1866 : decode cL_law 1866 = .ok (.iload 5, 2) := by decide +kernel
theorem dL_law_1868 : decode cL_law 1868 = .ok (.iconst 1, 1) := by decide +kernel
theorem dL_law_1869 : decode cL_law 1869 = .ok (.iadd, 1) := by decide +kernel
theorem dL_law_1870 : decode cL_law 1870 = .ok (.iaload, 1) := by decide +kernel
theorem dL_law_1871 : decode cL_law 1871 = .ok (.invokevirtual 232, 3) := by decide +kernel
theorem dL_law_1874 : decode cL_law 1874 = .ok (.istore 7, 2) := by decide +kernel
theorem dL_law_1876 : decode cL_law 1876 = .ok (.aload_n 2, 1) := by decide +kernel
theorem dL_law_1877 : decode cL_law 1877 = .ok (.invokevirtual 144, 3) := by decide +kernel
theorem dL_law_1880 : decode cL_law 1880 = .ok (.iload 6, 2) := by decide +kernel
theorem dL_law_1882 : decode cL_law 1882 = .ok (.if_icmp .eq 5, 3) := by decide +kernel
theorem dL_law_1885 : decode cL_law 1885 = .ok (.iconst 0, 1) := by decide +kernel
theorem dL_law_1886 : decode cL_law 1886 = .ok (.ireturn, 1) := by decide +kernel
theorem dL_law_1887 : decode cL_law 1887 = .ok (.iload 6, 2) := by decide +kernel
theorem dL_law_1889 : decode cL_law 1889 = .ok (.ifCond .ne 15, 3) := by decide +kernel
theorem dL_law_1892 : decode cL_law 1892 = .ok (.aload_n 3, 1) := by decide +kernel
theorem dL_law_1893 : decode cL_law 1893 = .ok (.iconst 0, 1) := by decide +kernel
theorem dL_law_1894 : decode cL_law 1894 = .ok (.laload, 1) := by decide +kernel
theorem dL_law_1895 : decode cL_law 1895 = .ok (.iload 7, 2) := by decide +kernel
theorem dL_law_1897 : decode cL_law 1897 = .ok (.i2l, 1) := by decide +kernel
theorem dL_law_1898 : decode cL_law 1898 = .ok (.lcmp, 1) := by decide +kernel
theorem dL_law_1899 : decode cL_law 1899 = .ok (.ifCond .eq 5, 3) := by decide +kernel
theorem dL_law_1902 : decode cL_law 1902 = .ok (.iconst 0, 1) := by decide +kernel
theorem dL_law_1903 : decode cL_law 1903 = .ok (.ireturn, 1) := by decide +kernel
theorem dL_law_1904 : decode cL_law 1904 = .ok (.goto 519, 3) := by decide +kernel
theorem dL_law_1907 : decode cL_law 1907 = .ok (.aload_n 1, 1) := by decide +kernel
theorem dL_law_1908 : decode cL_law 1908 = .ok (.aload_n 0, 1) := by decide +kernel
theorem dL_law_1909 : decode cL_law 1909 = .ok (.iload 5, 2) := by decide +kernel
theorem dL_law_1911 : decode cL_law 1911 = .ok (.iconst 1, 1) := by decide +kernel
theorem dL_law_1912 : decode cL_law 1912 = .ok (.iadd, 1) := by decide +kernel
theorem dL_law_1913 : decode cL_law 1913 = .ok (.iaload, 1) := by decide +kernel
theorem dL_law_1914 : decode cL_law 1914 = .ok (.i2c, 1) := by decide +kernel
theorem dL_law_1915 : decode cL_law 1915 = .ok (.aload_n 3, 1) := by decide +kernel
theorem dL_law_1916 : decode cL_law 1916 = .ok (.invokestatic 233, 3) := by decide +kernel
theorem dL_law_1919 : decode cL_law 1919 = .ok (.istore 6, 2) := by decide +kernel
theorem dL_law_1921 : decode cL_law 1921 = .ok (.aload_n 2, 1) := by decide +kernel
theorem dL_law_1922 : decode cL_law 1922 = .ok (.aload_n 0, 1) := by decide +kernel
theorem dL_law_1923 : decode cL_law 1923 = .ok (.iload 5, 2) := by decide +kernel
theorem dL_law_1925 : decode cL_law 1925 = .ok (.iconst 1, 1) := by decide +kernel
theorem dL_law_1926 : decode cL_law 1926 = .ok (.iadd, 1) := by decide +kernel
theorem dL_law_1927 : decode cL_law 1927 = .ok (.iaload, 1) := by decide +kernel
theorem dL_law_1928 : decode cL_law 1928 = .ok (.i2c, 1) := by decide +kernel
theorem dL_law_1929 : decode cL_law 1929 = .ok (.invokevirtual 236, 3) := by decide +kernel
theorem dL_law_1932 : decode cL_law 1932 = .ok (.istore 7, 2) := by decide +kernel
theorem dL_law_1934 : decode cL_law 1934 = .ok (.aload_n 2, 1) := by decide +kernel
theorem dL_law_1935 : decode cL_law 1935 = .ok (.invokevirtual 144, 3) := by decide +kernel
theorem dL_law_1938 : decode cL_law 1938 = .ok (.iload 6, 2) := by decide +kernel
theorem dL_law_1940 : decode cL_law 1940 = .ok (.if_icmp .eq 5, 3) := by decide +kernel
theorem dL_law_1943 : decode cL_law 1943 = .ok (.iconst 0, 1) := by decide +kernel
theorem dL_law_1944 : decode cL_law 1944 = .ok (.ireturn, 1) := by decide +kernel
theorem dL_law_1945 : decode cL_law 1945 = .ok (.iload 6, 2) := by decide +kernel
theorem dL_law_1947 : decode cL_law 1947 = .ok (.ifCond .ne 15, 3) := by decide +kernel
theorem dL_law_1950 : decode cL_law 1950 = .ok (.aload_n 3, 1) := by decide +kernel
theorem dL_law_1951 : decode cL_law 1951 = .ok (.iconst 0, 1) := by decide +kernel
theorem dL_law_1952 : decode cL_law 1952 = .ok (.laload, 1) := by decide +kernel
theorem dL_law_1953 : decode cL_law 1953 = .ok (.iload 7, 2) := by decide +kernel
theorem dL_law_1955 : decode cL_law 1955 = .ok (.i2l, 1) := by decide +kernel
theorem dL_law_1956 : decode cL_law 1956 = .ok (.lcmp, 1) := by decide +kernel
theorem dL_law_1957 : decode cL_law 1957 = .ok (.ifCond .eq 5, 3) := by decide +kernel
theorem dL_law_1960 : decode cL_law 1960 = .ok (.iconst 0, 1) := by decide +kernel
theorem dL_law_1961 : decode cL_law 1961 = .ok (.ireturn, 1) := by decide +kernel
theorem dL_law_1962 : decode cL_law 1962 = .ok (.goto 461, 3) := by decide +kernel
theorem dL_law_1965 : decode cL_law 1965 = .ok (.aload_n 1, 1) := by decide +kernel
theorem dL_law_1966 : decode cL_law 1966 = .ok (.aload_n 3, 1) := by decide +kernel
theorem dL_law_1967 : decode cL_law 1967 = .ok (.invokestatic 237, 3) := by decide +kernel
theorem dL_law_1970 : decode cL_law 1970 = .ok (.istore 6, 2) := by decide +kernel
theorem dL_law_1972 : decode cL_law 1972 = .ok (.aload_n 2, 1) := by decide +kernel
theorem dL_law_1973 : decode cL_law 1973 = .ok (.invokevirtual 239, 3) := by decide +kernel
theorem dL_law_1976 : decode cL_law 1976 = .ok (.istore 7, 2) := by decide +kernel
theorem dL_law_1978 : decode cL_law 1978 = .ok (.aload_n 2, 1) := by decide +kernel
theorem dL_law_1979 : decode cL_law 1979 = .ok (.invokevirtual 144, 3) := by decide +kernel
theorem dL_law_1982 : decode cL_law 1982 = .ok (.iload 6, 2) := by decide +kernel
theorem dL_law_1984 : decode cL_law 1984 = .ok (.if_icmp .eq 5, 3) := by decide +kernel
theorem dL_law_1987 : decode cL_law 1987 = .ok (.iconst 0, 1) := by decide +kernel
theorem dL_law_1988 : decode cL_law 1988 = .ok (.ireturn, 1) := by decide +kernel
theorem dL_law_1989 : decode cL_law 1989 = .ok (.iload 6, 2) := by decide +kernel
theorem dL_law_1991 : decode cL_law 1991 = .ok (.ifCond .ne 15, 3) := by decide +kernel
theorem dL_law_1994 : decode cL_law 1994 = .ok (.aload_n 3, 1) := by decide +kernel
theorem dL_law_1995 : decode cL_law 1995 = .ok (.iconst 0, 1) := by decide +kernel
theorem dL_law_1996 : decode cL_law 1996 = .ok (.laload, 1) := by decide +kernel
theorem dL_law_1997 : decode cL_law 1997 = .ok (.iload 7, 2) := by decide +kernel
theorem dL_law_1999 : decode cL_law 1999 = .ok (.i2l, 1) := by decide +kernel
theorem dL_law_2000 : decode cL_law 2000 = .ok (.lcmp, 1) := by decide +kernel
theorem dL_law_2001 : decode cL_law 2001 = .ok (.ifCond .eq 5, 3) := by decide +kernel
theorem dL_law_2004 : decode cL_law 2004 = .ok (.iconst 0, 1) := by decide +kernel
theorem dL_law_2005 : decode cL_law 2005 = .ok (.ireturn, 1) := by decide +kernel
theorem dL_law_2006 : decode cL_law 2006 = .ok (.goto 417, 3) := by decide +kernel
theorem dL_law_2009 : decode cL_law 2009 = .ok (.aload_n 1, 1) := by decide +kernel
theorem dL_law_2010 : decode cL_law 2010 = .ok (.invokevirtual 240, 3) := by decide +kernel
theorem dL_law_2013 : decode cL_law 2013 = .ok (.aload_n 2, 1) := by decide +kernel
theorem dL_law_2014 : decode cL_law 2014 = .ok (.invokevirtual 243, 3) := by decide +kernel
theorem dL_law_2017 : decode cL_law 2017 = .ok (.if_icmp .eq 406, 3) := by decide +kernel
theorem dL_law_2020 : decode cL_law 2020 = .ok (.iconst 0, 1) := by decide +kernel
theorem dL_law_2021 : decode cL_law 2021 = .ok (.ireturn, 1) := by decide +kernel
theorem dL_law_2022 : decode cL_law 2022 = .ok (.aload_n 1, 1) := by decide +kernel
theorem dL_law_2023 : decode cL_law 2023 = .ok (.aload_n 0, 1) := by decide +kernel
theorem dL_law_2024 : decode cL_law 2024 = .ok (.iload 5, 2) := by decide +kernel
theorem dL_law_2026 : decode cL_law 2026 = .ok (.iconst 1, 1) := by decide +kernel
theorem dL_law_2027 : decode cL_law 2027 = .ok (.iadd, 1) := by decide +kernel
theorem dL_law_2028 : decode cL_law 2028 = .ok (.iaload, 1) := by decide +kernel
theorem dL_law_2029 : decode cL_law 2029 = .ok (.ifCond .eq 7, 3) := by decide +kernel
theorem dL_law_2032 : decode cL_law 2032 = .ok (.iconst 1, 1) := by decide +kernel
theorem dL_law_2033 : decode cL_law 2033 = .ok (.goto 4, 3) := by decide +kernel
theorem dL_law_2036 : decode cL_law 2036 = .ok (.iconst 0, 1) := by decide +kernel
theorem dL_law_2037 : decode cL_law 2037 = .ok (.aload_n 0, 1) := by decide +kernel
theorem dL_law_2038 : decode cL_law 2038 = .ok (.iload 5, 2) := by decide +kernel
theorem dL_law_2040 : decode cL_law 2040 = .ok (.iconst 2, 1) := by decide +kernel
theorem dL_law_2041 : decode cL_law 2041 = .ok (.iadd, 1) := by decide +kernel
theorem dL_law_2042 : decode cL_law 2042 = .ok (.iaload, 1) := by decide +kernel
theorem dL_law_2043 : decode cL_law 2043 = .ok (.ifCond .eq 7, 3) := by decide +kernel
theorem dL_law_2046 : decode cL_law 2046 = .ok (.iconst 1, 1) := by decide +kernel
theorem dL_law_2047 : decode cL_law 2047 = .ok (.goto 4, 3) := by decide +kernel
theorem dL_law_2050 : decode cL_law 2050 = .ok (.iconst 0, 1) := by decide +kernel
theorem dL_law_2051 : decode cL_law 2051 = .ok (.aload_n 3, 1) := by decide +kernel
theorem dL_law_2052 : decode cL_law 2052 = .ok (.invokestatic 244, 3) := by decide +kernel
theorem dL_law_2055 : decode cL_law 2055 = .ok (.istore 6, 2) := by decide +kernel
theorem dL_law_2057 : decode cL_law 2057 = .ok (.aload_n 2, 1) := by decide +kernel
theorem dL_law_2058 : decode cL_law 2058 = .ok (.aload_n 0, 1) := by decide +kernel
theorem dL_law_2059 : decode cL_law 2059 = .ok (.iload 5, 2) := by decide +kernel
theorem dL_law_2061 : decode cL_law 2061 = .ok (.iconst 1, 1) := by decide +kernel
theorem dL_law_2062 : decode cL_law 2062 = .ok (.iadd, 1) := by decide +kernel
theorem dL_law_2063 : decode cL_law 2063 = .ok (.iaload, 1) := by decide +kernel
theorem dL_law_2064 : decode cL_law 2064 = .ok (.ifCond .eq 7, 3) := by decide +kernel
theorem dL_law_2067 : decode cL_law 2067 = .ok (.iconst 1, 1) := by decide +kernel
theorem dL_law_2068 : decode cL_law 2068 = .ok (.goto 4, 3) := by decide +kernel
theorem dL_law_2071 : decode cL_law 2071 = .ok (.iconst 0, 1) := by decide +kernel
theorem dL_law_2072 : decode cL_law 2072 = .ok (.aload_n 0, 1) := by decide +kernel
theorem dL_law_2073 : decode cL_law 2073 = .ok (.iload 5, 2) := by decide +kernel
theorem dL_law_2075 : decode cL_law 2075 = .ok (.iconst 2, 1) := by decide +kernel
theorem dL_law_2076 : decode cL_law 2076 = .ok (.iadd, 1) := by decide +kernel
theorem dL_law_2077 : decode cL_law 2077 = .ok (.iaload, 1) := by decide +kernel
theorem dL_law_2078 : decode cL_law 2078 = .ok (.ifCond .eq 7, 3) := by decide +kernel
theorem dL_law_2081 : decode cL_law 2081 = .ok (.iconst 1, 1) := by decide +kernel
theorem dL_law_2082 : decode cL_law 2082 = .ok (.goto 4, 3) := by decide +kernel
theorem dL_law_2085 : decode cL_law 2085 = .ok (.iconst 0, 1) := by decide +kernel
theorem dL_law_2086 : decode cL_law 2086 = .ok (.invokevirtual 247, 3) := by decide +kernel
theorem dL_law_2089 : decode cL_law 2089 = .ok (.istore 7, 2) := by decide +kernel
theorem dL_law_2091 : decode cL_law 2091 = .ok (.aload_n 2, 1) := by decide +kernel
theorem dL_law_2092 : decode cL_law 2092 = .ok (.invokevirtual 144, 3) := by decide +kernel
theorem dL_law_2095 : decode cL_law 2095 = .ok (.iload 6, 2) := by decide +kernel
theorem dL_law_2097 : decode cL_law 2097 = .ok (.if_icmp .eq 5, 3) := by decide +kernel
theorem dL_law_2100 : decode cL_law 2100 = .ok (.iconst 0, 1) := by decide +kernel
theorem dL_law_2101 : decode cL_law 2101 = .ok (.ireturn, 1) := by decide +kernel
theorem dL_law_2102 : decode cL_law 2102 = .ok (.iload 6, 2) := by decide +kernel
theorem dL_law_2104 : decode cL_law 2104 = .ok (.ifCond .ne 15, 3) := by decide +kernel
theorem dL_law_2107 : decode cL_law 2107 = .ok (.aload_n 3, 1) := by decide +kernel
theorem dL_law_2108 : decode cL_law 2108 = .ok (.iconst 0, 1) := by decide +kernel
theorem dL_law_2109 : decode cL_law 2109 = .ok (.laload, 1) := by decide +kernel
theorem dL_law_2110 : decode cL_law 2110 = .ok (.iload 7, 2) := by decide +kernel
theorem dL_law_2112 : decode cL_law 2112 = .ok (.i2l, 1) := by decide +kernel
theorem dL_law_2113 : decode cL_law 2113 = .ok (.lcmp, 1) := by decide +kernel
theorem dL_law_2114 : decode cL_law 2114 = .ok (.ifCond .eq 5, 3) := by decide +kernel
theorem dL_law_2117 : decode cL_law 2117 = .ok (.iconst 0, 1) := by decide +kernel
theorem dL_law_2118 : decode cL_law 2118 = .ok (.ireturn, 1) := by decide +kernel
theorem dL_law_2119 : decode cL_law 2119 = .ok (.goto 304, 3) := by decide +kernel
theorem dL_law_2122 : decode cL_law 2122 = .ok (.aload_n 1, 1) := by decide +kernel
theorem dL_law_2123 : decode cL_law 2123 = .ok (.aload_n 0, 1) := by decide +kernel
theorem dL_law_2124 : decode cL_law 2124 = .ok (.iload 5, 2) := by decide +kernel
theorem dL_law_2126 : decode cL_law 2126 = .ok (.iconst 1, 1) := by decide +kernel
theorem dL_law_2127 : decode cL_law 2127 = .ok (.iadd, 1) := by decide +kernel
theorem dL_law_2128 : decode cL_law 2128 = .ok (.iaload, 1) := by decide +kernel
theorem dL_law_2129 : decode cL_law 2129 = .ok (.aload_n 3, 1) := by decide +kernel
theorem dL_law_2130 : decode cL_law 2130 = .ok (.invokestatic 248, 3) := by decide +kernel
theorem dL_law_2133 : decode cL_law 2133 = .ok (.istore 6, 2) := by decide +kernel
theorem dL_law_2135 : decode cL_law 2135 = .ok (.aload_n 2, 1) := by decide +kernel
theorem dL_law_2136 : decode cL_law 2136 = .ok (.aload_n 0, 1) := by decide +kernel
theorem dL_law_2137 : decode cL_law 2137 = .ok (.iload 5, 2) := by decide +kernel
theorem dL_law_2139 : decode cL_law 2139 = .ok (.iconst 1, 1) := by decide +kernel
theorem dL_law_2140 : decode cL_law 2140 = .ok (.iadd, 1) := by decide +kernel
theorem dL_law_2141 : decode cL_law 2141 = .ok (.iaload, 1) := by decide +kernel
theorem dL_law_2142 : decode cL_law 2142 = .ok (.invokevirtual 250, 3) := by decide +kernel
theorem dL_law_2145 : decode cL_law 2145 = .ok (.istore 7, 2) := by decide +kernel
theorem dL_law_2147 : decode cL_law 2147 = .ok (.aload_n 2, 1) := by decide +kernel
theorem dL_law_2148 : decode cL_law 2148 = .ok (.invokevirtual 144, 3) := by decide +kernel
theorem dL_law_2151 : decode cL_law 2151 = .ok (.iload 6, 2) := by decide +kernel
theorem dL_law_2153 : decode cL_law 2153 = .ok (.if_icmp .eq 5, 3) := by decide +kernel
theorem dL_law_2156 : decode cL_law 2156 = .ok (.iconst 0, 1) := by decide +kernel
theorem dL_law_2157 : decode cL_law 2157 = .ok (.ireturn, 1) := by decide +kernel
theorem dL_law_2158 : decode cL_law 2158 = .ok (.iload 6, 2) := by decide +kernel
theorem dL_law_2160 : decode cL_law 2160 = .ok (.ifCond .ne 15, 3) := by decide +kernel
theorem dL_law_2163 : decode cL_law 2163 = .ok (.aload_n 3, 1) := by decide +kernel
theorem dL_law_2164 : decode cL_law 2164 = .ok (.iconst 0, 1) := by decide +kernel
theorem dL_law_2165 : decode cL_law 2165 = .ok (.laload, 1) := by decide +kernel
theorem dL_law_2166 : decode cL_law 2166 = .ok (.iload 7, 2) := by decide +kernel
theorem dL_law_2168 : decode cL_law 2168 = .ok (.i2l, 1) := by decide +kernel
theorem dL_law_2169 : decode cL_law 2169 = .ok (.lcmp, 1) := by decide +kernel
theorem dL_law_2170 : decode cL_law 2170 = .ok (.ifCond .eq 5, 3) := by decide +kernel
theorem dL_law_2173 : decode cL_law 2173 = .ok (.iconst 0, 1) := by decide +kernel
theorem dL_law_2174 : decode cL_law 2174 = .ok (.ireturn, 1) := by decide +kernel
theorem dL_law_2175 : decode cL_law 2175 = .ok (.goto 248, 3) := by decide +kernel
theorem dL_law_2178 : decode cL_law 2178 = .ok (.aload_n 1, 1) := by decide +kernel
theorem dL_law_2179 : decode cL_law 2179 = .ok (.invokevirtual 251, 3) := by decide +kernel
theorem dL_law_2182 : decode cL_law 2182 = .ok (.aload_n 2, 1) := by decide +kernel
theorem dL_law_2183 : decode cL_law 2183 = .ok (.invokevirtual 255, 3) := by decide +kernel
theorem dL_law_2186 : decode cL_law 2186 = .ok (.if_icmp .eq 237, 3) := by decide +kernel
theorem dL_law_2189 : decode cL_law 2189 = .ok (.iconst 0, 1) := by decide +kernel
theorem dL_law_2190 : decode cL_law 2190 = .ok (.ireturn, 1) := by decide +kernel
theorem dL_law_2191 : decode cL_law 2191 = .ok (.aload_n 1, 1) := by decide +kernel
theorem dL_law_2192 : decode cL_law 2192 = .ok (.aload 4, 2) := by decide +kernel
theorem dL_law_2194 : decode cL_law 2194 = .ok (.invokestatic 256, 3) := by decide +kernel
theorem dL_law_2197 : decode cL_law 2197 = .ok (.istore 6, 2) := by decide +kernel
theorem dL_law_2199 : decode cL_law 2199 = .ok (.aload_n 2, 1) := by decide +kernel
theorem dL_law_2200 : decode cL_law 2200 = .ok (.invokevirtual 259, 3) := by decide +kernel
theorem dL_law_2203 : decode cL_law 2203 = .ok (.dstore 7, 2) := by decide +kernel
theorem dL_law_2205 : decode cL_law 2205 = .ok (.aload_n 2, 1) := by decide +kernel
theorem dL_law_2206 : decode cL_law 2206 = .ok (.invokevirtual 144, 3) := by decide +kernel
theorem dL_law_2209 : decode cL_law 2209 = .ok (.iload 6, 2) := by decide +kernel
theorem dL_law_2211 : decode cL_law 2211 = .ok (.if_icmp .eq 5, 3) := by decide +kernel
theorem dL_law_2214 : decode cL_law 2214 = .ok (.iconst 0, 1) := by decide +kernel
theorem dL_law_2215 : decode cL_law 2215 = .ok (.ireturn, 1) := by decide +kernel
theorem dL_law_2216 : decode cL_law 2216 = .ok (.iload 6, 2) := by decide +kernel
theorem dL_law_2218 : decode cL_law 2218 = .ok (.ifCond .ne 35, 3) := by decide +kernel
theorem dL_law_2221 : decode cL_law 2221 = .ok (.aload 4, 2) := by decide +kernel
theorem dL_law_2223 : decode cL_law 2223 = .ok (.iconst 0, 1) := by decide +kernel
theorem dL_law_2224 : decode cL_law 2224 = .ok (.daload, 1) := by decide +kernel
theorem dL_law_2225 : decode cL_law 2225 = .ok (.dload 7, 2) := by decide +kernel
theorem dL_law_2227 : decode cL_law 2227 = .ok (.dcmp .l, 1) := by decide +kernel
theorem dL_law_2228 : decode cL_law 2228 = .ok (.ifCond .eq 25, 3) := by decide +kernel
theorem dL_law_2231 : decode cL_law 2231 = .ok (.aload 4, 2) := by decide +kernel
theorem dL_law_2233 : decode cL_law 2233 = .ok (.iconst 0, 1) := by decide +kernel
theorem dL_law_2234 : decode cL_law 2234 = .ok (.daload, 1) := by decide +kernel
theorem dL_law_2235 : decode cL_law 2235 = .ok (.aload 4, 2) := by decide +kernel
theorem dL_law_2237 : decode cL_law 2237 = .ok (.iconst 0, 1) := by decide +kernel
theorem dL_law_2238 : decode cL_law 2238 = .ok (.daload, 1) := by decide +kernel
theorem dL_law_2239 : decode cL_law 2239 = .ok (.dcmp .l, 1) := by decide +kernel
theorem dL_law_2240 : decode cL_law 2240 = .ok (.ifCond .eq 11, 3) := by decide +kernel
theorem dL_law_2243 : decode cL_law 2243 = .ok (.dload 7, 2) := by decide +kernel
theorem dL_law_2245 : decode cL_law 2245 = .ok (.dload 7, 2) := by decide +kernel
theorem dL_law_2247 : decode cL_law 2247 = .ok (.dcmp .l, 1) := by decide +kernel
theorem dL_law_2248 : decode cL_law 2248 = .ok (.ifCond .ne 5, 3) := by decide +kernel
theorem dL_law_2251 : decode cL_law 2251 = .ok (.iconst 0, 1) := by decide +kernel
theorem dL_law_2252 : decode cL_law 2252 = .ok (.ireturn, 1) := by decide +kernel
theorem dL_law_2253 : decode cL_law 2253 = .ok (.goto 170, 3) := by decide +kernel
theorem dL_law_2256 : decode cL_law 2256 = .ok (.aload_n 1, 1) := by decide +kernel
theorem dL_law_2257 : decode cL_law 2257 = .ok (.aload 4, 2) := by decide +kernel
theorem dL_law_2259 : decode cL_law 2259 = .ok (.invokestatic 260, 3) := by decide +kernel
theorem dL_law_2262 : decode cL_law 2262 = .ok (.istore 6, 2) := by decide +kernel
theorem dL_law_2264 : decode cL_law 2264 = .ok (.aload_n 2, 1) := by decide +kernel
theorem dL_law_2265 : decode cL_law 2265 = .ok (.invokevirtual 262, 3) := by decide +kernel
theorem dL_law_2268 : decode cL_law 2268 = .ok (.fstore 7, 2) := by decide +kernel
theorem dL_law_2270 : decode cL_law 2270 = .ok (.aload_n 2, 1) := by decide +kernel
theorem dL_law_2271 : decode cL_law 2271 = .ok (.invokevirtual 144, 3) := by decide +kernel
theorem dL_law_2274 : decode cL_law 2274 = .ok (.iload 6, 2) := by decide +kernel
theorem dL_law_2276 : decode cL_law 2276 = .ok (.if_icmp .eq 5, 3) := by decide +kernel
theorem dL_law_2279 : decode cL_law 2279 = .ok (.iconst 0, 1) := by decide +kernel
theorem dL_law_2280 : decode cL_law 2280 = .ok (.ireturn, 1) := by decide +kernel
theorem dL_law_2281 : decode cL_law 2281 = .ok (.iload 6, 2) := by decide +kernel
theorem dL_law_2283 : decode cL_law 2283 = .ok (.ifCond .ne 36, 3) := by decide +kernel
theorem dL_law_2286 : decode cL_law 2286 = .ok (.aload 4, 2) := by decide +kernel
theorem dL_law_2288 : decode cL_law 2288 = .ok (.iconst 0, 1) := by decide +kernel
theorem dL_law_2289 : decode cL_law 2289 = .ok (.daload, 1) := by decide +kernel
theorem dL_law_2290 : decode cL_law 2290 = .ok (.fload 7, 2) := by decide +kernel
theorem dL_law_2292 : decode cL_law 2292 = .ok (.f2d, 1) := by decide +kernel
theorem dL_law_2293 : decode cL_law 2293 = .ok (.dcmp .l, 1) := by decide +kernel
theorem dL_law_2294 : decode cL_law 2294 = .ok (.ifCond .eq 25, 3) := by decide +kernel
theorem dL_law_2297 : decode cL_law 2297 = .ok (.aload 4, 2) := by decide +kernel
theorem dL_law_2299 : decode cL_law 2299 = .ok (.iconst 0, 1) := by decide +kernel
theorem dL_law_2300 : decode cL_law 2300 = .ok (.daload, 1) := by decide +kernel
theorem dL_law_2301 : decode cL_law 2301 = .ok (.aload 4, 2) := by decide +kernel
theorem dL_law_2303 : decode cL_law 2303 = .ok (.iconst 0, 1) := by decide +kernel
theorem dL_law_2304 : decode cL_law 2304 = .ok (.daload, 1) := by decide +kernel
theorem dL_law_2305 : decode cL_law 2305 = .ok (.dcmp .l, 1) := by decide +kernel
theorem dL_law_2306 : decode cL_law 2306 = .ok (.ifCond .eq 11, 3) := by decide +kernel
theorem dL_law_2309 : decode cL_law 2309 = .ok (.fload 7, 2) := by decide +kernel
theorem dL_law_2311 : decode cL_law 2311 = .ok (.fload 7, 2) := by decide +kernel
theorem dL_law_2313 : decode cL_law 2313 = .ok (.fcmp .l, 1) := by decide +kernel
theorem dL_law_2314 : decode cL_law 2314 = .ok (.ifCond .ne 5, 3) := by decide +kernel
theorem dL_law_2317 : decode cL_law 2317 = .ok (.iconst 0, 1) := by decide +kernel
theorem dL_law_2318 : decode cL_law 2318 = .ok (.ireturn, 1) := by decide +kernel
theorem dL_law_2319 : decode cL_law 2319 = .ok (.goto 104, 3) := by decide +kernel
theorem dL_law_2322 : decode cL_law 2322 = .ok (.aload_n 1, 1) := by decide +kernel
theorem dL_law_2323 : decode cL_law 2323 = .ok (.aload_n 3, 1) := by decide +kernel
theorem dL_law_2324 : decode cL_law 2324 = .ok (.invokestatic 263, 3) := by decide +kernel
theorem dL_law_2327 : decode cL_law 2327 = .ok (.istore 6, 2) := by decide +kernel
theorem dL_law_2329 : decode cL_law 2329 = .ok (.aload_n 2, 1) := by decide +kernel
theorem dL_law_2330 : decode cL_law 2330 = .ok (.invokevirtual 265, 3) := by decide +kernel
theorem dL_law_2333 : decode cL_law 2333 = .ok (.istore 7, 2) := by decide +kernel
theorem dL_law_2335 : decode cL_law 2335 = .ok (.aload_n 2, 1) := by decide +kernel
theorem dL_law_2336 : decode cL_law 2336 = .ok (.invokevirtual 144, 3) := by decide +kernel
theorem dL_law_2339 : decode cL_law 2339 = .ok (.iload 6, 2) := by decide +kernel
theorem dL_law_2341 : decode cL_law 2341 = .ok (.if_icmp .eq 5, 3) := by decide +kernel
theorem dL_law_2344 : decode cL_law 2344 = .ok (.iconst 0, 1) := by decide +kernel
theorem dL_law_2345 : decode cL_law 2345 = .ok (.ireturn, 1) := by decide +kernel
theorem dL_law_2346 : decode cL_law 2346 = .ok (.iload 6, 2) := by decide +kernel
theorem dL_law_2348 : decode cL_law 2348 = .ok (.ifCond .ne 15, 3) := by decide +kernel
theorem dL_law_2351 : decode cL_law 2351 = .ok (.aload_n 3, 1) := by decide +kernel
theorem dL_law_2352 : decode cL_law 2352 = .ok (.iconst 0, 1) := by decide +kernel
theorem dL_law_2353 : decode cL_law 2353 = .ok (.laload, 1) := by decide +kernel
theorem dL_law_2354 : decode cL_law 2354 = .ok (.iload 7, 2) := by decide +kernel
theorem dL_law_2356 : decode cL_law 2356 = .ok (.i2l, 1) := by decide +kernel
theorem dL_law_2357 : decode cL_law 2357 = .ok (.lcmp, 1) := by decide +kernel
theorem dL_law_2358 : decode cL_law 2358 = .ok (.ifCond .eq 5, 3) := by decide +kernel
theorem dL_law_2361 : decode cL_law 2361 = .ok (.iconst 0, 1) := by decide +kernel
theorem dL_law_2362 : decode cL_law 2362 = .ok (.ireturn, 1) := by decide +kernel
theorem dL_law_2363 : decode cL_law 2363 = .ok (.goto 60, 3) := by decide +kernel
theorem dL_law_2366 : decode cL_law 2366 = .ok (.aload_n 1, 1) := by decide +kernel
theorem dL_law_2367 : decode cL_law 2367 = .ok (.invokevirtual 266, 3) := by decide +kernel
theorem dL_law_2370 : decode cL_law 2370 = .ok (.aload_n 2, 1) := by decide +kernel
theorem dL_law_2371 : decode cL_law 2371 = .ok (.invokevirtual 269, 3) := by decide +kernel
theorem dL_law_2374 : decode cL_law 2374 = .ok (.if_icmp .eq 49, 3) := by decide +kernel
theorem dL_law_2377 : decode cL_law 2377 = .ok (.iconst 0, 1) := by decide +kernel
theorem dL_law_2378 : decode cL_law 2378 = .ok (.ireturn, 1) := by decide +kernel
theorem dL_law_2379 : decode cL_law 2379 = .ok (.aload_n 1, 1) := by decide +kernel
theorem dL_law_2380 : decode cL_law 2380 = .ok (.aload_n 3, 1) := by decide +kernel
theorem dL_law_2381 : decode cL_law 2381 = .ok (.invokestatic 270, 3) := by decide +kernel
theorem dL_law_2384 : decode cL_law 2384 = .ok (.istore 6, 2) := by decide +kernel
theorem dL_law_2386 : decode cL_law 2386 = .ok (.aload_n 2, 1) := by decide +kernel
theorem dL_law_2387 : decode cL_law 2387 = .ok (.invokevirtual 272, 3) := by decide +kernel
theorem dL_law_2390 : decode cL_law 2390 = .ok (.istore 7, 2) := by decide +kernel
theorem dL_law_2392 : decode cL_law 2392 = .ok (.aload_n 2, 1) := by decide +kernel
theorem dL_law_2393 : decode cL_law 2393 = .ok (.invokevirtual 144, 3) := by decide +kernel
theorem dL_law_2396 : decode cL_law 2396 = .ok (.iload 6, 2) := by decide +kernel
theorem dL_law_2398 : decode cL_law 2398 = .ok (.if_icmp .eq 5, 3) := by decide +kernel
theorem dL_law_2401 : decode cL_law 2401 = .ok (.iconst 0, 1) := by decide +kernel
theorem dL_law_2402 : decode cL_law 2402 = .ok (.ireturn, 1) := by decide +kernel
theorem dL_law_2403 : decode cL_law 2403 = .ok (.iload 6, 2) := by decide +kernel
theorem dL_law_2405 : decode cL_law 2405 = .ok (.ifCond .ne 15, 3) := by decide +kernel
theorem dL_law_2408 : decode cL_law 2408 = .ok (.aload_n 3, 1) := by decide +kernel
theorem dL_law_2409 : decode cL_law 2409 = .ok (.iconst 0, 1) := by decide +kernel
theorem dL_law_2410 : decode cL_law 2410 = .ok (.laload, 1) := by decide +kernel
theorem dL_law_2411 : decode cL_law 2411 = .ok (.iload 7, 2) := by decide +kernel
theorem dL_law_2413 : decode cL_law 2413 = .ok (.i2l, 1) := by decide +kernel
theorem dL_law_2414 : decode cL_law 2414 = .ok (.lcmp, 1) := by decide +kernel
theorem dL_law_2415 : decode cL_law 2415 = .ok (.ifCond .eq 5, 3) := by decide +kernel
theorem dL_law_2418 : decode cL_law 2418 = .ok (.iconst 0, 1) := by decide +kernel
theorem dL_law_2419 : decode cL_law 2419 = .ok (.ireturn, 1) := by decide +kernel
theorem dL_law_2420 : decode cL_law 2420 = .ok (.goto 3, 3) := by decide +kernel
theorem dL_law_2423 : decode cL_law 2423 = .ok (.iinc 5 4, 3) := by decide +kernel
theorem dL_law_2426 : decode cL_law 2426 = .ok (.goto (-2398), 3) := by decide +kernel
theorem dL_law_2429 : decode cL_law 2429 = .ok (.iconst 1, 1) := by decide +kernel
theorem dL_law_2430 : decode cL_law 2430 = .ok (.ireturn, 1) := by decide +kernel
end
section
theorem i_vc : Claimed_1_1 ∧ Claimed_1_2 := sorry
end
