section
-- ===== PART A: goes FIRST, ahead of the names: the tables' words, and 'selects' of the private methods out of them =====
/-- a private method of a class that the tables say can be made, by its rows of tables_1 -/
def lw_okq (q : MethodName × Nat) : Prop := (q.1.cls ≠ "java/lang/invoke/MethodHandle" ∧ q.1.cls ≠ "java/lang/invoke/VarHandle") ∧ Cond.instantiable q.1.cls q.2 ∈ tables_1 ∧ Cond.privateMethod q.1 ∈ tables_1 ∧ Cond.instanceMethod q.1 ∈ tables_1
theorem lw_p0 : lw_okq (⟨"SkinOfTeeth", "comeFrom", "(LSkinOfTeeth$Shelf;I)V"⟩, 13) := ⟨⟨by decide +kernel, by decide +kernel⟩, List.mem_of_getElem? (i := 19) (by decide +kernel), List.mem_of_getElem? (i := 289) (by decide +kernel), List.mem_of_getElem? (i := 290) (by decide +kernel)⟩
theorem lw_p1 : lw_okq (⟨"SkinOfTeeth", "noNumber", "(II)Z"⟩, 13) := ⟨⟨by decide +kernel, by decide +kernel⟩, List.mem_of_getElem? (i := 19) (by decide +kernel), List.mem_of_getElem? (i := 297) (by decide +kernel), List.mem_of_getElem? (i := 298) (by decide +kernel)⟩
theorem lw_p2 : lw_okq (⟨"SkinOfTeeth", "nobody", "(I)Z"⟩, 13) := ⟨⟨by decide +kernel, by decide +kernel⟩, List.mem_of_getElem? (i := 19) (by decide +kernel), List.mem_of_getElem? (i := 301) (by decide +kernel), List.mem_of_getElem? (i := 302) (by decide +kernel)⟩
theorem lw_p3 : lw_okq (⟨"SkinOfTeeth", "numberNow", "(II)I"⟩, 13) := ⟨⟨by decide +kernel, by decide +kernel⟩, List.mem_of_getElem? (i := 19) (by decide +kernel), List.mem_of_getElem? (i := 308) (by decide +kernel), List.mem_of_getElem? (i := 309) (by decide +kernel)⟩
theorem lw_p4 : lw_okq (⟨"SkinOfTeeth$Changes", "dropOldest", "()V"⟩, 6) := ⟨⟨by decide +kernel, by decide +kernel⟩, List.mem_of_getElem? (i := 99) (by decide +kernel), List.mem_of_getElem? (i := 330) (by decide +kernel), List.mem_of_getElem? (i := 331) (by decide +kernel)⟩
theorem lw_p5 : lw_okq (⟨"SkinOfTeeth", "makeNumber", "(III)V"⟩, 13) := ⟨⟨by decide +kernel, by decide +kernel⟩, List.mem_of_getElem? (i := 19) (by decide +kernel), List.mem_of_getElem? (i := 337) (by decide +kernel), List.mem_of_getElem? (i := 338) (by decide +kernel)⟩
theorem lw_p6 : lw_okq (⟨"SkinOfTeeth$LawReader", "readLine", "()Z"⟩, 4) := ⟨⟨by decide +kernel, by decide +kernel⟩, List.mem_of_getElem? (i := 155) (by decide +kernel), List.mem_of_getElem? (i := 361) (by decide +kernel), List.mem_of_getElem? (i := 362) (by decide +kernel)⟩
theorem lw_p7 : lw_okq (⟨"SkinOfTeeth$LawReader", "readAny", "(I)Z"⟩, 4) := ⟨⟨by decide +kernel, by decide +kernel⟩, List.mem_of_getElem? (i := 155) (by decide +kernel), List.mem_of_getElem? (i := 365) (by decide +kernel), List.mem_of_getElem? (i := 366) (by decide +kernel)⟩
theorem lw_p8 : lw_okq (⟨"SkinOfTeeth$LawReader", "readAll", "(I)Z"⟩, 4) := ⟨⟨by decide +kernel, by decide +kernel⟩, List.mem_of_getElem? (i := 155) (by decide +kernel), List.mem_of_getElem? (i := 369) (by decide +kernel), List.mem_of_getElem? (i := 370) (by decide +kernel)⟩
theorem lw_p9 : lw_okq (⟨"SkinOfTeeth$LawReader", "readCompared", "(I)Z"⟩, 4) := ⟨⟨by decide +kernel, by decide +kernel⟩, List.mem_of_getElem? (i := 155) (by decide +kernel), List.mem_of_getElem? (i := 373) (by decide +kernel), List.mem_of_getElem? (i := 374) (by decide +kernel)⟩
theorem lw_p10 : lw_okq (⟨"SkinOfTeeth$LawReader", "readSum", "(I)Z"⟩, 4) := ⟨⟨by decide +kernel, by decide +kernel⟩, List.mem_of_getElem? (i := 155) (by decide +kernel), List.mem_of_getElem? (i := 377) (by decide +kernel), List.mem_of_getElem? (i := 378) (by decide +kernel)⟩
theorem lw_p11 : lw_okq (⟨"SkinOfTeeth$LawReader", "readProduct", "(I)Z"⟩, 4) := ⟨⟨by decide +kernel, by decide +kernel⟩, List.mem_of_getElem? (i := 155) (by decide +kernel), List.mem_of_getElem? (i := 381) (by decide +kernel), List.mem_of_getElem? (i := 382) (by decide +kernel)⟩
theorem lw_p12 : lw_okq (⟨"SkinOfTeeth$LawReader", "readOperand", "(I)Z"⟩, 4) := ⟨⟨by decide +kernel, by decide +kernel⟩, List.mem_of_getElem? (i := 155) (by decide +kernel), List.mem_of_getElem? (i := 385) (by decide +kernel), List.mem_of_getElem? (i := 386) (by decide +kernel)⟩
theorem lw_p13 : lw_okq (⟨"SkinOfTeeth$LawReader", "next", "()I"⟩, 4) := ⟨⟨by decide +kernel, by decide +kernel⟩, List.mem_of_getElem? (i := 155) (by decide +kernel), List.mem_of_getElem? (i := 389) (by decide +kernel), List.mem_of_getElem? (i := 390) (by decide +kernel)⟩
theorem lw_p14 : lw_okq (⟨"SkinOfTeeth$LawReader", "readNumber", "()V"⟩, 4) := ⟨⟨by decide +kernel, by decide +kernel⟩, List.mem_of_getElem? (i := 155) (by decide +kernel), List.mem_of_getElem? (i := 396) (by decide +kernel), List.mem_of_getElem? (i := 397) (by decide +kernel)⟩
theorem lw_p15 : lw_okq (⟨"SkinOfTeeth$LawReader", "readOpened", "(II)Z"⟩, 4) := ⟨⟨by decide +kernel, by decide +kernel⟩, List.mem_of_getElem? (i := 155) (by decide +kernel), List.mem_of_getElem? (i := 491) (by decide +kernel), List.mem_of_getElem? (i := 492) (by decide +kernel)⟩
def lw_privs_1 : List (MethodName × Nat) := [(⟨"SkinOfTeeth", "comeFrom", "(LSkinOfTeeth$Shelf;I)V"⟩, 13), (⟨"SkinOfTeeth", "noNumber", "(II)Z"⟩, 13), (⟨"SkinOfTeeth", "nobody", "(I)Z"⟩, 13), (⟨"SkinOfTeeth", "numberNow", "(II)I"⟩, 13), (⟨"SkinOfTeeth$Changes", "dropOldest", "()V"⟩, 6), (⟨"SkinOfTeeth", "makeNumber", "(III)V"⟩, 13), (⟨"SkinOfTeeth$LawReader", "readLine", "()Z"⟩, 4), (⟨"SkinOfTeeth$LawReader", "readAny", "(I)Z"⟩, 4), (⟨"SkinOfTeeth$LawReader", "readAll", "(I)Z"⟩, 4), (⟨"SkinOfTeeth$LawReader", "readCompared", "(I)Z"⟩, 4), (⟨"SkinOfTeeth$LawReader", "readSum", "(I)Z"⟩, 4), (⟨"SkinOfTeeth$LawReader", "readProduct", "(I)Z"⟩, 4), (⟨"SkinOfTeeth$LawReader", "readOperand", "(I)Z"⟩, 4), (⟨"SkinOfTeeth$LawReader", "next", "()I"⟩, 4), (⟨"SkinOfTeeth$LawReader", "readNumber", "()V"⟩, 4), (⟨"SkinOfTeeth$LawReader", "readOpened", "(II)Z"⟩, 4)]
theorem lw_r1 : ∀ q ∈ lw_privs_1, lw_okq q := List.forall_mem_cons.mpr ⟨lw_p0, List.forall_mem_cons.mpr ⟨lw_p1, List.forall_mem_cons.mpr ⟨lw_p2, List.forall_mem_cons.mpr ⟨lw_p3, List.forall_mem_cons.mpr ⟨lw_p4, List.forall_mem_cons.mpr ⟨lw_p5, List.forall_mem_cons.mpr ⟨lw_p6, List.forall_mem_cons.mpr ⟨lw_p7, List.forall_mem_cons.mpr ⟨lw_p8, List.forall_mem_cons.mpr ⟨lw_p9, List.forall_mem_cons.mpr ⟨lw_p10, List.forall_mem_cons.mpr ⟨lw_p11, List.forall_mem_cons.mpr ⟨lw_p12, List.forall_mem_cons.mpr ⟨lw_p13, List.forall_mem_cons.mpr ⟨lw_p14, List.forall_mem_cons.mpr ⟨lw_p15, fun _ h => absurd h List.not_mem_nil⟩⟩⟩⟩⟩⟩⟩⟩⟩⟩⟩⟩⟩⟩⟩⟩
theorem lw_p16 : lw_okq (⟨"SkinOfTeeth$Law", "workedOut", "()I"⟩, 6) := ⟨⟨by decide +kernel, by decide +kernel⟩, List.mem_of_getElem? (i := 161) (by decide +kernel), List.mem_of_getElem? (i := 517) (by decide +kernel), List.mem_of_getElem? (i := 518) (by decide +kernel)⟩
theorem lw_p17 : lw_okq (⟨"SkinOfTeeth$Law", "push", "(I)V"⟩, 6) := ⟨⟨by decide +kernel, by decide +kernel⟩, List.mem_of_getElem? (i := 161) (by decide +kernel), List.mem_of_getElem? (i := 521) (by decide +kernel), List.mem_of_getElem? (i := 522) (by decide +kernel)⟩
theorem lw_p18 : lw_okq (⟨"SkinOfTeeth$Law", "pop", "()I"⟩, 6) := ⟨⟨by decide +kernel, by decide +kernel⟩, List.mem_of_getElem? (i := 161) (by decide +kernel), List.mem_of_getElem? (i := 525) (by decide +kernel), List.mem_of_getElem? (i := 526) (by decide +kernel)⟩
theorem lw_p19 : lw_okq (⟨"SkinOfTeeth", "refusalOfBytes", "(I)I"⟩, 13) := ⟨⟨by decide +kernel, by decide +kernel⟩, List.mem_of_getElem? (i := 19) (by decide +kernel), List.mem_of_getElem? (i := 538) (by decide +kernel), List.mem_of_getElem? (i := 539) (by decide +kernel)⟩
theorem lw_p20 : lw_okq (⟨"SkinOfTeeth", "hear", "(I)V"⟩, 13) := ⟨⟨by decide +kernel, by decide +kernel⟩, List.mem_of_getElem? (i := 19) (by decide +kernel), List.mem_of_getElem? (i := 542) (by decide +kernel), List.mem_of_getElem? (i := 543) (by decide +kernel)⟩
theorem lw_p21 : lw_okq (⟨"SkinOfTeeth", "noTooth", "(I)Z"⟩, 13) := ⟨⟨by decide +kernel, by decide +kernel⟩, List.mem_of_getElem? (i := 19) (by decide +kernel), List.mem_of_getElem? (i := 583) (by decide +kernel), List.mem_of_getElem? (i := 584) (by decide +kernel)⟩
theorem lw_p22 : lw_okq (⟨"SkinOfTeeth", "cheapestWay", "(II)I"⟩, 13) := ⟨⟨by decide +kernel, by decide +kernel⟩, List.mem_of_getElem? (i := 19) (by decide +kernel), List.mem_of_getElem? (i := 620) (by decide +kernel), List.mem_of_getElem? (i := 621) (by decide +kernel)⟩
theorem lw_p23 : lw_okq (⟨"SkinOfTeeth", "isLesser", "(II)Z"⟩, 13) := ⟨⟨by decide +kernel, by decide +kernel⟩, List.mem_of_getElem? (i := 19) (by decide +kernel), List.mem_of_getElem? (i := 646) (by decide +kernel), List.mem_of_getElem? (i := 647) (by decide +kernel)⟩
theorem lw_p24 : lw_okq (⟨"SkinOfTeeth", "fewestTurned", "(II)I"⟩, 13) := ⟨⟨by decide +kernel, by decide +kernel⟩, List.mem_of_getElem? (i := 19) (by decide +kernel), List.mem_of_getElem? (i := 654) (by decide +kernel), List.mem_of_getElem? (i := 655) (by decide +kernel)⟩
theorem lw_p25 : lw_okq (⟨"SkinOfTeeth", "refusalOfMirror", "(I)I"⟩, 13) := ⟨⟨by decide +kernel, by decide +kernel⟩, List.mem_of_getElem? (i := 19) (by decide +kernel), List.mem_of_getElem? (i := 662) (by decide +kernel), List.mem_of_getElem? (i := 663) (by decide +kernel)⟩
theorem lw_p26 : lw_okq (⟨"SkinOfTeeth", "waysOfSo", "(LSkinOfTeeth$Shelf;III)I"⟩, 13) := ⟨⟨by decide +kernel, by decide +kernel⟩, List.mem_of_getElem? (i := 19) (by decide +kernel), List.mem_of_getElem? (i := 682) (by decide +kernel), List.mem_of_getElem? (i := 683) (by decide +kernel)⟩
theorem lw_p27 : lw_okq (⟨"SkinOfTeeth$Bodies", "run", "(IIIII)I"⟩, 4) := ⟨⟨by decide +kernel, by decide +kernel⟩, List.mem_of_getElem? (i := 130) (by decide +kernel), List.mem_of_getElem? (i := 759) (by decide +kernel), List.mem_of_getElem? (i := 760) (by decide +kernel)⟩
theorem lw_p28 : lw_okq (⟨"SkinOfTeeth$Bodies", "rootWork", "(IIII)I"⟩, 4) := ⟨⟨by decide +kernel, by decide +kernel⟩, List.mem_of_getElem? (i := 130) (by decide +kernel), List.mem_of_getElem? (i := 767) (by decide +kernel), List.mem_of_getElem? (i := 768) (by decide +kernel)⟩
theorem lw_p29 : lw_okq (⟨"SkinOfTeeth$Bodies", "work", "(IIIII)I"⟩, 4) := ⟨⟨by decide +kernel, by decide +kernel⟩, List.mem_of_getElem? (i := 130) (by decide +kernel), List.mem_of_getElem? (i := 771) (by decide +kernel), List.mem_of_getElem? (i := 772) (by decide +kernel)⟩
theorem lw_p30 : lw_okq (⟨"SkinOfTeeth", "refusalOfPlace", "(II)I"⟩, 13) := ⟨⟨by decide +kernel, by decide +kernel⟩, List.mem_of_getElem? (i := 19) (by decide +kernel), List.mem_of_getElem? (i := 800) (by decide +kernel), List.mem_of_getElem? (i := 801) (by decide +kernel)⟩
theorem lw_p31 : lw_okq (⟨"SkinOfTeethModel", "isMouth", "(II)Z"⟩, 53) := ⟨⟨by decide +kernel, by decide +kernel⟩, List.mem_of_getElem? (i := 836) (by decide +kernel), List.mem_of_getElem? (i := 1017) (by decide +kernel), List.mem_of_getElem? (i := 1018) (by decide +kernel)⟩
def lw_privs_2 : List (MethodName × Nat) := [(⟨"SkinOfTeeth$Law", "workedOut", "()I"⟩, 6), (⟨"SkinOfTeeth$Law", "push", "(I)V"⟩, 6), (⟨"SkinOfTeeth$Law", "pop", "()I"⟩, 6), (⟨"SkinOfTeeth", "refusalOfBytes", "(I)I"⟩, 13), (⟨"SkinOfTeeth", "hear", "(I)V"⟩, 13), (⟨"SkinOfTeeth", "noTooth", "(I)Z"⟩, 13), (⟨"SkinOfTeeth", "cheapestWay", "(II)I"⟩, 13), (⟨"SkinOfTeeth", "isLesser", "(II)Z"⟩, 13), (⟨"SkinOfTeeth", "fewestTurned", "(II)I"⟩, 13), (⟨"SkinOfTeeth", "refusalOfMirror", "(I)I"⟩, 13), (⟨"SkinOfTeeth", "waysOfSo", "(LSkinOfTeeth$Shelf;III)I"⟩, 13), (⟨"SkinOfTeeth$Bodies", "run", "(IIIII)I"⟩, 4), (⟨"SkinOfTeeth$Bodies", "rootWork", "(IIII)I"⟩, 4), (⟨"SkinOfTeeth$Bodies", "work", "(IIIII)I"⟩, 4), (⟨"SkinOfTeeth", "refusalOfPlace", "(II)I"⟩, 13), (⟨"SkinOfTeethModel", "isMouth", "(II)Z"⟩, 53)]
theorem lw_r2 : ∀ q ∈ lw_privs_2, lw_okq q := List.forall_mem_cons.mpr ⟨lw_p16, List.forall_mem_cons.mpr ⟨lw_p17, List.forall_mem_cons.mpr ⟨lw_p18, List.forall_mem_cons.mpr ⟨lw_p19, List.forall_mem_cons.mpr ⟨lw_p20, List.forall_mem_cons.mpr ⟨lw_p21, List.forall_mem_cons.mpr ⟨lw_p22, List.forall_mem_cons.mpr ⟨lw_p23, List.forall_mem_cons.mpr ⟨lw_p24, List.forall_mem_cons.mpr ⟨lw_p25, List.forall_mem_cons.mpr ⟨lw_p26, List.forall_mem_cons.mpr ⟨lw_p27, List.forall_mem_cons.mpr ⟨lw_p28, List.forall_mem_cons.mpr ⟨lw_p29, List.forall_mem_cons.mpr ⟨lw_p30, List.forall_mem_cons.mpr ⟨lw_p31, fun _ h => absurd h List.not_mem_nil⟩⟩⟩⟩⟩⟩⟩⟩⟩⟩⟩⟩⟩⟩⟩⟩
theorem lw_p32 : lw_okq (⟨"SkinOfTeethModel", "lays", "(III)V"⟩, 53) := ⟨⟨by decide +kernel, by decide +kernel⟩, List.mem_of_getElem? (i := 836) (by decide +kernel), List.mem_of_getElem? (i := 1025) (by decide +kernel), List.mem_of_getElem? (i := 1026) (by decide +kernel)⟩
theorem lw_p33 : lw_okq (⟨"SkinOfTeethModel", "isOne", "(II)Z"⟩, 53) := ⟨⟨by decide +kernel, by decide +kernel⟩, List.mem_of_getElem? (i := 836) (by decide +kernel), List.mem_of_getElem? (i := 1037) (by decide +kernel), List.mem_of_getElem? (i := 1038) (by decide +kernel)⟩
theorem lw_p34 : lw_okq (⟨"SkinOfTeethModel", "isPerson", "(I)Z"⟩, 53) := ⟨⟨by decide +kernel, by decide +kernel⟩, List.mem_of_getElem? (i := 836) (by decide +kernel), List.mem_of_getElem? (i := 1041) (by decide +kernel), List.mem_of_getElem? (i := 1042) (by decide +kernel)⟩
theorem lw_p35 : lw_okq (⟨"SkinOfTeethModel", "changes", "(III)I"⟩, 53) := ⟨⟨by decide +kernel, by decide +kernel⟩, List.mem_of_getElem? (i := 836) (by decide +kernel), List.mem_of_getElem? (i := 1051) (by decide +kernel), List.mem_of_getElem? (i := 1052) (by decide +kernel)⟩
theorem lw_p36 : lw_okq (⟨"SkinOfTeethModel", "valueAt", "(II)I"⟩, 53) := ⟨⟨by decide +kernel, by decide +kernel⟩, List.mem_of_getElem? (i := 836) (by decide +kernel), List.mem_of_getElem? (i := 1055) (by decide +kernel), List.mem_of_getElem? (i := 1056) (by decide +kernel)⟩
theorem lw_p37 : lw_okq (⟨"SkinOfTeethModel", "beginMouths", "()V"⟩, 53) := ⟨⟨by decide +kernel, by decide +kernel⟩, List.mem_of_getElem? (i := 836) (by decide +kernel), List.mem_of_getElem? (i := 1063) (by decide +kernel), List.mem_of_getElem? (i := 1064) (by decide +kernel)⟩
theorem lw_p38 : lw_okq (⟨"SkinOfTeethModel", "worthOf", "(I)I"⟩, 53) := ⟨⟨by decide +kernel, by decide +kernel⟩, List.mem_of_getElem? (i := 836) (by decide +kernel), List.mem_of_getElem? (i := 1067) (by decide +kernel), List.mem_of_getElem? (i := 1068) (by decide +kernel)⟩
theorem lw_p39 : lw_okq (⟨"SkinOfTeethModel", "flakesOf", "(I)I"⟩, 53) := ⟨⟨by decide +kernel, by decide +kernel⟩, List.mem_of_getElem? (i := 836) (by decide +kernel), List.mem_of_getElem? (i := 1071) (by decide +kernel), List.mem_of_getElem? (i := 1072) (by decide +kernel)⟩
theorem lw_p40 : lw_okq (⟨"SkinOfTeethModel", "readText", "(I)I"⟩, 53) := ⟨⟨by decide +kernel, by decide +kernel⟩, List.mem_of_getElem? (i := 836) (by decide +kernel), List.mem_of_getElem? (i := 1086) (by decide +kernel), List.mem_of_getElem? (i := 1087) (by decide +kernel)⟩
theorem lw_p41 : lw_okq (⟨"SkinOfTeethModel", "line", "()V"⟩, 53) := ⟨⟨by decide +kernel, by decide +kernel⟩, List.mem_of_getElem? (i := 836) (by decide +kernel), List.mem_of_getElem? (i := 1090) (by decide +kernel), List.mem_of_getElem? (i := 1091) (by decide +kernel)⟩
theorem lw_p42 : lw_okq (⟨"SkinOfTeethModel", "either", "()V"⟩, 53) := ⟨⟨by decide +kernel, by decide +kernel⟩, List.mem_of_getElem? (i := 836) (by decide +kernel), List.mem_of_getElem? (i := 1094) (by decide +kernel), List.mem_of_getElem? (i := 1095) (by decide +kernel)⟩
theorem lw_p43 : lw_okq (⟨"SkinOfTeethModel", "both", "()V"⟩, 53) := ⟨⟨by decide +kernel, by decide +kernel⟩, List.mem_of_getElem? (i := 836) (by decide +kernel), List.mem_of_getElem? (i := 1098) (by decide +kernel), List.mem_of_getElem? (i := 1099) (by decide +kernel)⟩
theorem lw_p44 : lw_okq (⟨"SkinOfTeethModel", "compared", "()V"⟩, 53) := ⟨⟨by decide +kernel, by decide +kernel⟩, List.mem_of_getElem? (i := 836) (by decide +kernel), List.mem_of_getElem? (i := 1102) (by decide +kernel), List.mem_of_getElem? (i := 1103) (by decide +kernel)⟩
theorem lw_p45 : lw_okq (⟨"SkinOfTeethModel", "sum", "()V"⟩, 53) := ⟨⟨by decide +kernel, by decide +kernel⟩, List.mem_of_getElem? (i := 836) (by decide +kernel), List.mem_of_getElem? (i := 1106) (by decide +kernel), List.mem_of_getElem? (i := 1107) (by decide +kernel)⟩
theorem lw_p46 : lw_okq (⟨"SkinOfTeethModel", "product", "()V"⟩, 53) := ⟨⟨by decide +kernel, by decide +kernel⟩, List.mem_of_getElem? (i := 836) (by decide +kernel), List.mem_of_getElem? (i := 1110) (by decide +kernel), List.mem_of_getElem? (i := 1111) (by decide +kernel)⟩
theorem lw_p47 : lw_okq (⟨"SkinOfTeethModel", "operand", "()V"⟩, 53) := ⟨⟨by decide +kernel, by decide +kernel⟩, List.mem_of_getElem? (i := 836) (by decide +kernel), List.mem_of_getElem? (i := 1114) (by decide +kernel), List.mem_of_getElem? (i := 1115) (by decide +kernel)⟩
def lw_privs_3 : List (MethodName × Nat) := [(⟨"SkinOfTeethModel", "lays", "(III)V"⟩, 53), (⟨"SkinOfTeethModel", "isOne", "(II)Z"⟩, 53), (⟨"SkinOfTeethModel", "isPerson", "(I)Z"⟩, 53), (⟨"SkinOfTeethModel", "changes", "(III)I"⟩, 53), (⟨"SkinOfTeethModel", "valueAt", "(II)I"⟩, 53), (⟨"SkinOfTeethModel", "beginMouths", "()V"⟩, 53), (⟨"SkinOfTeethModel", "worthOf", "(I)I"⟩, 53), (⟨"SkinOfTeethModel", "flakesOf", "(I)I"⟩, 53), (⟨"SkinOfTeethModel", "readText", "(I)I"⟩, 53), (⟨"SkinOfTeethModel", "line", "()V"⟩, 53), (⟨"SkinOfTeethModel", "either", "()V"⟩, 53), (⟨"SkinOfTeethModel", "both", "()V"⟩, 53), (⟨"SkinOfTeethModel", "compared", "()V"⟩, 53), (⟨"SkinOfTeethModel", "sum", "()V"⟩, 53), (⟨"SkinOfTeethModel", "product", "()V"⟩, 53), (⟨"SkinOfTeethModel", "operand", "()V"⟩, 53)]
theorem lw_r3 : ∀ q ∈ lw_privs_3, lw_okq q := List.forall_mem_cons.mpr ⟨lw_p32, List.forall_mem_cons.mpr ⟨lw_p33, List.forall_mem_cons.mpr ⟨lw_p34, List.forall_mem_cons.mpr ⟨lw_p35, List.forall_mem_cons.mpr ⟨lw_p36, List.forall_mem_cons.mpr ⟨lw_p37, List.forall_mem_cons.mpr ⟨lw_p38, List.forall_mem_cons.mpr ⟨lw_p39, List.forall_mem_cons.mpr ⟨lw_p40, List.forall_mem_cons.mpr ⟨lw_p41, List.forall_mem_cons.mpr ⟨lw_p42, List.forall_mem_cons.mpr ⟨lw_p43, List.forall_mem_cons.mpr ⟨lw_p44, List.forall_mem_cons.mpr ⟨lw_p45, List.forall_mem_cons.mpr ⟨lw_p46, List.forall_mem_cons.mpr ⟨lw_p47, fun _ h => absurd h List.not_mem_nil⟩⟩⟩⟩⟩⟩⟩⟩⟩⟩⟩⟩⟩⟩⟩⟩
theorem lw_p48 : lw_okq (⟨"SkinOfTeethModel", "look", "()I"⟩, 53) := ⟨⟨by decide +kernel, by decide +kernel⟩, List.mem_of_getElem? (i := 836) (by decide +kernel), List.mem_of_getElem? (i := 1118) (by decide +kernel), List.mem_of_getElem? (i := 1119) (by decide +kernel)⟩
theorem lw_p49 : lw_okq (⟨"SkinOfTeethModel", "addStep", "(II)V"⟩, 53) := ⟨⟨by decide +kernel, by decide +kernel⟩, List.mem_of_getElem? (i := 836) (by decide +kernel), List.mem_of_getElem? (i := 1125) (by decide +kernel), List.mem_of_getElem? (i := 1126) (by decide +kernel)⟩
theorem lw_p50 : lw_okq (⟨"SkinOfTeethModel", "opens", "()Z"⟩, 53) := ⟨⟨by decide +kernel, by decide +kernel⟩, List.mem_of_getElem? (i := 836) (by decide +kernel), List.mem_of_getElem? (i := 1129) (by decide +kernel), List.mem_of_getElem? (i := 1130) (by decide +kernel)⟩
theorem lw_p51 : lw_okq (⟨"SkinOfTeethModel", "wrong", "()V"⟩, 53) := ⟨⟨by decide +kernel, by decide +kernel⟩, List.mem_of_getElem? (i := 836) (by decide +kernel), List.mem_of_getElem? (i := 1133) (by decide +kernel), List.mem_of_getElem? (i := 1134) (by decide +kernel)⟩
theorem lw_p52 : lw_okq (⟨"SkinOfTeethModel", "figure", "()V"⟩, 53) := ⟨⟨by decide +kernel, by decide +kernel⟩, List.mem_of_getElem? (i := 836) (by decide +kernel), List.mem_of_getElem? (i := 1137) (by decide +kernel), List.mem_of_getElem? (i := 1138) (by decide +kernel)⟩
theorem lw_p53 : lw_okq (⟨"SkinOfTeethModel", "takesBy", "(III)I"⟩, 53) := ⟨⟨by decide +kernel, by decide +kernel⟩, List.mem_of_getElem? (i := 836) (by decide +kernel), List.mem_of_getElem? (i := 1145) (by decide +kernel), List.mem_of_getElem? (i := 1146) (by decide +kernel)⟩
theorem lw_p54 : lw_okq (⟨"SkinOfTeethModel", "gives", "(I)I"⟩, 53) := ⟨⟨by decide +kernel, by decide +kernel⟩, List.mem_of_getElem? (i := 836) (by decide +kernel), List.mem_of_getElem? (i := 1149) (by decide +kernel), List.mem_of_getElem? (i := 1150) (by decide +kernel)⟩
theorem lw_p55 : lw_okq (⟨"SkinOfTeethModel", "worked", "(III)I"⟩, 53) := ⟨⟨by decide +kernel, by decide +kernel⟩, List.mem_of_getElem? (i := 836) (by decide +kernel), List.mem_of_getElem? (i := 1153) (by decide +kernel), List.mem_of_getElem? (i := 1154) (by decide +kernel)⟩
theorem lw_p56 : lw_okq (⟨"SkinOfTeethModel", "layOr", "(I)I"⟩, 53) := ⟨⟨by decide +kernel, by decide +kernel⟩, List.mem_of_getElem? (i := 836) (by decide +kernel), List.mem_of_getElem? (i := 1164) (by decide +kernel), List.mem_of_getElem? (i := 1165) (by decide +kernel)⟩
theorem lw_p57 : lw_okq (⟨"SkinOfTeethModel", "rowFault", "(I)I"⟩, 53) := ⟨⟨by decide +kernel, by decide +kernel⟩, List.mem_of_getElem? (i := 836) (by decide +kernel), List.mem_of_getElem? (i := 1168) (by decide +kernel), List.mem_of_getElem? (i := 1169) (by decide +kernel)⟩
theorem lw_p58 : lw_okq (⟨"SkinOfTeethModel", "layTrial", "(I)V"⟩, 53) := ⟨⟨by decide +kernel, by decide +kernel⟩, List.mem_of_getElem? (i := 836) (by decide +kernel), List.mem_of_getElem? (i := 1172) (by decide +kernel), List.mem_of_getElem? (i := 1173) (by decide +kernel)⟩
theorem lw_p59 : lw_okq (⟨"SkinOfTeethModel", "seenAt", "(II)I"⟩, 53) := ⟨⟨by decide +kernel, by decide +kernel⟩, List.mem_of_getElem? (i := 836) (by decide +kernel), List.mem_of_getElem? (i := 1176) (by decide +kernel), List.mem_of_getElem? (i := 1177) (by decide +kernel)⟩
theorem lw_p60 : lw_okq (⟨"SkinOfTeethModel", "goTrial", "(I)V"⟩, 53) := ⟨⟨by decide +kernel, by decide +kernel⟩, List.mem_of_getElem? (i := 836) (by decide +kernel), List.mem_of_getElem? (i := 1180) (by decide +kernel), List.mem_of_getElem? (i := 1181) (by decide +kernel)⟩
theorem lw_p61 : lw_okq (⟨"SkinOfTeethModel", "sayOf", "(IIII)I"⟩, 53) := ⟨⟨by decide +kernel, by decide +kernel⟩, List.mem_of_getElem? (i := 836) (by decide +kernel), List.mem_of_getElem? (i := 1184) (by decide +kernel), List.mem_of_getElem? (i := 1185) (by decide +kernel)⟩
theorem lw_p62 : lw_okq (⟨"SkinOfTeethModel", "lieOf", "(III)I"⟩, 53) := ⟨⟨by decide +kernel, by decide +kernel⟩, List.mem_of_getElem? (i := 836) (by decide +kernel), List.mem_of_getElem? (i := 1188) (by decide +kernel), List.mem_of_getElem? (i := 1189) (by decide +kernel)⟩
theorem lw_p63 : lw_okq (⟨"SkinOfTeethModel", "isGone", "(I)Z"⟩, 53) := ⟨⟨by decide +kernel, by decide +kernel⟩, List.mem_of_getElem? (i := 836) (by decide +kernel), List.mem_of_getElem? (i := 1192) (by decide +kernel), List.mem_of_getElem? (i := 1193) (by decide +kernel)⟩
def lw_privs_4 : List (MethodName × Nat) := [(⟨"SkinOfTeethModel", "look", "()I"⟩, 53), (⟨"SkinOfTeethModel", "addStep", "(II)V"⟩, 53), (⟨"SkinOfTeethModel", "opens", "()Z"⟩, 53), (⟨"SkinOfTeethModel", "wrong", "()V"⟩, 53), (⟨"SkinOfTeethModel", "figure", "()V"⟩, 53), (⟨"SkinOfTeethModel", "takesBy", "(III)I"⟩, 53), (⟨"SkinOfTeethModel", "gives", "(I)I"⟩, 53), (⟨"SkinOfTeethModel", "worked", "(III)I"⟩, 53), (⟨"SkinOfTeethModel", "layOr", "(I)I"⟩, 53), (⟨"SkinOfTeethModel", "rowFault", "(I)I"⟩, 53), (⟨"SkinOfTeethModel", "layTrial", "(I)V"⟩, 53), (⟨"SkinOfTeethModel", "seenAt", "(II)I"⟩, 53), (⟨"SkinOfTeethModel", "goTrial", "(I)V"⟩, 53), (⟨"SkinOfTeethModel", "sayOf", "(IIII)I"⟩, 53), (⟨"SkinOfTeethModel", "lieOf", "(III)I"⟩, 53), (⟨"SkinOfTeethModel", "isGone", "(I)Z"⟩, 53)]
theorem lw_r4 : ∀ q ∈ lw_privs_4, lw_okq q := List.forall_mem_cons.mpr ⟨lw_p48, List.forall_mem_cons.mpr ⟨lw_p49, List.forall_mem_cons.mpr ⟨lw_p50, List.forall_mem_cons.mpr ⟨lw_p51, List.forall_mem_cons.mpr ⟨lw_p52, List.forall_mem_cons.mpr ⟨lw_p53, List.forall_mem_cons.mpr ⟨lw_p54, List.forall_mem_cons.mpr ⟨lw_p55, List.forall_mem_cons.mpr ⟨lw_p56, List.forall_mem_cons.mpr ⟨lw_p57, List.forall_mem_cons.mpr ⟨lw_p58, List.forall_mem_cons.mpr ⟨lw_p59, List.forall_mem_cons.mpr ⟨lw_p60, List.forall_mem_cons.mpr ⟨lw_p61, List.forall_mem_cons.mpr ⟨lw_p62, List.forall_mem_cons.mpr ⟨lw_p63, fun _ h => absurd h List.not_mem_nil⟩⟩⟩⟩⟩⟩⟩⟩⟩⟩⟩⟩⟩⟩⟩⟩
theorem lw_p64 : lw_okq (⟨"SkinOfTeethModel", "believedNow", "(I)I"⟩, 53) := ⟨⟨by decide +kernel, by decide +kernel⟩, List.mem_of_getElem? (i := 836) (by decide +kernel), List.mem_of_getElem? (i := 1208) (by decide +kernel), List.mem_of_getElem? (i := 1209) (by decide +kernel)⟩
theorem lw_p65 : lw_okq (⟨"SkinOfTeethModel", "toldBy", "(I)I"⟩, 53) := ⟨⟨by decide +kernel, by decide +kernel⟩, List.mem_of_getElem? (i := 836) (by decide +kernel), List.mem_of_getElem? (i := 1216) (by decide +kernel), List.mem_of_getElem? (i := 1217) (by decide +kernel)⟩
theorem lw_p66 : lw_okq (⟨"SkinOfTeethModel", "honest", "()I"⟩, 53) := ⟨⟨by decide +kernel, by decide +kernel⟩, List.mem_of_getElem? (i := 836) (by decide +kernel), List.mem_of_getElem? (i := 1220) (by decide +kernel), List.mem_of_getElem? (i := 1221) (by decide +kernel)⟩
theorem lw_p67 : lw_okq (⟨"SkinOfTeethModel", "isSpoken", "(I)Z"⟩, 53) := ⟨⟨by decide +kernel, by decide +kernel⟩, List.mem_of_getElem? (i := 836) (by decide +kernel), List.mem_of_getElem? (i := 1224) (by decide +kernel), List.mem_of_getElem? (i := 1225) (by decide +kernel)⟩
theorem lw_p68 : lw_okq (⟨"SkinOfTeethModel", "isLesser", "(II)Z"⟩, 53) := ⟨⟨by decide +kernel, by decide +kernel⟩, List.mem_of_getElem? (i := 836) (by decide +kernel), List.mem_of_getElem? (i := 1247) (by decide +kernel), List.mem_of_getElem? (i := 1248) (by decide +kernel)⟩
theorem lw_p69 : lw_okq (⟨"SkinOfTeethModel", "isMirror", "(I)Z"⟩, 53) := ⟨⟨by decide +kernel, by decide +kernel⟩, List.mem_of_getElem? (i := 836) (by decide +kernel), List.mem_of_getElem? (i := 1259) (by decide +kernel), List.mem_of_getElem? (i := 1260) (by decide +kernel)⟩
theorem lw_p70 : lw_okq (⟨"SkinOfTeethModel", "isSeen", "(II)Z"⟩, 53) := ⟨⟨by decide +kernel, by decide +kernel⟩, List.mem_of_getElem? (i := 836) (by decide +kernel), List.mem_of_getElem? (i := 1263) (by decide +kernel), List.mem_of_getElem? (i := 1264) (by decide +kernel)⟩
theorem lw_p71 : lw_okq (⟨"SkinOfTeethModel", "isBody", "(I)Z"⟩, 53) := ⟨⟨by decide +kernel, by decide +kernel⟩, List.mem_of_getElem? (i := 836) (by decide +kernel), List.mem_of_getElem? (i := 1324) (by decide +kernel), List.mem_of_getElem? (i := 1325) (by decide +kernel)⟩
theorem lw_p72 : lw_okq (⟨"SkinOfTeethModel", "biting", "(II)I"⟩, 53) := ⟨⟨by decide +kernel, by decide +kernel⟩, List.mem_of_getElem? (i := 836) (by decide +kernel), List.mem_of_getElem? (i := 1328) (by decide +kernel), List.mem_of_getElem? (i := 1329) (by decide +kernel)⟩
theorem lw_p73 : lw_okq (⟨"SkinOfTeethModel", "ran", "(I)V"⟩, 53) := ⟨⟨by decide +kernel, by decide +kernel⟩, List.mem_of_getElem? (i := 836) (by decide +kernel), List.mem_of_getElem? (i := 1335) (by decide +kernel), List.mem_of_getElem? (i := 1336) (by decide +kernel)⟩
theorem lw_p74 : lw_okq (⟨"SkinOfTeethModel", "plainBites", "(II)I"⟩, 53) := ⟨⟨by decide +kernel, by decide +kernel⟩, List.mem_of_getElem? (i := 836) (by decide +kernel), List.mem_of_getElem? (i := 1339) (by decide +kernel), List.mem_of_getElem? (i := 1340) (by decide +kernel)⟩
theorem lw_p75 : lw_okq (⟨"SkinOfTeethModel", "mirrorBites", "(II)I"⟩, 53) := ⟨⟨by decide +kernel, by decide +kernel⟩, List.mem_of_getElem? (i := 836) (by decide +kernel), List.mem_of_getElem? (i := 1343) (by decide +kernel), List.mem_of_getElem? (i := 1344) (by decide +kernel)⟩
theorem lw_p76 : lw_okq (⟨"SkinOfTeethModel", "lying", "(II)I"⟩, 53) := ⟨⟨by decide +kernel, by decide +kernel⟩, List.mem_of_getElem? (i := 836) (by decide +kernel), List.mem_of_getElem? (i := 1347) (by decide +kernel), List.mem_of_getElem? (i := 1348) (by decide +kernel)⟩
theorem lw_p77 : lw_okq (⟨"SkinOfTeethModel", "stumpLies", "(II)I"⟩, 53) := ⟨⟨by decide +kernel, by decide +kernel⟩, List.mem_of_getElem? (i := 836) (by decide +kernel), List.mem_of_getElem? (i := 1351) (by decide +kernel), List.mem_of_getElem? (i := 1352) (by decide +kernel)⟩
theorem lw_p78 : lw_okq (⟨"SkinOfTeethModel", "plainLies", "(II)I"⟩, 53) := ⟨⟨by decide +kernel, by decide +kernel⟩, List.mem_of_getElem? (i := 836) (by decide +kernel), List.mem_of_getElem? (i := 1355) (by decide +kernel), List.mem_of_getElem? (i := 1356) (by decide +kernel)⟩
theorem lw_p79 : lw_okq (⟨"SkinOfTeethModel", "grinning", "(II)I"⟩, 53) := ⟨⟨by decide +kernel, by decide +kernel⟩, List.mem_of_getElem? (i := 836) (by decide +kernel), List.mem_of_getElem? (i := 1359) (by decide +kernel), List.mem_of_getElem? (i := 1360) (by decide +kernel)⟩
def lw_privs_5 : List (MethodName × Nat) := [(⟨"SkinOfTeethModel", "believedNow", "(I)I"⟩, 53), (⟨"SkinOfTeethModel", "toldBy", "(I)I"⟩, 53), (⟨"SkinOfTeethModel", "honest", "()I"⟩, 53), (⟨"SkinOfTeethModel", "isSpoken", "(I)Z"⟩, 53), (⟨"SkinOfTeethModel", "isLesser", "(II)Z"⟩, 53), (⟨"SkinOfTeethModel", "isMirror", "(I)Z"⟩, 53), (⟨"SkinOfTeethModel", "isSeen", "(II)Z"⟩, 53), (⟨"SkinOfTeethModel", "isBody", "(I)Z"⟩, 53), (⟨"SkinOfTeethModel", "biting", "(II)I"⟩, 53), (⟨"SkinOfTeethModel", "ran", "(I)V"⟩, 53), (⟨"SkinOfTeethModel", "plainBites", "(II)I"⟩, 53), (⟨"SkinOfTeethModel", "mirrorBites", "(II)I"⟩, 53), (⟨"SkinOfTeethModel", "lying", "(II)I"⟩, 53), (⟨"SkinOfTeethModel", "stumpLies", "(II)I"⟩, 53), (⟨"SkinOfTeethModel", "plainLies", "(II)I"⟩, 53), (⟨"SkinOfTeethModel", "grinning", "(II)I"⟩, 53)]
theorem lw_r5 : ∀ q ∈ lw_privs_5, lw_okq q := List.forall_mem_cons.mpr ⟨lw_p64, List.forall_mem_cons.mpr ⟨lw_p65, List.forall_mem_cons.mpr ⟨lw_p66, List.forall_mem_cons.mpr ⟨lw_p67, List.forall_mem_cons.mpr ⟨lw_p68, List.forall_mem_cons.mpr ⟨lw_p69, List.forall_mem_cons.mpr ⟨lw_p70, List.forall_mem_cons.mpr ⟨lw_p71, List.forall_mem_cons.mpr ⟨lw_p72, List.forall_mem_cons.mpr ⟨lw_p73, List.forall_mem_cons.mpr ⟨lw_p74, List.forall_mem_cons.mpr ⟨lw_p75, List.forall_mem_cons.mpr ⟨lw_p76, List.forall_mem_cons.mpr ⟨lw_p77, List.forall_mem_cons.mpr ⟨lw_p78, List.forall_mem_cons.mpr ⟨lw_p79, fun _ h => absurd h List.not_mem_nil⟩⟩⟩⟩⟩⟩⟩⟩⟩⟩⟩⟩⟩⟩⟩⟩
theorem lw_p80 : lw_okq (⟨"SkinOfTeethModel", "capGrins", "(II)I"⟩, 53) := ⟨⟨by decide +kernel, by decide +kernel⟩, List.mem_of_getElem? (i := 836) (by decide +kernel), List.mem_of_getElem? (i := 1363) (by decide +kernel), List.mem_of_getElem? (i := 1364) (by decide +kernel)⟩
theorem lw_p81 : lw_okq (⟨"SkinOfTeethModel", "plainGrins", "(II)I"⟩, 53) := ⟨⟨by decide +kernel, by decide +kernel⟩, List.mem_of_getElem? (i := 836) (by decide +kernel), List.mem_of_getElem? (i := 1367) (by decide +kernel), List.mem_of_getElem? (i := 1368) (by decide +kernel)⟩
theorem lw_p82 : lw_okq (⟨"SkinOfTeethModel", "telling", "(II)I"⟩, 53) := ⟨⟨by decide +kernel, by decide +kernel⟩, List.mem_of_getElem? (i := 836) (by decide +kernel), List.mem_of_getElem? (i := 1371) (by decide +kernel), List.mem_of_getElem? (i := 1372) (by decide +kernel)⟩
theorem lw_p83 : lw_okq (⟨"SkinOfTeethModel", "plainTells", "(II)I"⟩, 53) := ⟨⟨by decide +kernel, by decide +kernel⟩, List.mem_of_getElem? (i := 836) (by decide +kernel), List.mem_of_getElem? (i := 1375) (by decide +kernel), List.mem_of_getElem? (i := 1376) (by decide +kernel)⟩
theorem lw_p84 : lw_okq (⟨"SkinOfTeethModel", "whyNoPlace", "(II)I"⟩, 53) := ⟨⟨by decide +kernel, by decide +kernel⟩, List.mem_of_getElem? (i := 836) (by decide +kernel), List.mem_of_getElem? (i := 1395) (by decide +kernel), List.mem_of_getElem? (i := 1396) (by decide +kernel)⟩
def lw_privs_6 : List (MethodName × Nat) := [(⟨"SkinOfTeethModel", "capGrins", "(II)I"⟩, 53), (⟨"SkinOfTeethModel", "plainGrins", "(II)I"⟩, 53), (⟨"SkinOfTeethModel", "telling", "(II)I"⟩, 53), (⟨"SkinOfTeethModel", "plainTells", "(II)I"⟩, 53), (⟨"SkinOfTeethModel", "whyNoPlace", "(II)I"⟩, 53)]
theorem lw_r6 : ∀ q ∈ lw_privs_6, lw_okq q := List.forall_mem_cons.mpr ⟨lw_p80, List.forall_mem_cons.mpr ⟨lw_p81, List.forall_mem_cons.mpr ⟨lw_p82, List.forall_mem_cons.mpr ⟨lw_p83, List.forall_mem_cons.mpr ⟨lw_p84, fun _ h => absurd h List.not_mem_nil⟩⟩⟩⟩⟩
def lw_privs : List (MethodName × Nat) := lw_privs_1 ++ (lw_privs_2 ++ (lw_privs_3 ++ (lw_privs_4 ++ (lw_privs_5 ++ (lw_privs_6)))))
def lw_tbl : List Cond := k2_sels lw_privs ++ tables_1
theorem lw_privs_ok : ∀ q ∈ lw_privs, lw_okq q := by
  show ∀ q ∈ lw_privs_1 ++ (lw_privs_2 ++ (lw_privs_3 ++ (lw_privs_4 ++ (lw_privs_5 ++ (lw_privs_6))))), lw_okq q
  exact List.forall_mem_append.mpr ⟨lw_r1, List.forall_mem_append.mpr ⟨lw_r2, List.forall_mem_append.mpr ⟨lw_r3, List.forall_mem_append.mpr ⟨lw_r4, List.forall_mem_append.mpr ⟨lw_r5, lw_r6⟩⟩⟩⟩⟩
-- ===== end of PART A; then your names; then what follows =====
end
section
def RX0 : String := "SkinOfTeeth$Bodies"
def TX0 : u_T := fun k => match k with
  | 0 => ("SkinOfTeeth$Bodies", "born", "I", false)
  | 1 => ("SkinOfTeeth$Bodies", "kinds", "[I", true)
  | 2 => ("SkinOfTeeth$Bodies", "ran", "I", false)
  | _ => ("SkinOfTeeth$Bodies", "traced", "[I", true)
def tyX0 : Nat → FieldType := fun k => match k with
  | 0 => .int
  | 1 => .array .int
  | 2 => .int
  | _ => .array .int
abbrev wsX00 : List Cond := u_ws RX0 TX0 4
theorem nmX0 : ∀ a, a < 4 → ∀ b, b < 4 → a ≠ b → (TX0 a).2.1 ≠ (TX0 b).2.1 := by decide +kernel
theorem tyX0_ok : ∀ k, k < 4 → parseFieldDescriptor (TX0 k).2.2.1 = some (tyX0 k) := by decide +kernel
abbrev cX0_init : ByteArray := prog_2_method_1_code
def yX0_init : MethodName := ⟨RX0, "<init>", "()V"⟩
abbrev cX0_bear : ByteArray := prog_2_method_2_code
def yX0_bear : MethodName := ⟨RX0, "bear", "(I)I"⟩
abbrev cX0_isUnder : ByteArray := prog_2_method_3_code
def yX0_isUnder : MethodName := ⟨RX0, "isUnder", "(II)Z"⟩
abbrev cX0_tracedBodies : ByteArray := prog_2_method_4_code
def yX0_tracedBodies : MethodName := ⟨RX0, "tracedBodies", "()I"⟩
abbrev cX0_perform : ByteArray := prog_2_method_5_code
def yX0_perform : MethodName := ⟨RX0, "perform", "(III)I"⟩
abbrev cX0_run : ByteArray := prog_2_method_6_code
def yX0_run : MethodName := ⟨RX0, "run", "(IIIII)I"⟩
abbrev cX0_rootWork : ByteArray := prog_2_method_7_code
def yX0_rootWork : MethodName := ⟨RX0, "rootWork", "(IIII)I"⟩
abbrev cX0_work : ByteArray := prog_2_method_8_code
def yX0_work : MethodName := ⟨RX0, "work", "(IIIII)I"⟩
def RX1 : String := "SkinOfTeeth$Changes"
def TX1 : u_T := fun k => match k with
  | 0 => ("SkinOfTeeth$Changes", "done", "I", false)
  | 1 => ("SkinOfTeeth$Changes", "known", "I", false)
  | 2 => ("SkinOfTeeth$Changes", "numbers", "[I", true)
  | 3 => ("SkinOfTeeth$Changes", "whats", "[I", true)
  | 4 => ("SkinOfTeeth$Changes", "before", "[I", true)
  | _ => ("SkinOfTeeth$Changes", "after", "[I", true)
def tyX1 : Nat → FieldType := fun k => match k with
  | 0 => .int
  | 1 => .int
  | 2 => .array .int
  | 3 => .array .int
  | 4 => .array .int
  | _ => .array .int
abbrev wsX10 : List Cond := u_ws RX1 TX1 6
theorem nmX1 : ∀ a, a < 6 → ∀ b, b < 6 → a ≠ b → (TX1 a).2.1 ≠ (TX1 b).2.1 := by decide +kernel
theorem tyX1_ok : ∀ k, k < 6 → parseFieldDescriptor (TX1 k).2.2.1 = some (tyX1 k) := by decide +kernel
abbrev cX1_init : ByteArray := prog_3_method_1_code
def yX1_init : MethodName := ⟨RX1, "<init>", "()V"⟩
abbrev cX1_note : ByteArray := prog_3_method_2_code
def yX1_note : MethodName := ⟨RX1, "note", "(IIII)V"⟩
abbrev cX1_dropOldest : ByteArray := prog_3_method_3_code
def yX1_dropOldest : MethodName := ⟨RX1, "dropOldest", "()V"⟩
def RX2 : String := "SkinOfTeeth$Hearing"
def TX2 : u_T := fun k => match k with
  | 0 => ("SkinOfTeeth$Hearing", "sayings", "I", false)
  | 1 => ("SkinOfTeeth$Hearing", "speakers", "[I", true)
  | 2 => ("SkinOfTeeth$Hearing", "claims", "[I", true)
  | 3 => ("SkinOfTeeth$Hearing", "sizes", "[I", true)
  | 4 => ("SkinOfTeeth$Hearing", "then", "LSkinOfTeeth$Mouths;", true)
  | 5 => ("SkinOfTeeth$Hearing", "last", "[I", true)
  | 6 => ("SkinOfTeeth$Hearing", "liars", "I", false)
  | 7 => ("SkinOfTeeth$Hearing", "heard", "I", false)
  | _ => ("SkinOfTeeth$Hearing", "firstGone", "I", false)
def tyX2 : Nat → FieldType := fun k => match k with
  | 0 => .int
  | 1 => .array .int
  | 2 => .array .int
  | 3 => .array .int
  | 4 => .object "SkinOfTeeth$Mouths"
  | 5 => .array .int
  | 6 => .int
  | 7 => .int
  | _ => .int
abbrev wsX20 : List Cond := u_ws RX2 TX2 9
theorem nmX2 : ∀ a, a < 9 → ∀ b, b < 9 → a ≠ b → (TX2 a).2.1 ≠ (TX2 b).2.1 := by decide +kernel
theorem tyX2_ok : ∀ k, k < 9 → parseFieldDescriptor (TX2 k).2.2.1 = some (tyX2 k) := by decide +kernel
abbrev cX2_init : ByteArray := prog_4_method_1_code
def yX2_init : MethodName := ⟨RX2, "<init>", "()V"⟩
abbrev cX2_summon : ByteArray := prog_4_method_2_code
def yX2_summon : MethodName := ⟨RX2, "summon", "(LSkinOfTeeth$Shelf;I)V"⟩
abbrev cX2_hold : ByteArray := prog_4_method_3_code
def yX2_hold : MethodName := ⟨RX2, "hold", "(LSkinOfTeeth$Mouths;LSkinOfTeeth$Law;II)V"⟩
abbrev cX2_speak : ByteArray := prog_4_method_4_code
def yX2_speak : MethodName := ⟨RX2, "speak", "(LSkinOfTeeth$Law;IIII)I"⟩
abbrev cX2_beliefIn : ByteArray := prog_4_method_5_code
def yX2_beliefIn : MethodName := ⟨RX2, "beliefIn", "(I)I"⟩
abbrev cX2_wrongBeliefs : ByteArray := prog_4_method_6_code
def yX2_wrongBeliefs : MethodName := ⟨RX2, "wrongBeliefs", "(I)I"⟩
abbrev cX2_asWorthyAs : ByteArray := prog_4_method_7_code
def yX2_asWorthyAs : MethodName := ⟨RX2, "asWorthyAs", "(LSkinOfTeeth$Mouths;)I"⟩
def RX3 : String := "SkinOfTeeth$Law"
def TX3 : u_T := fun k => match k with
  | 0 => ("SkinOfTeeth$Law", "signs", "[I", true)
  | 1 => ("SkinOfTeeth$Law", "values", "[I", true)
  | 2 => ("SkinOfTeeth$Law", "stack", "[I", true)
  | 3 => ("SkinOfTeeth$Law", "names", "[I", true)
  | 4 => ("SkinOfTeeth$Law", "steps", "I", false)
  | _ => ("SkinOfTeeth$Law", "top", "I", false)
def tyX3 : Nat → FieldType := fun k => match k with
  | 0 => .array .int
  | 1 => .array .int
  | 2 => .array .int
  | 3 => .array .int
  | 4 => .int
  | _ => .int
abbrev wsX30 : List Cond := u_ws RX3 TX3 6
theorem nmX3 : ∀ a, a < 6 → ∀ b, b < 6 → a ≠ b → (TX3 a).2.1 ≠ (TX3 b).2.1 := by decide +kernel
theorem tyX3_ok : ∀ k, k < 6 → parseFieldDescriptor (TX3 k).2.2.1 = some (tyX3 k) := by decide +kernel
abbrev cX3_init : ByteArray := prog_5_method_1_code
def yX3_init : MethodName := ⟨RX3, "<init>", "()V"⟩
abbrev cX3_add : ByteArray := prog_5_method_2_code
def yX3_add : MethodName := ⟨RX3, "add", "(II)V"⟩
abbrev cX3_skipToHere : ByteArray := prog_5_method_3_code
def yX3_skipToHere : MethodName := ⟨RX3, "skipToHere", "(I)V"⟩
abbrev cX3_priceOf : ByteArray := prog_5_method_4_code
def yX3_priceOf : MethodName := ⟨RX3, "priceOf", "(LSkinOfTeeth$Mouths;III)I"⟩
abbrev cX3_workedOut : ByteArray := prog_5_method_5_code
def yX3_workedOut : MethodName := ⟨RX3, "workedOut", "()I"⟩
abbrev cX3_together : ByteArray := prog_5_method_6_code
def yX3_together : MethodName := ⟨RX3, "together", "(III)I"⟩
abbrev cX3_push : ByteArray := prog_5_method_7_code
def yX3_push : MethodName := ⟨RX3, "push", "(I)V"⟩
abbrev cX3_pop : ByteArray := prog_5_method_8_code
def yX3_pop : MethodName := ⟨RX3, "pop", "()I"⟩
def RX4 : String := "SkinOfTeeth$LawReader"
def TX4 : u_T := fun k => match k with
  | 0 => ("SkinOfTeeth$LawReader", "tape", "[I", true)
  | 1 => ("SkinOfTeeth$LawReader", "taped", "I", false)
  | 2 => ("SkinOfTeeth$LawReader", "law", "LSkinOfTeeth$Law;", false)
  | _ => ("SkinOfTeeth$LawReader", "place", "I", false)
def tyX4 : Nat → FieldType := fun k => match k with
  | 0 => .array .int
  | 1 => .int
  | 2 => .object "SkinOfTeeth$Law"
  | _ => .int
abbrev wsX40 : List Cond := u_ws RX4 TX4 4
theorem nmX4 : ∀ a, a < 4 → ∀ b, b < 4 → a ≠ b → (TX4 a).2.1 ≠ (TX4 b).2.1 := by decide +kernel
theorem tyX4_ok : ∀ k, k < 4 → parseFieldDescriptor (TX4 k).2.2.1 = some (tyX4 k) := by decide +kernel
abbrev cX4_init : ByteArray := prog_6_method_1_code
def yX4_init : MethodName := ⟨RX4, "<init>", "()V"⟩
abbrev cX4_take : ByteArray := prog_6_method_2_code
def yX4_take : MethodName := ⟨RX4, "take", "(I)I"⟩
abbrev cX4_exchangeFor : ByteArray := prog_6_method_3_code
def yX4_exchangeFor : MethodName := ⟨RX4, "exchangeFor", "(LSkinOfTeeth$Law;)LSkinOfTeeth$Law;"⟩
abbrev cX4_read : ByteArray := prog_6_method_4_code
def yX4_read : MethodName := ⟨RX4, "read", "()I"⟩
abbrev cX4_next : ByteArray := prog_6_method_5_code
def yX4_next : MethodName := ⟨RX4, "next", "()I"⟩
abbrev cX4_readLine : ByteArray := prog_6_method_6_code
def yX4_readLine : MethodName := ⟨RX4, "readLine", "()Z"⟩
abbrev cX4_readAny : ByteArray := prog_6_method_7_code
def yX4_readAny : MethodName := ⟨RX4, "readAny", "(I)Z"⟩
abbrev cX4_readAll : ByteArray := prog_6_method_8_code
def yX4_readAll : MethodName := ⟨RX4, "readAll", "(I)Z"⟩
abbrev cX4_readCompared : ByteArray := prog_6_method_9_code
def yX4_readCompared : MethodName := ⟨RX4, "readCompared", "(I)Z"⟩
abbrev cX4_readSum : ByteArray := prog_6_method_10_code
def yX4_readSum : MethodName := ⟨RX4, "readSum", "(I)Z"⟩
abbrev cX4_readProduct : ByteArray := prog_6_method_11_code
def yX4_readProduct : MethodName := ⟨RX4, "readProduct", "(I)Z"⟩
abbrev cX4_readOperand : ByteArray := prog_6_method_12_code
def yX4_readOperand : MethodName := ⟨RX4, "readOperand", "(I)Z"⟩
abbrev cX4_readOpened : ByteArray := prog_6_method_13_code
def yX4_readOpened : MethodName := ⟨RX4, "readOpened", "(II)Z"⟩
abbrev cX4_readNumber : ByteArray := prog_6_method_14_code
def yX4_readNumber : MethodName := ⟨RX4, "readNumber", "()V"⟩
abbrev cX4_isDigit : ByteArray := prog_6_method_15_code
def yX4_isDigit : MethodName := ⟨RX4, "isDigit", "(I)Z"⟩
def RX5 : String := "SkinOfTeeth$Mouths"
def TX5 : u_T := fun k => match k with
  | 0 => ("SkinOfTeeth$Mouths", "people", "I", false)
  | 1 => ("SkinOfTeeth$Mouths", "gold", "I", false)
  | 2 => ("SkinOfTeeth$Mouths", "flakes", "[I", true)
  | 3 => ("SkinOfTeeth$Mouths", "caps", "[I", true)
  | _ => ("SkinOfTeeth$Mouths", "lies", "[I", true)
def tyX5 : Nat → FieldType := fun k => match k with
  | 0 => .int
  | 1 => .int
  | 2 => .array .int
  | 3 => .array .int
  | _ => .array .int
abbrev wsX50 : List Cond := u_ws RX5 TX5 5
theorem nmX5 : ∀ a, a < 5 → ∀ b, b < 5 → a ≠ b → (TX5 a).2.1 ≠ (TX5 b).2.1 := by decide +kernel
theorem tyX5_ok : ∀ k, k < 5 → parseFieldDescriptor (TX5 k).2.2.1 = some (tyX5 k) := by decide +kernel
abbrev cX5_init : ByteArray := prog_7_method_1_code
def yX5_init : MethodName := ⟨RX5, "<init>", "()V"⟩
abbrev cX5_newcomer : ByteArray := prog_7_method_2_code
def yX5_newcomer : MethodName := ⟨RX5, "newcomer", "(I)I"⟩
abbrev cX5_copyFrom : ByteArray := prog_7_method_3_code
def yX5_copyFrom : MethodName := ⟨RX5, "copyFrom", "(LSkinOfTeeth$Mouths;)V"⟩
abbrev cX5_layBack : ByteArray := prog_7_method_4_code
def yX5_layBack : MethodName := ⟨RX5, "layBack", "(LSkinOfTeeth$Mouths;)V"⟩
abbrev cX5_flakesOf : ByteArray := prog_7_method_5_code
def yX5_flakesOf : MethodName := ⟨RX5, "flakesOf", "(I)I"⟩
abbrev cX5_flakesOfAll : ByteArray := prog_7_method_6_code
def yX5_flakesOfAll : MethodName := ⟨RX5, "flakesOfAll", "()I"⟩
abbrev cX5_worthOf : ByteArray := prog_7_method_7_code
def yX5_worthOf : MethodName := ⟨RX5, "worthOf", "(I)I"⟩
abbrev cX5_worthTogether : ByteArray := prog_7_method_8_code
def yX5_worthTogether : MethodName := ⟨RX5, "worthTogether", "(I)I"⟩
abbrev cX5_isGone : ByteArray := prog_7_method_9_code
def yX5_isGone : MethodName := ⟨RX5, "isGone", "(I)Z"⟩
abbrev cX5_howManyGone : ByteArray := prog_7_method_10_code
def yX5_howManyGone : MethodName := ⟨RX5, "howManyGone", "()I"⟩
abbrev cX5_isCapped : ByteArray := prog_7_method_11_code
def yX5_isCapped : MethodName := ⟨RX5, "isCapped", "(II)Z"⟩
abbrev cX5_looksLike : ByteArray := prog_7_method_12_code
def yX5_looksLike : MethodName := ⟨RX5, "looksLike", "(ILSkinOfTeeth$Shelf;)Z"⟩
abbrev cX5_lie : ByteArray := prog_7_method_13_code
def yX5_lie : MethodName := ⟨RX5, "lie", "(LSkinOfTeeth$Law;III)I"⟩
abbrev cX5_exchange : ByteArray := prog_7_method_14_code
def yX5_exchange : MethodName := ⟨RX5, "exchange", "(III)V"⟩
def RX6 : String := "SkinOfTeeth$Shelf"
def TX6 : u_T := fun k => match k with
  | 0 => ("SkinOfTeeth$Shelf", "holds", "I", false)
  | 1 => ("SkinOfTeeth$Shelf", "size", "I", false)
  | 2 => ("SkinOfTeeth$Shelf", "body", "I", false)
  | _ => ("SkinOfTeeth$Shelf", "cells", "[J", true)
def tyX6 : Nat → FieldType := fun k => match k with
  | 0 => .int
  | 1 => .int
  | 2 => .int
  | _ => .array .long
abbrev wsX60 : List Cond := u_ws RX6 TX6 4
theorem nmX6 : ∀ a, a < 4 → ∀ b, b < 4 → a ≠ b → (TX6 a).2.1 ≠ (TX6 b).2.1 := by decide +kernel
theorem tyX6_ok : ∀ k, k < 4 → parseFieldDescriptor (TX6 k).2.2.1 = some (tyX6 k) := by decide +kernel
abbrev cX6_init : ByteArray := prog_8_method_1_code
def yX6_init : MethodName := ⟨RX6, "<init>", "()V"⟩
abbrev cX6_becomeRow : ByteArray := prog_8_method_2_code
def yX6_becomeRow : MethodName := ⟨RX6, "becomeRow", "(II)V"⟩
abbrev cX6_lacks : ByteArray := prog_8_method_3_code
def yX6_lacks : MethodName := ⟨RX6, "lacks", "(II)Z"⟩
abbrev cX6_narrowed : ByteArray := prog_8_method_4_code
def yX6_narrowed : MethodName := ⟨RX6, "narrowed", "(IJ)J"⟩
def RX7 : String := "SkinOfTeeth"
def TX7 : u_T := fun k => match k with
  | 0 => ("SkinOfTeeth", "mouths", "LSkinOfTeeth$Mouths;", true)
  | 1 => ("SkinOfTeeth", "thought", "LSkinOfTeeth$Mouths;", true)
  | 2 => ("SkinOfTeeth", "pictured", "LSkinOfTeeth$Mouths;", true)
  | 3 => ("SkinOfTeeth", "hearing", "LSkinOfTeeth$Hearing;", true)
  | 4 => ("SkinOfTeeth", "changes", "LSkinOfTeeth$Changes;", true)
  | 5 => ("SkinOfTeeth", "bodies", "LSkinOfTeeth$Bodies;", true)
  | 6 => ("SkinOfTeeth", "shelves", "[LSkinOfTeeth$Shelf;", true)
  | 7 => ("SkinOfTeeth", "deeds", "[I", true)
  | 8 => ("SkinOfTeeth", "picturedDeeds", "[I", true)
  | 9 => ("SkinOfTeeth", "reader", "LSkinOfTeeth$LawReader;", true)
  | 10 => ("SkinOfTeeth", "ruling", "LSkinOfTeeth$Law;", false)
  | 11 => ("SkinOfTeeth", "so", "I", false)
  | _ => ("SkinOfTeeth", "hasPicture", "Z", false)
def tyX7 : Nat → FieldType := fun k => match k with
  | 0 => .object "SkinOfTeeth$Mouths"
  | 1 => .object "SkinOfTeeth$Mouths"
  | 2 => .object "SkinOfTeeth$Mouths"
  | 3 => .object "SkinOfTeeth$Hearing"
  | 4 => .object "SkinOfTeeth$Changes"
  | 5 => .object "SkinOfTeeth$Bodies"
  | 6 => .array (.object "SkinOfTeeth$Shelf")
  | 7 => .array .int
  | 8 => .array .int
  | 9 => .object "SkinOfTeeth$LawReader"
  | 10 => .object "SkinOfTeeth$Law"
  | 11 => .int
  | _ => .boolean
abbrev wsX70 : List Cond := u_ws RX7 TX7 13
theorem nmX7 : ∀ a, a < 13 → ∀ b, b < 13 → a ≠ b → (TX7 a).2.1 ≠ (TX7 b).2.1 := by decide +kernel
theorem tyX7_ok : ∀ k, k < 13 → parseFieldDescriptor (TX7 k).2.2.1 = some (tyX7 k) := by decide +kernel
abbrev cX7_init : ByteArray := prog_1_method_1_code
def yX7_init : MethodName := ⟨RX7, "<init>", "()V"⟩
abbrev cX7_person : ByteArray := prog_1_method_2_code
def yX7_person : MethodName := ⟨RX7, "person", "(I)I"⟩
abbrev cX7_people : ByteArray := prog_1_method_3_code
def yX7_people : MethodName := ⟨RX7, "people", "(III)I"⟩
abbrev cX7_isNine : ByteArray := prog_1_method_4_code
def yX7_isNine : MethodName := ⟨RX7, "isNine", "(LSkinOfTeeth$Shelf;I)Z"⟩
abbrev cX7_comeFrom : ByteArray := prog_1_method_5_code
def yX7_comeFrom : MethodName := ⟨RX7, "comeFrom", "(LSkinOfTeeth$Shelf;I)V"⟩
abbrev cX7_mend : ByteArray := prog_1_method_6_code
def yX7_mend : MethodName := ⟨RX7, "mend", "(III)I"⟩
abbrev cX7_of : ByteArray := prog_1_method_7_code
def yX7_of : MethodName := ⟨RX7, "of", "(II)I"⟩
abbrev cX7_noNumber : ByteArray := prog_1_method_8_code
def yX7_noNumber : MethodName := ⟨RX7, "noNumber", "(II)Z"⟩
abbrev cX7_mostOf : ByteArray := prog_1_method_9_code
def yX7_mostOf : MethodName := ⟨RX7, "mostOf", "(I)I"⟩
abbrev cX7_numberNow : ByteArray := prog_1_method_10_code
def yX7_numberNow : MethodName := ⟨RX7, "numberNow", "(II)I"⟩
abbrev cX7_makeNumber : ByteArray := prog_1_method_11_code
def yX7_makeNumber : MethodName := ⟨RX7, "makeNumber", "(III)V"⟩
abbrev cX7_feed : ByteArray := prog_1_method_12_code
def yX7_feed : MethodName := ⟨RX7, "feed", "(I)I"⟩
abbrev cX7_law : ByteArray := prog_1_method_13_code
def yX7_law : MethodName := ⟨RX7, "law", "()I"⟩
abbrev cX7_takes : ByteArray := prog_1_method_14_code
def yX7_takes : MethodName := ⟨RX7, "takes", "(II)I"⟩
abbrev cX7_trial : ByteArray := prog_1_method_15_code
def yX7_trial : MethodName := ⟨RX7, "trial", "(III)I"⟩
abbrev cX7_tooth : ByteArray := prog_1_method_16_code
def yX7_tooth : MethodName := ⟨RX7, "tooth", "(II)I"⟩
abbrev cX7_gone : ByteArray := prog_1_method_17_code
def yX7_gone : MethodName := ⟨RX7, "gone", "(I)I"⟩
abbrev cX7_believed : ByteArray := prog_1_method_18_code
def yX7_believed : MethodName := ⟨RX7, "believed", "(II)I"⟩
abbrev cX7_told : ByteArray := prog_1_method_19_code
def yX7_told : MethodName := ⟨RX7, "told", "(II)I"⟩
abbrev cX7_have : ByteArray := prog_1_method_20_code
def yX7_have : MethodName := ⟨RX7, "have", "(III)I"⟩
abbrev cX7_cheapestWay : ByteArray := prog_1_method_21_code
def yX7_cheapestWay : MethodName := ⟨RX7, "cheapestWay", "(II)I"⟩
abbrev cX7_left : ByteArray := prog_1_method_22_code
def yX7_left : MethodName := ⟨RX7, "left", "(II)I"⟩
abbrev cX7_enough : ByteArray := prog_1_method_23_code
def yX7_enough : MethodName := ⟨RX7, "enough", "(II)I"⟩
abbrev cX7_jury : ByteArray := prog_1_method_24_code
def yX7_jury : MethodName := ⟨RX7, "jury", "(I)I"⟩
abbrev cX7_isLesser : ByteArray := prog_1_method_25_code
def yX7_isLesser : MethodName := ⟨RX7, "isLesser", "(II)Z"⟩
abbrev cX7_bribe : ByteArray := prog_1_method_26_code
def yX7_bribe : MethodName := ⟨RX7, "bribe", "(III)I"⟩
abbrev cX7_fewestTurned : ByteArray := prog_1_method_27_code
def yX7_fewestTurned : MethodName := ⟨RX7, "fewestTurned", "(II)I"⟩
abbrev cX7_liesFor : ByteArray := prog_1_method_28_code
def yX7_liesFor : MethodName := ⟨RX7, "liesFor", "(III)I"⟩
abbrev cX7_two : ByteArray := prog_1_method_29_code
def yX7_two : MethodName := ⟨RX7, "two", "(III)I"⟩
abbrev cX7_others : ByteArray := prog_1_method_30_code
def yX7_others : MethodName := ⟨RX7, "others", "(I)I"⟩
abbrev cX7_isSo : ByteArray := prog_1_method_31_code
def yX7_isSo : MethodName := ⟨RX7, "isSo", "(III)I"⟩
abbrev cX7_waysOfSo : ByteArray := prog_1_method_32_code
def yX7_waysOfSo : MethodName := ⟨RX7, "waysOfSo", "(LSkinOfTeeth$Shelf;III)I"⟩
abbrev cX7_drawn : ByteArray := prog_1_method_33_code
def yX7_drawn : MethodName := ⟨RX7, "drawn", "(III)I"⟩
abbrev cX7_say : ByteArray := prog_1_method_34_code
def yX7_say : MethodName := ⟨RX7, "say", "(II)I"⟩
abbrev cX7_lend : ByteArray := prog_1_method_35_code
def yX7_lend : MethodName := ⟨RX7, "lend", "(II)I"⟩
abbrev cX7_cap : ByteArray := prog_1_method_36_code
def yX7_cap : MethodName := ⟨RX7, "cap", "(II)I"⟩
abbrev cX7_year : ByteArray := prog_1_method_37_code
def yX7_year : MethodName := ⟨RX7, "year", "()I"⟩
abbrev cX7_led : ByteArray := prog_1_method_38_code
def yX7_led : MethodName := ⟨RX7, "led", "(I)I"⟩
abbrev cX7_image : ByteArray := prog_1_method_39_code
def yX7_image : MethodName := ⟨RX7, "image", "()I"⟩
abbrev cX7_back : ByteArray := prog_1_method_40_code
def yX7_back : MethodName := ⟨RX7, "back", "()I"⟩
abbrev cX7_undo : ByteArray := prog_1_method_41_code
def yX7_undo : MethodName := ⟨RX7, "undo", "()I"⟩
abbrev cX7_redo : ByteArray := prog_1_method_42_code
def yX7_redo : MethodName := ⟨RX7, "redo", "()I"⟩
abbrev cX7_body : ByteArray := prog_1_method_43_code
def yX7_body : MethodName := ⟨RX7, "body", "(I)I"⟩
abbrev cX7_act : ByteArray := prog_1_method_44_code
def yX7_act : MethodName := ⟨RX7, "act", "(III)I"⟩
abbrev cX7_trace : ByteArray := prog_1_method_45_code
def yX7_trace : MethodName := ⟨RX7, "trace", "(I)I"⟩
abbrev cX7_keep : ByteArray := prog_1_method_46_code
def yX7_keep : MethodName := ⟨RX7, "keep", "(II)I"⟩
abbrev cX7_row : ByteArray := prog_1_method_47_code
def yX7_row : MethodName := ⟨RX7, "row", "(III)I"⟩
abbrev cX7_put : ByteArray := prog_1_method_48_code
def yX7_put : MethodName := ⟨RX7, "put", "(IIJ)I"⟩
abbrev cX7_element : ByteArray := prog_1_method_49_code
def yX7_element : MethodName := ⟨RX7, "element", "(II)J"⟩
abbrev cX7_shift : ByteArray := prog_1_method_50_code
def yX7_shift : MethodName := ⟨RX7, "shift", "(IIIII)I"⟩
abbrev cX7_taken : ByteArray := prog_1_method_51_code
def yX7_taken : MethodName := ⟨RX7, "taken", "(II)I"⟩
abbrev cX7_count : ByteArray := prog_1_method_52_code
def yX7_count : MethodName := ⟨RX7, "count", "(I)I"⟩
abbrev cX7_outside : ByteArray := prog_1_method_53_code
def yX7_outside : MethodName := ⟨RX7, "outside", "(II)Z"⟩
abbrev cX7_noShelf : ByteArray := prog_1_method_54_code
def yX7_noShelf : MethodName := ⟨RX7, "noShelf", "(I)Z"⟩
abbrev cX7_noClaim : ByteArray := prog_1_method_55_code
def yX7_noClaim : MethodName := ⟨RX7, "noClaim", "(I)Z"⟩
abbrev cX7_nobody : ByteArray := prog_1_method_56_code
def yX7_nobody : MethodName := ⟨RX7, "nobody", "(I)Z"⟩
abbrev cX7_noTooth : ByteArray := prog_1_method_57_code
def yX7_noTooth : MethodName := ⟨RX7, "noTooth", "(I)Z"⟩
abbrev cX7_isLie : ByteArray := prog_1_method_58_code
def yX7_isLie : MethodName := ⟨RX7, "isLie", "(III)Z"⟩
abbrev cX7_refusalOfBytes : ByteArray := prog_1_method_59_code
def yX7_refusalOfBytes : MethodName := ⟨RX7, "refusalOfBytes", "(I)I"⟩
abbrev cX7_refusalOfMirror : ByteArray := prog_1_method_60_code
def yX7_refusalOfMirror : MethodName := ⟨RX7, "refusalOfMirror", "(I)I"⟩
abbrev cX7_refusalOfPlace : ByteArray := prog_1_method_61_code
def yX7_refusalOfPlace : MethodName := ⟨RX7, "refusalOfPlace", "(II)I"⟩
abbrev cX7_hear : ByteArray := prog_1_method_62_code
def yX7_hear : MethodName := ⟨RX7, "hear", "(I)V"⟩
def RX8 : String := "SkinOfTeethModel"
def TX8 : u_T := fun k => match k with
  | 0 => ("SkinOfTeethModel", "code", "I", false)
  | 1 => ("SkinOfTeethModel", "people", "I", false)
  | 2 => ("SkinOfTeethModel", "flakes", "[I", true)
  | 3 => ("SkinOfTeethModel", "caps", "[I", true)
  | 4 => ("SkinOfTeethModel", "liesNow", "[I", true)
  | 5 => ("SkinOfTeethModel", "so", "[I", true)
  | 6 => ("SkinOfTeethModel", "gold", "I", false)
  | 7 => ("SkinOfTeethModel", "doneMany", "I", false)
  | 8 => ("SkinOfTeethModel", "undoneMany", "I", false)
  | 9 => ("SkinOfTeethModel", "changeOf", "[I", true)
  | 10 => ("SkinOfTeethModel", "changeAt", "[I", true)
  | 11 => ("SkinOfTeethModel", "before", "[I", true)
  | 12 => ("SkinOfTeethModel", "behind", "[I", true)
  | 13 => ("SkinOfTeethModel", "tape", "[B", true)
  | 14 => ("SkinOfTeethModel", "taped", "I", false)
  | 15 => ("SkinOfTeethModel", "here", "I", false)
  | 16 => ("SkinOfTeethModel", "fault", "I", false)
  | 17 => ("SkinOfTeethModel", "open", "I", false)
  | 18 => ("SkinOfTeethModel", "laid", "I", false)
  | 19 => ("SkinOfTeethModel", "act", "[B", true)
  | 20 => ("SkinOfTeethModel", "with", "[I", true)
  | 21 => ("SkinOfTeethModel", "lineMany", "[I", true)
  | 22 => ("SkinOfTeethModel", "testEnd", "[S", true)
  | 23 => ("SkinOfTeethModel", "lineEnd", "[S", true)
  | 24 => ("SkinOfTeethModel", "facts", "[I", true)
  | 25 => ("SkinOfTeethModel", "pile", "[I", true)
  | 26 => ("SkinOfTeethModel", "hasLaw", "Z", false)
  | 27 => ("SkinOfTeethModel", "mouth", "[I", true)
  | 28 => ("SkinOfTeethModel", "lies1", "[I", true)
  | 29 => ("SkinOfTeethModel", "saysOne", "[I", true)
  | 30 => ("SkinOfTeethModel", "saysFact", "[I", true)
  | 31 => ("SkinOfTeethModel", "saysIt", "[I", true)
  | 32 => ("SkinOfTeethModel", "saysSize", "[I", true)
  | 33 => ("SkinOfTeethModel", "sayings", "I", false)
  | 34 => ("SkinOfTeethModel", "saidLast", "[I", true)
  | 35 => ("SkinOfTeethModel", "goneAt", "I", false)
  | 36 => ("SkinOfTeethModel", "liars", "I", false)
  | 37 => ("SkinOfTeethModel", "keptSo", "[I", true)
  | 38 => ("SkinOfTeethModel", "ledOf", "[I", true)
  | 39 => ("SkinOfTeethModel", "hasImage", "Z", false)
  | 40 => ("SkinOfTeethModel", "keptPeople", "I", false)
  | 41 => ("SkinOfTeethModel", "keptFlakes", "[I", true)
  | 42 => ("SkinOfTeethModel", "keptCaps", "[I", true)
  | 43 => ("SkinOfTeethModel", "keptLies", "[I", true)
  | 44 => ("SkinOfTeethModel", "keptLed", "[I", true)
  | 45 => ("SkinOfTeethModel", "bodies", "I", false)
  | 46 => ("SkinOfTeethModel", "kind", "[I", true)
  | 47 => ("SkinOfTeethModel", "traces", "I", false)
  | 48 => ("SkinOfTeethModel", "traced", "[I", true)
  | 49 => ("SkinOfTeethModel", "holds", "[I", true)
  | 50 => ("SkinOfTeethModel", "size", "[I", true)
  | 51 => ("SkinOfTeethModel", "elements", "[J", true)
  | _ => ("SkinOfTeethModel", "shifted", "[J", true)
def tyX8 : Nat → FieldType := fun k => match k with
  | 0 => .int
  | 1 => .int
  | 2 => .array .int
  | 3 => .array .int
  | 4 => .array .int
  | 5 => .array .int
  | 6 => .int
  | 7 => .int
  | 8 => .int
  | 9 => .array .int
  | 10 => .array .int
  | 11 => .array .int
  | 12 => .array .int
  | 13 => .array .byte
  | 14 => .int
  | 15 => .int
  | 16 => .int
  | 17 => .int
  | 18 => .int
  | 19 => .array .byte
  | 20 => .array .int
  | 21 => .array .int
  | 22 => .array .short
  | 23 => .array .short
  | 24 => .array .int
  | 25 => .array .int
  | 26 => .boolean
  | 27 => .array .int
  | 28 => .array .int
  | 29 => .array .int
  | 30 => .array .int
  | 31 => .array .int
  | 32 => .array .int
  | 33 => .int
  | 34 => .array .int
  | 35 => .int
  | 36 => .int
  | 37 => .array .int
  | 38 => .array .int
  | 39 => .boolean
  | 40 => .int
  | 41 => .array .int
  | 42 => .array .int
  | 43 => .array .int
  | 44 => .array .int
  | 45 => .int
  | 46 => .array .int
  | 47 => .int
  | 48 => .array .int
  | 49 => .array .int
  | 50 => .array .int
  | 51 => .array .long
  | _ => .array .long
abbrev wsX80 : List Cond := u_ws RX8 TX8 53
theorem nmX8 : ∀ a, a < 53 → ∀ b, b < 53 → a ≠ b → (TX8 a).2.1 ≠ (TX8 b).2.1 := by decide +kernel
theorem tyX8_ok : ∀ k, k < 53 → parseFieldDescriptor (TX8 k).2.2.1 = some (tyX8 k) := by decide +kernel
abbrev cX8_init : ByteArray := prog_10_method_1_code
def yX8_init : MethodName := ⟨RX8, "<init>", "()V"⟩
abbrev cX8_in : ByteArray := prog_10_method_3_code
def yX8_in : MethodName := ⟨RX8, "in", "(III)Z"⟩
abbrev cX8_bitsOf : ByteArray := prog_10_method_4_code
def yX8_bitsOf : MethodName := ⟨RX8, "bitsOf", "(I)I"⟩
abbrev cX8_isPerson : ByteArray := prog_10_method_5_code
def yX8_isPerson : MethodName := ⟨RX8, "isPerson", "(I)Z"⟩
abbrev cX8_isFact : ByteArray := prog_10_method_6_code
def yX8_isFact : MethodName := ⟨RX8, "isFact", "(I)Z"⟩
abbrev cX8_person : ByteArray := prog_10_method_7_code
def yX8_person : MethodName := ⟨RX8, "person", "(I)I"⟩
abbrev cX8_isMouth : ByteArray := prog_10_method_8_code
def yX8_isMouth : MethodName := ⟨RX8, "isMouth", "(II)Z"⟩
abbrev cX8_people : ByteArray := prog_10_method_9_code
def yX8_people : MethodName := ⟨RX8, "people", "(III)I"⟩
abbrev cX8_valueAt : ByteArray := prog_10_method_10_code
def yX8_valueAt : MethodName := ⟨RX8, "valueAt", "(II)I"⟩
abbrev cX8_lays : ByteArray := prog_10_method_11_code
def yX8_lays : MethodName := ⟨RX8, "lays", "(III)V"⟩
abbrev cX8_changes : ByteArray := prog_10_method_12_code
def yX8_changes : MethodName := ⟨RX8, "changes", "(III)I"⟩
abbrev cX8_undo : ByteArray := prog_10_method_13_code
def yX8_undo : MethodName := ⟨RX8, "undo", "()I"⟩
abbrev cX8_redo : ByteArray := prog_10_method_14_code
def yX8_redo : MethodName := ⟨RX8, "redo", "()I"⟩
abbrev cX8_isOne : ByteArray := prog_10_method_15_code
def yX8_isOne : MethodName := ⟨RX8, "isOne", "(II)Z"⟩
abbrev cX8_mayBe : ByteArray := prog_10_method_16_code
def yX8_mayBe : MethodName := ⟨RX8, "mayBe", "(II)Z"⟩
abbrev cX8_mend : ByteArray := prog_10_method_17_code
def yX8_mend : MethodName := ⟨RX8, "mend", "(III)I"⟩
abbrev cX8_of : ByteArray := prog_10_method_18_code
def yX8_of : MethodName := ⟨RX8, "of", "(II)I"⟩
abbrev cX8_feed : ByteArray := prog_10_method_19_code
def yX8_feed : MethodName := ⟨RX8, "feed", "(I)I"⟩
abbrev cX8_look : ByteArray := prog_10_method_20_code
def yX8_look : MethodName := ⟨RX8, "look", "()I"⟩
abbrev cX8_wrong : ByteArray := prog_10_method_21_code
def yX8_wrong : MethodName := ⟨RX8, "wrong", "()V"⟩
abbrev cX8_addStep : ByteArray := prog_10_method_22_code
def yX8_addStep : MethodName := ⟨RX8, "addStep", "(II)V"⟩
abbrev cX8_nameOf : ByteArray := prog_10_method_23_code
def yX8_nameOf : MethodName := ⟨RX8, "nameOf", "(I)I"⟩
abbrev cX8_opens : ByteArray := prog_10_method_24_code
def yX8_opens : MethodName := ⟨RX8, "opens", "()Z"⟩
abbrev cX8_figure : ByteArray := prog_10_method_25_code
def yX8_figure : MethodName := ⟨RX8, "figure", "()V"⟩
abbrev cX8_operand : ByteArray := prog_10_method_26_code
def yX8_operand : MethodName := ⟨RX8, "operand", "()V"⟩
abbrev cX8_product : ByteArray := prog_10_method_27_code
def yX8_product : MethodName := ⟨RX8, "product", "()V"⟩
abbrev cX8_sum : ByteArray := prog_10_method_28_code
def yX8_sum : MethodName := ⟨RX8, "sum", "()V"⟩
abbrev cX8_compared : ByteArray := prog_10_method_29_code
def yX8_compared : MethodName := ⟨RX8, "compared", "()V"⟩
abbrev cX8_both : ByteArray := prog_10_method_30_code
def yX8_both : MethodName := ⟨RX8, "both", "()V"⟩
abbrev cX8_either : ByteArray := prog_10_method_31_code
def yX8_either : MethodName := ⟨RX8, "either", "()V"⟩
abbrev cX8_line : ByteArray := prog_10_method_32_code
def yX8_line : MethodName := ⟨RX8, "line", "()V"⟩
abbrev cX8_readText : ByteArray := prog_10_method_33_code
def yX8_readText : MethodName := ⟨RX8, "readText", "(I)I"⟩
abbrev cX8_twoOf : ByteArray := prog_10_method_34_code
def yX8_twoOf : MethodName := ⟨RX8, "twoOf", "(III)I"⟩
abbrev cX8_worked : ByteArray := prog_10_method_35_code
def yX8_worked : MethodName := ⟨RX8, "worked", "(III)I"⟩
abbrev cX8_gives : ByteArray := prog_10_method_36_code
def yX8_gives : MethodName := ⟨RX8, "gives", "(I)I"⟩
abbrev cX8_law : ByteArray := prog_10_method_37_code
def yX8_law : MethodName := ⟨RX8, "law", "()I"⟩
abbrev cX8_beginMouths : ByteArray := prog_10_method_38_code
def yX8_beginMouths : MethodName := ⟨RX8, "beginMouths", "()V"⟩
abbrev cX8_flakesOf : ByteArray := prog_10_method_39_code
def yX8_flakesOf : MethodName := ⟨RX8, "flakesOf", "(I)I"⟩
abbrev cX8_worthOf : ByteArray := prog_10_method_40_code
def yX8_worthOf : MethodName := ⟨RX8, "worthOf", "(I)I"⟩
abbrev cX8_isGone : ByteArray := prog_10_method_41_code
def yX8_isGone : MethodName := ⟨RX8, "isGone", "(I)Z"⟩
abbrev cX8_takesBy : ByteArray := prog_10_method_42_code
def yX8_takesBy : MethodName := ⟨RX8, "takesBy", "(III)I"⟩
abbrev cX8_takes : ByteArray := prog_10_method_43_code
def yX8_takes : MethodName := ⟨RX8, "takes", "(II)I"⟩
abbrev cX8_lieOf : ByteArray := prog_10_method_44_code
def yX8_lieOf : MethodName := ⟨RX8, "lieOf", "(III)I"⟩
abbrev cX8_sayOf : ByteArray := prog_10_method_45_code
def yX8_sayOf : MethodName := ⟨RX8, "sayOf", "(IIII)I"⟩
abbrev cX8_rowFault : ByteArray := prog_10_method_46_code
def yX8_rowFault : MethodName := ⟨RX8, "rowFault", "(I)I"⟩
abbrev cX8_seenAt : ByteArray := prog_10_method_47_code
def yX8_seenAt : MethodName := ⟨RX8, "seenAt", "(II)I"⟩
abbrev cX8_layTrial : ByteArray := prog_10_method_48_code
def yX8_layTrial : MethodName := ⟨RX8, "layTrial", "(I)V"⟩
abbrev cX8_goTrial : ByteArray := prog_10_method_49_code
def yX8_goTrial : MethodName := ⟨RX8, "goTrial", "(I)V"⟩
abbrev cX8_believedNow : ByteArray := prog_10_method_50_code
def yX8_believedNow : MethodName := ⟨RX8, "believedNow", "(I)I"⟩
abbrev cX8_layOr : ByteArray := prog_10_method_51_code
def yX8_layOr : MethodName := ⟨RX8, "layOr", "(I)I"⟩
abbrev cX8_trial : ByteArray := prog_10_method_52_code
def yX8_trial : MethodName := ⟨RX8, "trial", "(III)I"⟩
abbrev cX8_tooth : ByteArray := prog_10_method_53_code
def yX8_tooth : MethodName := ⟨RX8, "tooth", "(II)I"⟩
abbrev cX8_gone : ByteArray := prog_10_method_54_code
def yX8_gone : MethodName := ⟨RX8, "gone", "(I)I"⟩
abbrev cX8_believed : ByteArray := prog_10_method_55_code
def yX8_believed : MethodName := ⟨RX8, "believed", "(II)I"⟩
abbrev cX8_honest : ByteArray := prog_10_method_56_code
def yX8_honest : MethodName := ⟨RX8, "honest", "()I"⟩
abbrev cX8_isSpoken : ByteArray := prog_10_method_57_code
def yX8_isSpoken : MethodName := ⟨RX8, "isSpoken", "(I)Z"⟩
abbrev cX8_toldBy : ByteArray := prog_10_method_58_code
def yX8_toldBy : MethodName := ⟨RX8, "toldBy", "(I)I"⟩
abbrev cX8_told : ByteArray := prog_10_method_59_code
def yX8_told : MethodName := ⟨RX8, "told", "(II)I"⟩
abbrev cX8_areFact : ByteArray := prog_10_method_60_code
def yX8_areFact : MethodName := ⟨RX8, "areFact", "(I)Z"⟩
abbrev cX8_have : ByteArray := prog_10_method_61_code
def yX8_have : MethodName := ⟨RX8, "have", "(III)I"⟩
abbrev cX8_left : ByteArray := prog_10_method_62_code
def yX8_left : MethodName := ⟨RX8, "left", "(II)I"⟩
abbrev cX8_enough : ByteArray := prog_10_method_63_code
def yX8_enough : MethodName := ⟨RX8, "enough", "(II)I"⟩
abbrev cX8_isLesser : ByteArray := prog_10_method_64_code
def yX8_isLesser : MethodName := ⟨RX8, "isLesser", "(II)Z"⟩
abbrev cX8_jury : ByteArray := prog_10_method_65_code
def yX8_jury : MethodName := ⟨RX8, "jury", "(I)I"⟩
abbrev cX8_bribe : ByteArray := prog_10_method_66_code
def yX8_bribe : MethodName := ⟨RX8, "bribe", "(III)I"⟩
abbrev cX8_isMirror : ByteArray := prog_10_method_67_code
def yX8_isMirror : MethodName := ⟨RX8, "isMirror", "(I)Z"⟩
abbrev cX8_isSeen : ByteArray := prog_10_method_68_code
def yX8_isSeen : MethodName := ⟨RX8, "isSeen", "(II)Z"⟩
abbrev cX8_liesFor : ByteArray := prog_10_method_69_code
def yX8_liesFor : MethodName := ⟨RX8, "liesFor", "(III)I"⟩
abbrev cX8_two : ByteArray := prog_10_method_70_code
def yX8_two : MethodName := ⟨RX8, "two", "(III)I"⟩
abbrev cX8_others : ByteArray := prog_10_method_71_code
def yX8_others : MethodName := ⟨RX8, "others", "(I)I"⟩
abbrev cX8_isSo : ByteArray := prog_10_method_72_code
def yX8_isSo : MethodName := ⟨RX8, "isSo", "(III)I"⟩
abbrev cX8_drawn : ByteArray := prog_10_method_73_code
def yX8_drawn : MethodName := ⟨RX8, "drawn", "(III)I"⟩
abbrev cX8_say : ByteArray := prog_10_method_74_code
def yX8_say : MethodName := ⟨RX8, "say", "(II)I"⟩
abbrev cX8_lend : ByteArray := prog_10_method_75_code
def yX8_lend : MethodName := ⟨RX8, "lend", "(II)I"⟩
abbrev cX8_cap : ByteArray := prog_10_method_76_code
def yX8_cap : MethodName := ⟨RX8, "cap", "(II)I"⟩
abbrev cX8_year : ByteArray := prog_10_method_77_code
def yX8_year : MethodName := ⟨RX8, "year", "()I"⟩
abbrev cX8_led : ByteArray := prog_10_method_78_code
def yX8_led : MethodName := ⟨RX8, "led", "(I)I"⟩
abbrev cX8_image : ByteArray := prog_10_method_79_code
def yX8_image : MethodName := ⟨RX8, "image", "()I"⟩
abbrev cX8_back : ByteArray := prog_10_method_80_code
def yX8_back : MethodName := ⟨RX8, "back", "()I"⟩
abbrev cX8_isBody : ByteArray := prog_10_method_81_code
def yX8_isBody : MethodName := ⟨RX8, "isBody", "(I)Z"⟩
abbrev cX8_ran : ByteArray := prog_10_method_82_code
def yX8_ran : MethodName := ⟨RX8, "ran", "(I)V"⟩
abbrev cX8_trace : ByteArray := prog_10_method_83_code
def yX8_trace : MethodName := ⟨RX8, "trace", "(I)I"⟩
abbrev cX8_body : ByteArray := prog_10_method_84_code
def yX8_body : MethodName := ⟨RX8, "body", "(I)I"⟩
abbrev cX8_isUnder : ByteArray := prog_10_method_85_code
def yX8_isUnder : MethodName := ⟨RX8, "isUnder", "(II)Z"⟩
abbrev cX8_plainBites : ByteArray := prog_10_method_86_code
def yX8_plainBites : MethodName := ⟨RX8, "plainBites", "(II)I"⟩
abbrev cX8_mirrorBites : ByteArray := prog_10_method_87_code
def yX8_mirrorBites : MethodName := ⟨RX8, "mirrorBites", "(II)I"⟩
abbrev cX8_biting : ByteArray := prog_10_method_88_code
def yX8_biting : MethodName := ⟨RX8, "biting", "(II)I"⟩
abbrev cX8_plainLies : ByteArray := prog_10_method_89_code
def yX8_plainLies : MethodName := ⟨RX8, "plainLies", "(II)I"⟩
abbrev cX8_stumpLies : ByteArray := prog_10_method_90_code
def yX8_stumpLies : MethodName := ⟨RX8, "stumpLies", "(II)I"⟩
abbrev cX8_lying : ByteArray := prog_10_method_91_code
def yX8_lying : MethodName := ⟨RX8, "lying", "(II)I"⟩
abbrev cX8_plainGrins : ByteArray := prog_10_method_92_code
def yX8_plainGrins : MethodName := ⟨RX8, "plainGrins", "(II)I"⟩
abbrev cX8_capGrins : ByteArray := prog_10_method_93_code
def yX8_capGrins : MethodName := ⟨RX8, "capGrins", "(II)I"⟩
abbrev cX8_grinning : ByteArray := prog_10_method_94_code
def yX8_grinning : MethodName := ⟨RX8, "grinning", "(II)I"⟩
abbrev cX8_plainTells : ByteArray := prog_10_method_95_code
def yX8_plainTells : MethodName := ⟨RX8, "plainTells", "(II)I"⟩
abbrev cX8_telling : ByteArray := prog_10_method_96_code
def yX8_telling : MethodName := ⟨RX8, "telling", "(II)I"⟩
abbrev cX8_act : ByteArray := prog_10_method_97_code
def yX8_act : MethodName := ⟨RX8, "act", "(III)I"⟩
abbrev cX8_count : ByteArray := prog_10_method_98_code
def yX8_count : MethodName := ⟨RX8, "count", "(I)I"⟩
abbrev cX8_isShelf : ByteArray := prog_10_method_99_code
def yX8_isShelf : MethodName := ⟨RX8, "isShelf", "(I)Z"⟩
abbrev cX8_keep : ByteArray := prog_10_method_100_code
def yX8_keep : MethodName := ⟨RX8, "keep", "(II)I"⟩
abbrev cX8_row : ByteArray := prog_10_method_101_code
def yX8_row : MethodName := ⟨RX8, "row", "(III)I"⟩
abbrev cX8_whyNoPlace : ByteArray := prog_10_method_102_code
def yX8_whyNoPlace : MethodName := ⟨RX8, "whyNoPlace", "(II)I"⟩
abbrev cX8_put : ByteArray := prog_10_method_103_code
def yX8_put : MethodName := ⟨RX8, "put", "(IIJ)I"⟩
abbrev cX8_element : ByteArray := prog_10_method_104_code
def yX8_element : MethodName := ⟨RX8, "element", "(II)J"⟩
abbrev cX8_shift : ByteArray := prog_10_method_105_code
def yX8_shift : MethodName := ⟨RX8, "shift", "(IIIII)I"⟩
abbrev cX8_taken : ByteArray := prog_10_method_106_code
def yX8_taken : MethodName := ⟨RX8, "taken", "(II)I"⟩
def RJ11 : String := "java/lang/Character"
def TJ11 : u_T := fun k => match k with
  | _ => ("", "", "", false)
def tyJ11 : Nat → FieldType := fun k => match k with
  | _ => .int
abbrev wsJ110 : List Cond := u_ws RJ11 TJ11 0
theorem nmJ11 : ∀ a, a < 0 → ∀ b, b < 0 → a ≠ b → (TJ11 a).2.1 ≠ (TJ11 b).2.1 := by decide +kernel
theorem tyJ11_ok : ∀ k, k < 0 → parseFieldDescriptor (TJ11 k).2.2.1 = some (tyJ11 k) := by decide +kernel
abbrev cJ11_isValidCodePoint_9a6ad : ByteArray := prog_11_method_11_code
def yJ11_isValidCodePoint_9a6ad : MethodName := ⟨RJ11, "isValidCodePoint", "(I)Z"⟩
abbrev cJ11_highSurrogate_5068e : ByteArray := prog_11_method_28_code
def yJ11_highSurrogate_5068e : MethodName := ⟨RJ11, "highSurrogate", "(I)C"⟩
abbrev cJ11_lowSurrogate_5068e : ByteArray := prog_11_method_29_code
def yJ11_lowSurrogate_5068e : MethodName := ⟨RJ11, "lowSurrogate", "(I)C"⟩
def RJ6 : String := "java/lang/Integer"
def TJ6 : u_T := fun k => match k with
  | _ => ("", "", "", false)
def tyJ6 : Nat → FieldType := fun k => match k with
  | _ => .int
abbrev wsJ60 : List Cond := u_ws RJ6 TJ6 0
theorem nmJ6 : ∀ a, a < 0 → ∀ b, b < 0 → a ≠ b → (TJ6 a).2.1 ≠ (TJ6 b).2.1 := by decide +kernel
theorem tyJ6_ok : ∀ k, k < 0 → parseFieldDescriptor (TJ6 k).2.2.1 = some (tyJ6 k) := by decide +kernel
abbrev cJ6_bitCount_0f7a4 : ByteArray := prog_12_method_49_code
def yJ6_bitCount_0f7a4 : MethodName := ⟨RJ6, "bitCount", "(I)I"⟩
def RJ9 : String := "java/lang/Math"
def TJ9 : u_T := fun k => match k with
  | _ => ("", "", "", false)
def tyJ9 : Nat → FieldType := fun k => match k with
  | _ => .int
abbrev wsJ90 : List Cond := u_ws RJ9 TJ9 0
theorem nmJ9 : ∀ a, a < 0 → ∀ b, b < 0 → a ≠ b → (TJ9 a).2.1 ≠ (TJ9 b).2.1 := by decide +kernel
theorem tyJ9_ok : ∀ k, k < 0 → parseFieldDescriptor (TJ9 k).2.2.1 = some (tyJ9 k) := by decide +kernel
abbrev cJ9_max_7cf53 : ByteArray := prog_13_method_65_code
def yJ9_max_7cf53 : MethodName := ⟨RJ9, "max", "(II)I"⟩
abbrev cJ9_min_7cf53 : ByteArray := prog_13_method_69_code
def yJ9_min_7cf53 : MethodName := ⟨RJ9, "min", "(II)I"⟩
def RJ0 : String := "java/lang/String"
def TJ0 : u_T := fun k => match k with
  | _ => ("", "", "", false)
def tyJ0 : Nat → FieldType := fun k => match k with
  | _ => .int
abbrev wsJ00 : List Cond := u_ws RJ0 TJ0 0
theorem nmJ0 : ∀ a, a < 0 → ∀ b, b < 0 → a ≠ b → (TJ0 a).2.1 ≠ (TJ0 b).2.1 := by decide +kernel
theorem tyJ0_ok : ∀ k, k < 0 → parseFieldDescriptor (TJ0 k).2.2.1 = some (tyJ0 k) := by decide +kernel
abbrev cJ0_length_8abf5 : ByteArray := prog_14_method_54_code
def yJ0_length_8abf5 : MethodName := ⟨RJ0, "length", "()I"⟩
abbrev cJ0_indexOf_0f7a4 : ByteArray := prog_14_method_79_code
def yJ0_indexOf_0f7a4 : MethodName := ⟨RJ0, "indexOf", "(I)I"⟩
abbrev cJ0_indexOf_7cf53 : ByteArray := prog_14_method_80_code
def yJ0_indexOf_7cf53 : MethodName := ⟨RJ0, "indexOf", "(II)I"⟩
abbrev cJ0_coder_7d493 : ByteArray := prog_14_method_152_code
def yJ0_coder_7d493 : MethodName := ⟨RJ0, "coder", "()B"⟩
abbrev cJ0_isLatin1_aae02 : ByteArray := prog_14_method_154_code
def yJ0_isLatin1_aae02 : MethodName := ⟨RJ0, "isLatin1", "()Z"⟩
abbrev cJ0_checkBoundsBeginEnd_23922 : ByteArray := prog_14_method_158_code
def yJ0_checkBoundsBeginEnd_23922 : MethodName := ⟨RJ0, "checkBoundsBeginEnd", "(III)V"⟩
def RJ1 : String := "java/lang/StringLatin1"
def TJ1 : u_T := fun k => match k with
  | _ => ("", "", "", false)
def tyJ1 : Nat → FieldType := fun k => match k with
  | _ => .int
abbrev wsJ10 : List Cond := u_ws RJ1 TJ1 0
theorem nmJ1 : ∀ a, a < 0 → ∀ b, b < 0 → a ≠ b → (TJ1 a).2.1 ≠ (TJ1 b).2.1 := by decide +kernel
theorem tyJ1_ok : ∀ k, k < 0 → parseFieldDescriptor (TJ1 k).2.2.1 = some (tyJ1 k) := by decide +kernel
abbrev cJ1_canEncode_9a6ad : ByteArray := prog_15_method_4_code
def yJ1_canEncode_9a6ad : MethodName := ⟨RJ1, "canEncode", "(I)Z"⟩
abbrev cJ1_indexOf_4cfef : ByteArray := prog_15_method_22_code
def yJ1_indexOf_4cfef : MethodName := ⟨RJ1, "indexOf", "([BIII)I"⟩
abbrev cJ1_indexOfChar_4cfef : ByteArray := prog_15_method_23_code
def yJ1_indexOfChar_4cfef : MethodName := ⟨RJ1, "indexOfChar", "([BIII)I"⟩
def RJ2 : String := "java/lang/StringUTF16"
def TJ2 : u_T := fun k => match k with
  | _ => ("", "", "", false)
def tyJ2 : Nat → FieldType := fun k => match k with
  | _ => .int
abbrev wsJ20 : List Cond := u_ws RJ2 TJ2 0
theorem nmJ2 : ∀ a, a < 0 → ∀ b, b < 0 → a ≠ b → (TJ2 a).2.1 ≠ (TJ2 b).2.1 := by decide +kernel
theorem tyJ2_ok : ∀ k, k < 0 → parseFieldDescriptor (TJ2 k).2.2.1 = some (tyJ2 k) := by decide +kernel
abbrev cJ2_getChar_3b067 : ByteArray := prog_16_method_5_code
def yJ2_getChar_3b067 : MethodName := ⟨RJ2, "getChar", "([BI)C"⟩
abbrev cJ2_length_9d52b : ByteArray := prog_16_method_6_code
def yJ2_length_9d52b : MethodName := ⟨RJ2, "length", "([B)I"⟩
abbrev cJ2_indexOf_4cfef : ByteArray := prog_16_method_40_code
def yJ2_indexOf_4cfef : MethodName := ⟨RJ2, "indexOf", "([BIII)I"⟩
abbrev cJ2_indexOfChar_4cfef : ByteArray := prog_16_method_47_code
def yJ2_indexOfChar_4cfef : MethodName := ⟨RJ2, "indexOfChar", "([BIII)I"⟩
abbrev cJ2_indexOfCharUnsafe_4cfef : ByteArray := prog_16_method_48_code
def yJ2_indexOfCharUnsafe_4cfef : MethodName := ⟨RJ2, "indexOfCharUnsafe", "([BIII)I"⟩
abbrev cJ2_indexOfSupplementary_4cfef : ByteArray := prog_16_method_49_code
def yJ2_indexOfSupplementary_4cfef : MethodName := ⟨RJ2, "indexOfSupplementary", "([BIII)I"⟩
abbrev cJ2_checkBoundsBeginEnd_d044e : ByteArray := prog_16_method_93_code
def yJ2_checkBoundsBeginEnd_d044e : MethodName := ⟨RJ2, "checkBoundsBeginEnd", "(II[B)V"⟩
def RJ10 : String := "java/lang/System"
def TJ10 : u_T := fun k => match k with
  | _ => ("", "", "", false)
def tyJ10 : Nat → FieldType := fun k => match k with
  | _ => .int
abbrev wsJ100 : List Cond := u_ws RJ10 TJ10 0
theorem nmJ10 : ∀ a, a < 0 → ∀ b, b < 0 → a ≠ b → (TJ10 a).2.1 ≠ (TJ10 b).2.1 := by decide +kernel
theorem tyJ10_ok : ∀ k, k < 0 → parseFieldDescriptor (TJ10 k).2.2.1 = some (tyJ10 k) := by decide +kernel
def RJ3 : String := "jdk/internal/util/Preconditions"
def TJ3 : u_T := fun k => match k with
  | _ => ("", "", "", false)
def tyJ3 : Nat → FieldType := fun k => match k with
  | _ => .int
abbrev wsJ30 : List Cond := u_ws RJ3 TJ3 0
theorem nmJ3 : ∀ a, a < 0 → ∀ b, b < 0 → a ≠ b → (TJ3 a).2.1 ≠ (TJ3 b).2.1 := by decide +kernel
theorem tyJ3_ok : ∀ k, k < 0 → parseFieldDescriptor (TJ3 k).2.2.1 = some (tyJ3 k) := by decide +kernel
abbrev cJ3_checkFromToIndex_8c36e : ByteArray := prog_18_method_12_code
def yJ3_checkFromToIndex_8c36e : MethodName := ⟨RJ3, "checkFromToIndex", "(IIILjava/util/function/BiFunction;)I"⟩
def RL : String := "SkinOfTeethLaw"
abbrev cL_law : ByteArray := code
def yL_law : MethodName := ⟨RL, "law", "([I)Z"⟩
abbrev vwCl : List vw_C := [(RX0, TX0, 4), (RX1, TX1, 6), (RX2, TX2, 9), (RX3, TX3, 6), (RX4, TX4, 4), (RX5, TX5, 5), (RX6, TX6, 4), (RX7, TX7, 13), (RX8, TX8, 53)]
end
section
/-! objects by numbers, as the law makes them: (0, class, fields), (1, kind of array, length), (2, _, length of longs), (3, _, length of references) -/
def kdL : List (Nat × Nat × Nat) := [(0, 7, 13), (0, 5, 5), (1, 0, 56), (1, 0, 7), (1, 0, 7), (0, 5, 5), (1, 0, 56), (1, 0, 7), (1, 0, 7), (0, 5, 5), (1, 0, 56), (1, 0, 7), (1, 0, 7), (0, 2, 9), (1, 0, 15), (1, 0, 15), (1, 0, 15), (0, 5, 5), (1, 0, 56), (1, 0, 7), (1, 0, 7), (1, 0, 70), (0, 1, 6), (1, 0, 40), (1, 0, 40), (1, 0, 40), (1, 0, 40), (0, 0, 4), (1, 0, 50), (1, 0, 24), (3, 0, 6), (1, 0, 6), (1, 0, 6), (0, 4, 4), (1, 0, 120), (0, 3, 6), (1, 0, 128), (1, 0, 128), (1, 0, 128), (1, 0, 6), (0, 3, 6), (1, 0, 128), (1, 0, 128), (1, 0, 128), (1, 0, 6), (0, 6, 4), (2, 0, 60), (0, 6, 4), (2, 0, 60), (0, 6, 4), (2, 0, 60), (0, 6, 4), (2, 0, 60), (0, 6, 4), (2, 0, 60), (0, 6, 4), (2, 0, 60), (0, 8, 53), (1, 0, 56), (1, 0, 7), (1, 0, 7), (1, 0, 10), (1, 0, 40), (1, 0, 40), (1, 0, 40), (1, 0, 40), (1, 1, 120), (1, 1, 260), (1, 0, 260), (1, 0, 2), (1, 2, 122), (1, 2, 122), (1, 0, 6), (1, 0, 130), (1, 0, 56), (1, 0, 7), (1, 0, 15), (1, 0, 15), (1, 0, 15), (1, 0, 15), (1, 0, 70), (1, 0, 10), (1, 0, 6), (1, 0, 56), (1, 0, 7), (1, 0, 7), (1, 0, 6), (1, 0, 50), (1, 0, 24), (1, 0, 6), (1, 0, 6), (2, 0, 360), (2, 0, 60)]
def SXs (g : Launch × Nat × (Nat → Nat) × (Nat → ClassId) × (Nat → Nat → Nat) × (Nat → ClassId) × Nat × (Nat → Int32)) (U : State) (H : Heap) : Prop :=
  vk_R RX4 73 "zlwtcf" (g.2.2.1 3) U ∧ vk_S 1 [6] [[122, 108, 119, 116, 99, 102]] (fun _ => g.2.2.1 3) (fun _ => g.2.2.1 4) (fun q => g.2.1 ≤ q) U H ∧ va_Z "java/lang/String" "COMPACT_STRINGS" "Z" (.int 1) (fun q => g.2.1 ≤ q) U H
/-! The calculus: Rn, a judgement over abstract states (objects by numbers), light enough for whole methods; its rows rest on the kit's. -/
abbrev Gt : Type := Launch × Nat × (Nat → Nat) × (Nat → ClassId) × (Nat → Nat → Nat) × (Nat → ClassId) × Nat × (Nat → Int32)
abbrev gb (g : Gt) : Nat := g.2.1
abbrev gs (g : Gt) : Nat → Nat := g.2.2.1
abbrev gD (g : Gt) : va_G := (g.2.2.2.1, g.2.2.2.2.1)
abbrev gA (g : Gt) : Nat → ClassId := g.2.2.2.2.2.1
abbrev gL (g : Gt) : Nat := g.2.2.2.2.2.2.1
abbrev gX (g : Gt) : Nat → Int32 := g.2.2.2.2.2.2.2
abbrev St : Type := (Nat → Nat → Int32) × (Nat → Nat → Int64) × (Nat → Nat → Option Nat)
abbrev Mt : Type := ByteArray × Nat × Option FieldType × MethodName
abbrev mcc (M : Mt) : ByteArray := M.1
abbrev mml (M : Mt) : Nat := M.2.1
abbrev mret (M : Mt) : Option FieldType := M.2.2.1
abbrev my (M : Mt) : MethodName := M.2.2.2
def ad (g : Gt) (o : Nat) : Nat := if o < 1000 then gb g + o else gs g (o - 1000)
def cv (g : Gt) : Value → Value := fun v => match v with
  | .ref o => .ref (ad g o)
  | .int x => .int x
  | .long x => .long x
  | .float x => .float x
  | .double x => .double x
  | .null => .null
  | v => v
def isRf (ty : FieldType) : Bool := match ty with
  | .object _ => true
  | .array _ => true
  | _ => false
def fTy (ci : Nat) : Nat → FieldType := match ci with
  | 0 => tyX0
  | 1 => tyX1
  | 2 => tyX2
  | 3 => tyX3
  | 4 => tyX4
  | 5 => tyX5
  | 6 => tyX6
  | 7 => tyX7
  | _ => tyX8
def aT (c : Nat) : FieldType := match c with
  | 0 => .int
  | 1 => .byte
  | 2 => .short
  | 3 => .long
  | _ => .object RX6
def tysG (g : Gt) : List (ClassId × FieldType) := [(gA g 0, .int), (gA g 1, .byte), (gA g 2, .short), (gA g 3, .long), (gA g 4, .object RX6)]
def fVal (g : Gt) (st : St) (o ci j : Nat) : Value := if isRf (fTy ci j) then va_rf ((st.2.2 o j).map (ad g)) else .int (st.1 o j)
def cellE (g : Gt) (st : St) (o : Nat) (k : Nat × Nat × Nat) : va_E := match k with
  | (0, ci, n) => .inr (ci, (List.range n).map (fVal g st o ci))
  | (1, c, n) => .inl (gA g c, n, .inl (st.1 o))
  | (2, _, n) => .inl (gA g 3, n, .inr (.inl (st.2.1 o)))
  | (_, _, n) => .inl (gA g 4, n, .inr (.inr (.inr (.inr (fun j => (st.2.2 o j).map (ad g))))))
def kd (o : Nat) : Nat × Nat × Nat := kdL.getD o (9, 0, 0)
def pre (n : Nat) : Nat := ((List.range n).map (fun o => (kd o).2.2)).sum
def slb (z zf : Nat) : Nat := pre zf - pre z
def wsO (g : Gt) (z : Nat) (st : St) : va_W := (List.range z).map (fun o => (gb g + o, cellE g st o (kd o)))
def AA (g : Gt) : Nat → Prop := fun q => gb g ≤ q
def gwl : List Cond := lw_tbl.filter goodWord
def isNst : Cond → Bool := fun c => match c with
  | .fieldLinkNest _ _ _ _ _ _ => true
  | .methodLinkNest _ _ _ _ => true
  | _ => false
def nwl : List Cond := lw_tbl.filter isNst
def tabA (j : Nat) : Int32 := ([-1, 0, 0, 2, 1, 3, 0, 6] : List Int32).getD j 0
def tabO (j : Nat) : Int32 := ([1, 10, 11, 2, 20, 0, 0, 0, 0, 30, 0, 0, 0, 41, 40, 0, 0, 0, 0, 50, 0, 0, 60, 61, 70, 0, 0, 0, 81, 80, 0, 0] : List Int32).getD j 0
/-- what stands below the objects, never written: the script, two tables, the nest's words -/
def SX (g : Gt) (U : State) (H : Heap) : Prop :=
  va_X (gs g 0) (gL g) (gX g) U H ∧ gs g 0 < gb g ∧
  (va_Z RX0 "ABOVE" "[I" (.ref (gs g 1)) (AA g) U H ∧ va_T .int (gs g 1) 8 (fun j => .int (tabA j)) (AA g) U H) ∧
  (va_Z RX0 "OWN" "[I" (.ref (gs g 2)) (AA g) U H ∧ va_T .int (gs g 2) 32 (fun j => .int (tabO j)) (AA g) U H) ∧
  (∀ w ∈ nwl, va_Nw w U) ∧ va_AO RX6 U ∧ SXs g U H
def CX (g : Gt) (z : Nat) (st : St) (U : State) : Prop :=
  va_P (gD g) vwCl (wsO g z st) U.heap ∧ (z < kdL.length → U.heap.size = gb g + z) ∧ va_K (gD g) vwCl (tysG g) U ∧ SX g U U.heap ∧ gb g ≤ U.heap.size
def lh (g : Gt) (ls : Array Slot) (n : Nat) (L : List (Option Value)) : Prop :=
  ls.size = n ∧ lv_wf ls ∧ ∀ (i : Nat) (v : Value), L[i]? = some (some v) → ls[i]? = some (.val (cv g v))
def CT (g : Gt) (M : Mt) (p : Program) (s : State) (m : MethodId) (args : Array Value) (meth : Method) (c : Code) : Prop :=
  p.tables.exec = Jvm.exec ∧ c.code = mcc M ∧ c.maxLocals = mml M ∧ s.vm.findClass (my M).cls = some m.cls ∧ (∀ w ∈ gwl, w.before args s = true) ∧ meth.name = (my M).name ∧
  va_K (gD g) vwCl (tysG g) s ∧ SX g s s.heap ∧ gb g ≤ s.heap.size
def HS (g : Gt) (z : Nat) (st : St) (s : State) (H : Heap) (locs : List Loc) : Prop :=
  va_P (gD g) vwCl (wsO g z st) H ∧ va_S (AA g) s.heap H locs ∧ (z < kdL.length → H.size = gb g + z)
def RM (d z zf : Nat) (R : Room) (cells slots : Nat) : Prop :=
  d ≤ R.frames ∧ d * 64 ≤ R.locals ∧ cells + (zf - z) ≤ R.cells ∧ slots + slb z zf ≤ R.slots ∧ z ≤ zf
def NR (M : Mt) (v : Int32) : Prop := ∃ ty, mret M = some ty ∧ narrow ty (.int v) = .int v
def isRt (M : Mt) (pc : Nat) (rv : Option Value) : Prop :=
  (decode (mcc M) pc = .ok (.ireturn, 1) ∧ ∃ v, rv = some (.int v) ∧ NR M v) ∨ (decode (mcc M) pc = .ok (.return_, 1) ∧ rv = none ∧ mret M = none) ∨
  (decode (mcc M) pc = .ok (.lreturn, 1) ∧ (∃ v, rv = some (.long v)) ∧ mret M = some .long) ∨ (decode (mcc M) pc = .ok (.areturn, 1) ∧ (∃ o, rv = some (.ref o)) ∧ ∃ n, mret M = some (.object n))
def Rn (g : Gt) (d z zf : Nat) (M : Mt) (pc : Nat) (L : List (Option Value)) (S : List Value) (st : St) (Q : Option Value → St → Prop) : Prop :=
  ∀ (p : Program) (e : Env) (R : Room) (s : State) (m : MethodId) (args : Array Value) (below : List Frame) (meth : Method) (c : Code) (H : Heap) (locs : List Loc) (cells slots : Nat) (Q0 : State → Prop) (ls : Array Slot),
    CT g M p s m args meth c → HS g z st s H locs → lh g ls (mml M) L → RM d z zf R cells slots →
    (∀ (rv : Option Value) (st' : St) (H' : Heap) (locs' : List Loc) (cells' slots' pc' : Nat) (ls' : Array Slot), Q rv st' → HS g zf st' s H' locs' → cells' ≤ cells + (zf - z) → slots' ≤ slots + slb z zf → isRt M pc' rv →
      W p g.1 e R s m args below meth c H' locs' cells' slots' Q0 (F0 m pc' ls' (rv.toList.map (cv g)))) →
    W p g.1 e R s m args below meth c H locs cells slots Q0 (F0 m pc ls (S.map (cv g)))
theorem wsO_len (g : Gt) (z : Nat) (st : St) : (wsO g z st).length = z := by simp [wsO]
theorem wsO_at {g : Gt} {z o : Nat} {st : St} (h : o < z) : (wsO g z st)[o]? = some (gb g + o, cellE g st o (kd o)) := by
  simp [wsO, h]
theorem wsO_D (g : Gt) (z : Nat) (st : St) : va_D (AA g) (wsO g z st) := by
  refine ⟨fun i j p q hi hj e => ?_, fun k q hq => ?_⟩
  · have hi' := (List.getElem?_eq_some_iff.mp hi).1
    have hj' := (List.getElem?_eq_some_iff.mp hj).1
    rw [wsO_len] at hi' hj'
    rw [wsO_at hi'] at hi
    rw [wsO_at hj'] at hj
    cases hi; cases hj
    dsimp only at e
    omega
  · have hk' := (List.getElem?_eq_some_iff.mp hq).1
    rw [wsO_len] at hk'
    rw [wsO_at hk'] at hq
    cases hq
    show gb g ≤ gb g + k
    omega
/-- one cell written: the list of the new state -/
theorem wsO_set {g : Gt} {z o : Nat} {st st' : St} {x : va_E} (h : o < z) (hx : x = cellE g st' o (kd o)) (hs : ∀ a, a ≠ o → st'.1 a = st.1 a ∧ st'.2.1 a = st.2.1 a ∧ st'.2.2 a = st.2.2 a) : (wsO g z st).set o (gb g + o, x) = wsO g z st' := by
  apply List.ext_getElem?
  intro i
  rw [List.getElem?_set]
  by_cases hi : i < z
  · by_cases hio : o = i
    · subst hio
      rw [if_pos rfl, if_pos (by rw [wsO_len]; exact h), wsO_at h, hx]
    · rw [if_neg hio, wsO_at hi, wsO_at hi]
      obtain ⟨e1, e2, e3⟩ := hs i (fun q => hio q.symm)
      have : cellE g st i (kd i) = cellE g st' i (kd i) := by
        rcases hk : kd i with ⟨t, c, n⟩
        have ef : fVal g st i c = fVal g st' i c := by funext j; simp only [fVal, e1, e3]
        unfold cellE
        split <;> first | (simp only [e1, e2, e3, *]; done) | skip
        next ci n' hk' => cases hk'; rw [ef]
      rw [this]
  · have : o ≠ i := by omega
    rw [if_neg this, List.getElem?_eq_none (by rw [wsO_len]; omega), List.getElem?_eq_none (by rw [wsO_len]; omega)]
theorem ad_lo {g : Gt} {o : Nat} (h : o < 1000) : ad g o = gb g + o := by simp [ad, h]
def jsl (x y : Int32) : Int32 := x <<< (y &&& 31)
def jsr (x y : Int32) : Int32 := x >>> (y &&& 31)
def jr (x y : Int32) : Int32 := x - x / y * y
def jus (x y : Int32) : Int32 := (x.toUInt32 >>> (y.toUInt32 &&& Int32.toUInt32 31)).toInt32
section CALC2
variable {g : Gt} {d z zf : Nat} {M : Mt} {pc : Nat} {L : List (Option Value)} {S : List Value} {st : St} {Q : Option Value → St → Prop}
theorem s_iconst {n : Int} {v : Int32} (hd : decode (mcc M) pc = .ok (.iconst n, 1)) (hv : Int32.ofInt n = v) (k : Rn g d z zf M (pc + 1) L (.int v :: S) st Q) : Rn g d z zf M pc L (S) st Q := by
  intro p e R s m args below meth c H locs cells slots Q0 ls C E hl hr hk
  exact lv_iconst C.1 C.2.1 hd hv (k p e R s m args below meth c H locs cells slots Q0 ls C E hl hr hk)
theorem s_bipush {n : Int} {v : Int32} (hd : decode (mcc M) pc = .ok (.bipush n, 2)) (hv : (Int8.ofInt n).toInt32 = v) (k : Rn g d z zf M (pc + 2) L (.int v :: S) st Q) : Rn g d z zf M pc L (S) st Q := by
  intro p e R s m args below meth c H locs cells slots Q0 ls C E hl hr hk
  exact lv_bipush C.1 C.2.1 hd hv (k p e R s m args below meth c H locs cells slots Q0 ls C E hl hr hk)
theorem s_sipush {n : Int} {v : Int32} (hd : decode (mcc M) pc = .ok (.sipush n, 3)) (hv : (Int16.ofInt n).toInt32 = v) (k : Rn g d z zf M (pc + 3) L (.int v :: S) st Q) : Rn g d z zf M pc L (S) st Q := by
  intro p e R s m args below meth c H locs cells slots Q0 ls C E hl hr hk
  exact lv_sipush C.1 C.2.1 hd hv (k p e R s m args below meth c H locs cells slots Q0 ls C E hl hr hk)
theorem s_lconst {n : Fin 2} {v : Int64} (hd : decode (mcc M) pc = .ok (.lconst n, 1)) (hv : Int64.ofNat (n : Nat) = v) (k : Rn g d z zf M (pc + 1) L (.long v :: S) st Q) : Rn g d z zf M pc L (S) st Q := by
  intro p e R s m args below meth c H locs cells slots Q0 ls C E hl hr hk
  exact lv_lconst C.1 C.2.1 hd hv (k p e R s m args below meth c H locs cells slots Q0 ls C E hl hr hk)
theorem s_iload_n {k : Fin 4} {i : Nat} {v : Int32} (hd : decode (mcc M) pc = .ok (.iload_n k, 1)) (hi : (k : Nat) = i) (h : L[i]? = some (some (.int v))) (kk : Rn g d z zf M (pc + 1) L (.int v :: S) st Q) : Rn g d z zf M pc L S st Q := by
  intro p e R s m args below meth c H locs cells slots Q0 ls C E hl hr hk
  exact lv_iload_n C.1 C.2.1 hd hi (hl.2.2 i _ h) (kk p e R s m args below meth c H locs cells slots Q0 ls C E hl hr hk)
theorem s_iload {i : Nat} {v : Int32} (hd : decode (mcc M) pc = .ok (.iload i, 2)) (h : L[i]? = some (some (.int v))) (kk : Rn g d z zf M (pc + 2) L (.int v :: S) st Q) : Rn g d z zf M pc L S st Q := by
  intro p e R s m args below meth c H locs cells slots Q0 ls C E hl hr hk
  exact lv_iload C.1 C.2.1 hd (hl.2.2 i _ h) (kk p e R s m args below meth c H locs cells slots Q0 ls C E hl hr hk)
theorem s_lload_n {k : Fin 4} {i : Nat} {v : Int64} (hd : decode (mcc M) pc = .ok (.lload_n k, 1)) (hi : (k : Nat) = i) (h : L[i]? = some (some (.long v))) (kk : Rn g d z zf M (pc + 1) L (.long v :: S) st Q) : Rn g d z zf M pc L S st Q := by
  intro p e R s m args below meth c H locs cells slots Q0 ls C E hl hr hk
  exact lv_lload_n C.1 C.2.1 hd hi (hl.2.2 i _ h) (kk p e R s m args below meth c H locs cells slots Q0 ls C E hl hr hk)
theorem s_lload {i : Nat} {v : Int64} (hd : decode (mcc M) pc = .ok (.lload i, 2)) (h : L[i]? = some (some (.long v))) (kk : Rn g d z zf M (pc + 2) L (.long v :: S) st Q) : Rn g d z zf M pc L S st Q := by
  intro p e R s m args below meth c H locs cells slots Q0 ls C E hl hr hk
  exact lv_lload C.1 C.2.1 hd (hl.2.2 i _ h) (kk p e R s m args below meth c H locs cells slots Q0 ls C E hl hr hk)
theorem s_aload_n {k : Fin 4} {i o : Nat} (hd : decode (mcc M) pc = .ok (.aload_n k, 1)) (hi : (k : Nat) = i) (h : L[i]? = some (some (.ref o))) (kk : Rn g d z zf M (pc + 1) L (.ref o :: S) st Q) : Rn g d z zf M pc L S st Q := by
  intro p e R s m args below meth c H locs cells slots Q0 ls C E hl hr hk
  exact lv_aload_n C.1 C.2.1 hd hi (hl.2.2 i _ h) (kk p e R s m args below meth c H locs cells slots Q0 ls C E hl hr hk)
theorem s_aload {i o : Nat} (hd : decode (mcc M) pc = .ok (.aload i, 2)) (h : L[i]? = some (some (.ref o))) (kk : Rn g d z zf M (pc + 2) L (.ref o :: S) st Q) : Rn g d z zf M pc L S st Q := by
  intro p e R s m args below meth c H locs cells slots Q0 ls C E hl hr hk
  exact lv_aload C.1 C.2.1 hd (hl.2.2 i _ h) (kk p e R s m args below meth c H locs cells slots Q0 ls C E hl hr hk)
def lz (g : Gt) (L : List (Option Value)) : List (Nat × Value) := (List.range L.length).filterMap (fun i => match L[i]? with
  | some (some v) => some (i, cv g v)
  | _ => none)
theorem cv_cat (g : Gt) (v : Value) : (cv g v).category = v.category := by cases v <;> rfl
theorem lh_lz {ls : Array Slot} {n : Nat} (h : lh g ls n L) : lv_has ls n (lz g L) := by
  refine ⟨h.1, h.2.1, fun q hq => ?_⟩
  obtain ⟨i, -, hi⟩ := List.mem_filterMap.mp hq
  split at hi
  · next v hv => cases hi; exact h.2.2 i v hv
  · cases hi
theorem lz_mem {i : Nat} {v : Value} (h : L[i]? = some (some v)) : (i, cv g v) ∈ lz g L := by
  have hi : i < L.length := (List.getElem?_eq_some_iff.mp h).1
  exact List.mem_filterMap.mpr ⟨i, List.mem_range.mpr hi, by rw [h]⟩
/-- no long stands ahead of place i -/
def nlg (L : List (Option Value)) (i : Nat) : Bool := match i with
  | 0 => true
  | k + 1 => match L[k]? with
    | some (some (.long _)) => false
    | some (some (.double _)) => false
    | _ => true
theorem nlg_cat {i j : Nat} {v : Value} (h : nlg L i = true) (hv : L[j]? = some (some v)) (hj : j + 1 = i) : v.category = 1 := by
  subst hj
  unfold nlg at h
  dsimp only at h
  rw [hv] at h
  cases v <;> first | rfl | cases h
theorem lh_set1 {ls' : Array Slot} {n i : Nat} {v : Value} (hc : nlg L i = true) (h : lv_has ls' n ((i, cv g v) :: (lz g L).filter (fun q => !(q.1 == i) && !(q.1 + 1 == i && q.2.category == 2)))) : lh g ls' n (L.set i (some v)) := by
  refine ⟨h.1, h.2.1, fun j w hj => ?_⟩
  rw [List.getElem?_set] at hj
  by_cases hij : i = j
  · subst hij
    rw [if_pos rfl] at hj
    split at hj
    · cases hj; exact h.2.2 (i, cv g v) List.mem_cons_self
    · cases hj
  · rw [if_neg hij] at hj
    refine h.2.2 (j, cv g w) (List.mem_cons_of_mem _ (List.mem_filter.mpr ⟨lz_mem hj, ?_⟩))
    have h1 : (j == i) = false := by simpa using fun q => hij q.symm
    by_cases h2 : j + 1 = i
    · have h3 := nlg_cat hc hj h2
      simp [h1, h2, cv_cat, h3]
    · simp [h1, h2]
theorem lh_set2 {ls' : Array Slot} {n i : Nat} {v : Value} (hc : nlg L i = true) (h : lv_has ls' n ((i, cv g v) :: (lz g L).filter (fun q => !(q.1 == i) && (!(q.1 == i + 1) && !(q.1 + 1 == i && q.2.category == 2))))) : lh g ls' n ((L.set i (some v)).set (i + 1) none) := by
  refine ⟨h.1, h.2.1, fun j w hj => ?_⟩
  rw [List.getElem?_set] at hj
  by_cases hij : i + 1 = j
  · subst hij
    rw [if_pos rfl] at hj
    split at hj <;> cases hj
  · rw [if_neg hij, List.getElem?_set] at hj
    by_cases hij2 : i = j
    · subst hij2
      rw [if_pos rfl] at hj
      split at hj
      · cases hj; exact h.2.2 (i, cv g v) List.mem_cons_self
      · cases hj
    · rw [if_neg hij2] at hj
      refine h.2.2 (j, cv g w) (List.mem_cons_of_mem _ (List.mem_filter.mpr ⟨lz_mem hj, ?_⟩))
      have h1 : (j == i) = false := by simpa using fun q => hij2 q.symm
      have h1' : (j == i + 1) = false := by simpa using fun q => hij q.symm
      by_cases h2 : j + 1 = i
      · have h3 := nlg_cat hc hj h2
        simp [h1, h1', h2, cv_cat, h3]
      · simp [h1, h1', h2]
theorem s_istore_n {k : Fin 4} {i : Nat} {v : Int32} (hd : decode (mcc M) pc = .ok (.istore_n k, 1)) (hi : (k : Nat) = i) (hn : i < mml M) (hc : nlg L i = true) {L9 : List (Option Value)} (hL : (L.set i (some (.int v))) = L9) (kk : Rn g d z zf M (pc + 1) L9 S st Q) : Rn g d z zf M pc L (.int v :: S) st Q := by
  subst hL
  intro p e R s m args below meth c H locs cells slots Q0 ls C E hl hr hk
  exact lv_istore_n C.1 C.2.1 hd hi (lh_lz hl) hn rfl (fun ls' hl' => kk p e R s m args below meth c H locs cells slots Q0 ls' C E (lh_set1 (v := .int v) hc hl') hr hk)
theorem s_istore {i : Nat} {v : Int32} (hd : decode (mcc M) pc = .ok (.istore i, 2)) (hn : i < mml M) (hc : nlg L i = true) {L9 : List (Option Value)} (hL : (L.set i (some (.int v))) = L9) (kk : Rn g d z zf M (pc + 2) L9 S st Q) : Rn g d z zf M pc L (.int v :: S) st Q := by
  subst hL
  intro p e R s m args below meth c H locs cells slots Q0 ls C E hl hr hk
  exact lv_istore C.1 C.2.1 hd (lh_lz hl) hn rfl (fun ls' hl' => kk p e R s m args below meth c H locs cells slots Q0 ls' C E (lh_set1 (v := .int v) hc hl') hr hk)
theorem s_lstore_n {k : Fin 4} {i : Nat} {v : Int64} (hd : decode (mcc M) pc = .ok (.lstore_n k, 1)) (hi : (k : Nat) = i) (hn : i + 1 < mml M) (hc : nlg L i = true) {L9 : List (Option Value)} (hL : ((L.set i (some (.long v))).set (i + 1) none) = L9) (kk : Rn g d z zf M (pc + 1) L9 S st Q) : Rn g d z zf M pc L (.long v :: S) st Q := by
  subst hL
  intro p e R s m args below meth c H locs cells slots Q0 ls C E hl hr hk
  exact lv_lstore_n C.1 C.2.1 hd hi (lh_lz hl) hn rfl (fun ls' hl' => kk p e R s m args below meth c H locs cells slots Q0 ls' C E (lh_set2 (v := .long v) hc hl') hr hk)
theorem s_lstore {i : Nat} {v : Int64} (hd : decode (mcc M) pc = .ok (.lstore i, 2)) (hn : i + 1 < mml M) (hc : nlg L i = true) {L9 : List (Option Value)} (hL : ((L.set i (some (.long v))).set (i + 1) none) = L9) (kk : Rn g d z zf M (pc + 2) L9 S st Q) : Rn g d z zf M pc L (.long v :: S) st Q := by
  subst hL
  intro p e R s m args below meth c H locs cells slots Q0 ls C E hl hr hk
  exact lv_lstore C.1 C.2.1 hd (lh_lz hl) hn rfl (fun ls' hl' => kk p e R s m args below meth c H locs cells slots Q0 ls' C E (lh_set2 (v := .long v) hc hl') hr hk)
theorem s_astore_n {k : Fin 4} {i : Nat} {v : Nat} (hd : decode (mcc M) pc = .ok (.astore_n k, 1)) (hi : (k : Nat) = i) (hn : i < mml M) (hc : nlg L i = true) {L9 : List (Option Value)} (hL : (L.set i (some (.ref v))) = L9) (kk : Rn g d z zf M (pc + 1) L9 S st Q) : Rn g d z zf M pc L (.ref v :: S) st Q := by
  subst hL
  intro p e R s m args below meth c H locs cells slots Q0 ls C E hl hr hk
  exact lv_astore_n C.1 C.2.1 hd hi (lh_lz hl) hn rfl (fun ls' hl' => kk p e R s m args below meth c H locs cells slots Q0 ls' C E (lh_set1 (v := .ref v) hc hl') hr hk)
theorem s_astore {i : Nat} {v : Nat} (hd : decode (mcc M) pc = .ok (.astore i, 2)) (hn : i < mml M) (hc : nlg L i = true) {L9 : List (Option Value)} (hL : (L.set i (some (.ref v))) = L9) (kk : Rn g d z zf M (pc + 2) L9 S st Q) : Rn g d z zf M pc L (.ref v :: S) st Q := by
  subst hL
  intro p e R s m args below meth c H locs cells slots Q0 ls C E hl hr hk
  exact lv_astore C.1 C.2.1 hd (lh_lz hl) hn rfl (fun ls' hl' => kk p e R s m args below meth c H locs cells slots Q0 ls' C E (lh_set1 (v := .ref v) hc hl') hr hk)
theorem s_iinc {i : Nat} {n : Int} {v w : Int32} (hd : decode (mcc M) pc = .ok (.iinc i n, 3)) (h : L[i]? = some (some (.int v))) (hv : v + Int32.ofInt n = w) (hn : i < mml M) (hc : nlg L i = true) {L9 : List (Option Value)} (hL : L.set i (some (.int w)) = L9) (kk : Rn g d z zf M (pc + 3) L9 S st Q) : Rn g d z zf M pc L S st Q := by
  subst hL
  intro p e R s m args below meth c H locs cells slots Q0 ls C E hl hr hk
  obtain ⟨j, hj⟩ := List.getElem?_of_mem (lz_mem (g := g) h)
  exact lv_iinc C.1 C.2.1 hd (lh_lz hl) hj hv hn rfl (fun ls' hl' => kk p e R s m args below meth c H locs cells slots Q0 ls' C E (lh_set1 (v := .int w) hc hl') hr hk)
theorem s_iadd {x y : Int32} (hd : decode (mcc M) pc = .ok (.iadd, 1)) (k : Rn g d z zf M (pc + 1) L (.int (x + y) :: S) st Q) : Rn g d z zf M pc L (.int y :: .int x :: S) st Q := by
  intro p e R s m args below meth c H locs cells slots Q0 ls C E hl hr hk
  exact lv_iadd C.1 C.2.1 hd (k p e R s m args below meth c H locs cells slots Q0 ls C E hl hr hk)
theorem s_isub {x y : Int32} (hd : decode (mcc M) pc = .ok (.isub, 1)) (k : Rn g d z zf M (pc + 1) L (.int (x - y) :: S) st Q) : Rn g d z zf M pc L (.int y :: .int x :: S) st Q := by
  intro p e R s m args below meth c H locs cells slots Q0 ls C E hl hr hk
  exact lv_isub C.1 C.2.1 hd (k p e R s m args below meth c H locs cells slots Q0 ls C E hl hr hk)
theorem s_imul {x y : Int32} (hd : decode (mcc M) pc = .ok (.imul, 1)) (k : Rn g d z zf M (pc + 1) L (.int (x * y) :: S) st Q) : Rn g d z zf M pc L (.int y :: .int x :: S) st Q := by
  intro p e R s m args below meth c H locs cells slots Q0 ls C E hl hr hk
  exact lv_imul C.1 C.2.1 hd (k p e R s m args below meth c H locs cells slots Q0 ls C E hl hr hk)
theorem s_iand {x y : Int32} (hd : decode (mcc M) pc = .ok (.iand, 1)) (k : Rn g d z zf M (pc + 1) L (.int (x &&& y) :: S) st Q) : Rn g d z zf M pc L (.int y :: .int x :: S) st Q := by
  intro p e R s m args below meth c H locs cells slots Q0 ls C E hl hr hk
  exact lv_iand C.1 C.2.1 hd (k p e R s m args below meth c H locs cells slots Q0 ls C E hl hr hk)
theorem s_ior {x y : Int32} (hd : decode (mcc M) pc = .ok (.ior, 1)) (k : Rn g d z zf M (pc + 1) L (.int (x ||| y) :: S) st Q) : Rn g d z zf M pc L (.int y :: .int x :: S) st Q := by
  intro p e R s m args below meth c H locs cells slots Q0 ls C E hl hr hk
  exact lv_ior C.1 C.2.1 hd (k p e R s m args below meth c H locs cells slots Q0 ls C E hl hr hk)
theorem s_ixor {x y : Int32} (hd : decode (mcc M) pc = .ok (.ixor, 1)) (k : Rn g d z zf M (pc + 1) L (.int (x ^^^ y) :: S) st Q) : Rn g d z zf M pc L (.int y :: .int x :: S) st Q := by
  intro p e R s m args below meth c H locs cells slots Q0 ls C E hl hr hk
  exact lv_ixor C.1 C.2.1 hd (k p e R s m args below meth c H locs cells slots Q0 ls C E hl hr hk)
theorem s_ishl {x y : Int32} (hd : decode (mcc M) pc = .ok (.ishl, 1)) (k : Rn g d z zf M (pc + 1) L (.int (jsl x y) :: S) st Q) : Rn g d z zf M pc L (.int y :: .int x :: S) st Q := by
  intro p e R s m args below meth c H locs cells slots Q0 ls C E hl hr hk
  exact lv_ishl C.1 C.2.1 hd (k p e R s m args below meth c H locs cells slots Q0 ls C E hl hr hk)
theorem s_ishr {x y : Int32} (hd : decode (mcc M) pc = .ok (.ishr, 1)) (k : Rn g d z zf M (pc + 1) L (.int (jsr x y) :: S) st Q) : Rn g d z zf M pc L (.int y :: .int x :: S) st Q := by
  intro p e R s m args below meth c H locs cells slots Q0 ls C E hl hr hk
  exact lv_ishr C.1 C.2.1 hd (k p e R s m args below meth c H locs cells slots Q0 ls C E hl hr hk)
theorem s_idiv {x y : Int32} (hd : decode (mcc M) pc = .ok (.idiv, 1)) (hne : ¬ y = 0) (k : Rn g d z zf M (pc + 1) L (.int (x / y) :: S) st Q) : Rn g d z zf M pc L (.int y :: .int x :: S) st Q := by
  intro p e R s m args below meth c H locs cells slots Q0 ls C E hl hr hk
  exact lv_idiv C.1 C.2.1 hd hne (k p e R s m args below meth c H locs cells slots Q0 ls C E hl hr hk)
theorem s_irem {x y : Int32} (hd : decode (mcc M) pc = .ok (.irem, 1)) (hne : ¬ y = 0) (k : Rn g d z zf M (pc + 1) L (.int (jr x y) :: S) st Q) : Rn g d z zf M pc L (.int y :: .int x :: S) st Q := by
  intro p e R s m args below meth c H locs cells slots Q0 ls C E hl hr hk
  exact lv_irem C.1 C.2.1 hd hne (k p e R s m args below meth c H locs cells slots Q0 ls C E hl hr hk)
theorem s_ineg {x : Int32} (hd : decode (mcc M) pc = .ok (.ineg, 1)) (k : Rn g d z zf M (pc + 1) L (.int (-x) :: S) st Q) : Rn g d z zf M pc L (.int x :: S) st Q := by
  intro p e R s m args below meth c H locs cells slots Q0 ls C E hl hr hk
  exact lv_ineg C.1 C.2.1 hd (k p e R s m args below meth c H locs cells slots Q0 ls C E hl hr hk)
theorem s_iushr {x y : Int32} (hd : decode (mcc M) pc = .ok (.iushr, 1)) (k : Rn g d z zf M (pc + 1) L (.int (jus x y) :: S) st Q) : Rn g d z zf M pc L (.int y :: .int x :: S) st Q := by
  intro p e R s m args below meth c H locs cells slots Q0 ls C E hl hr hk
  exact lv_iushr C.1 C.2.1 hd rfl (k p e R s m args below meth c H locs cells slots Q0 ls C E hl hr hk)
theorem s_ladd {x y : Int64} (hd : decode (mcc M) pc = .ok (.ladd, 1)) (k : Rn g d z zf M (pc + 1) L (.long (x + y) :: S) st Q) : Rn g d z zf M pc L (.long y :: .long x :: S) st Q := by
  intro p e R s m args below meth c H locs cells slots Q0 ls C E hl hr hk
  exact lv_ladd C.1 C.2.1 hd (k p e R s m args below meth c H locs cells slots Q0 ls C E hl hr hk)
theorem s_lmul {x y : Int64} (hd : decode (mcc M) pc = .ok (.lmul, 1)) (k : Rn g d z zf M (pc + 1) L (.long (x * y) :: S) st Q) : Rn g d z zf M pc L (.long y :: .long x :: S) st Q := by
  intro p e R s m args below meth c H locs cells slots Q0 ls C E hl hr hk
  exact lv_lmul C.1 C.2.1 hd (k p e R s m args below meth c H locs cells slots Q0 ls C E hl hr hk)
theorem s_land {x y : Int64} (hd : decode (mcc M) pc = .ok (.land, 1)) (k : Rn g d z zf M (pc + 1) L (.long (x &&& y) :: S) st Q) : Rn g d z zf M pc L (.long y :: .long x :: S) st Q := by
  intro p e R s m args below meth c H locs cells slots Q0 ls C E hl hr hk
  exact lv_land C.1 C.2.1 hd (k p e R s m args below meth c H locs cells slots Q0 ls C E hl hr hk)
theorem s_lor {x y : Int64} (hd : decode (mcc M) pc = .ok (.lor, 1)) (k : Rn g d z zf M (pc + 1) L (.long (x ||| y) :: S) st Q) : Rn g d z zf M pc L (.long y :: .long x :: S) st Q := by
  intro p e R s m args below meth c H locs cells slots Q0 ls C E hl hr hk
  exact lv_lor C.1 C.2.1 hd (k p e R s m args below meth c H locs cells slots Q0 ls C E hl hr hk)
theorem s_lshl {x : Int64} {y : Int32} (hd : decode (mcc M) pc = .ok (.lshl, 1)) (k : Rn g d z zf M (pc + 1) L (.long (x <<< (y.toInt64 &&& 63)) :: S) st Q) : Rn g d z zf M pc L (.int y :: .long x :: S) st Q := by
  intro p e R s m args below meth c H locs cells slots Q0 ls C E hl hr hk
  exact lv_lshl C.1 C.2.1 hd rfl (k p e R s m args below meth c H locs cells slots Q0 ls C E hl hr hk)
theorem s_i2l {x : Int32} (hd : decode (mcc M) pc = .ok (.i2l, 1)) (k : Rn g d z zf M (pc + 1) L (.long x.toInt64 :: S) st Q) : Rn g d z zf M pc L (.int x :: S) st Q := by
  intro p e R s m args below meth c H locs cells slots Q0 ls C E hl hr hk
  exact lv_i2l C.1 C.2.1 hd rfl (k p e R s m args below meth c H locs cells slots Q0 ls C E hl hr hk)
theorem s_l2i {x : Int64} (hd : decode (mcc M) pc = .ok (.l2i, 1)) (k : Rn g d z zf M (pc + 1) L (.int x.toInt32 :: S) st Q) : Rn g d z zf M pc L (.long x :: S) st Q := by
  intro p e R s m args below meth c H locs cells slots Q0 ls C E hl hr hk
  exact lv_l2i C.1 C.2.1 hd rfl (k p e R s m args below meth c H locs cells slots Q0 ls C E hl hr hk)
theorem s_i2b {x : Int32} (hd : decode (mcc M) pc = .ok (.i2b, 1)) (k : Rn g d z zf M (pc + 1) L (.int x.toInt8.toInt32 :: S) st Q) : Rn g d z zf M pc L (.int x :: S) st Q := by
  intro p e R s m args below meth c H locs cells slots Q0 ls C E hl hr hk
  exact lv_i2b C.1 C.2.1 hd rfl (k p e R s m args below meth c H locs cells slots Q0 ls C E hl hr hk)
theorem s_i2s {x : Int32} (hd : decode (mcc M) pc = .ok (.i2s, 1)) (k : Rn g d z zf M (pc + 1) L (.int x.toInt16.toInt32 :: S) st Q) : Rn g d z zf M pc L (.int x :: S) st Q := by
  intro p e R s m args below meth c H locs cells slots Q0 ls C E hl hr hk
  exact lv_i2s C.1 C.2.1 hd rfl (k p e R s m args below meth c H locs cells slots Q0 ls C E hl hr hk)
theorem s_i2c {x : Int32} (hd : decode (mcc M) pc = .ok (.i2c, 1)) (k : Rn g d z zf M (pc + 1) L (.int (x.toUInt32 % 65536).toInt32 :: S) st Q) : Rn g d z zf M pc L (.int x :: S) st Q := by
  intro p e R s m args below meth c H locs cells slots Q0 ls C E hl hr hk
  exact lv_i2c C.1 C.2.1 hd rfl (k p e R s m args below meth c H locs cells slots Q0 ls C E hl hr hk)
theorem s_lcmp {x y : Int64} (hd : decode (mcc M) pc = .ok (.lcmp, 1)) (k : Rn g d z zf M (pc + 1) L (.int (lg_cmp x y) :: S) st Q) : Rn g d z zf M pc L (.long y :: .long x :: S) st Q := by
  intro p e R s m args below meth c H locs cells slots Q0 ls C E hl hr hk
  exact W.lcmp C.1 C.2.1 hd (k p e R s m args below meth c H locs cells slots Q0 ls C E hl hr hk)
theorem s_dup {v : Value} (hd : decode (mcc M) pc = .ok (.dup, 1)) (hv : v.category = 1) (k : Rn g d z zf M (pc + 1) L (v :: v :: S) st Q) : Rn g d z zf M pc L (v :: S) st Q := by
  intro p e R s m args below meth c H locs cells slots Q0 ls C E hl hr hk
  exact lv_dup C.1 C.2.1 hd ((cv_cat g v).trans hv) (k p e R s m args below meth c H locs cells slots Q0 ls C E hl hr hk)
theorem s_pop {v : Value} (hd : decode (mcc M) pc = .ok (.pop, 1)) (hv : v.category = 1) (k : Rn g d z zf M (pc + 1) L (S) st Q) : Rn g d z zf M pc L (v :: S) st Q := by
  intro p e R s m args below meth c H locs cells slots Q0 ls C E hl hr hk
  exact lv_pop C.1 C.2.1 hd ((cv_cat g v).trans hv) (k p e R s m args below meth c H locs cells slots Q0 ls C E hl hr hk)
theorem s_dup2 {v w : Value} (hd : decode (mcc M) pc = .ok (.dup2, 1)) (hv : v.category = 1) (hw : w.category = 1) (k : Rn g d z zf M (pc + 1) L (v :: w :: v :: w :: S) st Q) : Rn g d z zf M pc L (v :: w :: S) st Q := by
  intro p e R s m args below meth c H locs cells slots Q0 ls C E hl hr hk
  exact lv_dup2_11 C.1 C.2.1 hd ((cv_cat g v).trans hv) ((cv_cat g w).trans hw) (k p e R s m args below meth c H locs cells slots Q0 ls C E hl hr hk)
theorem s_if_eq {x : Int32} {off : Int} {tgt : Nat} (hd : decode (mcc M) pc = .ok (.ifCond .eq off, 3)) (ht : (pc : Int) + off = (tgt : Int)) (kt : x = 0 → Rn g d z zf M tgt L S st Q) (kf : ¬ x = 0 → Rn g d z zf M (pc + 3) L S st Q) : Rn g d z zf M pc L (.int x :: S) st Q := by
  intro p e R s m args below meth c H locs cells slots Q0 ls C E hl hr hk
  exact lv_if_eq C.1 C.2.1 hd ht (fun q => kt q p e R s m args below meth c H locs cells slots Q0 ls C E hl hr hk) (fun q => kf q p e R s m args below meth c H locs cells slots Q0 ls C E hl hr hk)
theorem s_icmp_eq {x y : Int32} {off : Int} {tgt : Nat} (hd : decode (mcc M) pc = .ok (.if_icmp .eq off, 3)) (ht : (pc : Int) + off = (tgt : Int)) (kt : x = y → Rn g d z zf M tgt L S st Q) (kf : ¬ x = y → Rn g d z zf M (pc + 3) L S st Q) : Rn g d z zf M pc L (.int y :: .int x :: S) st Q := by
  intro p e R s m args below meth c H locs cells slots Q0 ls C E hl hr hk
  exact lv_icmp_eq C.1 C.2.1 hd ht (fun q => kt q p e R s m args below meth c H locs cells slots Q0 ls C E hl hr hk) (fun q => kf q p e R s m args below meth c H locs cells slots Q0 ls C E hl hr hk)
theorem s_if_ne {x : Int32} {off : Int} {tgt : Nat} (hd : decode (mcc M) pc = .ok (.ifCond .ne off, 3)) (ht : (pc : Int) + off = (tgt : Int)) (kt : ¬ x = 0 → Rn g d z zf M tgt L S st Q) (kf : x = 0 → Rn g d z zf M (pc + 3) L S st Q) : Rn g d z zf M pc L (.int x :: S) st Q := by
  intro p e R s m args below meth c H locs cells slots Q0 ls C E hl hr hk
  exact lv_if_ne C.1 C.2.1 hd ht (fun q => kt q p e R s m args below meth c H locs cells slots Q0 ls C E hl hr hk) (fun q => kf q p e R s m args below meth c H locs cells slots Q0 ls C E hl hr hk)
theorem s_icmp_ne {x y : Int32} {off : Int} {tgt : Nat} (hd : decode (mcc M) pc = .ok (.if_icmp .ne off, 3)) (ht : (pc : Int) + off = (tgt : Int)) (kt : ¬ x = y → Rn g d z zf M tgt L S st Q) (kf : x = y → Rn g d z zf M (pc + 3) L S st Q) : Rn g d z zf M pc L (.int y :: .int x :: S) st Q := by
  intro p e R s m args below meth c H locs cells slots Q0 ls C E hl hr hk
  exact lv_icmp_ne C.1 C.2.1 hd ht (fun q => kt q p e R s m args below meth c H locs cells slots Q0 ls C E hl hr hk) (fun q => kf q p e R s m args below meth c H locs cells slots Q0 ls C E hl hr hk)
theorem s_if_lt {x : Int32} {off : Int} {tgt : Nat} (hd : decode (mcc M) pc = .ok (.ifCond .lt off, 3)) (ht : (pc : Int) + off = (tgt : Int)) (kt : x < 0 → Rn g d z zf M tgt L S st Q) (kf : ¬ x < 0 → Rn g d z zf M (pc + 3) L S st Q) : Rn g d z zf M pc L (.int x :: S) st Q := by
  intro p e R s m args below meth c H locs cells slots Q0 ls C E hl hr hk
  exact lv_if_lt C.1 C.2.1 hd ht (fun q => kt q p e R s m args below meth c H locs cells slots Q0 ls C E hl hr hk) (fun q => kf q p e R s m args below meth c H locs cells slots Q0 ls C E hl hr hk)
theorem s_icmp_lt {x y : Int32} {off : Int} {tgt : Nat} (hd : decode (mcc M) pc = .ok (.if_icmp .lt off, 3)) (ht : (pc : Int) + off = (tgt : Int)) (kt : x < y → Rn g d z zf M tgt L S st Q) (kf : ¬ x < y → Rn g d z zf M (pc + 3) L S st Q) : Rn g d z zf M pc L (.int y :: .int x :: S) st Q := by
  intro p e R s m args below meth c H locs cells slots Q0 ls C E hl hr hk
  exact lv_icmp_lt C.1 C.2.1 hd ht (fun q => kt q p e R s m args below meth c H locs cells slots Q0 ls C E hl hr hk) (fun q => kf q p e R s m args below meth c H locs cells slots Q0 ls C E hl hr hk)
theorem s_if_ge {x : Int32} {off : Int} {tgt : Nat} (hd : decode (mcc M) pc = .ok (.ifCond .ge off, 3)) (ht : (pc : Int) + off = (tgt : Int)) (kt : 0 ≤ x → Rn g d z zf M tgt L S st Q) (kf : ¬ 0 ≤ x → Rn g d z zf M (pc + 3) L S st Q) : Rn g d z zf M pc L (.int x :: S) st Q := by
  intro p e R s m args below meth c H locs cells slots Q0 ls C E hl hr hk
  exact lv_if_ge C.1 C.2.1 hd ht (fun q => kt q p e R s m args below meth c H locs cells slots Q0 ls C E hl hr hk) (fun q => kf q p e R s m args below meth c H locs cells slots Q0 ls C E hl hr hk)
theorem s_icmp_ge {x y : Int32} {off : Int} {tgt : Nat} (hd : decode (mcc M) pc = .ok (.if_icmp .ge off, 3)) (ht : (pc : Int) + off = (tgt : Int)) (kt : y ≤ x → Rn g d z zf M tgt L S st Q) (kf : ¬ y ≤ x → Rn g d z zf M (pc + 3) L S st Q) : Rn g d z zf M pc L (.int y :: .int x :: S) st Q := by
  intro p e R s m args below meth c H locs cells slots Q0 ls C E hl hr hk
  exact lv_icmp_ge C.1 C.2.1 hd ht (fun q => kt q p e R s m args below meth c H locs cells slots Q0 ls C E hl hr hk) (fun q => kf q p e R s m args below meth c H locs cells slots Q0 ls C E hl hr hk)
theorem s_if_gt {x : Int32} {off : Int} {tgt : Nat} (hd : decode (mcc M) pc = .ok (.ifCond .gt off, 3)) (ht : (pc : Int) + off = (tgt : Int)) (kt : 0 < x → Rn g d z zf M tgt L S st Q) (kf : ¬ 0 < x → Rn g d z zf M (pc + 3) L S st Q) : Rn g d z zf M pc L (.int x :: S) st Q := by
  intro p e R s m args below meth c H locs cells slots Q0 ls C E hl hr hk
  exact lv_if_gt C.1 C.2.1 hd ht (fun q => kt q p e R s m args below meth c H locs cells slots Q0 ls C E hl hr hk) (fun q => kf q p e R s m args below meth c H locs cells slots Q0 ls C E hl hr hk)
theorem s_icmp_gt {x y : Int32} {off : Int} {tgt : Nat} (hd : decode (mcc M) pc = .ok (.if_icmp .gt off, 3)) (ht : (pc : Int) + off = (tgt : Int)) (kt : y < x → Rn g d z zf M tgt L S st Q) (kf : ¬ y < x → Rn g d z zf M (pc + 3) L S st Q) : Rn g d z zf M pc L (.int y :: .int x :: S) st Q := by
  intro p e R s m args below meth c H locs cells slots Q0 ls C E hl hr hk
  exact lv_icmp_gt C.1 C.2.1 hd ht (fun q => kt q p e R s m args below meth c H locs cells slots Q0 ls C E hl hr hk) (fun q => kf q p e R s m args below meth c H locs cells slots Q0 ls C E hl hr hk)
theorem s_if_le {x : Int32} {off : Int} {tgt : Nat} (hd : decode (mcc M) pc = .ok (.ifCond .le off, 3)) (ht : (pc : Int) + off = (tgt : Int)) (kt : x ≤ 0 → Rn g d z zf M tgt L S st Q) (kf : ¬ x ≤ 0 → Rn g d z zf M (pc + 3) L S st Q) : Rn g d z zf M pc L (.int x :: S) st Q := by
  intro p e R s m args below meth c H locs cells slots Q0 ls C E hl hr hk
  exact lv_if_le C.1 C.2.1 hd ht (fun q => kt q p e R s m args below meth c H locs cells slots Q0 ls C E hl hr hk) (fun q => kf q p e R s m args below meth c H locs cells slots Q0 ls C E hl hr hk)
theorem s_icmp_le {x y : Int32} {off : Int} {tgt : Nat} (hd : decode (mcc M) pc = .ok (.if_icmp .le off, 3)) (ht : (pc : Int) + off = (tgt : Int)) (kt : x ≤ y → Rn g d z zf M tgt L S st Q) (kf : ¬ x ≤ y → Rn g d z zf M (pc + 3) L S st Q) : Rn g d z zf M pc L (.int y :: .int x :: S) st Q := by
  intro p e R s m args below meth c H locs cells slots Q0 ls C E hl hr hk
  exact lv_icmp_le C.1 C.2.1 hd ht (fun q => kt q p e R s m args below meth c H locs cells slots Q0 ls C E hl hr hk) (fun q => kf q p e R s m args below meth c H locs cells slots Q0 ls C E hl hr hk)
theorem s_goto {off : Int} {tgt : Nat} (hd : decode (mcc M) pc = .ok (.goto off, 3)) (ht : (pc : Int) + off = (tgt : Int)) (k : Rn g d z zf M tgt L S st Q) : Rn g d z zf M pc L S st Q := by
  intro p e R s m args below meth c H locs cells slots Q0 ls C E hl hr hk
  exact lv_goto C.1 C.2.1 hd ht (k p e R s m args below meth c H locs cells slots Q0 ls C E hl hr hk)
theorem s_tin {dflt lo hi : Int} {offs : Array Int} {len : Nat} {x : Int32} {off : Int} {tgt : Nat} (hd : decode (mcc M) pc = .ok (.tableswitch dflt lo hi offs, len)) (h1 : ¬ x.toInt < lo) (h2 : ¬ hi < x.toInt) (ho : offs[(x.toInt - lo).toNat]? = some off) (ht : (pc : Int) + off = (tgt : Int)) (k : Rn g d z zf M tgt L S st Q) : Rn g d z zf M pc L (.int x :: S) st Q := by
  intro p e R s m args below meth c H locs cells slots Q0 ls C E hl hr hk
  exact lv_tableIn C.1 C.2.1 hd h1 h2 ho ht (k p e R s m args below meth c H locs cells slots Q0 ls C E hl hr hk)
theorem s_tout {dflt lo hi : Int} {offs : Array Int} {len : Nat} {x : Int32} {tgt : Nat} (hd : decode (mcc M) pc = .ok (.tableswitch dflt lo hi offs, len)) (h : x.toInt < lo ∨ hi < x.toInt) (ht : (pc : Int) + dflt = (tgt : Int)) (k : Rn g d z zf M tgt L S st Q) : Rn g d z zf M pc L (.int x :: S) st Q := by
  intro p e R s m args below meth c H locs cells slots Q0 ls C E hl hr hk
  exact lv_tableOut C.1 C.2.1 hd h ht (k p e R s m args below meth c H locs cells slots Q0 ls C E hl hr hk)
theorem s_lsw {dflt : Int} {ps : Array (Int × Int)} {len : Nat} {x : Int32} {off : Int} {tgt : Nat} (hd : decode (mcc M) pc = .ok (.lookupswitch dflt ps, len)) (hp : (ps.toList.zip (ps.toList.drop 1)).all (fun (a, next) => a.1 < next.1) = true) (ho : Op.lookupswitch.offset ps.toList dflt x.toInt = off) (ht : (pc : Int) + off = (tgt : Int)) (k : Rn g d z zf M tgt L S st Q) : Rn g d z zf M pc L (.int x :: S) st Q := by
  intro p e R s m args below meth c H locs cells slots Q0 ls C E hl hr hk
  exact lv_lookup C.1 C.2.1 hd hp ho ht (k p e R s m args below meth c H locs cells slots Q0 ls C E hl hr hk)
theorem s_ldc {index : Nat} {v : Int32} (hd : decode (mcc M) pc = .ok (.ldc index, 2)) (hw : Cond.constant (my M).cls index v ∈ gwl) (k : Rn g d z zf M (pc + 2) L (.int v :: S) st Q) : Rn g d z zf M pc L S st Q := by
  intro p e R s m args below meth c H locs cells slots Q0 ls C E hl hr hk
  exact lv_ldc C.1 C.2.1 C.2.2.2.1 (C.2.2.2.2.1 _ hw) hd (k p e R s m args below meth c H locs cells slots Q0 ls C E hl hr hk)
theorem s_ldcw {index : Nat} {v : Int32} (hd : decode (mcc M) pc = .ok (.ldc_w index, 3)) (hw : Cond.constant (my M).cls index v ∈ gwl) (k : Rn g d z zf M (pc + 3) L (.int v :: S) st Q) : Rn g d z zf M pc L S st Q := by
  intro p e R s m args below meth c H locs cells slots Q0 ls C E hl hr hk
  exact lv_ldcw C.1 C.2.1 C.2.2.2.1 (C.2.2.2.2.1 _ hw) hd (k p e R s m args below meth c H locs cells slots Q0 ls C E hl hr hk)
theorem s_ldc2 {index : Nat} {v : Int64} (hd : decode (mcc M) pc = .ok (.ldc2_w index, 3)) (hw : Cond.constantLong (my M).cls index v ∈ gwl) (k : Rn g d z zf M (pc + 3) L (.long v :: S) st Q) : Rn g d z zf M pc L S st Q := by
  intro p e R s m args below meth c H locs cells slots Q0 ls C E hl hr hk
  exact lv_ldc2 C.1 C.2.1 C.2.2.2.1 (C.2.2.2.2.1 _ hw) hd (k p e R s m args below meth c H locs cells slots Q0 ls C E hl hr hk)
/-- a postcondition may be weakened; a place among the locals may be forgotten; more depth may be there -/
theorem Rn.cq {Q' : Option Value → St → Prop} (h : Rn g d z zf M pc L S st Q) (hq : ∀ rv st', Q rv st' → Q' rv st') : Rn g d z zf M pc L S st Q' := by
  intro p e R s m args below meth c H locs cells slots Q0 ls C E hl hr hk
  exact h p e R s m args below meth c H locs cells slots Q0 ls C E hl hr (fun rv st' H' locs' cells' slots' pc' ls' hQ => hk rv st' H' locs' cells' slots' pc' ls' (hq rv st' hQ))
theorem Rn.lc {L' : List (Option Value)} (h : Rn g d z zf M pc L' S st Q) (hL : ∀ (i : Nat) (v : Value), L'[i]? = some (some v) → L[i]? = some (some v)) : Rn g d z zf M pc L S st Q := by
  intro p e R s m args below meth c H locs cells slots Q0 ls C E hl hr hk
  exact h p e R s m args below meth c H locs cells slots Q0 ls C E ⟨hl.1, hl.2.1, fun i v hv => hl.2.2 i v (hL i v hv)⟩ hr hk
theorem Rn.dp {d' : Nat} (h : Rn g d z zf M pc L S st Q) (hd : d ≤ d') : Rn g d' z zf M pc L S st Q := by
  intro p e R s m args below meth c H locs cells slots Q0 ls C E hl hr hk
  refine h p e R s m args below meth c H locs cells slots Q0 ls C E hl ⟨Nat.le_trans hd hr.1, Nat.le_trans (Nat.mul_le_mul_right 64 hd) hr.2.1, hr.2.2⟩ hk
theorem lc_b {L L' : List (Option Value)} (h : L'.length ≤ L.length) (hh : ∀ i, i < L'.length → L'[i]? = some none ∨ L'[i]? = L[i]?) : ∀ (i : Nat) (v : Value), L'[i]? = some (some v) → L[i]? = some (some v) := by
  intro i v hv
  have hi : i < L'.length := (List.getElem?_eq_some_iff.mp hv).1
  rcases hh i hi with e | e
  · rw [hv] at e; cases e
  · rw [← e]; exact hv
end CALC2
end
section
theorem gw_at (i : Nat) {w : Cond} (h : lw_tbl[i]? = some w) (hg : goodWord w = true) : w ∈ gwl := List.mem_filter.mpr ⟨List.mem_of_getElem? h, hg⟩
theorem nw_at (i : Nat) {w : Cond} (h : lw_tbl[i]? = some w) (hg : isNst w = true) : w ∈ nwl := List.mem_filter.mpr ⟨List.mem_of_getElem? h, hg⟩
theorem gw_ps (ws : List Cond) (ps : List Nat) (hp : ws = ps.filterMap (fun i => lw_tbl[i]?)) (h : ws.all goodWord = true) : ∀ w ∈ ws, w ∈ gwl := by
  intro w hw
  have h1 := List.all_eq_true.mp h w hw
  rw [hp] at hw
  obtain ⟨i, -, hi⟩ := List.mem_filterMap.mp hw
  exact gw_at i hi h1
def clR (ci : Nat) : String := match ci with
  | 0 => RX0
  | 1 => RX1
  | 2 => RX2
  | 3 => RX3
  | 4 => RX4
  | 5 => RX5
  | 6 => RX6
  | 7 => RX7
  | _ => RX8
def clT (ci : Nat) : u_T := match ci with
  | 0 => TX0
  | 1 => TX1
  | 2 => TX2
  | 3 => TX3
  | 4 => TX4
  | 5 => TX5
  | 6 => TX6
  | 7 => TX7
  | _ => TX8
def clN (ci : Nat) : Nat := match ci with
  | 0 => 4
  | 1 => 6
  | 2 => 9
  | 3 => 6
  | 4 => 4
  | 5 => 5
  | 6 => 4
  | 7 => 13
  | _ => 53
theorem cl_at {ci : Nat} (h : ci < 9) : vwCl[ci]? = some (clR ci, clT ci, clN ci) := by
  match ci, h with
  | 0, _ => rfl
  | 1, _ => rfl
  | 2, _ => rfl
  | 3, _ => rfl
  | 4, _ => rfl
  | 5, _ => rfl
  | 6, _ => rfl
  | 7, _ => rfl
  | 8, _ => rfl
theorem cf_ty {ci : Nat} (h : ci < 9) : ∀ k, k < clN ci → parseFieldDescriptor (clT ci k).2.2.1 = some (fTy ci k) := by
  match ci, h with
  | 0, _ => exact tyX0_ok
  | 1, _ => exact tyX1_ok
  | 2, _ => exact tyX2_ok
  | 3, _ => exact tyX3_ok
  | 4, _ => exact tyX4_ok
  | 5, _ => exact tyX5_ok
  | 6, _ => exact tyX6_ok
  | 7, _ => exact tyX7_ok
  | 8, _ => exact tyX8_ok
theorem cf_nm {ci : Nat} (h : ci < 9) : ∀ a, a < clN ci → ∀ b, b < clN ci → a ≠ b → (clT ci a).2.1 ≠ (clT ci b).2.1 := by
  match ci, h with
  | 0, _ => exact nmX0
  | 1, _ => exact nmX1
  | 2, _ => exact nmX2
  | 3, _ => exact nmX3
  | 4, _ => exact nmX4
  | 5, _ => exact nmX5
  | 6, _ => exact nmX6
  | 7, _ => exact nmX7
  | 8, _ => exact nmX8
theorem inGX0 : ∀ w ∈ wsX00, w ∈ gwl := gw_ps _ [228, 230, 232, 234] (by decide +kernel) (by decide +kernel)
theorem inGX1 : ∀ w ∈ wsX10, w ∈ gwl := gw_ps _ [201, 203, 205, 207, 209, 211] (by decide +kernel) (by decide +kernel)
theorem inGX2 : ∀ w ∈ wsX20, w ∈ gwl := gw_ps _ [164, 166, 168, 170, 172, 174, 176, 178, 180] (by decide +kernel) (by decide +kernel)
theorem inGX3 : ∀ w ∈ wsX30, w ∈ gwl := gw_ps _ [258, 260, 262, 264, 266, 268] (by decide +kernel) (by decide +kernel)
theorem inGX4 : ∀ w ∈ wsX40, w ∈ gwl := gw_ps _ [276, 278, 280, 282] (by decide +kernel) (by decide +kernel)
theorem inGX5 : ∀ w ∈ wsX50, w ∈ gwl := gw_ps _ [129, 131, 133, 135, 137] (by decide +kernel) (by decide +kernel)
theorem inGX6 : ∀ w ∈ wsX60, w ∈ gwl := gw_ps _ [302, 304, 306, 308] (by decide +kernel) (by decide +kernel)
theorem inGX7 : ∀ w ∈ wsX70, w ∈ gwl := gw_ps _ [325, 327, 329, 331, 333, 335, 337, 339, 341, 343, 345, 347, 349] (by decide +kernel) (by decide +kernel)
theorem inGX8 : ∀ w ∈ wsX80, w ∈ gwl := gw_ps _ [978, 980, 982, 984, 986, 988, 990, 992, 994, 996, 998, 1000, 1002, 1004, 1006, 1008, 1010, 1012, 1014, 1016, 1018, 1020, 1022, 1024, 1026, 1028, 1030, 1032, 1034, 1036, 1038, 1040, 1042, 1044, 1046, 1048, 1050, 1052, 1054, 1056, 1058, 1060, 1062, 1064, 1066, 1068, 1070, 1072, 1074, 1076, 1078, 1080, 1082] (by decide +kernel) (by decide +kernel)
theorem cf_in {ci : Nat} (h : ci < 9) : ∀ w ∈ u_ws (clR ci) (clT ci) (clN ci), w ∈ gwl := by
  match ci, h with
  | 0, _ => exact inGX0
  | 1, _ => exact inGX1
  | 2, _ => exact inGX2
  | 3, _ => exact inGX3
  | 4, _ => exact inGX4
  | 5, _ => exact inGX5
  | 6, _ => exact inGX6
  | 7, _ => exact inGX7
  | 8, _ => exact inGX8
theorem kd_ok : ∀ o, o < kdL.length → (kd o).1 = 0 → (kd o).2.1 < 9 ∧ clN (kd o).2.1 = (kd o).2.2 := by decide +kernel
theorem kd_lt {o a b c : Nat} (h : kd o = (a, b, c)) (ha : a < 9) : o < kdL.length := by
  rcases Nat.lt_or_ge o kdL.length with q | q
  · exact q
  · have : kd o = (9, 0, 0) := by unfold kd; rw [List.getD_eq_getElem?_getD, List.getElem?_eq_none q]; rfl
    rw [this] at h; cases h; omega
theorem kd_len : kdL.length = 93 := rfl
theorem kd_1000 {o a b c : Nat} (h : kd o = (a, b, c)) (ha : a < 9) : o < 1000 := by have := kd_lt h ha; rw [kd_len] at this; omega
theorem kd_cls {o ci n : Nat} (h : kd o = (0, ci, n)) : ci < 9 ∧ clN ci = n := by
  have := kd_ok o (kd_lt h (by omega)) (by rw [h])
  rw [h] at this
  exact this
/-- a field's link: in the class own, under the number idx, field j of class ci -/
def Fl (own : String) (idx ci j : Nat) : Prop := ci < 9 ∧ j < clN ci ∧ (clT ci j).1 = clR ci ∧ (Cond.fieldLink own idx (clR ci) (clT ci j).2.1 (clT ci j).2.2.1 ∈ gwl ∨ ∃ host, Cond.fieldLinkNest own idx (clR ci) (clT ci j).2.1 (clT ci j).2.2.1 host ∈ nwl)
theorem fl_X7_10 : Fl RX7 10 7 0 := ⟨by decide, by decide, rfl, Or.inl (gw_at 312 (by decide +kernel) (by decide +kernel))⟩
theorem fl_X7_16 : Fl RX7 16 7 1 := ⟨by decide, by decide, rfl, Or.inl (gw_at 313 (by decide +kernel) (by decide +kernel))⟩
theorem fl_X7_19 : Fl RX7 19 7 2 := ⟨by decide, by decide, rfl, Or.inl (gw_at 314 (by decide +kernel) (by decide +kernel))⟩
theorem fl_X7_25 : Fl RX7 25 7 3 := ⟨by decide, by decide, rfl, Or.inl (gw_at 315 (by decide +kernel) (by decide +kernel))⟩
theorem fl_X7_32 : Fl RX7 32 7 4 := ⟨by decide, by decide, rfl, Or.inl (gw_at 316 (by decide +kernel) (by decide +kernel))⟩
theorem fl_X7_39 : Fl RX7 39 7 5 := ⟨by decide, by decide, rfl, Or.inl (gw_at 317 (by decide +kernel) (by decide +kernel))⟩
theorem fl_X7_45 : Fl RX7 45 7 6 := ⟨by decide, by decide, rfl, Or.inl (gw_at 318 (by decide +kernel) (by decide +kernel))⟩
theorem fl_X7_49 : Fl RX7 49 7 7 := ⟨by decide, by decide, rfl, Or.inl (gw_at 319 (by decide +kernel) (by decide +kernel))⟩
theorem fl_X7_53 : Fl RX7 53 7 8 := ⟨by decide, by decide, rfl, Or.inl (gw_at 320 (by decide +kernel) (by decide +kernel))⟩
theorem fl_X7_59 : Fl RX7 59 7 9 := ⟨by decide, by decide, rfl, Or.inl (gw_at 321 (by decide +kernel) (by decide +kernel))⟩
theorem fl_X7_66 : Fl RX7 66 7 10 := ⟨by decide, by decide, rfl, Or.inl (gw_at 322 (by decide +kernel) (by decide +kernel))⟩
theorem fl_X7_75 : Fl RX7 75 5 0 := ⟨by decide, by decide, rfl, Or.inr ⟨_, nw_at (w := Cond.fieldLinkNest RX7 75 (clR 5) (clT 5 0).2.1 (clT 5 0).2.2.1 "SkinOfTeeth") 118 (by decide +kernel) (by decide +kernel)⟩⟩
theorem fl_X7_83 : Fl RX7 83 5 2 := ⟨by decide, by decide, rfl, Or.inr ⟨_, nw_at (w := Cond.fieldLinkNest RX7 83 (clR 5) (clT 5 2).2.1 (clT 5 2).2.2.1 "SkinOfTeeth") 123 (by decide +kernel) (by decide +kernel)⟩⟩
theorem fl_X7_90 : Fl RX7 90 6 0 := ⟨by decide, by decide, rfl, Or.inr ⟨_, nw_at (w := Cond.fieldLinkNest RX7 90 (clR 6) (clT 6 0).2.1 (clT 6 0).2.2.1 "SkinOfTeeth") 293 (by decide +kernel) (by decide +kernel)⟩⟩
theorem fl_X7_101 : Fl RX7 101 6 1 := ⟨by decide, by decide, rfl, Or.inr ⟨_, nw_at (w := Cond.fieldLinkNest RX7 101 (clR 6) (clT 6 1).2.1 (clT 6 1).2.2.1 "SkinOfTeeth") 296 (by decide +kernel) (by decide +kernel)⟩⟩
theorem fl_X7_104 : Fl RX7 104 6 3 := ⟨by decide, by decide, rfl, Or.inr ⟨_, nw_at (w := Cond.fieldLinkNest RX7 104 (clR 6) (clT 6 3).2.1 (clT 6 3).2.2.1 "SkinOfTeeth") 300 (by decide +kernel) (by decide +kernel)⟩⟩
theorem fl_X7_129 : Fl RX7 129 5 3 := ⟨by decide, by decide, rfl, Or.inr ⟨_, nw_at (w := Cond.fieldLinkNest RX7 129 (clR 5) (clT 5 3).2.1 (clT 5 3).2.2.1 "SkinOfTeeth") 125 (by decide +kernel) (by decide +kernel)⟩⟩
theorem fl_X7_132 : Fl RX7 132 7 11 := ⟨by decide, by decide, rfl, Or.inl (gw_at 323 (by decide +kernel) (by decide +kernel))⟩
theorem fl_X7_135 : Fl RX7 135 5 1 := ⟨by decide, by decide, rfl, Or.inr ⟨_, nw_at (w := Cond.fieldLinkNest RX7 135 (clR 5) (clT 5 1).2.1 (clT 5 1).2.2.1 "SkinOfTeeth") 121 (by decide +kernel) (by decide +kernel)⟩⟩
theorem fl_X7_141 : Fl RX7 141 5 4 := ⟨by decide, by decide, rfl, Or.inr ⟨_, nw_at (w := Cond.fieldLinkNest RX7 141 (clR 5) (clT 5 4).2.1 (clT 5 4).2.2.1 "SkinOfTeeth") 128 (by decide +kernel) (by decide +kernel)⟩⟩
theorem fl_X7_151 : Fl RX7 151 4 1 := ⟨by decide, by decide, rfl, Or.inr ⟨_, nw_at (w := Cond.fieldLinkNest RX7 151 (clR 4) (clT 4 1).2.1 (clT 4 1).2.2.1 "SkinOfTeeth") 273 (by decide +kernel) (by decide +kernel)⟩⟩
theorem fl_X7_169 : Fl RX7 169 2 0 := ⟨by decide, by decide, rfl, Or.inr ⟨_, nw_at (w := Cond.fieldLinkNest RX7 169 (clR 2) (clT 2 0).2.1 (clT 2 0).2.2.1 "SkinOfTeeth") 150 (by decide +kernel) (by decide +kernel)⟩⟩
theorem fl_X7_172 : Fl RX7 172 2 4 := ⟨by decide, by decide, rfl, Or.inr ⟨_, nw_at (w := Cond.fieldLinkNest RX7 172 (clR 2) (clT 2 4).2.1 (clT 2 4).2.2.1 "SkinOfTeeth") 155 (by decide +kernel) (by decide +kernel)⟩⟩
theorem fl_X7_178 : Fl RX7 178 2 8 := ⟨by decide, by decide, rfl, Or.inr ⟨_, nw_at (w := Cond.fieldLinkNest RX7 178 (clR 2) (clT 2 8).2.1 (clT 2 8).2.2.1 "SkinOfTeeth") 163 (by decide +kernel) (by decide +kernel)⟩⟩
theorem fl_X7_187 : Fl RX7 187 2 6 := ⟨by decide, by decide, rfl, Or.inr ⟨_, nw_at (w := Cond.fieldLinkNest RX7 187 (clR 2) (clT 2 6).2.1 (clT 2 6).2.2.1 "SkinOfTeeth") 159 (by decide +kernel) (by decide +kernel)⟩⟩
theorem fl_X7_190 : Fl RX7 190 2 7 := ⟨by decide, by decide, rfl, Or.inr ⟨_, nw_at (w := Cond.fieldLinkNest RX7 190 (clR 2) (clT 2 7).2.1 (clT 2 7).2.2.1 "SkinOfTeeth") 161 (by decide +kernel) (by decide +kernel)⟩⟩
theorem fl_X7_207 : Fl RX7 207 2 5 := ⟨by decide, by decide, rfl, Or.inr ⟨_, nw_at (w := Cond.fieldLinkNest RX7 207 (clR 2) (clT 2 5).2.1 (clT 2 5).2.2.1 "SkinOfTeeth") 157 (by decide +kernel) (by decide +kernel)⟩⟩
theorem fl_X7_273 : Fl RX7 273 7 12 := ⟨by decide, by decide, rfl, Or.inl (gw_at 324 (by decide +kernel) (by decide +kernel))⟩
theorem fl_X7_280 : Fl RX7 280 1 0 := ⟨by decide, by decide, rfl, Or.inr ⟨_, nw_at (w := Cond.fieldLinkNest RX7 280 (clR 1) (clT 1 0).2.1 (clT 1 0).2.2.1 "SkinOfTeeth") 190 (by decide +kernel) (by decide +kernel)⟩⟩
theorem fl_X7_283 : Fl RX7 283 1 2 := ⟨by decide, by decide, rfl, Or.inr ⟨_, nw_at (w := Cond.fieldLinkNest RX7 283 (clR 1) (clT 1 2).2.1 (clT 1 2).2.2.1 "SkinOfTeeth") 194 (by decide +kernel) (by decide +kernel)⟩⟩
theorem fl_X7_286 : Fl RX7 286 1 3 := ⟨by decide, by decide, rfl, Or.inr ⟨_, nw_at (w := Cond.fieldLinkNest RX7 286 (clR 1) (clT 1 3).2.1 (clT 1 3).2.2.1 "SkinOfTeeth") 196 (by decide +kernel) (by decide +kernel)⟩⟩
theorem fl_X7_289 : Fl RX7 289 1 4 := ⟨by decide, by decide, rfl, Or.inr ⟨_, nw_at (w := Cond.fieldLinkNest RX7 289 (clR 1) (clT 1 4).2.1 (clT 1 4).2.2.1 "SkinOfTeeth") 198 (by decide +kernel) (by decide +kernel)⟩⟩
theorem fl_X7_292 : Fl RX7 292 1 1 := ⟨by decide, by decide, rfl, Or.inr ⟨_, nw_at (w := Cond.fieldLinkNest RX7 292 (clR 1) (clT 1 1).2.1 (clT 1 1).2.2.1 "SkinOfTeeth") 192 (by decide +kernel) (by decide +kernel)⟩⟩
theorem fl_X7_295 : Fl RX7 295 1 5 := ⟨by decide, by decide, rfl, Or.inr ⟨_, nw_at (w := Cond.fieldLinkNest RX7 295 (clR 1) (clT 1 5).2.1 (clT 1 5).2.2.1 "SkinOfTeeth") 200 (by decide +kernel) (by decide +kernel)⟩⟩
theorem fl_X7_308 : Fl RX7 308 0 3 := ⟨by decide, by decide, rfl, Or.inr ⟨_, nw_at (w := Cond.fieldLinkNest RX7 308 (clR 0) (clT 0 3).2.1 (clT 0 3).2.2.1 "SkinOfTeeth") 227 (by decide +kernel) (by decide +kernel)⟩⟩
theorem fl_X7_311 : Fl RX7 311 0 0 := ⟨by decide, by decide, rfl, Or.inr ⟨_, nw_at (w := Cond.fieldLinkNest RX7 311 (clR 0) (clT 0 0).2.1 (clT 0 0).2.2.1 "SkinOfTeeth") 221 (by decide +kernel) (by decide +kernel)⟩⟩
theorem fl_X7_314 : Fl RX7 314 6 2 := ⟨by decide, by decide, rfl, Or.inr ⟨_, nw_at (w := Cond.fieldLinkNest RX7 314 (clR 6) (clT 6 2).2.1 (clT 6 2).2.2.1 "SkinOfTeeth") 297 (by decide +kernel) (by decide +kernel)⟩⟩
theorem fl_X7_335 : Fl RX7 335 0 1 := ⟨by decide, by decide, rfl, Or.inr ⟨_, nw_at (w := Cond.fieldLinkNest RX7 335 (clR 0) (clT 0 1).2.1 (clT 0 1).2.2.1 "SkinOfTeeth") 223 (by decide +kernel) (by decide +kernel)⟩⟩
theorem fl_X7_344 : Fl RX7 344 0 2 := ⟨by decide, by decide, rfl, Or.inr ⟨_, nw_at (w := Cond.fieldLinkNest RX7 344 (clR 0) (clT 0 2).2.1 (clT 0 2).2.2.1 "SkinOfTeeth") 225 (by decide +kernel) (by decide +kernel)⟩⟩
theorem fl_X0_11 : Fl RX0 11 0 1 := ⟨by decide, by decide, rfl, Or.inl (gw_at 222 (by decide +kernel) (by decide +kernel))⟩
theorem fl_X0_15 : Fl RX0 15 0 3 := ⟨by decide, by decide, rfl, Or.inl (gw_at 226 (by decide +kernel) (by decide +kernel))⟩
theorem fl_X0_18 : Fl RX0 18 0 0 := ⟨by decide, by decide, rfl, Or.inl (gw_at 220 (by decide +kernel) (by decide +kernel))⟩
theorem fl_X0_25 : Fl RX0 25 0 2 := ⟨by decide, by decide, rfl, Or.inl (gw_at 224 (by decide +kernel) (by decide +kernel))⟩
theorem fl_X1_9 : Fl RX1 9 1 2 := ⟨by decide, by decide, rfl, Or.inl (gw_at 193 (by decide +kernel) (by decide +kernel))⟩
theorem fl_X1_13 : Fl RX1 13 1 3 := ⟨by decide, by decide, rfl, Or.inl (gw_at 195 (by decide +kernel) (by decide +kernel))⟩
theorem fl_X1_16 : Fl RX1 16 1 4 := ⟨by decide, by decide, rfl, Or.inl (gw_at 197 (by decide +kernel) (by decide +kernel))⟩
theorem fl_X1_19 : Fl RX1 19 1 5 := ⟨by decide, by decide, rfl, Or.inl (gw_at 199 (by decide +kernel) (by decide +kernel))⟩
theorem fl_X1_22 : Fl RX1 22 1 0 := ⟨by decide, by decide, rfl, Or.inl (gw_at 189 (by decide +kernel) (by decide +kernel))⟩
theorem fl_X1_29 : Fl RX1 29 1 1 := ⟨by decide, by decide, rfl, Or.inl (gw_at 191 (by decide +kernel) (by decide +kernel))⟩
theorem fl_X2_11 : Fl RX2 11 2 1 := ⟨by decide, by decide, rfl, Or.inl (gw_at 151 (by decide +kernel) (by decide +kernel))⟩
theorem fl_X2_15 : Fl RX2 15 2 2 := ⟨by decide, by decide, rfl, Or.inl (gw_at 152 (by decide +kernel) (by decide +kernel))⟩
theorem fl_X2_18 : Fl RX2 18 2 3 := ⟨by decide, by decide, rfl, Or.inl (gw_at 153 (by decide +kernel) (by decide +kernel))⟩
theorem fl_X2_24 : Fl RX2 24 2 4 := ⟨by decide, by decide, rfl, Or.inl (gw_at 154 (by decide +kernel) (by decide +kernel))⟩
theorem fl_X2_28 : Fl RX2 28 2 5 := ⟨by decide, by decide, rfl, Or.inl (gw_at 156 (by decide +kernel) (by decide +kernel))⟩
theorem fl_X2_31 : Fl RX2 31 2 0 := ⟨by decide, by decide, rfl, Or.inl (gw_at 149 (by decide +kernel) (by decide +kernel))⟩
theorem fl_X2_35 : Fl RX2 35 6 1 := ⟨by decide, by decide, rfl, Or.inr ⟨_, nw_at (w := Cond.fieldLinkNest RX2 35 (clR 6) (clT 6 1).2.1 (clT 6 1).2.2.1 "SkinOfTeeth") 295 (by decide +kernel) (by decide +kernel)⟩⟩
theorem fl_X2_40 : Fl RX2 40 6 3 := ⟨by decide, by decide, rfl, Or.inr ⟨_, nw_at (w := Cond.fieldLinkNest RX2 40 (clR 6) (clT 6 3).2.1 (clT 6 3).2.2.1 "SkinOfTeeth") 299 (by decide +kernel) (by decide +kernel)⟩⟩
theorem fl_X2_52 : Fl RX2 52 2 6 := ⟨by decide, by decide, rfl, Or.inl (gw_at 158 (by decide +kernel) (by decide +kernel))⟩
theorem fl_X2_55 : Fl RX2 55 2 7 := ⟨by decide, by decide, rfl, Or.inl (gw_at 160 (by decide +kernel) (by decide +kernel))⟩
theorem fl_X2_58 : Fl RX2 58 2 8 := ⟨by decide, by decide, rfl, Or.inl (gw_at 162 (by decide +kernel) (by decide +kernel))⟩
theorem fl_X2_77 : Fl RX2 77 5 0 := ⟨by decide, by decide, rfl, Or.inr ⟨_, nw_at (w := Cond.fieldLinkNest RX2 77 (clR 5) (clT 5 0).2.1 (clT 5 0).2.2.1 "SkinOfTeeth") 119 (by decide +kernel) (by decide +kernel)⟩⟩
theorem fl_X3_11 : Fl RX3 11 3 0 := ⟨by decide, by decide, rfl, Or.inl (gw_at 251 (by decide +kernel) (by decide +kernel))⟩
theorem fl_X3_15 : Fl RX3 15 3 1 := ⟨by decide, by decide, rfl, Or.inl (gw_at 252 (by decide +kernel) (by decide +kernel))⟩
theorem fl_X3_18 : Fl RX3 18 3 2 := ⟨by decide, by decide, rfl, Or.inl (gw_at 253 (by decide +kernel) (by decide +kernel))⟩
theorem fl_X3_21 : Fl RX3 21 3 3 := ⟨by decide, by decide, rfl, Or.inl (gw_at 254 (by decide +kernel) (by decide +kernel))⟩
theorem fl_X3_24 : Fl RX3 24 3 4 := ⟨by decide, by decide, rfl, Or.inl (gw_at 255 (by decide +kernel) (by decide +kernel))⟩
theorem fl_X3_28 : Fl RX3 28 5 4 := ⟨by decide, by decide, rfl, Or.inr ⟨_, nw_at (w := Cond.fieldLinkNest RX3 28 (clR 5) (clT 5 4).2.1 (clT 5 4).2.2.1 "SkinOfTeeth") 127 (by decide +kernel) (by decide +kernel)⟩⟩
theorem fl_X3_54 : Fl RX3 54 3 5 := ⟨by decide, by decide, rfl, Or.inl (gw_at 257 (by decide +kernel) (by decide +kernel))⟩
theorem fl_X4_9 : Fl RX4 9 4 0 := ⟨by decide, by decide, rfl, Or.inl (gw_at 271 (by decide +kernel) (by decide +kernel))⟩
theorem fl_X4_18 : Fl RX4 18 4 2 := ⟨by decide, by decide, rfl, Or.inl (gw_at 274 (by decide +kernel) (by decide +kernel))⟩
theorem fl_X4_22 : Fl RX4 22 4 1 := ⟨by decide, by decide, rfl, Or.inl (gw_at 272 (by decide +kernel) (by decide +kernel))⟩
theorem fl_X4_26 : Fl RX4 26 3 4 := ⟨by decide, by decide, rfl, Or.inr ⟨_, nw_at (w := Cond.fieldLinkNest RX4 26 (clR 3) (clT 3 4).2.1 (clT 3 4).2.2.1 "SkinOfTeeth") 256 (by decide +kernel) (by decide +kernel)⟩⟩
theorem fl_X4_29 : Fl RX4 29 4 3 := ⟨by decide, by decide, rfl, Or.inl (gw_at 275 (by decide +kernel) (by decide +kernel))⟩
theorem fl_X5_9 : Fl RX5 9 5 1 := ⟨by decide, by decide, rfl, Or.inl (gw_at 120 (by decide +kernel) (by decide +kernel))⟩
theorem fl_X5_15 : Fl RX5 15 5 2 := ⟨by decide, by decide, rfl, Or.inl (gw_at 122 (by decide +kernel) (by decide +kernel))⟩
theorem fl_X5_19 : Fl RX5 19 5 3 := ⟨by decide, by decide, rfl, Or.inl (gw_at 124 (by decide +kernel) (by decide +kernel))⟩
theorem fl_X5_22 : Fl RX5 22 5 4 := ⟨by decide, by decide, rfl, Or.inl (gw_at 126 (by decide +kernel) (by decide +kernel))⟩
theorem fl_X5_25 : Fl RX5 25 5 0 := ⟨by decide, by decide, rfl, Or.inl (gw_at 117 (by decide +kernel) (by decide +kernel))⟩
theorem fl_X5_50 : Fl RX5 50 6 3 := ⟨by decide, by decide, rfl, Or.inr ⟨_, nw_at (w := Cond.fieldLinkNest RX5 50 (clR 6) (clT 6 3).2.1 (clT 6 3).2.2.1 "SkinOfTeeth") 301 (by decide +kernel) (by decide +kernel)⟩⟩
theorem fl_X6_9 : Fl RX6 9 6 0 := ⟨by decide, by decide, rfl, Or.inl (gw_at 292 (by decide +kernel) (by decide +kernel))⟩
theorem fl_X6_13 : Fl RX6 13 6 3 := ⟨by decide, by decide, rfl, Or.inl (gw_at 298 (by decide +kernel) (by decide +kernel))⟩
theorem fl_X6_17 : Fl RX6 17 6 1 := ⟨by decide, by decide, rfl, Or.inl (gw_at 294 (by decide +kernel) (by decide +kernel))⟩
theorem fl_X8_7 : Fl RX8 7 8 2 := ⟨by decide, by decide, rfl, Or.inl (gw_at 927 (by decide +kernel) (by decide +kernel))⟩
theorem fl_X8_13 : Fl RX8 13 8 3 := ⟨by decide, by decide, rfl, Or.inl (gw_at 928 (by decide +kernel) (by decide +kernel))⟩
theorem fl_X8_16 : Fl RX8 16 8 4 := ⟨by decide, by decide, rfl, Or.inl (gw_at 929 (by decide +kernel) (by decide +kernel))⟩
theorem fl_X8_19 : Fl RX8 19 8 5 := ⟨by decide, by decide, rfl, Or.inl (gw_at 930 (by decide +kernel) (by decide +kernel))⟩
theorem fl_X8_22 : Fl RX8 22 8 6 := ⟨by decide, by decide, rfl, Or.inl (gw_at 931 (by decide +kernel) (by decide +kernel))⟩
theorem fl_X8_26 : Fl RX8 26 8 9 := ⟨by decide, by decide, rfl, Or.inl (gw_at 934 (by decide +kernel) (by decide +kernel))⟩
theorem fl_X8_29 : Fl RX8 29 8 10 := ⟨by decide, by decide, rfl, Or.inl (gw_at 935 (by decide +kernel) (by decide +kernel))⟩
theorem fl_X8_32 : Fl RX8 32 8 11 := ⟨by decide, by decide, rfl, Or.inl (gw_at 936 (by decide +kernel) (by decide +kernel))⟩
theorem fl_X8_35 : Fl RX8 35 8 12 := ⟨by decide, by decide, rfl, Or.inl (gw_at 937 (by decide +kernel) (by decide +kernel))⟩
theorem fl_X8_38 : Fl RX8 38 8 13 := ⟨by decide, by decide, rfl, Or.inl (gw_at 938 (by decide +kernel) (by decide +kernel))⟩
theorem fl_X8_42 : Fl RX8 42 8 19 := ⟨by decide, by decide, rfl, Or.inl (gw_at 944 (by decide +kernel) (by decide +kernel))⟩
theorem fl_X8_45 : Fl RX8 45 8 20 := ⟨by decide, by decide, rfl, Or.inl (gw_at 945 (by decide +kernel) (by decide +kernel))⟩
theorem fl_X8_48 : Fl RX8 48 8 21 := ⟨by decide, by decide, rfl, Or.inl (gw_at 946 (by decide +kernel) (by decide +kernel))⟩
theorem fl_X8_51 : Fl RX8 51 8 22 := ⟨by decide, by decide, rfl, Or.inl (gw_at 947 (by decide +kernel) (by decide +kernel))⟩
theorem fl_X8_55 : Fl RX8 55 8 23 := ⟨by decide, by decide, rfl, Or.inl (gw_at 948 (by decide +kernel) (by decide +kernel))⟩
theorem fl_X8_58 : Fl RX8 58 8 24 := ⟨by decide, by decide, rfl, Or.inl (gw_at 949 (by decide +kernel) (by decide +kernel))⟩
theorem fl_X8_61 : Fl RX8 61 8 25 := ⟨by decide, by decide, rfl, Or.inl (gw_at 950 (by decide +kernel) (by decide +kernel))⟩
theorem fl_X8_64 : Fl RX8 64 8 27 := ⟨by decide, by decide, rfl, Or.inl (gw_at 952 (by decide +kernel) (by decide +kernel))⟩
theorem fl_X8_67 : Fl RX8 67 8 28 := ⟨by decide, by decide, rfl, Or.inl (gw_at 953 (by decide +kernel) (by decide +kernel))⟩
theorem fl_X8_70 : Fl RX8 70 8 29 := ⟨by decide, by decide, rfl, Or.inl (gw_at 954 (by decide +kernel) (by decide +kernel))⟩
theorem fl_X8_73 : Fl RX8 73 8 30 := ⟨by decide, by decide, rfl, Or.inl (gw_at 955 (by decide +kernel) (by decide +kernel))⟩
theorem fl_X8_76 : Fl RX8 76 8 31 := ⟨by decide, by decide, rfl, Or.inl (gw_at 956 (by decide +kernel) (by decide +kernel))⟩
theorem fl_X8_79 : Fl RX8 79 8 32 := ⟨by decide, by decide, rfl, Or.inl (gw_at 957 (by decide +kernel) (by decide +kernel))⟩
theorem fl_X8_82 : Fl RX8 82 8 34 := ⟨by decide, by decide, rfl, Or.inl (gw_at 959 (by decide +kernel) (by decide +kernel))⟩
theorem fl_X8_85 : Fl RX8 85 8 37 := ⟨by decide, by decide, rfl, Or.inl (gw_at 962 (by decide +kernel) (by decide +kernel))⟩
theorem fl_X8_88 : Fl RX8 88 8 38 := ⟨by decide, by decide, rfl, Or.inl (gw_at 963 (by decide +kernel) (by decide +kernel))⟩
theorem fl_X8_91 : Fl RX8 91 8 41 := ⟨by decide, by decide, rfl, Or.inl (gw_at 966 (by decide +kernel) (by decide +kernel))⟩
theorem fl_X8_94 : Fl RX8 94 8 42 := ⟨by decide, by decide, rfl, Or.inl (gw_at 967 (by decide +kernel) (by decide +kernel))⟩
theorem fl_X8_97 : Fl RX8 97 8 43 := ⟨by decide, by decide, rfl, Or.inl (gw_at 968 (by decide +kernel) (by decide +kernel))⟩
theorem fl_X8_100 : Fl RX8 100 8 44 := ⟨by decide, by decide, rfl, Or.inl (gw_at 969 (by decide +kernel) (by decide +kernel))⟩
theorem fl_X8_103 : Fl RX8 103 8 46 := ⟨by decide, by decide, rfl, Or.inl (gw_at 971 (by decide +kernel) (by decide +kernel))⟩
theorem fl_X8_106 : Fl RX8 106 8 48 := ⟨by decide, by decide, rfl, Or.inl (gw_at 973 (by decide +kernel) (by decide +kernel))⟩
theorem fl_X8_109 : Fl RX8 109 8 49 := ⟨by decide, by decide, rfl, Or.inl (gw_at 974 (by decide +kernel) (by decide +kernel))⟩
theorem fl_X8_112 : Fl RX8 112 8 50 := ⟨by decide, by decide, rfl, Or.inl (gw_at 975 (by decide +kernel) (by decide +kernel))⟩
theorem fl_X8_115 : Fl RX8 115 8 51 := ⟨by decide, by decide, rfl, Or.inl (gw_at 976 (by decide +kernel) (by decide +kernel))⟩
theorem fl_X8_119 : Fl RX8 119 8 52 := ⟨by decide, by decide, rfl, Or.inl (gw_at 977 (by decide +kernel) (by decide +kernel))⟩
theorem fl_X8_125 : Fl RX8 125 8 1 := ⟨by decide, by decide, rfl, Or.inl (gw_at 926 (by decide +kernel) (by decide +kernel))⟩
theorem fl_X8_146 : Fl RX8 146 8 8 := ⟨by decide, by decide, rfl, Or.inl (gw_at 933 (by decide +kernel) (by decide +kernel))⟩
theorem fl_X8_149 : Fl RX8 149 8 7 := ⟨by decide, by decide, rfl, Or.inl (gw_at 932 (by decide +kernel) (by decide +kernel))⟩
theorem fl_X8_179 : Fl RX8 179 8 14 := ⟨by decide, by decide, rfl, Or.inl (gw_at 939 (by decide +kernel) (by decide +kernel))⟩
theorem fl_X8_182 : Fl RX8 182 8 15 := ⟨by decide, by decide, rfl, Or.inl (gw_at 940 (by decide +kernel) (by decide +kernel))⟩
theorem fl_X8_185 : Fl RX8 185 8 16 := ⟨by decide, by decide, rfl, Or.inl (gw_at 941 (by decide +kernel) (by decide +kernel))⟩
theorem fl_X8_188 : Fl RX8 188 8 18 := ⟨by decide, by decide, rfl, Or.inl (gw_at 943 (by decide +kernel) (by decide +kernel))⟩
theorem fl_X8_191 : Fl RX8 191 8 17 := ⟨by decide, by decide, rfl, Or.inl (gw_at 942 (by decide +kernel) (by decide +kernel))⟩
theorem fl_X8_245 : Fl RX8 245 8 26 := ⟨by decide, by decide, rfl, Or.inl (gw_at 951 (by decide +kernel) (by decide +kernel))⟩
theorem fl_X8_264 : Fl RX8 264 8 33 := ⟨by decide, by decide, rfl, Or.inl (gw_at 958 (by decide +kernel) (by decide +kernel))⟩
theorem fl_X8_270 : Fl RX8 270 8 35 := ⟨by decide, by decide, rfl, Or.inl (gw_at 960 (by decide +kernel) (by decide +kernel))⟩
theorem fl_X8_273 : Fl RX8 273 8 36 := ⟨by decide, by decide, rfl, Or.inl (gw_at 961 (by decide +kernel) (by decide +kernel))⟩
theorem fl_X8_321 : Fl RX8 321 8 39 := ⟨by decide, by decide, rfl, Or.inl (gw_at 964 (by decide +kernel) (by decide +kernel))⟩
theorem fl_X8_324 : Fl RX8 324 8 40 := ⟨by decide, by decide, rfl, Or.inl (gw_at 965 (by decide +kernel) (by decide +kernel))⟩
theorem fl_X8_327 : Fl RX8 327 8 45 := ⟨by decide, by decide, rfl, Or.inl (gw_at 970 (by decide +kernel) (by decide +kernel))⟩
theorem fl_X8_330 : Fl RX8 330 8 47 := ⟨by decide, by decide, rfl, Or.inl (gw_at 972 (by decide +kernel) (by decide +kernel))⟩
end
section
section CALC3
variable {g : Gt} {d z zf : Nat} {M : Mt} {pc : Nat} {L : List (Option Value)} {S : List Value} {st : St} {Q : Option Value → St → Prop}
def putI (st : St) (o j : Nat) (x : Int32) : St := (fun a => if a = o then upd (st.1 a) j x else st.1 a, st.2)
def putJ (st : St) (o j : Nat) (x : Int64) : St := (st.1, fun a => if a = o then vp_updL (st.2.1 a) j x else st.2.1 a, st.2.2)
def putR (st : St) (o j : Nat) (x : Option Nat) : St := (st.1, st.2.1, fun a => if a = o then va_up (st.2.2 a) j x else st.2.2 a)
theorem cellE_obj {o ci n : Nat} (h : kd o = (0, ci, n)) : cellE g st o (kd o) = .inr (ci, (List.range n).map (fVal g st o ci)) := by rw [h]; rfl
theorem cellE_arr {o c n : Nat} (h : kd o = (1, c, n)) : cellE g st o (kd o) = .inl (gA g c, n, .inl (st.1 o)) := by rw [h]; rfl
theorem cellE_lng {o c n : Nat} (h : kd o = (2, c, n)) : cellE g st o (kd o) = .inl (gA g 3, n, .inr (.inl (st.2.1 o))) := by rw [h]; rfl
theorem cellE_rfs {o c n : Nat} (h : kd o = (3, c, n)) : cellE g st o (kd o) = .inl (gA g 4, n, .inr (.inr (.inr (.inr (fun j => (st.2.2 o j).map (ad g)))))) := by rw [h]; rfl
theorem wsO_k {o : Nat} {x : va_E} (ho : o < z) (hx : cellE g st o (kd o) = x) : (wsO g z st)[o]? = some (gb g + o, x) := by rw [wsO_at ho, hx]
theorem ref_cv {o a b c : Nat} (h : kd o = (a, b, c)) (ha : a < 9) : cv g (.ref o) = .ref (gb g + o) := by
  show Value.ref (ad g o) = _
  rw [ad_lo (kd_1000 h ha)]
/-- the value of a field, read -/
theorem get_any {o ci n j idx : Nat} {v : Value} (hd : decode (mcc M) pc = .ok (.getfield idx, 3)) (hf : Fl (my M).cls idx ci j) (hk : kd o = (0, ci, n)) (ho : o < z) (hv : fVal g st o ci j = cv g v)
    (k : Rn g d z zf M (pc + 3) L (v :: S) st Q) : Rn g d z zf M pc L (.ref o :: S) st Q := by
  intro p e R s m args below meth c H locs cells slots Q0 ls C E hl hr hk0
  obtain ⟨hci, hj, hdc, hlk⟩ := hf
  have hn := (kd_cls hk).2
  subst hn
  have he := wsO_k (g := g) (st := st) ho (cellE_obj hk)
  have hfs : ((List.range (clN ci)).map (fVal g st o ci))[j]? = some (cv g v) := by rw [List.getElem?_map, List.getElem?_range hj, ← hv]; rfl
  have kk := k p e R s m args below meth c H locs cells slots Q0 ls C E hl hr hk0
  have key : W p g.1 e R s m args below meth c H locs cells slots Q0 (F0 m pc ls (.ref (gb g + o) :: S.map (cv g))) := by
    rcases hlk with h1 | ⟨host, h1⟩
    · exact va_get C.1 C.2.1 C.2.2.2.2.1 (cf_in hci) C.2.2.2.1 C.2.2.2.2.2.2.1 E.1 o he (cl_at hci) j hj (C.2.2.2.2.1 _ h1) (fun x hx => by rw [hdc] at hx; exact hx) hfs hd kk
    · exact va_getN C.1 C.2.1 C.2.2.2.2.1 (cf_in hci) C.2.2.2.1 C.2.2.2.2.2.2.1 E.1 o he (cl_at hci) j hj (va_Nw.use rfl (C.2.2.2.2.2.2.2.1.2.2.2.2.1 _ h1)) (fun x hx => by rw [hdc] at hx; exact hx) hfs hd kk
  have e : (Value.ref o :: S).map (cv g) = .ref (gb g + o) :: S.map (cv g) := by rw [List.map_cons, ref_cv hk (by omega)]
  rw [e]; exact key
theorem s_getI {o ci n j idx : Nat} (hd : decode (mcc M) pc = .ok (.getfield idx, 3)) (hf : Fl (my M).cls idx ci j) (hk : kd o = (0, ci, n)) (ho : o < z) (hr : isRf (fTy ci j) = false)
    (k : Rn g d z zf M (pc + 3) L (.int (st.1 o j) :: S) st Q) : Rn g d z zf M pc L (.ref o :: S) st Q :=
  get_any hd hf hk ho (by unfold fVal; rw [hr]; rfl) k
theorem s_getR {o o' ci n j idx : Nat} (hd : decode (mcc M) pc = .ok (.getfield idx, 3)) (hf : Fl (my M).cls idx ci j) (hk : kd o = (0, ci, n)) (ho : o < z) (hr : isRf (fTy ci j) = true) (hv : st.2.2 o j = some o')
    (k : Rn g d z zf M (pc + 3) L (.ref o' :: S) st Q) : Rn g d z zf M pc L (.ref o :: S) st Q :=
  get_any hd hf hk ho (by unfold fVal; rw [hr, hv]; rfl) k
theorem rng_set {n j : Nat} {f f' : Nat → Value} {x : Value} (hx : f' j = x) (hf : ∀ i, i ≠ j → f' i = f i) : ((List.range n).map f).set j x = (List.range n).map f' := by
  apply List.ext_getElem?
  intro i
  rw [List.getElem?_set]
  by_cases hij : j = i
  · subst hij
    rw [if_pos rfl]
    by_cases hl : j < n
    · rw [if_pos (by simpa using hl), List.getElem?_map, List.getElem?_range hl, ← hx]; rfl
    · rw [if_neg (by simpa using hl), List.getElem?_map, List.getElem?_eq_none (by simpa using hl)]; rfl
  · rw [if_neg hij, List.getElem?_map, List.getElem?_map]
    by_cases hl : i < n
    · rw [List.getElem?_range hl]
      exact congrArg some (hf i (fun q => hij q.symm)).symm
    · rw [List.getElem?_eq_none (by simpa using hl)]; rfl
theorem put_any {st' : St} {o ci n j idx : Nat} {v : Value} (hd : decode (mcc M) pc = .ok (.putfield idx, 3)) (hf : Fl (my M).cls idx ci j) (hk : kd o = (0, ci, n)) (ho : o < z)
    (hfin : (clT ci j).2.2.2 = false ∨ ((clT ci j).2.2.2 = true ∧ (my M).name = "<init>" ∧ clR ci = (my M).cls ∧ Cond.fieldLink (my M).cls idx (clR ci) (clT ci j).2.1 (clT ci j).2.2.1 ∈ gwl))
    (hnr : narrow (fTy ci j) (cv g v) = cv g v) (hft : fits (fTy ci j) (cv g v) = true)
    (hv : fVal g st' o ci j = cv g v) (hother : ∀ i, i ≠ j → fVal g st' o ci i = fVal g st o ci i) (hs : ∀ a, a ≠ o → st'.1 a = st.1 a ∧ st'.2.1 a = st.2.1 a ∧ st'.2.2 a = st.2.2 a)
    (k : Rn g d z zf M (pc + 3) L S st' Q) : Rn g d z zf M pc L (v :: .ref o :: S) st Q := by
  intro p e R s m args below meth c H locs cells slots Q0 ls C E hl hr hk0
  obtain ⟨hci, hj, hdc, hlk⟩ := hf
  have hn := (kd_cls hk).2
  subst hn
  have he := wsO_k (g := g) (st := st) ho (cellE_obj hk)
  have hset : (wsO g z st).set o (gb g + o, .inr (ci, ((List.range (clN ci)).map (fVal g st o ci)).set j (cv g v))) = wsO g z st' :=
    wsO_set ho (by rw [cellE_obj hk, rng_set hv hother]) hs
  have kk : ∀ (H1 : Heap) (locs1 : List Loc), va_P (gD g) vwCl ((wsO g z st).set o (gb g + o, .inr (ci, ((List.range (clN ci)).map (fVal g st o ci)).set j (cv g v)))) H1 → va_D (AA g) ((wsO g z st).set o (gb g + o, .inr (ci, ((List.range (clN ci)).map (fVal g st o ci)).set j (cv g v)))) → va_S (AA g) s.heap H1 locs1 → H1.size = H.size → W p g.1 e R s m args below meth c H1 locs1 cells slots Q0 (F0 m (pc + 3) ls (S.map (cv g))) := by
    intro H1 locs1 hP1 hD1 hS1 hz1
    rw [hset] at hP1
    exact k p e R s m args below meth c H1 locs1 cells slots Q0 ls C ⟨hP1, hS1, fun hh => hz1.trans (E.2.2 hh)⟩ hl hr hk0
  have key : W p g.1 e R s m args below meth c H locs cells slots Q0 (F0 m pc ls (cv g v :: .ref (gb g + o) :: S.map (cv g))) := by
    have hap := va_apart (own := (my M).cls) (C.2.2.2.2.1) (cf_in hci) (fTy ci) (cf_ty hci) (cf_nm hci) C.2.2.2.2.2.2.1 (cl_at hci)
    obtain ⟨r, h1, cell, q1, q2, q3, q4⟩ := E.1 o _ he
    have hr' : r = (clR ci, clT ci, clN ci) := Option.some.inj (h1.symm.trans (cl_at hci))
    subst hr'
    obtain ⟨hSl, hfc, kC, hkC, hkind⟩ := C.2.2.2.2.2.2.1.1 ci _ (cl_at hci)
    obtain ⟨cf, kf, fi, f, hi, hsl⟩ := hSl j hj
    have hD := wsO_D g z st
    have hlay := C.2.2.2.2.1 _ (cf_in hci _ (u_in_lay hj))
    have hst := (u_facts hfc hkC (u_lays C.2.2.2.2.1 (cf_in hci) hj) hi).1
    have hsame : s.fieldFound? (clR ci) (clT ci j).2.1 (clT ci j).2.2.1 = some (cf, kf, fi, f) := by rw [← hdc]; exact hi
    have fin : ∀ (H' : Heap), H'[gb g + o]? = some (cell.setSlot (gD g |>.2 ci j) (cv g v)) → H'.size = H.size → (∀ q, q ≠ gb g + o → H'[q]? = H[q]?) → W p g.1 e R s m args below meth c H' (locs ++ [⟨gb g + o, (gD g).2 ci j⟩]) cells slots Q0 (F0 m (pc + 3) ls (S.map (cv g))) := by
      intro H' e1 e2 e3
      refine kk H' _ (E.1.set hD he ⟨_, cl_at hci, t_OB.to (V := updV (vp_V _) j (cv g v)) ⟨_, e1, q2, q3, t_set q4 hap hj (cv g v)⟩ (fun i _ => vp_updV_set (by simpa using hj) (cv g v) i)⟩ e3) (hD.set he) (E.2.1.put e2 e3 (hD.2 o _ he)) e2
    rcases hfin with hfin | ⟨hfin, hin, hcl, h1⟩
    · unfold u_lay at hlay
      rw [if_neg (by rw [hfin]; decide)] at hlay
      have h6 := u_store hfc hkC hkind hlay hi (cf_ty hci j hj) hnr hft
      rcases hlk with h1 | ⟨host, h1⟩
      · refine W.putK C.1 C.2.1 (f := f) ⟨C.2.2.2.1, C.2.2.2.2.1 _ h1, ⟨_, _, _, hsame⟩, hst⟩ (by rw [q2]; exact h6) q1 q3 (by rw [hsl]; exact k2_hasslot (q4 j hj)) rfl rfl hd fun H' e1 e2 e3 => ?_
        rw [hsl] at e1 ⊢
        exact fin H' e1 e2 e3
      · refine va_WputK C.1 C.2.1 (f := f) C.2.2.2.1 (va_Nw.use rfl (C.2.2.2.2.2.2.2.1.2.2.2.2.1 _ h1)) hsame hst (by rw [q2]; exact h6) q1 q3 (by rw [hsl]; exact k2_hasslot (q4 j hj)) rfl rfl hd fun H' e1 e2 e3 => ?_
        rw [hsl] at e1 ⊢
        exact fin H' e1 e2 e3
    · unfold u_lay at hlay
      rw [if_pos hfin] at hlay
      have hcf : m.cls = cf := by
        obtain ⟨_, _, c', _, _, _, -, -, hf', -, -, -, hown2, -⟩ := Cond.laysFinal_spec hlay
        have e1 : c' = cf := by have := hi.symm.trans hf'; simp at this; exact this.1.symm
        rw [hdc, hcl] at hown2
        rw [← e1]; exact Option.some.inj (C.2.2.2.1.symm.trans hown2)
      have h6 := u_fits hfc hkC hkind (Or.inr hlay) hi (cf_ty hci j hj) hnr hft
      refine W.putFinK C.1 C.2.1 C.2.2.2.1 (C.2.2.2.2.1 _ h1) hsame hst hcf (C.2.2.2.2.2.1.trans hin) (by rw [q2]; exact h6) q1 q3 (by rw [hsl]; exact k2_hasslot (q4 j hj)) rfl rfl hd fun H' e1 e2 e3 => ?_
      rw [hsl] at e1 ⊢
      exact fin H' e1 e2 e3
  have e : (v :: Value.ref o :: S).map (cv g) = cv g v :: .ref (gb g + o) :: S.map (cv g) := by rw [List.map_cons, List.map_cons, ref_cv hk (by omega)]
  rw [e]; exact key
theorem s_putI {o ci n j idx : Nat} {x : Int32} (hd : decode (mcc M) pc = .ok (.putfield idx, 3)) (hf : Fl (my M).cls idx ci j) (hk : kd o = (0, ci, n)) (ho : o < z) (hr : isRf (fTy ci j) = false) (hfin : (clT ci j).2.2.2 = false)
    (hnr : narrow (fTy ci j) (.int x) = .int x) (hft : fits (fTy ci j) (.int x) = true) (k : Rn g d z zf M (pc + 3) L S (putI st o j x) Q) : Rn g d z zf M pc L (.int x :: .ref o :: S) st Q := by
  refine put_any hd hf hk ho (Or.inl hfin) hnr hft ?_ (fun i hi => ?_) (fun a ha => ?_) k
  · simp [fVal, hr, putI, upd, cv]
  · simp [fVal, putI, upd, hi]
  · simp [putI, ha]
theorem s_putR {o o' ci n j idx : Nat} (hd : decode (mcc M) pc = .ok (.putfield idx, 3)) (hf : Fl (my M).cls idx ci j) (hk : kd o = (0, ci, n)) (ho : o < z) (hr : isRf (fTy ci j) = true)
    (hfin : (clT ci j).2.2.2 = false ∨ ((clT ci j).2.2.2 = true ∧ (my M).name = "<init>" ∧ clR ci = (my M).cls ∧ Cond.fieldLink (my M).cls idx (clR ci) (clT ci j).2.1 (clT ci j).2.2.1 ∈ gwl)) (k : Rn g d z zf M (pc + 3) L S (putR st o j (some o')) Q) : Rn g d z zf M pc L (.ref o' :: .ref o :: S) st Q := by
  refine put_any hd hf hk ho hfin ?_ ?_ ?_ (fun i hi => ?_) (fun a ha => ?_) k
  · revert hr; unfold isRf; split <;> first | (rename_i h; intro _; rw [h]; rfl) | (intro h; cases h)
  · revert hr; unfold isRf; split <;> first | (rename_i h; intro _; rw [h]; rfl) | (intro h; cases h)
  · simp [fVal, hr, putR, va_up, cv, va_rf]
  · simp [fVal, putR, va_up, hi]
  · simp [putR, ha]
end CALC3
end
section
section CALC4
variable {g : Gt} {d z zf : Nat} {M : Mt} {pc : Nat} {L : List (Option Value)} {S : List Value} {st : St} {Q : Option Value → St → Prop}
theorem cv2 {o a b c : Nat} (h : kd o = (a, b, c)) (ha : a < 9) (i : Int32) : (Value.int i :: .ref o :: S).map (cv g) = .int i :: .ref (gb g + o) :: S.map (cv g) := by rw [List.map_cons, List.map_cons, ref_cv h ha]; rfl
theorem s_iald {o n : Nat} {i : Int32} (hd : decode (mcc M) pc = .ok (.iaload, 1)) (hk : kd o = (1, 0, n)) (ho : o < z) (hin : vp_in i n) (k : Rn g d z zf M (pc + 1) L (.int (st.1 o i.toNatClampNeg) :: S) st Q) : Rn g d z zf M pc L (.int i :: .ref o :: S) st Q := by
  intro p e R s m args below meth c H locs cells slots Q0 ls C E hl hr hk0
  rw [cv2 hk (by omega)]
  exact va_iald C.1 C.2.1 C.2.2.2.2.2.2.1 E.1 o 0 (wsO_k ho (cellE_arr hk)) rfl hin hd (k p e R s m args below meth c H locs cells slots Q0 ls C E hl hr hk0)
theorem s_bald {o n : Nat} {i : Int32} (hd : decode (mcc M) pc = .ok (.baload, 1)) (hk : kd o = (1, 1, n)) (ho : o < z) (hin : vp_in i n) (k : Rn g d z zf M (pc + 1) L (.int (st.1 o i.toNatClampNeg) :: S) st Q) : Rn g d z zf M pc L (.int i :: .ref o :: S) st Q := by
  intro p e R s m args below meth c H locs cells slots Q0 ls C E hl hr hk0
  rw [cv2 hk (by omega)]
  exact va_bald C.1 C.2.1 C.2.2.2.2.2.2.1 E.1 o 1 (wsO_k ho (cellE_arr hk)) rfl hin hd (k p e R s m args below meth c H locs cells slots Q0 ls C E hl hr hk0)
theorem s_sald {o n : Nat} {i : Int32} (hd : decode (mcc M) pc = .ok (.saload, 1)) (hk : kd o = (1, 2, n)) (ho : o < z) (hin : vp_in i n) (k : Rn g d z zf M (pc + 1) L (.int (st.1 o i.toNatClampNeg) :: S) st Q) : Rn g d z zf M pc L (.int i :: .ref o :: S) st Q := by
  intro p e R s m args below meth c H locs cells slots Q0 ls C E hl hr hk0
  rw [cv2 hk (by omega)]
  exact va_sald C.1 C.2.1 C.2.2.2.2.2.2.1 E.1 o 2 (wsO_k ho (cellE_arr hk)) rfl hin hd (k p e R s m args below meth c H locs cells slots Q0 ls C E hl hr hk0)
theorem s_lald {o c0 n : Nat} {i : Int32} (hd : decode (mcc M) pc = .ok (.laload, 1)) (hk : kd o = (2, c0, n)) (ho : o < z) (hin : vp_in i n) (k : Rn g d z zf M (pc + 1) L (.long (st.2.1 o i.toNatClampNeg) :: S) st Q) : Rn g d z zf M pc L (.int i :: .ref o :: S) st Q := by
  intro p e R s m args below meth c H locs cells slots Q0 ls C E hl hr hk0
  rw [cv2 hk (by omega)]
  exact va_lald C.1 C.2.1 C.2.2.2.2.2.2.1 E.1 o 3 (wsO_k ho (cellE_lng hk)) rfl hin hd (k p e R s m args below meth c H locs cells slots Q0 ls C E hl hr hk0)
theorem s_aald {o o' c0 n : Nat} {i : Int32} (hd : decode (mcc M) pc = .ok (.aaload, 1)) (hk : kd o = (3, c0, n)) (ho : o < z) (hin : vp_in i n) (hv : st.2.2 o i.toNatClampNeg = some o') (k : Rn g d z zf M (pc + 1) L (.ref o' :: S) st Q) : Rn g d z zf M pc L (.int i :: .ref o :: S) st Q := by
  intro p e R s m args below meth c H locs cells slots Q0 ls C E hl hr hk0
  rw [cv2 hk (by omega)]
  refine va_aldq C.1 C.2.1 C.2.2.2.2.2.2.1 E.1 o 4 (wsO_k ho (cellE_rfs hk)) rfl hin hd ?_
  rw [hv]
  exact k p e R s m args below meth c H locs cells slots Q0 ls C E hl hr hk0
theorem putI_set {o c n j : Nat} {x : Int32} (hk : kd o = (1, c, n)) (ho : o < z) : (wsO g z st).set o (gb g + o, .inl (gA g c, n, .inl (upd (st.1 o) j x))) = wsO g z (putI st o j x) :=
  wsO_set ho (by rw [cellE_arr hk]; simp [putI]) (fun a ha => by simp [putI, ha])
theorem cv3 {o a b c : Nat} (h : kd o = (a, b, c)) (ha : a < 9) (i : Int32) (v : Value) : (v :: Value.int i :: .ref o :: S).map (cv g) = cv g v :: .int i :: .ref (gb g + o) :: S.map (cv g) := by rw [List.map_cons, cv2 h ha]
theorem s_iast {o n : Nat} {i x : Int32} (hd : decode (mcc M) pc = .ok (.iastore, 1)) (hk : kd o = (1, 0, n)) (ho : o < z) (hin : vp_in i n) (k : Rn g d z zf M (pc + 1) L S (putI st o i.toNatClampNeg x) Q) : Rn g d z zf M pc L (.int x :: .int i :: .ref o :: S) st Q := by
  intro p e R s m args below meth c H locs cells slots Q0 ls C E hl hr hk0
  rw [cv3 hk (by omega)]
  have he := wsO_k (g := g) (st := st) ho (cellE_arr hk)
  have hD := wsO_D g z st
  refine W.iast C.1 C.2.1 (E.1 o _ he) ((C.2.2.2.2.2.2.1.2 0 _ rfl).1 n (fun j => .int (st.1 o j))) (fun q => by cases q) (by show ¬ (i < 0 ∨ (arrV _ _ _).slots.size ≤ _); rw [arrV_size]; exact hin) rfl rfl hd fun H1 e1 z1 oq => ?_
  refine k p e R s m args below meth c H1 _ cells slots Q0 ls C ⟨?_, E.2.1.put z1 oq (hD.2 o _ he), fun hh => z1.trans (E.2.2 hh)⟩ hl hr hk0
  rw [← putI_set hk ho]
  refine E.1.set hD he ?_ oq
  show H1[_]? = some (vp_cell _ _)
  rw [e1, vp_cell_i, vp_cell_i, arrV_store]
  congr 2
  funext q
  by_cases hq : q = i.toNatClampNeg
  · subst hq; simp [updV, upd]
  · simp [updV, upd, hq]
theorem s_bast {o n : Nat} {i x : Int32} (hd : decode (mcc M) pc = .ok (.bastore, 1)) (hk : kd o = (1, 1, n)) (ho : o < z) (hin : vp_in i n) (k : Rn g d z zf M (pc + 1) L S (putI st o i.toNatClampNeg (vp_nar .byte x)) Q) : Rn g d z zf M pc L (.int x :: .int i :: .ref o :: S) st Q := by
  intro p e R s m args below meth c H locs cells slots Q0 ls C E hl hr hk0
  rw [cv3 hk (by omega)]
  have he := wsO_k (g := g) (st := st) ho (cellE_arr hk)
  have hD := wsO_D g z st
  refine W.bast C.1 C.2.1 (E.1 o _ he) ((C.2.2.2.2.2.2.1.2 1 _ rfl).1 n (fun j => .int (st.1 o j))) (fun q => by cases q) (by show ¬ (i < 0 ∨ (arrV _ _ _).slots.size ≤ _); rw [arrV_size]; exact hin) rfl rfl hd fun H1 e1 z1 oq => ?_
  refine k p e R s m args below meth c H1 _ cells slots Q0 ls C ⟨?_, E.2.1.put z1 oq (hD.2 o _ he), fun hh => z1.trans (E.2.2 hh)⟩ hl hr hk0
  rw [← putI_set hk ho]
  refine E.1.set hD he ?_ oq
  show H1[_]? = some (vp_cell _ _)
  rw [e1, vp_cell_i, vp_cell_i, arrV_store]
  congr 2
  funext q
  by_cases hq : q = i.toNatClampNeg
  · subst hq
    simp [updV, upd, vp_nar]
    try rfl
  · simp [updV, upd, hq]
theorem s_sast {o n : Nat} {i x : Int32} (hd : decode (mcc M) pc = .ok (.sastore, 1)) (hk : kd o = (1, 2, n)) (ho : o < z) (hin : vp_in i n) (k : Rn g d z zf M (pc + 1) L S (putI st o i.toNatClampNeg (vp_nar .short x)) Q) : Rn g d z zf M pc L (.int x :: .int i :: .ref o :: S) st Q := by
  intro p e R s m args below meth c H locs cells slots Q0 ls C E hl hr hk0
  rw [cv3 hk (by omega)]
  have he := wsO_k (g := g) (st := st) ho (cellE_arr hk)
  have hD := wsO_D g z st
  refine W.sast C.1 C.2.1 (E.1 o _ he) ((C.2.2.2.2.2.2.1.2 2 _ rfl).1 n (fun j => .int (st.1 o j))) (fun q => by cases q) (by show ¬ (i < 0 ∨ (arrV _ _ _).slots.size ≤ _); rw [arrV_size]; exact hin) rfl rfl hd fun H1 e1 z1 oq => ?_
  refine k p e R s m args below meth c H1 _ cells slots Q0 ls C ⟨?_, E.2.1.put z1 oq (hD.2 o _ he), fun hh => z1.trans (E.2.2 hh)⟩ hl hr hk0
  rw [← putI_set hk ho]
  refine E.1.set hD he ?_ oq
  show H1[_]? = some (vp_cell _ _)
  rw [e1, vp_cell_i, vp_cell_i, arrV_store]
  congr 2
  funext q
  by_cases hq : q = i.toNatClampNeg
  · subst hq
    simp [updV, upd, vp_nar]
    try rfl
  · simp [updV, upd, hq]
theorem s_last {o c0 n : Nat} {i : Int32} {x : Int64} (hd : decode (mcc M) pc = .ok (.lastore, 1)) (hk : kd o = (2, c0, n)) (ho : o < z) (hin : vp_in i n) (k : Rn g d z zf M (pc + 1) L S (putJ st o i.toNatClampNeg x) Q) : Rn g d z zf M pc L (.long x :: .int i :: .ref o :: S) st Q := by
  intro p e R s m args below meth c H locs cells slots Q0 ls C E hl hr hk0
  rw [cv3 hk (by omega)]
  have he := wsO_k (g := g) (st := st) ho (cellE_lng hk)
  have hD := wsO_D g z st
  refine W.last C.1 C.2.1 (E.1 o _ he) ((C.2.2.2.2.2.2.1.2 3 _ rfl).1 n (fun j => .long (st.2.1 o j))) (fun q => by cases q) (by show ¬ (i < 0 ∨ (arrV _ _ _).slots.size ≤ _); rw [arrV_size]; exact hin) rfl rfl hd fun H1 e1 z1 oq => ?_
  refine k p e R s m args below meth c H1 _ cells slots Q0 ls C ⟨?_, E.2.1.put z1 oq (hD.2 o _ he), fun hh => z1.trans (E.2.2 hh)⟩ hl hr hk0
  have hset : (wsO g z st).set o (gb g + o, .inl (gA g 3, n, .inr (.inl (vp_updL (st.2.1 o) i.toNatClampNeg x)))) = wsO g z (putJ st o i.toNatClampNeg x) :=
    wsO_set ho (by rw [cellE_lng hk]; simp [putJ]) (fun a ha => by simp [putJ, ha])
  rw [← hset]
  refine E.1.set hD he ?_ oq
  show H1[_]? = some (vp_cell _ _)
  rw [e1, vp_cell_l, vp_cell_l, arrV_store]
  congr 2
  funext q
  by_cases hq : q = i.toNatClampNeg
  · subst hq; simp [updV, vp_updL]
  · simp [updV, vp_updL, hq]
theorem s_aast {o o' c0 n nn : Nat} {i : Int32} (hd : decode (mcc M) pc = .ok (.aastore, 1)) (hk : kd o = (3, c0, n)) (ho : o < z) (hk' : kd o' = (0, 6, nn)) (ho' : o' < z) (hin : vp_in i n) (k : Rn g d z zf M (pc + 1) L S (putR st o i.toNatClampNeg (some o')) Q) : Rn g d z zf M pc L (.ref o' :: .int i :: .ref o :: S) st Q := by
  intro p e R s m args below meth c H locs cells slots Q0 ls C E hl hr hk0
  rw [cv3 hk (by omega), ref_cv hk' (by omega)]
  have he := wsO_k (g := g) (st := st) ho (cellE_rfs hk)
  have he' := wsO_k (g := g) (st := st) ho' (cellE_obj hk')
  have hD := wsO_D g z st
  have hlt : i.toNatClampNeg < n := Nat.not_le.mp fun q => hin (Or.inr q)
  have h0 : ¬ i < 0 := fun q => hin (Or.inl q)
  obtain ⟨r', hr', cellV, g1, g2, g3, -⟩ := E.1 o' _ he'
  have hcls := (C.2.2.2.2.2.2.1.1 6 _ (cl_at (by omega))).2
  obtain ⟨kA, comp, k1, k2, k3, -⟩ := (C.2.2.2.2.2.2.1.2 4 _ rfl).2
  have hcomp : comp = (gD g).1 6 := Option.some.inj (k3.symm.trans hcls.1)
  subst hcomp
  obtain ⟨kC, hkC, -⟩ := hcls.2
  refine W.aast C.1 C.2.1 (E.1 o _ he) (fun q h => by cases h) (fun h => by cases h) k1 k2 rfl hkC ⟨h0, by show _ < (arrV _ _ _).slots.size; rw [arrV_size]; exact hlt⟩ g1 (fun q h => by rw [g3] at h; cases h) (by rw [g2]; exact hkC) (by rw [g2]; exact va_assign hcls) rfl rfl hd fun H1 e1 z1 oq => ?_
  refine k p e R s m args below meth c H1 _ cells slots Q0 ls C ⟨?_, E.2.1.put z1 oq (hD.2 o _ he), fun hh => z1.trans (E.2.2 hh)⟩ hl hr hk0
  have hset : (wsO g z st).set o (gb g + o, .inl (gA g 4, n, .inr (.inr (.inr (.inr (va_up (fun j => (st.2.2 o j).map (ad g)) i.toNatClampNeg (some (gb g + o')))))))) = wsO g z (putR st o i.toNatClampNeg (some o')) := by
    refine wsO_set ho (by
      rw [cellE_rfs hk]
      have e9 : va_up (fun j => (st.2.2 o j).map (ad g)) i.toNatClampNeg (some (gb g + o')) = fun j => ((putR st o i.toNatClampNeg (some o')).2.2 o j).map (ad g) := by
        funext j
        by_cases hj : j = i.toNatClampNeg
        · simp [putR, va_up, hj, ad_lo (kd_1000 hk' (by omega))]
        · simp [putR, va_up, hj]
      rw [e9]) (fun a ha => by simp [putR, ha])
  rw [← hset]
  refine E.1.set hD he ?_ oq
  show H1[_]? = some (vp_cell _ _)
  rw [e1, vp_cell_q, vp_cell_q, arrV_store]
  congr 2
  funext q
  by_cases hq : q = i.toNatClampNeg
  · subst hq
    simp [updV, va_up, va_rf]
  · simp [updV, va_up, hq]
theorem s_alen {o t c0 n : Nat} {v : Int32} (hd : decode (mcc M) pc = .ok (.arraylength, 1)) (hk : kd o = (t, c0, n)) (ht : t = 1 ∧ c0 < 3 ∨ t = 2 ∨ t = 3) (ho : o < z) (hv : Int32.ofNat n = v) (k : Rn g d z zf M (pc + 1) L (.int v :: S) st Q) : Rn g d z zf M pc L (.ref o :: S) st Q := by
  intro p e R s m args below meth c H locs cells slots Q0 ls C E hl hr hk0
  have e0 : (Value.ref o :: S).map (cv g) = .ref (gb g + o) :: S.map (cv g) := by rw [List.map_cons, ref_cv hk (by omega)]
  rw [e0]
  have kk := k p e R s m args below meth c H locs cells slots Q0 ls C E hl hr hk0
  rcases ht with ⟨rfl, hc⟩ | rfl | rfl
  · rcases (show c0 = 0 ∨ c0 = 1 ∨ c0 = 2 by omega) with rfl | rfl | rfl
    · exact va_alen C.1 C.2.1 C.2.2.2.2.2.2.1 E.1 o 0 (wsO_k ho (cellE_arr hk)) rfl hv hd kk
    · exact va_alen C.1 C.2.1 C.2.2.2.2.2.2.1 E.1 o 1 (wsO_k ho (cellE_arr hk)) rfl hv hd kk
    · exact va_alen C.1 C.2.1 C.2.2.2.2.2.2.1 E.1 o 2 (wsO_k ho (cellE_arr hk)) rfl hv hd kk
  · exact va_alen C.1 C.2.1 C.2.2.2.2.2.2.1 E.1 o 3 (wsO_k ho (cellE_lng hk)) rfl hv hd kk
  · exact va_alen C.1 C.2.1 C.2.2.2.2.2.2.1 E.1 o 4 (wsO_k ho (cellE_rfs hk)) rfl hv hd kk
end CALC4
end
section
section CALC5
variable {g : Gt} {d z zf : Nat} {M : Mt} {pc : Nat} {L : List (Option Value)} {S : List Value} {st : St} {Q : Option Value → St → Prop}
theorem SX.warm {s U : State} {H : Heap} (hW : s.WarmedH U.vm) (h : SX g s H) : SX g U H := by
  have hvm := hW.alike
  obtain ⟨h1, h2, ⟨h3, h4⟩, ⟨h5, h6⟩, h7, h8, h9, h10, h11⟩ := h
  refine ⟨h1.moved hvm, h2, ⟨h3.moved hvm, h4.moved hvm⟩, ⟨h5.moved hvm, h6.moved hvm⟩, fun w hw => ?_, h8.moved hvm, h9.warm hW, h10.moved hvm, h11.moved hvm⟩
  have hn := (List.mem_filter.mp hw).2
  have hz := h7 w hw
  revert hn hz
  cases w <;> intro hn hz <;> first | exact va_Nw.warmF hW hz | exact va_Nw.warmM hW hz | (cases hn)
theorem SX.same {s U : State} {H : Heap} (hv : U.vm = s.vm) (h : SX g s H) : SX g U H := by
  have hvm : s.vm.Alike U.vm := by rw [hv]; exact Vm.Alike.refl _
  obtain ⟨h1, h2, ⟨h3, h4⟩, ⟨h5, h6⟩, h7, h8, h9, h10, h11⟩ := h
  refine ⟨h1.moved hvm, h2, ⟨h3.moved hvm, h4.moved hvm⟩, ⟨h5.moved hvm, h6.moved hvm⟩, fun w hw => ?_, h8.moved hvm, h9.same hv, h10.moved hvm, h11.moved hvm⟩
  have hn := (List.mem_filter.mp hw).2
  have hz := h7 w hw
  revert hn hz
  cases w <;> intro hn hz <;> first | exact va_Nw.same rfl hv.symm hz | (cases hn)
theorem SX.kept {U : State} {H H1 : Heap} (h : SX g U H) (hq : ∀ a : Nat, a < H.size → ¬ AA g a → H1[a]? = H[a]?) (hs : gb g ≤ H.size) : SX g U H1 := by
  obtain ⟨h1, h2, ⟨h3, h4⟩, ⟨h5, h6⟩, h7, h8, h9, h10, h11⟩ := h
  exact ⟨h1.kept (hq _ (Nat.lt_of_lt_of_le h2 hs) (Nat.not_le.mpr h2)), h2, ⟨h3.kept hq, h4.kept hq⟩, ⟨h5.kept hq, h6.kept hq⟩, h7, h8, h9, h10.kept hq, h11.kept hq⟩
theorem CX.blind {a : Array Value} {U : State} {gg : JFrame} {mk : MethodId} (h : CX g z st U) : CX g z st (U.calling gg mk a) :=
  ⟨h.1, h.2.1, va_K.moved (u := U) (U := U.calling gg mk a) (Vm.Alike.refl U.vm) h.2.2.1, SX.same (s := U) (U := U.calling gg mk a) rfl h.2.2.2.1, h.2.2.2.2⟩
def Qm (g : Gt) (z : Nat) (Q : Option Value → St → Prop) : Array Value → State → Outcome → State → Prop := fun _ s o t => ∃ rv st', o = .returned (rv.map (cv g)) ∧ Q rv st' ∧ CX g z st' t ∧ va_F (AA g) s t
def eL (As : List Value) : List (Option Value) := match As with
  | [] => []
  | v :: vs => if v.category = 2 then some v :: none :: eL vs else some v :: eL vs
theorem eL_args (As : List Value) : ∀ (k i : Nat) (v : Value), (eL As)[i]? = some (some v) → (k + i, cv g v) ∈ lv_args k (As.map (cv g)) := by
  induction As with
  | nil => intro k i v h; simp [eL] at h
  | cons w ws ih =>
    intro k i v h
    unfold eL at h
    rw [List.map_cons, lv_args]
    by_cases hc : w.category = 2
    · rw [if_pos hc] at h
      match i, h with
      | 0, h => simp at h; subst h; exact List.mem_cons_self
      | 1, h => simp at h
      | i + 2, h =>
        have h' : (eL ws)[i]? = some (some v) := by simpa using h
        refine List.mem_cons_of_mem _ ?_
        rw [cv_cat, if_pos hc]
        have := ih (k + 2) i v h'
        rwa [show k + 2 + i = k + (i + 2) by omega] at this
    · rw [if_neg hc] at h
      match i, h with
      | 0, h => simp at h; subst h; exact List.mem_cons_self
      | i + 1, h =>
        have h' : (eL ws)[i]? = some (some v) := by simpa using h
        refine List.mem_cons_of_mem _ ?_
        rw [cv_cat, if_neg hc]
        have := ih (k + 1) i v h'
        rwa [show k + 1 + i = k + (i + 1) by omega] at this
def wsM (M : Mt) : List Cond := Cond.code (my M) (mcc M) (mml M) (mret M) :: gwl
def rmM (d z zf : Nat) : Room := { frames := d, cells := zf - z, slots := slb z zf, locals := d * 64 }
theorem met_of {As : List Value} {n : Nat} (h : Rn g d z zf M 0 (eL As ++ List.replicate n none) [] st Q) (hp : plainName (my M).cls = true) (hz : z ≤ zf) (hl : (lg_sl (As.map (cv g))).length ≤ mml M) :
    Met g.1 (my M) (wsM M) (rmM d z zf) (va_Pc (As.map (cv g)) (CX g z st)) (Qm g zf Q) (zf - z) (slb z zf) (AA g) := by
  refine Met.ofW (cc := mcc M) (maxL := mml M) (ret := mret M) hp rfl ?_
  intro p e s m args below meth c s₁ B hml hv
  obtain ⟨rfl, hP, hsz, hK, hSX, hge⟩ := hv
  have hts := atoms_spec (ws := wsM M) B.pre
  have hown : s.vm.findClass (my M).cls = some m.cls := findClass_of_methodNamed B.named
  have hlocks := B.notSynchronized
  have hin : meth.name = (my M).name := (name_of_methodNamed B.named B.method).1
  rw [lg_entry_eq]
  have hl0 := lv_entry (As.map (cv g)) (n := mml M) hl
  refine h p e _ s m _ below meth c s.heap [] 0 0 _ _ ⟨B.exec, B.bytes, hml, hown, fun w hw => hts w (List.mem_cons_of_mem _ hw), hin, hK, hSX, hge⟩ ⟨hP, va_S.rf, hsz⟩ ⟨hl0.1, hl0.2.1, fun i v hv => ?_⟩ ⟨Nat.le_refl d, Nat.le_refl _, by rw [Nat.zero_add]; exact Nat.le_refl _, by rw [Nat.zero_add]; exact Nat.le_refl _, hz⟩ ?_
  · by_cases hi : i < (eL As).length
    · rw [List.getElem?_append_left hi] at hv
      have := eL_args (g := g) As 0 i v hv
      rw [Nat.zero_add] at this
      exact hl0.2.2 _ this
    · rw [List.getElem?_append_right (by omega)] at hv
      have := List.mem_of_getElem? hv
      have := (List.mem_replicate.mp this).2
      cases this
  · intro rv st' H' locs' cells' slots' pc' ls' hQ E hc hs hrt
    refine W.widen (k := zf - z) (n := slb z zf) (by omega) (by omega) ?_
    have hr := B.returns
    have fin : ∀ t : State, t.heap = H' → s.WarmedH t.vm → Qm g zf Q (As.map (cv g)).toArray s (.returned (rv.map (cv g))) t := by
      intro t ht hW
      refine ⟨rv, st', rfl, hQ, ⟨by rw [ht]; exact E.1, by rw [ht]; exact E.2.2, va_K.moved hW.alike hK, ?_, by rw [ht]; exact Nat.le_trans hge E.2.1.1⟩, E.2.1.F ht⟩
      rw [ht]
      exact SX.warm hW (hSX.kept E.2.1.2.1 hge)
    rcases hrt with ⟨hd, v, rfl, ty, hty, hnr⟩ | ⟨hd, rfl, hty⟩ | ⟨hd, ⟨v, rfl⟩, hty⟩ | ⟨hd, ⟨o, rfl⟩, nm, hty⟩
    · exact W.zret B.exec B.bytes (hr.trans hty) hnr (fun t ht hW => fin t ht hW) E.2.1.2.2 hd
    · exact W.vret B.exec B.bytes (hr.trans hty) (fun t ht hW => fin t ht hW) E.2.1.2.2 hd
    · exact W.lret B.exec B.bytes (hr.trans hty) (fun t ht hW => fin t ht hW) E.2.1.2.2 hd
    · exact W.aret (v := .ref (ad g o)) B.exec B.bytes (hr.trans hty) (Or.inl ⟨nm, rfl⟩) (Or.inr ⟨_, rfl⟩) (fun t ht hW => fin t ht hW) E.2.1.2.2 hd
theorem call_g {p : Program} {e : Env} {R : Room} {s : State} {m : MethodId} {args a : Array Value} {below : List Frame} {meth : Method} {c : Code} {H : Heap} {locs : List Loc} {cells slots mc ms z1 : Nat} {Q0 : State → Prop} {ls : Array Slot} {rest st0 : List Value}
    (hr : va_Run p g.1 e R s m args below meth c H locs cells slots mc ms (F0 m pc ls st0) rest (Qm g z1 Q a) (AA g)) (hS : va_S (AA g) s.heap H locs)
    (kk : ∀ (rv : Option Value) (st' : St) (t : State) (H1 : Heap) (locs1 : List Loc), t.heap = H1 → s.vm.Alike t.vm → Q rv st' → CX g z1 st' t → va_S (AA g) s.heap H1 locs1 → W p g.1 e R s m args below meth c H1 locs1 (cells + mc) (slots + ms) Q0 (F0 m (pc + 3) ls ((rv.map (cv g)).toList ++ rest))) : W p g.1 e R s m args below meth c H locs cells slots Q0 (F0 m pc ls st0) := by
  intro T hT X
  obtain ⟨v, st₀, t, T', L, h0, X', hL, e1, e2, ⟨rv, st', hv, hp, hb, hz, hk⟩, st⟩ := hr T hT X
  cases hv
  rw [h0] at hz hk
  obtain ⟨t2, a1, b1⟩ := kk rv st' t T'.heap (locs ++ L) e1.symm (by rw [← e2]; exact X'.warmed.alike) hp hb
    ⟨Nat.le_trans hS.1 (by rw [e1]; exact hz), fun q h1 h2 => by rw [e1, hk q (Nat.lt_of_lt_of_le h1 hS.1) h2]; exact hS.2.1 q h1 h2, fun q hq => by
      rcases List.mem_append.mp hq with h | h
      · exact hS.2.2 q h
      · exact hL q h⟩ T' rfl X'
  exact ⟨t2, st t2 a1, b1⟩
theorem pre_mono {a b : Nat} (h : a ≤ b) : pre a ≤ pre b := by
  induction h with
  | refl => exact Nat.le_refl _
  | step _ ih => refine Nat.le_trans ih ?_; unfold pre; rw [List.range_succ, List.map_append, List.sum_append]; exact Nat.le_add_right _ _
theorem pre_succ (n : Nat) : pre (n + 1) = pre n + (kd n).2.2 := by unfold pre; rw [List.range_succ, List.map_append, List.sum_append]; simp
/-- a method's link from the class own, number idx -/
def Ml (own : String) (idx : Nat) (M' : Mt) (n : Nat) : Prop := plainName (my M').cls = true ∧ Cond.code (my M') (mcc M') (mml M') (mret M') ∈ gwl ∧ Cond.initialized (my M').cls ∈ gwl ∧ mml M' ≤ 40 ∧
  ((my M').cls ≠ "java/lang/invoke/MethodHandle" ∧ (my M').cls ≠ "java/lang/invoke/VarHandle" ∧ (parseMethodDescriptor (my M').desc).map (fun d => d.parameters.length) = some n) ∧ (Cond.methodLink own idx (my M') ∈ gwl ∨ ∃ host, Cond.methodLinkNest own idx (my M') host ∈ nwl)
theorem gwl_good : ∀ w ∈ gwl, (w.onTables && w.keeps) = true ∨ ∃ ty, w = .arrayClass ty := fun w h => good_of_word (List.mem_filter.mp h).2
theorem wsM_in (h : Cond.code (my M) (mcc M) (mml M) (mret M) ∈ gwl) : GoodIn gwl (wsM M) := by
  intro w hw
  rcases List.mem_cons.mp hw with rfl | hw
  · exact ⟨h, gwl_good _ h⟩
  · exact ⟨hw, gwl_good _ hw⟩
theorem blindCX {As : List Value} : FrameBlind (va_Pc (As.map (cv g)) (CX g z st)) := fun _ _ _ _ h => ⟨h.1, h.2.blind⟩
theorem CX.at {p : Program} {s : State} {m : MethodId} {args : Array Value} {meth : Method} {c : Code} {H : Heap} {locs : List Loc} (C : CT g M p s m args meth c) (E : HS g z st s H locs) {U : State} (hU : U.heap = H) (hW : s.WarmedH U.vm) : CX g z st U :=
  ⟨by rw [hU]; exact E.1, by rw [hU]; exact E.2.2, va_K.moved hW.alike C.2.2.2.2.2.2.1, SX.warm hW (by rw [hU]; exact C.2.2.2.2.2.2.2.1.kept E.2.1.2.1 C.2.2.2.2.2.2.2.2), by rw [hU]; exact Nat.le_trans C.2.2.2.2.2.2.2.2 E.2.1.1⟩
theorem rest_cat (rest : List Value) : ((rest.map (cv g)).map fun v => v.category).sum = (rest.map fun v => v.category).sum := by
  rw [List.map_map]; congr 1; apply List.map_congr_left; intro v _; exact cv_cat g v
theorem aft {rv : Option Value} {rest : List Value} : (rv.map (cv g)).toList ++ rest.map (cv g) = (rv.toList ++ rest).map (cv g) := by cases rv <;> simp
theorem s_callV {M' : Mt} {o ci n idx z1 k : Nat} {As rest S' : List Value} (hd : decode (mcc M) pc = .ok (.invokevirtual idx, 3)) (hm : Ml (my M).cls idx M' As.length) (hin : Cond.instanceMethod (my M') ∈ gwl) (hsel : Cond.selects (my M').cls (my M') (my M') ∈ gwl) (hk : kd o = (0, ci, n)) (ho : o < z) (hc : clR ci = (my M').cls)
    (hS : S' = As.reverse ++ .ref o :: rest) (hw : (rest.map fun v => v.category).sum ≤ 8) (hz1 : z ≤ z1) (hz2 : z1 ≤ zf) (hla : (lg_sl ((Value.ref o :: As).map (cv g))).length ≤ mml M')
    (hR : Rn g d z z1 M' 0 (eL (.ref o :: As) ++ List.replicate k none) [] st (fun rv st' => Rn g (d + 1) z1 zf M (pc + 3) L (rv.toList ++ rest) st' Q)) : Rn g (d + 1) z zf M pc L S' st Q := by
  intro p e R s m args below meth c H locs cells slots Q0 ls C E hl hr hk0
  subst hS
  obtain ⟨hp, hcode, hini, hml, hde, hlk⟩ := hm
  have hM := met_of hR hp hz1 hla
  have hci := (kd_cls hk).1
  have hn := (kd_cls hk).2
  subst hn
  have he := wsO_k (g := g) (st := st) ho (cellE_obj hk)
  obtain ⟨r1, r2, r3, r4, r5⟩ := hr
  have m1 := pre_mono hz1
  have m2 := pre_mono hz2
  have b1 : cells + (z1 - z) ≤ R.cells := by omega
  have b2 : slots + slb z z1 ≤ R.slots := by unfold slb at r4 ⊢; omega
  have hfr : (rmM d z z1).frames + 1 ≤ R.frames ∧ 8 + (mml M' + 11) + (rmM d z z1).locals ≤ R.locals := ⟨r1, by show 8 + (mml M' + 11) + d * 64 ≤ R.locals; omega⟩
  have hrecv := va_recv C.2.2.2.2.2.2.1 E.1 (cl_at hci) he
  have hpre : PreV s H (my M').cls (gb g + o) (va_Pc ((Value.ref o :: As).map (cv g)) (CX g z st)) (As.map (cv g)) :=
    ⟨blindCX, by rw [← hc]; exact hrecv, fun U hU hW => ⟨by rw [List.map_cons, ref_cv hk (by omega)], CX.at C E hU hW⟩⟩
  have est : ((As.reverse ++ .ref o :: rest).map (cv g)) = (As.map (cv g)).reverse ++ .ref (gb g + o) :: rest.map (cv g) := by rw [List.map_append, List.map_reverse, List.map_cons, ref_cv hk (by omega)]
  have hwr : 2 * (F0 m pc ls ((As.reverse ++ .ref o :: rest).map (cv g))).monitorRoom + ((rest.map (cv g)).map fun v => v.category).sum ≤ 8 := by rw [rest_cat]; exact lv_room hw
  have run : va_Run p g.1 e R s m args below meth c H locs cells slots (z1 - z) (slb z z1) (F0 m pc ls ((As.reverse ++ .ref o :: rest).map (cv g))) (rest.map (cv g)) (Qm g z1 (fun rv st' => Rn g (d + 1) z1 zf M (pc + 3) L (rv.toList ++ rest) st' Q) (Value.ref (gb g + o) :: As.map (cv g)).toArray) (AA g) := by
    rcases hlk with h1 | ⟨host, h1⟩
    · exact va_runV (As := As.map (cv g)) (C := (my M').cls) ⟨C.1, C.2.1, C.2.2.1, C.2.2.2.1, C.2.2.2.2.1⟩ hM ⟨callB_of As.length C.2.2.2.2.1 (wsM_in hcode) rfl rfl rfl (C.2.2.2.2.1 _ hini) (C.2.2.2.2.1 _ h1) hde hfr, C.2.2.2.2.1 _ hin, C.2.2.2.2.1 _ hsel⟩ hpre rfl (by simp) hl.1 est hwr hd ⟨b1, b2⟩
    · exact va_runVN (As := As.map (cv g)) (C := (my M').cls) ⟨C.1, C.2.1, C.2.2.1, C.2.2.2.1, C.2.2.2.2.1⟩ hM ⟨va_cnB As.length C.2.2.2.2.1 (wsM_in hcode) rfl rfl rfl (C.2.2.2.2.2.2.2.1.2.2.2.2.1 _ h1) (C.2.2.2.2.1 _ hini) hde hfr, C.2.2.2.2.1 _ hin, C.2.2.2.2.1 _ hsel⟩ hpre rfl (by simp) hl.1 est hwr hd ⟨b1, b2⟩
  refine call_g run E.2.1 (fun rv st' t H1 locs1 ht hvm hQ hCX hS1 => ?_)
  rw [aft]
  refine hQ p e R s m args below meth c H1 locs1 _ _ Q0 ls C ⟨by rw [← ht]; exact hCX.1, hS1, by rw [← ht]; exact hCX.2.1⟩ hl ⟨r1, r2, by omega, by unfold slb at r4 ⊢; omega, hz2⟩ ?_
  intro rv' st'' H'' locs'' cells'' slots'' pc'' ls'' hQ'' hE'' hc'' hs'' hrt''
  refine hk0 rv' st'' H'' locs'' cells'' slots'' pc'' ls'' hQ'' hE'' (by omega) (by unfold slb at hs'' ⊢; omega) hrt''
theorem s_callS {M' : Mt} {idx z1 k : Nat} {As rest S' : List Value} (hd : decode (mcc M) pc = .ok (.invokestatic idx, 3)) (hm : Ml (my M).cls idx M' As.length) (hst : Cond.static (my M') ∈ gwl)
    (hS : S' = As.reverse ++ rest) (hw : (rest.map fun v => v.category).sum ≤ 8) (hz1 : z ≤ z1) (hz2 : z1 ≤ zf) (hla : (lg_sl (As.map (cv g))).length ≤ mml M')
    (hR : Rn g d z z1 M' 0 (eL As ++ List.replicate k none) [] st (fun rv st' => Rn g (d + 1) z1 zf M (pc + 3) L (rv.toList ++ rest) st' Q)) : Rn g (d + 1) z zf M pc L S' st Q := by
  intro p e R s m args below meth c H locs cells slots Q0 ls C E hl hr hk0
  subst hS
  obtain ⟨hp, hcode, hini, hml, hde, hlk⟩ := hm
  have hM := met_of hR hp hz1 hla
  obtain ⟨r1, r2, r3, r4, r5⟩ := hr
  have m1 := pre_mono hz1
  have m2 := pre_mono hz2
  have b1 : cells + (z1 - z) ≤ R.cells := by omega
  have b2 : slots + slb z z1 ≤ R.slots := by unfold slb at r4 ⊢; omega
  have hfr : (rmM d z z1).frames + 1 ≤ R.frames ∧ 8 + (mml M' + 11) + (rmM d z z1).locals ≤ R.locals := ⟨r1, by show 8 + (mml M' + 11) + d * 64 ≤ R.locals; omega⟩
  have hpre : PreS s H (va_Pc (As.map (cv g)) (CX g z st)) (As.map (cv g)) :=
    ⟨blindCX, fun U hU hW => ⟨rfl, CX.at C E hU hW⟩⟩
  have est : ((As.reverse ++ rest).map (cv g)) = (As.map (cv g)).reverse ++ rest.map (cv g) := by rw [List.map_append, List.map_reverse]
  have hwr : 2 * (F0 m pc ls ((As.reverse ++ rest).map (cv g))).monitorRoom + ((rest.map (cv g)).map fun v => v.category).sum ≤ 8 := by rw [rest_cat]; exact lv_room hw
  have run : va_Run p g.1 e R s m args below meth c H locs cells slots (z1 - z) (slb z z1) (F0 m pc ls ((As.reverse ++ rest).map (cv g))) (rest.map (cv g)) (Qm g z1 (fun rv st' => Rn g (d + 1) z1 zf M (pc + 3) L (rv.toList ++ rest) st' Q) (As.map (cv g)).toArray) (AA g) := by
    rcases hlk with h1 | ⟨host, h1⟩
    · exact va_runS (As := As.map (cv g)) ⟨C.1, C.2.1, C.2.2.1, C.2.2.2.1, C.2.2.2.2.1⟩ hM ⟨callB_of As.length C.2.2.2.2.1 (wsM_in hcode) rfl rfl rfl (C.2.2.2.2.1 _ hini) (C.2.2.2.2.1 _ h1) hde hfr, C.2.2.2.2.1 _ hst⟩ hpre rfl (by simp) hl.1 est hwr hd ⟨b1, b2⟩
    · exact va_runSN (As := As.map (cv g)) ⟨C.1, C.2.1, C.2.2.1, C.2.2.2.1, C.2.2.2.2.1⟩ hM ⟨va_cnB As.length C.2.2.2.2.1 (wsM_in hcode) rfl rfl rfl (C.2.2.2.2.2.2.2.1.2.2.2.2.1 _ h1) (C.2.2.2.2.1 _ hini) hde hfr, C.2.2.2.2.1 _ hst, trivial⟩ hpre rfl (by simp) hl.1 est hwr hd ⟨b1, b2⟩
  refine call_g run E.2.1 (fun rv st' t H1 locs1 ht hvm hQ hCX hS1 => ?_)
  rw [aft]
  refine hQ p e R s m args below meth c H1 locs1 _ _ Q0 ls C ⟨by rw [← ht]; exact hCX.1, hS1, by rw [← ht]; exact hCX.2.1⟩ hl ⟨r1, r2, by omega, by unfold slb at r4 ⊢; omega, hz2⟩ ?_
  intro rv' st'' H'' locs'' cells'' slots'' pc'' ls'' hQ'' hE'' hc'' hs'' hrt''
  refine hk0 rv' st'' H'' locs'' cells'' slots'' pc'' ls'' hQ'' hE'' (by omega) (by unfold slb at hs'' ⊢; omega) hrt''
theorem s_callI {M' : Mt} {o ci n idx z1 k : Nat} {As rest S' : List Value} (hd : decode (mcc M) pc = .ok (.invokespecial idx, 3)) (hm : Ml (my M).cls idx M' As.length) (hin : Cond.instanceMethod (my M') ∈ gwl) (hnm : (my M').name = "<init>") (hrt : mret M' = none) (hk : kd o = (0, ci, n)) (ho : o < z) 
    (hS : S' = As.reverse ++ .ref o :: rest) (hw : (rest.map fun v => v.category).sum ≤ 8) (hz1 : z ≤ z1) (hz2 : z1 ≤ zf) (hla : (lg_sl ((Value.ref o :: As).map (cv g))).length ≤ mml M')
    (hR : Rn g d z z1 M' 0 (eL (.ref o :: As) ++ List.replicate k none) [] st (fun rv st' => Rn g (d + 1) z1 zf M (pc + 3) L (rv.toList ++ rest) st' Q)) : Rn g (d + 1) z zf M pc L S' st Q := by
  intro p e R s m args below meth c H locs cells slots Q0 ls C E hl hr hk0
  subst hS
  obtain ⟨hp, hcode, hini, hml, hde, hlk⟩ := hm
  have hM := met_of hR hp hz1 hla
  have hci := (kd_cls hk).1
  have hn := (kd_cls hk).2
  subst hn
  have he := wsO_k (g := g) (st := st) ho (cellE_obj hk)
  obtain ⟨r1, r2, r3, r4, r5⟩ := hr
  have m1 := pre_mono hz1
  have m2 := pre_mono hz2
  have b1 : cells + (z1 - z) ≤ R.cells := by omega
  have b2 : slots + slb z z1 ≤ R.slots := by unfold slb at r4 ⊢; omega
  have hfr : (rmM d z z1).frames + 1 ≤ R.frames ∧ 8 + (mml M' + 11) + (rmM d z z1).locals ≤ R.locals := ⟨r1, by show 8 + (mml M' + 11) + d * 64 ≤ R.locals; omega⟩
  have hpre : PreS s H (va_Pc ((Value.ref o :: As).map (cv g)) (CX g z st)) (.ref (gb g + o) :: As.map (cv g)) :=
    ⟨blindCX, fun U hU hW => ⟨by rw [List.map_cons, ref_cv hk (by omega)], CX.at C E hU hW⟩⟩
  have est : ((As.reverse ++ .ref o :: rest).map (cv g)) = (As.map (cv g)).reverse ++ .ref (gb g + o) :: rest.map (cv g) := by rw [List.map_append, List.map_reverse, List.map_cons, ref_cv hk (by omega)]
  have hwr : 2 * (F0 m pc ls ((As.reverse ++ .ref o :: rest).map (cv g))).monitorRoom + ((rest.map (cv g)).map fun v => v.category).sum ≤ 8 := by rw [rest_cat]; exact lv_room hw
  have run : va_Run p g.1 e R s m args below meth c H locs cells slots (z1 - z) (slb z z1) (F0 m pc ls ((As.reverse ++ .ref o :: rest).map (cv g))) (rest.map (cv g)) (Qm g z1 (fun rv st' => Rn g (d + 1) z1 zf M (pc + 3) L (rv.toList ++ rest) st' Q) (Value.ref (gb g + o) :: As.map (cv g)).toArray) (AA g) := by
    have hcode' : Cond.code (my M') (mcc M') (mml M') none ∈ gwl := by rw [← hrt]; exact hcode
    have hw' : wsM M' = Cond.code (my M') (mcc M') (mml M') none :: gwl := by unfold wsM; rw [hrt]
    rcases hlk with h1 | ⟨host, h1⟩
    · exact va_runI (As := As.map (cv g)) ⟨C.1, C.2.1, C.2.2.1, C.2.2.2.1, C.2.2.2.2.1⟩ hM ⟨callB_of As.length C.2.2.2.2.1 (wsM_in hcode) hw' rfl rfl (C.2.2.2.2.1 _ hini) (C.2.2.2.2.1 _ h1) hde hfr, hnm, C.2.2.2.2.1 _ hin⟩ hpre rfl (by simp) hl.1 est hwr hd ⟨b1, b2⟩
    · exact va_runIN (As := As.map (cv g)) ⟨C.1, C.2.1, C.2.2.1, C.2.2.2.1, C.2.2.2.2.1⟩ hM ⟨va_cnB As.length C.2.2.2.2.1 (wsM_in hcode) hw' rfl rfl (C.2.2.2.2.2.2.2.1.2.2.2.2.1 _ h1) (C.2.2.2.2.1 _ hini) hde hfr, hnm, C.2.2.2.2.1 _ hin⟩ hpre rfl (by simp) hl.1 est hwr hd ⟨b1, b2⟩
  refine call_g run E.2.1 (fun rv st' t H1 locs1 ht hvm hQ hCX hS1 => ?_)
  rw [aft]
  refine hQ p e R s m args below meth c H1 locs1 _ _ Q0 ls C ⟨by rw [← ht]; exact hCX.1, hS1, by rw [← ht]; exact hCX.2.1⟩ hl ⟨r1, r2, by omega, by unfold slb at r4 ⊢; omega, hz2⟩ ?_
  intro rv' st'' H'' locs'' cells'' slots'' pc'' ls'' hQ'' hE'' hc'' hs'' hrt''
  refine hk0 rv' st'' H'' locs'' cells'' slots'' pc'' ls'' hQ'' hE'' (by omega) (by unfold slb at hs'' ⊢; omega) hrt''
end CALC5
end
section
section CALC6
variable {g : Gt} {d z zf : Nat} {M : Mt} {pc : Nat} {L : List (Option Value)} {S : List Value} {st : St} {Q : Option Value → St → Prop}
theorem s_iret {v : Int32} (hd : decode (mcc M) pc = .ok (.ireturn, 1)) (hn : NR M v) (hq : Q (some (.int v)) st) : Rn g d z z M pc L [.int v] st Q := by
  intro p e R s m args below meth c H locs cells slots Q0 ls C E hl hr hk0
  exact hk0 (some (.int v)) st H locs cells slots pc ls hq E (Nat.le_add_right _ _) (Nat.le_add_right _ _) (Or.inl ⟨hd, v, rfl, hn⟩)
theorem s_vret (hd : decode (mcc M) pc = .ok (.return_, 1)) (hn : mret M = none) (hq : Q none st) : Rn g d z z M pc L [] st Q := by
  intro p e R s m args below meth c H locs cells slots Q0 ls C E hl hr hk0
  exact hk0 none st H locs cells slots pc ls hq E (Nat.le_add_right _ _) (Nat.le_add_right _ _) (Or.inr (Or.inl ⟨hd, rfl, hn⟩))
theorem s_lret {v : Int64} (hd : decode (mcc M) pc = .ok (.lreturn, 1)) (hn : mret M = some .long) (hq : Q (some (.long v)) st) : Rn g d z z M pc L [.long v] st Q := by
  intro p e R s m args below meth c H locs cells slots Q0 ls C E hl hr hk0
  exact hk0 (some (.long v)) st H locs cells slots pc ls hq E (Nat.le_add_right _ _) (Nat.le_add_right _ _) (Or.inr (Or.inr (Or.inl ⟨hd, ⟨v, rfl⟩, hn⟩)))
theorem s_aret {o : Nat} {nm : String} (hd : decode (mcc M) pc = .ok (.areturn, 1)) (hn : mret M = some (.object nm)) (hq : Q (some (.ref o)) st) : Rn g d z z M pc L [.ref o] st Q := by
  intro p e R s m args below meth c H locs cells slots Q0 ls C E hl hr hk0
  exact hk0 (some (.ref o)) st H locs cells slots pc ls hq E (Nat.le_add_right _ _) (Nat.le_add_right _ _) (Or.inr (Or.inr (Or.inr ⟨hd, ⟨o, rfl⟩, nm, hn⟩)))
/-- Object.<init> -/
theorem s_oinit {o a b c0 idx : Nat} (hd : decode (mcc M) pc = .ok (.invokespecial idx, 3)) (hlk : Cond.methodLink (my M).cls idx objectInit ∈ gwl) (hin : Cond.instanceMethod objectInit ∈ gwl) (hco : Cond.code objectInit ⟨#[0xb1]⟩ 1 none ∈ gwl) (hk : kd o = (a, b, c0)) (ha : a < 9) (hw : (S.map fun v => v.category).sum ≤ 8) (hd1 : 1 ≤ d)
    (k : Rn g d z zf M (pc + 3) L S st Q) : Rn g d z zf M pc L (.ref o :: S) st Q := by
  intro p e R s m args below meth c H locs cells slots Q0 ls C E hl hr hk0
  have e0 : (Value.ref o :: S).map (cv g) = .ref (gb g + o) :: S.map (cv g) := by rw [List.map_cons, ref_cv hk ha]
  rw [e0]
  refine W.objInit C.1 C.2.1 C.2.2.2.1 (C.2.2.2.2.1 _ hlk) (C.2.2.2.2.1 _ hin) (C.2.2.2.2.1 _ hco) rfl (by rw [C.2.2.1]; exact hl.1) rfl hd (Nat.le_trans hd1 hr.1) ?_ (k p e R s m args below meth c H locs cells slots Q0 ls C E hl hr hk0)
  have h2 : d * 64 ≤ R.locals := hr.2.1
  have h3 : 2 * (F0 m pc ls (.ref (gb g + o) :: S.map (cv g))).monitorRoom + ((S.map (cv g)).map fun v => v.category).sum ≤ 8 := by rw [rest_cat]; exact lv_room hw
  omega
/-- what is made: the next number, everything in it 0 -/
def zeroAt (st : St) (z : Nat) : St := (fun a => if a = z then fun _ => 0 else st.1 a, fun a => if a = z then fun _ => 0 else st.2.1 a, fun a => if a = z then fun _ => none else st.2.2 a)
theorem wsO_push {x : va_E} (hx : x = cellE g (zeroAt st z) z (kd z)) : wsO g z st ++ [(gb g + z, x)] = wsO g (z + 1) (zeroAt st z) := by
  unfold wsO
  rw [List.range_succ, List.map_append, hx]
  congr 1
  apply List.map_congr_left
  intro o ho
  have ho' : o ≠ z := by have := List.mem_range.mp ho; omega
  have e1 : (zeroAt st z).1 o = st.1 o := by simp [zeroAt, ho']
  have e2 : (zeroAt st z).2.1 o = st.2.1 o := by simp [zeroAt, ho']
  have e3 : (zeroAt st z).2.2 o = st.2.2 o := by simp [zeroAt, ho']
  have : cellE g st o (kd o) = cellE g (zeroAt st z) o (kd o) := by
    rcases hk : kd o with ⟨t, c, n⟩
    have ef : fVal g st o c = fVal g (zeroAt st z) o c := by funext j; simp only [fVal, e1, e3]
    unfold cellE
    split <;> first | (simp only [e1, e2, e3, *]; done) | skip
    next ci n' hk' => cases hk'; rw [ef]
  rw [this]
theorem grow {p : Program} {s : State} {m : MethodId} {args : Array Value} {meth : Method} {c : Code} {H H' : Heap} {locs : List Loc} {x : va_E} (C : CT g M p s m args meth c) (E : HS g z st s H locs) (hzl : z < kdL.length) (hx : x = cellE g (zeroAt st z) z (kd z)) (hz : H'.size = H.size + 1) (ho : ∀ q, q < H.size → H'[q]? = H[q]?) (hat : va_at (gD g) vwCl (gb g + z, x) H') : HS g (z + 1) (zeroAt st z) s H' locs := by
  refine ⟨?_, ⟨Nat.le_trans E.2.1.1 (by omega), fun q h1 h2 => (ho q (Nat.lt_of_lt_of_le h1 E.2.1.1)).trans (E.2.1.2.1 q h1 h2), E.2.1.2.2⟩, fun _ => by have := E.2.2 hzl; omega⟩
  rw [← wsO_push hx]
  refine (E.1.kept (fun k q hk => ho q.1 ((E.1 k q hk).lt))).app (fun k q hk => ?_)
  have hk1 : k < 1 := (List.getElem?_eq_some_iff.mp hk).1
  rw [show k = 0 by omega] at hk
  cases hk
  exact hat
theorem dfl_ok : ∀ ci, ci < 9 → ∀ j, j < clN ci → defaultValue (fTy ci j) = if isRf (fTy ci j) = true then .null else .int 0 := by decide +kernel
theorem s_new {ci n idx : Nat} (hd : decode (mcc M) pc = .ok (.new idx, 3)) (hk : kd z = (0, ci, n)) (hcl : Cond.classLink (my M).cls idx (clR ci) ∈ gwl) (hins : Cond.instantiable (clR ci) n ∈ gwl) (hini : Cond.initialized (clR ci) ∈ gwl) (hz : z < zf)
    (k : Rn g d (z + 1) zf M (pc + 3) L (.ref z :: S) (zeroAt st z) Q) : Rn g d z zf M pc L S st Q := by
  intro p e R s m args below meth c H locs cells slots Q0 ls C E hl hr hk0
  obtain ⟨hci, hn⟩ := kd_cls hk
  subst hn
  obtain ⟨r1, r2, r3, r4, r5⟩ := hr
  have hsz := E.2.2 (kd_lt hk (by omega))
  have m1 := pre_mono (show z + 1 ≤ zf by omega)
  have m0 := pre_succ z
  rw [hk] at m0
  dsimp only at m0
  have hKn := C.2.2.2.2.2.2.1.1 ci _ (cl_at hci)
  refine W.newcK C.1 C.2.1 C.2.2.2.1 (C.2.2.2.2.1 _ hcl) (C.2.2.2.2.1 _ hins) (C.2.2.2.2.1 _ hini) rfl hd (by omega) (by unfold slb at r4; omega) hKn.2.1 hsz fun H1 kC hkC e1 z1 o1 => ?_
  have e9 : (.ref (gb g + z) :: S.map (cv g)) = (Value.ref z :: S).map (cv g) := by rw [List.map_cons, ref_cv hk (by omega)]
  rw [show (F0 m pc ls (S.map (cv g))).stack = S.map (cv g) from rfl, e9]
  refine k p e R s m args below meth c H1 locs _ _ Q0 ls C (grow C E (kd_lt hk (by omega)) rfl (by rw [z1, hsz]) (fun q hq => o1 q (by rw [← hsz]; exact hq)) ?_) hl ⟨r1, r2, by omega, by unfold slb at r4 ⊢; omega, by omega⟩ ?_
  · rw [cellE_obj hk]
    refine ⟨_, cl_at hci, (u_born (fTy ci) C.2.2.2.2.1 (cf_in hci) hKn hkC e1 (cf_ty hci)).to (fun j hj => ?_)⟩
    rw [dfl_ok ci hci j hj]
    unfold vp_V
    rw [List.getD_eq_getElem?_getD, List.getElem?_map, List.getElem?_range hj]
    simp only [Option.map_some, Option.getD_some, fVal, zeroAt, if_true]
    cases isRf (fTy ci j) <;> rfl
  · intro rv' st'' H'' locs'' cells'' slots'' pc'' ls'' hQ'' hE'' hc'' hs'' hrt''
    exact hk0 rv' st'' H'' locs'' cells'' slots'' pc'' ls'' hQ'' hE'' (by omega) (by unfold slb at hs'' ⊢; omega) hrt''
theorem gA_eq {s : State} {args : Array Value} {p : Program} {m : MethodId} {meth : Method} {c : Code} (C : CT g M p s m args meth c) {i : Nat} (hi : i < 4) {cA : ClassId} (h : s.vm.findClass ("[" ++ (aT i).toString) = some cA) : cA = gA g i := by
  have : ∃ x, (tysG g)[i]? = some x ∧ x = (gA g i, aT i) := by rcases (show i = 0 ∨ i = 1 ∨ i = 2 ∨ i = 3 by omega) with rfl | rfl | rfl | rfl <;> exact ⟨_, rfl, rfl⟩
  obtain ⟨x, hx, rfl⟩ := this
  have h2 := (C.2.2.2.2.2.2.1.2 i _ hx).2
  have h3 : s.vm.findClass ("[" ++ (aT i).toString) = some (gA g i) := by rcases (show i = 0 ∨ i = 1 ∨ i = 2 ∨ i = 3 by omega) with rfl | rfl | rfl | rfl <;> exact h2
  exact Option.some.inj (h.symm.trans h3)
theorem s_newa {c0 n : Nat} {atype : ArrayType} {i : Int32} (hd : decode (mcc M) pc = .ok (.newarray atype, 2)) (hk : kd z = (1, c0, n)) (hc : c0 < 3) (hty : newarray.typeOf atype = aT c0) (hw : Cond.arrayClass (aT c0) ∈ gwl) (hi : ¬ i < 0) (hn : i.toNatClampNeg = n) (hb : n * componentBytes (aT c0) ≤ 536870912) (hz : z < zf)
    (k : Rn g d (z + 1) zf M (pc + 2) L (.ref z :: S) (zeroAt st z) Q) : Rn g d z zf M pc L (.int i :: S) st Q := by
  intro p e R s m args below meth c H locs cells slots Q0 ls C E hl hr hk0
  obtain ⟨r1, r2, r3, r4, r5⟩ := hr
  have hsz := E.2.2 (kd_lt hk (by omega))
  have m1 := pre_mono (show z + 1 ≤ zf by omega)
  have m0 := pre_succ z
  rw [hk] at m0
  dsimp only at m0
  rw [← hty] at hb hw
  refine va_newaK C.1 C.2.1 (C.2.2.2.2.1 _ hw) rfl hd rfl hi hn hb (by omega) (by unfold slb at r4; omega) hsz fun H1 cA e1 z1 o1 hAr hNm => ?_
  have e9 : (.ref (gb g + z) :: S.map (cv g)) = (Value.ref z :: S).map (cv g) := by rw [List.map_cons, ref_cv hk (by omega)]
  rw [e9]
  rw [hty] at hNm e1
  have hcA := gA_eq C (show c0 < 4 by omega) hNm
  subst hcA
  refine k p e R s m args below meth c H1 locs _ _ Q0 ls C (grow C E (kd_lt hk (by omega)) rfl (by rw [z1, hsz]) (fun q hq => o1 q (by rw [← hsz]; exact hq)) ?_) hl ⟨r1, r2, by omega, by unfold slb at r4 ⊢; omega, by omega⟩ ?_
  · rw [cellE_arr hk]
    show H1[_]? = some (vp_cell _ _)
    rw [e1, vp_cell_i]
    congr 2
    funext j
    rcases (show c0 = 0 ∨ c0 = 1 ∨ c0 = 2 by omega) with rfl | rfl | rfl <;> simp [zeroAt, aT, defaultValue]
  · intro rv' st'' H'' locs'' cells'' slots'' pc'' ls'' hQ'' hE'' hc'' hs'' hrt''
    exact hk0 rv' st'' H'' locs'' cells'' slots'' pc'' ls'' hQ'' hE'' (by omega) (by unfold slb at hs'' ⊢; omega) hrt''
theorem s_newl {c0 n : Nat} {i : Int32} (hd : decode (mcc M) pc = .ok (.newarray .long, 2)) (hk : kd z = (2, c0, n)) (hw : Cond.arrayClass .long ∈ gwl) (hi : ¬ i < 0) (hn : i.toNatClampNeg = n) (hb : n * componentBytes .long ≤ 536870912) (hz : z < zf)
    (k : Rn g d (z + 1) zf M (pc + 2) L (.ref z :: S) (zeroAt st z) Q) : Rn g d z zf M pc L (.int i :: S) st Q := by
  intro p e R s m args below meth c H locs cells slots Q0 ls C E hl hr hk0
  obtain ⟨r1, r2, r3, r4, r5⟩ := hr
  have hsz := E.2.2 (kd_lt hk (by omega))
  have m1 := pre_mono (show z + 1 ≤ zf by omega)
  have m0 := pre_succ z
  rw [hk] at m0
  dsimp only at m0
  refine va_newaK C.1 C.2.1 (atype := .long) (C.2.2.2.2.1 _ hw) rfl hd rfl hi hn hb (by omega) (by unfold slb at r4; omega) hsz fun H1 cA e1 z1 o1 hAr hNm => ?_
  have e9 : (.ref (gb g + z) :: S.map (cv g)) = (Value.ref z :: S).map (cv g) := by rw [List.map_cons, ref_cv hk (by omega)]
  rw [e9]
  have hcA := gA_eq (i := 3) C (by omega) hNm
  subst hcA
  refine k p e R s m args below meth c H1 locs _ _ Q0 ls C (grow C E (kd_lt hk (by omega)) rfl (by rw [z1, hsz]) (fun q hq => o1 q (by rw [← hsz]; exact hq)) ?_) hl ⟨r1, r2, by omega, by unfold slb at r4 ⊢; omega, by omega⟩ ?_
  · rw [cellE_lng hk]
    show H1[_]? = some (vp_cell _ _)
    rw [e1, vp_cell_l]
    congr 2
    funext j
    simp [zeroAt, newarray.typeOf, defaultValue]
  · intro rv' st'' H'' locs'' cells'' slots'' pc'' ls'' hQ'' hE'' hc'' hs'' hrt''
    exact hk0 rv' st'' H'' locs'' cells'' slots'' pc'' ls'' hQ'' hE'' (by omega) (by unfold slb at hs'' ⊢; omega) hrt''
theorem s_newq {c0 n idx : Nat} {i : Int32} (hd : decode (mcc M) pc = .ok (.anewarray idx, 3)) (hk : kd z = (3, c0, n)) (hcl : Cond.classLink (my M).cls idx RX6 ∈ gwl) (hi : ¬ i < 0) (hn : i.toNatClampNeg = n) (hb : n * 4 ≤ 536870912) (hz : z < zf)
    (k : Rn g d (z + 1) zf M (pc + 3) L (.ref z :: S) (zeroAt st z) Q) : Rn g d z zf M pc L (.int i :: S) st Q := by
  intro p e R s m args below meth c H locs cells slots Q0 ls C E hl hr hk0
  subst hn
  obtain ⟨r1, r2, r3, r4, r5⟩ := hr
  have hsz := E.2.2 (kd_lt hk (by omega))
  have m1 := pre_mono (show z + 1 ≤ zf by omega)
  have m0 := pre_succ z
  rw [hk] at m0
  dsimp only at m0
  refine W.anew C.1 C.2.1 C.2.2.2.1 (C.2.2.2.2.1 _ hcl) (va_AO.use C.2.2.2.2.2.2.2.1.2.2.2.2.2.1) rfl hd rfl hi hb (by omega) (by unfold slb at r4; omega) fun cA kA comp f1 f2 f3 f4 => ?_
  rw [hsz]
  have e9 : (.ref (gb g + z) :: S.map (cv g)) = (Value.ref z :: S).map (cv g) := by rw [List.map_cons, ref_cv hk (by omega)]
  rw [e9]
  obtain ⟨_, _, _, _, _, k4⟩ := (C.2.2.2.2.2.2.1.2 4 _ rfl).2
  have hcA : cA = gA g 4 := Option.some.inj (f1.symm.trans k4)
  subst hcA
  have e1 : (H.push ({ cls := gA g 4, slots := Array.replicate i.toNatClampNeg .null, vm := .none } : Cell))[gb g + z]? = some (arrV (gA g 4) i.toNatClampNeg (fun _ => .null)) := by rw [← hsz, Array.getElem?_push_size, ← arrV_new]
  refine k p e R s m args below meth c _ locs _ _ Q0 ls C (grow C E (kd_lt hk (by omega)) rfl (by rw [Array.size_push]) (fun q hq => by rw [Array.getElem?_push, if_neg (Nat.ne_of_lt hq)]) ?_) hl ⟨r1, r2, by omega, by unfold slb at r4 ⊢; omega, by omega⟩ ?_
  · rw [cellE_rfs hk]
    show (H.push _)[_]? = some (vp_cell _ _)
    rw [e1, vp_cell_q]
    congr 2
    funext j
    simp [zeroAt, va_rf]
  · intro rv' st'' H'' locs'' cells'' slots'' pc'' ls'' hQ'' hE'' hc'' hs'' hrt''
    exact hk0 rv' st'' H'' locs'' cells'' slots'' pc'' ls'' hQ'' hE'' (by omega) (by unfold slb at hs'' ⊢; omega) hrt''
end CALC6
end
section
section CALC7
variable {g : Gt} {d z zf : Nat} {M : Mt} {pc : Nat} {L : List (Option Value)} {S : List Value} {st : St} {Q : Option Value → St → Prop}
theorem cvS {i : Nat} {v : List Value} : (Value.ref (1000 + i) :: v).map (cv g) = .ref (gs g i) :: v.map (cv g) := by
  rw [List.map_cons]; show Value.ref (ad g (1000 + i)) :: _ = _; unfold ad; rw [if_neg (by omega), Nat.add_sub_cancel_left]
theorem s_scr {i : Int32} (hd : decode (mcc M) pc = .ok (.iaload, 1)) (hin : vp_in i (gL g)) (k : Rn g d z zf M (pc + 1) L (.int (gX g i.toNatClampNeg) :: S) st Q) : Rn g d z zf M pc L (.int i :: .ref 1000 :: S) st Q := by
  intro p e R s m args below meth c H locs cells slots Q0 ls C E hl hr hk0
  have e9 : (Value.int i :: .ref 1000 :: S).map (cv g) = .int i :: .ref (gs g 0) :: S.map (cv g) := by rw [List.map_cons, cvS (i := 0)]; rfl
  rw [e9]
  have X := C.2.2.2.2.2.2.2.1
  exact va_sld C.1 C.2.1 X.1 (Nat.lt_of_lt_of_le X.2.1 C.2.2.2.2.2.2.2.2) (Nat.not_le.mpr X.2.1) E.2.1 hin hd (k p e R s m args below meth c H locs cells slots Q0 ls C E hl hr hk0)
theorem s_slen (hd : decode (mcc M) pc = .ok (.arraylength, 1)) (k : Rn g d z zf M (pc + 1) L (.int (Int32.ofNat (gL g)) :: S) st Q) : Rn g d z zf M pc L (.ref 1000 :: S) st Q := by
  intro p e R s m args below meth c H locs cells slots Q0 ls C E hl hr hk0
  rw [cvS (i := 0)]
  have X := C.2.2.2.2.2.2.2.1
  exact va_slen C.1 C.2.1 X.1 (Nat.lt_of_lt_of_le X.2.1 C.2.2.2.2.2.2.2.2) (Nat.not_le.mpr X.2.1) E.2.1 hd (k p e R s m args below meth c H locs cells slots Q0 ls C E hl hr hk0)
theorem s_gsA {idx : Nat} (hd : decode (mcc M) pc = .ok (.getstatic idx, 3)) (hw : Cond.fieldLink (my M).cls idx RX0 "ABOVE" "[I" ∈ gwl) (k : Rn g d z zf M (pc + 3) L (.ref 1001 :: S) st Q) : Rn g d z zf M pc L S st Q := by
  intro p e R s m args below meth c H locs cells slots Q0 ls C E hl hr hk0
  have kk := k p e R s m args below meth c H locs cells slots Q0 ls C E hl hr hk0
  rw [cvS (i := 1)] at kk
  exact va_gets C.1 C.2.1 C.2.2.2.2.2.2.2.1.2.2.1.1 E.2.1 C.2.2.2.1 (C.2.2.2.2.1 _ hw) (fun _ h => h) hd kk
theorem s_gsO {idx : Nat} (hd : decode (mcc M) pc = .ok (.getstatic idx, 3)) (hw : Cond.fieldLink (my M).cls idx RX0 "OWN" "[I" ∈ gwl) (k : Rn g d z zf M (pc + 3) L (.ref 1002 :: S) st Q) : Rn g d z zf M pc L S st Q := by
  intro p e R s m args below meth c H locs cells slots Q0 ls C E hl hr hk0
  have kk := k p e R s m args below meth c H locs cells slots Q0 ls C E hl hr hk0
  rw [cvS (i := 2)] at kk
  exact va_gets C.1 C.2.1 C.2.2.2.2.2.2.2.1.2.2.2.1.1 E.2.1 C.2.2.2.1 (C.2.2.2.2.1 _ hw) (fun _ h => h) hd kk
theorem s_tabA {i : Int32} (hd : decode (mcc M) pc = .ok (.iaload, 1)) (hin : vp_in i 8) (k : Rn g d z zf M (pc + 1) L (.int (tabA i.toNatClampNeg) :: S) st Q) : Rn g d z zf M pc L (.int i :: .ref 1001 :: S) st Q := by
  intro p e R s m args below meth c H locs cells slots Q0 ls C E hl hr hk0
  have e9 : (Value.int i :: .ref 1001 :: S).map (cv g) = .int i :: .ref (gs g 1) :: S.map (cv g) := by rw [List.map_cons, cvS (i := 1)]; rfl
  rw [e9]
  exact va_ti C.1 C.2.1 C.2.2.2.2.2.2.2.1.2.2.1.2 E.2.1 hin rfl hd (k p e R s m args below meth c H locs cells slots Q0 ls C E hl hr hk0)
theorem s_tabO {i : Int32} (hd : decode (mcc M) pc = .ok (.iaload, 1)) (hin : vp_in i 32) (k : Rn g d z zf M (pc + 1) L (.int (tabO i.toNatClampNeg) :: S) st Q) : Rn g d z zf M pc L (.int i :: .ref 1002 :: S) st Q := by
  intro p e R s m args below meth c H locs cells slots Q0 ls C E hl hr hk0
  have e9 : (Value.int i :: .ref 1002 :: S).map (cv g) = .int i :: .ref (gs g 2) :: S.map (cv g) := by rw [List.map_cons, cvS (i := 2)]; rfl
  rw [e9]
  exact va_ti C.1 C.2.1 C.2.2.2.2.2.2.2.1.2.2.2.1.2 E.2.1 hin rfl hd (k p e R s m args below meth c H locs cells slots Q0 ls C E hl hr hk0)
/-- the text of the reader's names -/
theorem s_ldcS (hd : decode (mcc M) pc = .ok (.ldc 73, 2)) (hc : (my M).cls = RX4) (k : Rn g d z zf M (pc + 2) L (.ref 1003 :: S) st Q) : Rn g d z zf M pc L S st Q := by
  intro p e R s m args below meth c H locs cells slots Q0 ls C E hl hr hk0
  have kk := k p e R s m args below meth c H locs cells slots Q0 ls C E hl hr hk0
  rw [cvS (i := 3)] at kk
  exact va_ldcS C.1 C.2.1 (by rw [← hc]; exact C.2.2.2.1) C.2.2.2.2.2.2.2.1.2.2.2.2.2.2.1 hd kk
theorem s_strV {idx : Nat} (hd : decode (mcc M) pc = .ok (.getfield idx, 3)) (hw : Cond.fieldLink (my M).cls idx "java/lang/String" "value" "[B" ∈ gwl) (k : Rn g d z zf M (pc + 3) L (.ref 1004 :: S) st Q) : Rn g d z zf M pc L (.ref 1003 :: S) st Q := by
  intro p e R s m args below meth c H locs cells slots Q0 ls C E hl hr hk0
  have kk := k p e R s m args below meth c H locs cells slots Q0 ls C E hl hr hk0
  rw [cvS (i := 4)] at kk
  rw [cvS (i := 3)]
  exact vk_getf C.1 C.2.1 (C.2.2.2.2.2.2.2.1.2.2.2.2.2.2.2.1.1 0 (by omega)).2.2.1 E.2.1 C.2.2.2.1 (C.2.2.2.2.1 _ hw) (fun _ h => h) hd kk
theorem s_strC {idx : Nat} (hd : decode (mcc M) pc = .ok (.getfield idx, 3)) (hw : Cond.fieldLink (my M).cls idx "java/lang/String" "coder" "B" ∈ gwl) (k : Rn g d z zf M (pc + 3) L (.int 0 :: S) st Q) : Rn g d z zf M pc L (.ref 1003 :: S) st Q := by
  intro p e R s m args below meth c H locs cells slots Q0 ls C E hl hr hk0
  have kk := k p e R s m args below meth c H locs cells slots Q0 ls C E hl hr hk0
  rw [cvS (i := 3)]
  exact vk_getf C.1 C.2.1 (C.2.2.2.2.2.2.2.1.2.2.2.2.2.2.2.1.1 0 (by omega)).2.1 E.2.1 C.2.2.2.1 (C.2.2.2.2.1 _ hw) (fun _ h => h) hd kk
theorem s_gsC {idx : Nat} (hd : decode (mcc M) pc = .ok (.getstatic idx, 3)) (hw : Cond.fieldLink (my M).cls idx "java/lang/String" "COMPACT_STRINGS" "Z" ∈ gwl) (k : Rn g d z zf M (pc + 3) L (.int 1 :: S) st Q) : Rn g d z zf M pc L S st Q := by
  intro p e R s m args below meth c H locs cells slots Q0 ls C E hl hr hk0
  exact va_gets C.1 C.2.1 C.2.2.2.2.2.2.2.1.2.2.2.2.2.2.2.2 E.2.1 C.2.2.2.1 (C.2.2.2.2.1 _ hw) (fun _ h => h) hd (k p e R s m args below meth c H locs cells slots Q0 ls C E hl hr hk0)
def tabN (j : Nat) : Int32 := ([122, 108, 119, 116, 99, 102] : List Int32).getD j 0
theorem s_tabN {i : Int32} (hd : decode (mcc M) pc = .ok (.baload, 1)) (hin : vp_in i 6) (k : Rn g d z zf M (pc + 1) L (.int (tabN i.toNatClampNeg) :: S) st Q) : Rn g d z zf M pc L (.int i :: .ref 1004 :: S) st Q := by
  intro p e R s m args below meth c H locs cells slots Q0 ls C E hl hr hk0
  have e9 : (Value.int i :: .ref 1004 :: S).map (cv g) = .int i :: .ref (gs g 4) :: S.map (cv g) := by rw [List.map_cons, cvS (i := 4)]; rfl
  rw [e9]
  exact va_tb C.1 C.2.1 (C.2.2.2.2.2.2.2.1.2.2.2.2.2.2.2.1.1 0 (by omega)).2.2.2 E.2.1 hin rfl hd (k p e R s m args below meth c H locs cells slots Q0 ls C E hl hr hk0)
theorem s_tabNl (hd : decode (mcc M) pc = .ok (.arraylength, 1)) (k : Rn g d z zf M (pc + 1) L (.int 6 :: S) st Q) : Rn g d z zf M pc L (.ref 1004 :: S) st Q := by
  intro p e R s m args below meth c H locs cells slots Q0 ls C E hl hr hk0
  rw [cvS (i := 4)]
  exact va_tlen C.1 C.2.1 (C.2.2.2.2.2.2.2.1.2.2.2.2.2.2.2.1.1 0 (by omega)).2.2.2 E.2.1 rfl hd (k p e R s m args below meth c H locs cells slots Q0 ls C E hl hr hk0)
theorem nfw : nativeFrameWords "java/lang/System" "arraycopy" 5 + 19 ≤ 64 := by decide +kernel
def acW (own : String) (idx : Nat) : Prop := Cond.methodLink own idx arraycopyName ∈ gwl ∧ Cond.native arraycopyName ∈ gwl ∧ Cond.static arraycopyName ∈ gwl ∧ Cond.initialized "java/lang/System" ∈ gwl
def cpyI (st : St) (o o' : Nat) (sp dp n : Nat) : St := (fun a => if a = o' then va_cpy (st.1 o) (st.1 o') sp dp n else st.1 a, st.2)
def cpyJ (st : St) (o o' : Nat) (sp dp n : Nat) : St := (st.1, fun a => if a = o' then va_cpy (st.2.1 o) (st.2.1 o') sp dp n else st.2.1 a, st.2.2)
theorem cv5 {o o' a b c a' b' c' : Nat} (h : kd o = (a, b, c)) (ha : a < 9) (h' : kd o' = (a', b', c')) (ha' : a' < 9) (n dp sp : Int32) : (Value.int n :: .int dp :: .ref o' :: .int sp :: .ref o :: S).map (cv g) = .int n :: .int dp :: .ref (gb g + o') :: .int sp :: .ref (gb g + o) :: S.map (cv g) := by
  simp only [List.map_cons]; rw [ref_cv h ha, ref_cv h' ha']; rfl
theorem s_cpyI {o o' idx n0 n1 : Nat} {sp dp n : Int32} (hd : decode (mcc M) pc = .ok (.invokestatic idx, 3)) (hw : acW (my M).cls idx) (hk : kd o = (1, 0, n0)) (ho : o < z) (hk' : kd o' = (1, 0, n1)) (ho' : o' < z) (h1 : ¬ sp < 0) (h2 : ¬ dp < 0) (h3 : ¬ n < 0) (h4 : sp.toNatClampNeg + n.toNatClampNeg ≤ n0) (h5 : dp.toNatClampNeg + n.toNatClampNeg ≤ n1) (hc : (S.map fun v => v.category).sum ≤ 8) (hd1 : 1 ≤ d) (hz : kdL.length ≤ z)
    (k : Rn g d z zf M (pc + 3) L S (cpyI st o o' sp.toNatClampNeg dp.toNatClampNeg n.toNatClampNeg) Q) : Rn g d z zf M pc L (.int n :: .int dp :: .ref o' :: .int sp :: .ref o :: S) st Q := by
  intro p e R s m args below meth c H locs cells slots Q0 ls C E hl hr hk0
  rw [cv5 hk (by omega) hk' (by omega)]
  have h2' : d * 64 ≤ R.locals := hr.2.1
  have hn := nfw
  have hset : (wsO g z st).set o' (gb g + o', .inl (gA g 0, n1, .inl (va_cpy (st.1 o) (st.1 o') sp.toNatClampNeg dp.toNatClampNeg n.toNatClampNeg))) = wsO g z (cpyI st o o' sp.toNatClampNeg dp.toNatClampNeg n.toNatClampNeg) :=
    wsO_set ho' (by rw [cellE_arr hk']; simp [cpyI]) (fun a ha => by simp [cpyI, ha])
  refine va_copyi C.1 C.2.1 (by rw [C.2.2.1]; exact hl.1.symm) C.2.2.2.1 (C.2.2.2.2.1 _ hw.1) (C.2.2.2.2.1 _ hw.2.1) (C.2.2.2.2.1 _ hw.2.2.1) (C.2.2.2.2.1 _ hw.2.2.2) C.2.2.2.2.2.2.1 E.1 (wsO_D g z st) E.2.1 o o' 0 0 (wsO_k ho (cellE_arr hk)) (wsO_k ho' (cellE_arr hk')) rfl rfl rfl h1 h2 h3 h4 h5 (fun i _ => rfl) (Nat.le_trans hd1 hr.1) (by rw [rest_cat]; omega) hd (fun H1 locs1 hP1 _ hS1 => ?_)
  rw [hset] at hP1
  exact k p e R s m args below meth c H1 locs1 cells slots Q0 ls C ⟨hP1, hS1, fun hh => absurd hh (by omega)⟩ hl hr hk0
theorem s_cpyJ {o o' idx c0 c1 n0 n1 : Nat} {sp dp n : Int32} (hd : decode (mcc M) pc = .ok (.invokestatic idx, 3)) (hw : acW (my M).cls idx) (hk : kd o = (2, c0, n0)) (ho : o < z) (hk' : kd o' = (2, c1, n1)) (ho' : o' < z) (h1 : ¬ sp < 0) (h2 : ¬ dp < 0) (h3 : ¬ n < 0) (h4 : sp.toNatClampNeg + n.toNatClampNeg ≤ n0) (h5 : dp.toNatClampNeg + n.toNatClampNeg ≤ n1) (hc : (S.map fun v => v.category).sum ≤ 8) (hd1 : 1 ≤ d) (hz : kdL.length ≤ z)
    (k : Rn g d z zf M (pc + 3) L S (cpyJ st o o' sp.toNatClampNeg dp.toNatClampNeg n.toNatClampNeg) Q) : Rn g d z zf M pc L (.int n :: .int dp :: .ref o' :: .int sp :: .ref o :: S) st Q := by
  intro p e R s m args below meth c H locs cells slots Q0 ls C E hl hr hk0
  rw [cv5 hk (by omega) hk' (by omega)]
  have h2' : d * 64 ≤ R.locals := hr.2.1
  have hn := nfw
  have hset : (wsO g z st).set o' (gb g + o', .inl (gA g 3, n1, .inr (.inl (va_cpy (st.2.1 o) (st.2.1 o') sp.toNatClampNeg dp.toNatClampNeg n.toNatClampNeg)))) = wsO g z (cpyJ st o o' sp.toNatClampNeg dp.toNatClampNeg n.toNatClampNeg) :=
    wsO_set ho' (by rw [cellE_lng hk']; simp [cpyJ]) (fun a ha => by simp [cpyJ, ha])
  refine va_copyl C.1 C.2.1 (by rw [C.2.2.1]; exact hl.1.symm) C.2.2.2.1 (C.2.2.2.2.1 _ hw.1) (C.2.2.2.2.1 _ hw.2.1) (C.2.2.2.2.1 _ hw.2.2.1) (C.2.2.2.2.1 _ hw.2.2.2) C.2.2.2.2.2.2.1 E.1 (wsO_D g z st) E.2.1 o o' 3 3 (wsO_k ho (cellE_lng hk)) (wsO_k ho' (cellE_lng hk')) rfl rfl rfl h1 h2 h3 h4 h5 (fun i _ => rfl) (Nat.le_trans hd1 hr.1) (by rw [rest_cat]; omega) hd (fun H1 locs1 hP1 _ hS1 => ?_)
  rw [hset] at hP1
  exact k p e R s m args below meth c H1 locs1 cells slots Q0 ls C ⟨hP1, hS1, fun hh => absurd hh (by omega)⟩ hl hr hk0
theorem s_min {idx : Nat} {x y : Int32} (hd : decode (mcc M) pc = .ok (.invokestatic idx, 3)) (hw : Cond.methodLink (my M).cls idx Lib.Math.min.name ∈ gwl) (hw2 : Cond.static Lib.Math.min.name ∈ gwl) (hw3 : Cond.initialized "java/lang/Math" ∈ gwl) (hw4 : Cond.code Lib.Math.min.name Lib.Math.min.code 2 (some .int) ∈ gwl) (hc : (S.map fun v => v.category).sum ≤ 8) (hd1 : 1 ≤ d)
    (k : Rn g d z zf M (pc + 3) L (.int (if y < x then y else x) :: S) st Q) : Rn g d z zf M pc L (.int y :: .int x :: S) st Q := by
  intro p e R s m args below meth c H locs cells slots Q0 ls C E hl hr hk0
  have h2' : d * 64 ≤ R.locals := hr.2.1
  exact va_mmin C.1 C.2.1 (by rw [C.2.2.1]; exact hl.1.symm) C.2.2.2.1 (C.2.2.2.2.1 _ hw) (C.2.2.2.2.1 _ hw2) (C.2.2.2.2.1 _ hw3) (C.2.2.2.2.1 _ hw4) (Nat.le_trans hd1 hr.1) (by rw [rest_cat]; omega) (by have := hr.2.2.1; omega) (by have := hr.2.2.2.1; omega) hd (k p e R s m args below meth c H locs cells slots Q0 ls C E hl hr hk0)
theorem s_max {idx : Nat} {x y : Int32} (hd : decode (mcc M) pc = .ok (.invokestatic idx, 3)) (hw : Cond.methodLink (my M).cls idx Lib.Math.max.name ∈ gwl) (hw2 : Cond.static Lib.Math.max.name ∈ gwl) (hw3 : Cond.initialized "java/lang/Math" ∈ gwl) (hw4 : Cond.code Lib.Math.max.name Lib.Math.max.code 2 (some .int) ∈ gwl) (hc : (S.map fun v => v.category).sum ≤ 8) (hd1 : 1 ≤ d)
    (k : Rn g d z zf M (pc + 3) L (.int (if x < y then y else x) :: S) st Q) : Rn g d z zf M pc L (.int y :: .int x :: S) st Q := by
  intro p e R s m args below meth c H locs cells slots Q0 ls C E hl hr hk0
  have h2' : d * 64 ≤ R.locals := hr.2.1
  exact va_mmax C.1 C.2.1 (by rw [C.2.2.1]; exact hl.1.symm) C.2.2.2.1 (C.2.2.2.2.1 _ hw) (C.2.2.2.2.1 _ hw2) (C.2.2.2.2.1 _ hw3) (C.2.2.2.2.1 _ hw4) (Nat.le_trans hd1 hr.1) (by rw [rest_cat]; omega) (by have := hr.2.2.1; omega) (by have := hr.2.2.2.1; omega) hd (k p e R s m args below meth c H locs cells slots Q0 ls C E hl hr hk0)
end CALC7
end
section
abbrev Tt : Type := (Nat → Nat → Int32) × (Nat → Nat → Int64) × Nat × Nat
def R0 (o j : Nat) : Option Nat := match o with
  | 0 => (match j with
    | 0 => some 1
    | 1 => some 5
    | 2 => some 9
    | 3 => some 13
    | 4 => some 22
    | 5 => some 27
    | 6 => some 30
    | 7 => some 31
    | 8 => some 32
    | 9 => some 33
    | _ => none)
  | 1 => (match j with
    | 2 => some 2
    | 3 => some 3
    | 4 => some 4
    | _ => none)
  | 5 => (match j with
    | 2 => some 6
    | 3 => some 7
    | 4 => some 8
    | _ => none)
  | 9 => (match j with
    | 2 => some 10
    | 3 => some 11
    | 4 => some 12
    | _ => none)
  | 13 => (match j with
    | 1 => some 14
    | 2 => some 15
    | 3 => some 16
    | 4 => some 17
    | 5 => some 21
    | _ => none)
  | 17 => (match j with
    | 2 => some 18
    | 3 => some 19
    | 4 => some 20
    | _ => none)
  | 22 => (match j with
    | 2 => some 23
    | 3 => some 24
    | 4 => some 25
    | 5 => some 26
    | _ => none)
  | 27 => (match j with
    | 1 => some 28
    | 3 => some 29
    | _ => none)
  | 30 => (match j with
    | 0 => some 45
    | 1 => some 47
    | 2 => some 49
    | 3 => some 51
    | 4 => some 53
    | 5 => some 55
    | _ => none)
  | 33 => (match j with
    | 0 => some 34
    | _ => none)
  | 35 => (match j with
    | 0 => some 36
    | 1 => some 37
    | 2 => some 38
    | 3 => some 39
    | _ => none)
  | 40 => (match j with
    | 0 => some 41
    | 1 => some 42
    | 2 => some 43
    | 3 => some 44
    | _ => none)
  | 45 => (match j with
    | 3 => some 46
    | _ => none)
  | 47 => (match j with
    | 3 => some 48
    | _ => none)
  | 49 => (match j with
    | 3 => some 50
    | _ => none)
  | 51 => (match j with
    | 3 => some 52
    | _ => none)
  | 53 => (match j with
    | 3 => some 54
    | _ => none)
  | 55 => (match j with
    | 3 => some 56
    | _ => none)
  | 57 => (match j with
    | 2 => some 58
    | 3 => some 59
    | 4 => some 60
    | 5 => some 61
    | 9 => some 62
    | 10 => some 63
    | 11 => some 64
    | 12 => some 65
    | 13 => some 66
    | 19 => some 67
    | 20 => some 68
    | 21 => some 69
    | 22 => some 70
    | 23 => some 71
    | 24 => some 72
    | 25 => some 73
    | 27 => some 74
    | 28 => some 75
    | 29 => some 76
    | 30 => some 77
    | 31 => some 78
    | 32 => some 79
    | 34 => some 80
    | 37 => some 81
    | 38 => some 82
    | 41 => some 83
    | 42 => some 84
    | 43 => some 85
    | 44 => some 86
    | 46 => some 87
    | 48 => some 88
    | 49 => some 89
    | 50 => some 90
    | 51 => some 91
    | 52 => some 92
    | _ => none)
  | _ => none
def up (t : Tt) : St := (t.1, t.2.1, fun o j => if o = 0 ∧ j = 10 then some t.2.2.1 else if o = 33 ∧ j = 2 then some t.2.2.2 else R0 o j)
def pI (t : Tt) (o j : Nat) (x : Int32) : Tt := (fun a => if a = o then upd (t.1 a) j x else t.1 a, t.2)
def pJ (t : Tt) (o j : Nat) (x : Int64) : Tt := (t.1, fun a => if a = o then vp_updL (t.2.1 a) j x else t.2.1 a, t.2.2)
def cI (t : Tt) (o o' : Nat) (sp dp n : Nat) : Tt := (fun a => if a = o' then va_cpy (t.1 o) (t.1 o') sp dp n else t.1 a, t.2)
def cJ (t : Tt) (o o' : Nat) (sp dp n : Nat) : Tt := (t.1, fun a => if a = o' then va_cpy (t.2.1 o) (t.2.1 o') sp dp n else t.2.1 a, t.2.2)
def QT (Q : Option Value → Tt → Prop) : Option Value → St → Prop := fun rv st => ∃ t', st = up t' ∧ Q rv t'
abbrev Rt (g : Gt) (d : Nat) (M : Mt) (pc : Nat) (L : List (Option Value)) (S : List Value) (t : Tt) (Q : Option Value → Tt → Prop) : Prop := Rn g d 93 93 M pc L S (up t) (QT Q)
def QI (P : Int32 → Tt → Prop) : Option Value → Tt → Prop := fun rv t => ∃ v, rv = some (.int v) ∧ P v t
def QL (P : Int64 → Tt → Prop) : Option Value → Tt → Prop := fun rv t => ∃ v, rv = some (.long v) ∧ P v t
def QR (P : Nat → Tt → Prop) : Option Value → Tt → Prop := fun rv t => ∃ v, rv = some (.ref v) ∧ P v t
def QV (P : Tt → Prop) : Option Value → Tt → Prop := fun rv t => rv = none ∧ P t
def isMo (o : Nat) : Prop := o = 1 ∨ o = 5 ∨ o = 9 ∨ o = 17
theorem isMo_k {o : Nat} (h : isMo o) : kd o = (0, 5, 5) := by rcases h with rfl | rfl | rfl | rfl <;> rfl
theorem isMo_z {o : Nat} (h : isMo o) : o < 93 := by rcases h with rfl | rfl | rfl | rfl <;> decide
theorem isMo_r2 {o : Nat} (t : Tt) (h : isMo o) : (up t).2.2 o 2 = some (o + 1) := by rcases h with rfl | rfl | rfl | rfl <;> rfl
theorem isMo_k2 {o : Nat} (h : isMo o) : kd (o + 1) = (1, 0, 56) := by rcases h with rfl | rfl | rfl | rfl <;> rfl
theorem isMo_z2 {o : Nat} (h : isMo o) : o + 1 < 93 := by rcases h with rfl | rfl | rfl | rfl <;> decide
theorem isMo_r3 {o : Nat} (t : Tt) (h : isMo o) : (up t).2.2 o 3 = some (o + 2) := by rcases h with rfl | rfl | rfl | rfl <;> rfl
theorem isMo_k3 {o : Nat} (h : isMo o) : kd (o + 2) = (1, 0, 7) := by rcases h with rfl | rfl | rfl | rfl <;> rfl
theorem isMo_z3 {o : Nat} (h : isMo o) : o + 2 < 93 := by rcases h with rfl | rfl | rfl | rfl <;> decide
theorem isMo_r4 {o : Nat} (t : Tt) (h : isMo o) : (up t).2.2 o 4 = some (o + 3) := by rcases h with rfl | rfl | rfl | rfl <;> rfl
theorem isMo_k4 {o : Nat} (h : isMo o) : kd (o + 3) = (1, 0, 7) := by rcases h with rfl | rfl | rfl | rfl <;> rfl
theorem isMo_z4 {o : Nat} (h : isMo o) : o + 3 < 93 := by rcases h with rfl | rfl | rfl | rfl <;> decide
def isLw (o : Nat) : Prop := o = 35 ∨ o = 40
theorem isLw_k {o : Nat} (h : isLw o) : kd o = (0, 3, 6) := by rcases h with rfl | rfl <;> rfl
theorem isLw_z {o : Nat} (h : isLw o) : o < 93 := by rcases h with rfl | rfl <;> decide
theorem isLw_r0 {o : Nat} (t : Tt) (h : isLw o) : (up t).2.2 o 0 = some (o + 1) := by rcases h with rfl | rfl <;> rfl
theorem isLw_k0 {o : Nat} (h : isLw o) : kd (o + 1) = (1, 0, 128) := by rcases h with rfl | rfl <;> rfl
theorem isLw_z0 {o : Nat} (h : isLw o) : o + 1 < 93 := by rcases h with rfl | rfl <;> decide
theorem isLw_r1 {o : Nat} (t : Tt) (h : isLw o) : (up t).2.2 o 1 = some (o + 2) := by rcases h with rfl | rfl <;> rfl
theorem isLw_k1 {o : Nat} (h : isLw o) : kd (o + 2) = (1, 0, 128) := by rcases h with rfl | rfl <;> rfl
theorem isLw_z1 {o : Nat} (h : isLw o) : o + 2 < 93 := by rcases h with rfl | rfl <;> decide
theorem isLw_r2 {o : Nat} (t : Tt) (h : isLw o) : (up t).2.2 o 2 = some (o + 3) := by rcases h with rfl | rfl <;> rfl
theorem isLw_k2 {o : Nat} (h : isLw o) : kd (o + 3) = (1, 0, 128) := by rcases h with rfl | rfl <;> rfl
theorem isLw_z2 {o : Nat} (h : isLw o) : o + 3 < 93 := by rcases h with rfl | rfl <;> decide
theorem isLw_r3 {o : Nat} (t : Tt) (h : isLw o) : (up t).2.2 o 3 = some (o + 4) := by rcases h with rfl | rfl <;> rfl
theorem isLw_k3 {o : Nat} (h : isLw o) : kd (o + 4) = (1, 0, 6) := by rcases h with rfl | rfl <;> rfl
theorem isLw_z3 {o : Nat} (h : isLw o) : o + 4 < 93 := by rcases h with rfl | rfl <;> decide
def isSh (o : Nat) : Prop := o = 45 ∨ o = 47 ∨ o = 49 ∨ o = 51 ∨ o = 53 ∨ o = 55
theorem isSh_k {o : Nat} (h : isSh o) : kd o = (0, 6, 4) := by rcases h with rfl | rfl | rfl | rfl | rfl | rfl <;> rfl
theorem isSh_z {o : Nat} (h : isSh o) : o < 93 := by rcases h with rfl | rfl | rfl | rfl | rfl | rfl <;> decide
theorem isSh_r3 {o : Nat} (t : Tt) (h : isSh o) : (up t).2.2 o 3 = some (o + 1) := by rcases h with rfl | rfl | rfl | rfl | rfl | rfl <;> rfl
theorem isSh_k3 {o : Nat} (h : isSh o) : kd (o + 1) = (2, 0, 60) := by rcases h with rfl | rfl | rfl | rfl | rfl | rfl <;> rfl
theorem isSh_z3 {o : Nat} (h : isSh o) : o + 1 < 93 := by rcases h with rfl | rfl | rfl | rfl | rfl | rfl <;> decide
theorem isSh_of {i : Int32} (h : vp_in i 6) : isSh (45 + 2 * i.toNatClampNeg) := by have h6 : i.toNatClampNeg < 6 := Nat.not_le.mp fun q => h (Or.inr q); unfold isSh; omega
/-! The second level: behind the constructions, when all 93 objects stand; two references alone still change (the law in force, the reader's). -/
section TLEV
variable {g : Gt} {d : Nat} {M : Mt} {pc : Nat} {L : List (Option Value)} {S : List Value} {Q : Option Value → Tt → Prop} {t : Tt}
theorem up_pI (t : Tt) (o j : Nat) (x : Int32) : putI (up t) o j x = up (pI t o j x) := rfl
theorem up_pJ (t : Tt) (o j : Nat) (x : Int64) : putJ (up t) o j x = up (pJ t o j x) := rfl
theorem up_cI (t : Tt) (o o' sp dp n : Nat) : cpyI (up t) o o' sp dp n = up (cI t o o' sp dp n) := rfl
theorem up_cJ (t : Tt) (o o' sp dp n : Nat) : cpyJ (up t) o o' sp dp n = up (cJ t o o' sp dp n) := rfl
theorem t_getI {o ci n j idx : Nat} (hd : decode (mcc M) pc = .ok (.getfield idx, 3)) (hf : Fl (my M).cls idx ci j) (hk : kd o = (0, ci, n)) (ho : o < 93) (hr : isRf (fTy ci j) = false)
    (k : Rt g d M (pc + 3) L (.int (t.1 o j) :: S) t Q) : Rt g d M pc L (.ref o :: S) t Q := s_getI hd hf hk ho hr k
theorem t_getR {o o' ci n j idx : Nat} (hd : decode (mcc M) pc = .ok (.getfield idx, 3)) (hf : Fl (my M).cls idx ci j) (hk : kd o = (0, ci, n)) (ho : o < 93) (hr : isRf (fTy ci j) = true) (hv : (up t).2.2 o j = some o')
    (k : Rt g d M (pc + 3) L (.ref o' :: S) t Q) : Rt g d M pc L (.ref o :: S) t Q := s_getR hd hf hk ho hr hv k
theorem t_putI {o ci n j idx : Nat} {x : Int32} (hd : decode (mcc M) pc = .ok (.putfield idx, 3)) (hf : Fl (my M).cls idx ci j) (hk : kd o = (0, ci, n)) (ho : o < 93) (hr : isRf (fTy ci j) = false) (hfin : (clT ci j).2.2.2 = false)
    (hnr : narrow (fTy ci j) (.int x) = .int x) (hft : fits (fTy ci j) (.int x) = true) (k : Rt g d M (pc + 3) L S (pI t o j x) Q) : Rt g d M pc L (.int x :: .ref o :: S) t Q := s_putI hd hf hk ho hr hfin hnr hft k
theorem t_putRul {o' idx : Nat} (hd : decode (mcc M) pc = .ok (.putfield idx, 3)) (hf : Fl (my M).cls idx 7 10) (k : Rt g d M (pc + 3) L S (t.1, t.2.1, o', t.2.2.2) Q) : Rt g d M pc L (.ref o' :: .ref 0 :: S) t Q := by
  refine s_putR hd hf (n := 13) rfl (by decide) rfl (Or.inl rfl) ?_
  have e : putR (up t) 0 10 (some o') = up (t.1, t.2.1, o', t.2.2.2) := by
    unfold putR up
    refine Prod.ext rfl (Prod.ext rfl ?_)
    funext a b
    by_cases ha : a = 0
    · subst ha
      by_cases hb : b = 10
      · subst hb; simp [va_up]
      · simp [va_up, hb]
    · simp [ha]
  rw [e]; exact k
theorem t_putRdl {o' idx : Nat} (hd : decode (mcc M) pc = .ok (.putfield idx, 3)) (hf : Fl (my M).cls idx 4 2) (k : Rt g d M (pc + 3) L S (t.1, t.2.1, t.2.2.1, o') Q) : Rt g d M pc L (.ref o' :: .ref 33 :: S) t Q := by
  refine s_putR hd hf (n := 4) rfl (by decide) rfl (Or.inl rfl) ?_
  have e : putR (up t) 33 2 (some o') = up (t.1, t.2.1, t.2.2.1, o') := by
    unfold putR up
    refine Prod.ext rfl (Prod.ext rfl ?_)
    funext a b
    by_cases ha : a = 33
    · subst ha
      by_cases hb : b = 2
      · subst hb; simp [va_up]
      · simp [va_up, hb]
    · simp [ha]
  rw [e]; exact k
theorem t_iald {o n : Nat} {i : Int32} (hd : decode (mcc M) pc = .ok (.iaload, 1)) (hk : kd o = (1, 0, n)) (ho : o < 93) (hin : vp_in i n) (k : Rt g d M (pc + 1) L (.int (t.1 o i.toNatClampNeg) :: S) t Q) : Rt g d M pc L (.int i :: .ref o :: S) t Q := s_iald hd hk ho hin k
theorem t_bald {o n : Nat} {i : Int32} (hd : decode (mcc M) pc = .ok (.baload, 1)) (hk : kd o = (1, 1, n)) (ho : o < 93) (hin : vp_in i n) (k : Rt g d M (pc + 1) L (.int (t.1 o i.toNatClampNeg) :: S) t Q) : Rt g d M pc L (.int i :: .ref o :: S) t Q := s_bald hd hk ho hin k
theorem t_sald {o n : Nat} {i : Int32} (hd : decode (mcc M) pc = .ok (.saload, 1)) (hk : kd o = (1, 2, n)) (ho : o < 93) (hin : vp_in i n) (k : Rt g d M (pc + 1) L (.int (t.1 o i.toNatClampNeg) :: S) t Q) : Rt g d M pc L (.int i :: .ref o :: S) t Q := s_sald hd hk ho hin k
theorem t_lald {o c0 n : Nat} {i : Int32} (hd : decode (mcc M) pc = .ok (.laload, 1)) (hk : kd o = (2, c0, n)) (ho : o < 93) (hin : vp_in i n) (k : Rt g d M (pc + 1) L (.long (t.2.1 o i.toNatClampNeg) :: S) t Q) : Rt g d M pc L (.int i :: .ref o :: S) t Q := s_lald hd hk ho hin k
theorem t_iast {o n : Nat} {i x : Int32} (hd : decode (mcc M) pc = .ok (.iastore, 1)) (hk : kd o = (1, 0, n)) (ho : o < 93) (hin : vp_in i n) (k : Rt g d M (pc + 1) L S (pI t o i.toNatClampNeg x) Q) : Rt g d M pc L (.int x :: .int i :: .ref o :: S) t Q := s_iast hd hk ho hin k
theorem t_bast {o n : Nat} {i x : Int32} (hd : decode (mcc M) pc = .ok (.bastore, 1)) (hk : kd o = (1, 1, n)) (ho : o < 93) (hin : vp_in i n) (k : Rt g d M (pc + 1) L S (pI t o i.toNatClampNeg (vp_nar .byte x)) Q) : Rt g d M pc L (.int x :: .int i :: .ref o :: S) t Q := s_bast hd hk ho hin k
theorem t_sast {o n : Nat} {i x : Int32} (hd : decode (mcc M) pc = .ok (.sastore, 1)) (hk : kd o = (1, 2, n)) (ho : o < 93) (hin : vp_in i n) (k : Rt g d M (pc + 1) L S (pI t o i.toNatClampNeg (vp_nar .short x)) Q) : Rt g d M pc L (.int x :: .int i :: .ref o :: S) t Q := s_sast hd hk ho hin k
theorem t_last {o c0 n : Nat} {i : Int32} {x : Int64} (hd : decode (mcc M) pc = .ok (.lastore, 1)) (hk : kd o = (2, c0, n)) (ho : o < 93) (hin : vp_in i n) (k : Rt g d M (pc + 1) L S (pJ t o i.toNatClampNeg x) Q) : Rt g d M pc L (.long x :: .int i :: .ref o :: S) t Q := s_last hd hk ho hin k
theorem t_aald {o' : Nat} {i : Int32} (hd : decode (mcc M) pc = .ok (.aaload, 1)) (hin : vp_in i 6) (hv : 45 + 2 * i.toNatClampNeg = o') (k : Rt g d M (pc + 1) L (.ref o' :: S) t Q) : Rt g d M pc L (.int i :: .ref 30 :: S) t Q := by
  refine s_aald (n := 6) (c0 := 0) hd rfl (by decide) hin ?_ k
  rw [← hv]
  have h6 : i.toNatClampNeg < 6 := Nat.not_le.mp fun q => hin (Or.inr q)
  show (up t).2.2 30 i.toNatClampNeg = _
  revert h6
  generalize i.toNatClampNeg = q
  intro h6
  rcases (show q = 0 ∨ q = 1 ∨ q = 2 ∨ q = 3 ∨ q = 4 ∨ q = 5 by omega) with rfl | rfl | rfl | rfl | rfl | rfl <;> rfl
theorem t_cpyI {o o' idx n0 n1 : Nat} {sp dp n : Int32} (hd : decode (mcc M) pc = .ok (.invokestatic idx, 3)) (hw : acW (my M).cls idx) (hk : kd o = (1, 0, n0)) (ho : o < 93) (hk' : kd o' = (1, 0, n1)) (ho' : o' < 93) (h1 : ¬ sp < 0) (h2 : ¬ dp < 0) (h3 : ¬ n < 0) (h4 : sp.toNatClampNeg + n.toNatClampNeg ≤ n0) (h5 : dp.toNatClampNeg + n.toNatClampNeg ≤ n1) (hc : (S.map fun v => v.category).sum ≤ 8)
    (k : Rt g (d + 1) M (pc + 3) L S (cI t o o' sp.toNatClampNeg dp.toNatClampNeg n.toNatClampNeg) Q) : Rt g (d + 1) M pc L (.int n :: .int dp :: .ref o' :: .int sp :: .ref o :: S) t Q :=
  s_cpyI hd hw hk ho hk' ho' h1 h2 h3 h4 h5 hc (by omega) (Nat.le_refl _) k
theorem t_cpyJ {o o' idx c0 c1 n0 n1 : Nat} {sp dp n : Int32} (hd : decode (mcc M) pc = .ok (.invokestatic idx, 3)) (hw : acW (my M).cls idx) (hk : kd o = (2, c0, n0)) (ho : o < 93) (hk' : kd o' = (2, c1, n1)) (ho' : o' < 93) (h1 : ¬ sp < 0) (h2 : ¬ dp < 0) (h3 : ¬ n < 0) (h4 : sp.toNatClampNeg + n.toNatClampNeg ≤ n0) (h5 : dp.toNatClampNeg + n.toNatClampNeg ≤ n1) (hc : (S.map fun v => v.category).sum ≤ 8)
    (k : Rt g (d + 1) M (pc + 3) L S (cJ t o o' sp.toNatClampNeg dp.toNatClampNeg n.toNatClampNeg) Q) : Rt g (d + 1) M pc L (.int n :: .int dp :: .ref o' :: .int sp :: .ref o :: S) t Q :=
  s_cpyJ hd hw hk ho hk' ho' h1 h2 h3 h4 h5 hc (by omega) (Nat.le_refl _) k
theorem t_iret {v : Int32} (hd : decode (mcc M) pc = .ok (.ireturn, 1)) (hn : NR M v) (hq : Q (some (.int v)) t) : Rt g d M pc L [.int v] t Q := s_iret hd hn ⟨t, rfl, hq⟩
theorem t_vret (hd : decode (mcc M) pc = .ok (.return_, 1)) (hn : mret M = none) (hq : Q none t) : Rt g d M pc L [] t Q := s_vret hd hn ⟨t, rfl, hq⟩
theorem t_lret {v : Int64} (hd : decode (mcc M) pc = .ok (.lreturn, 1)) (hn : mret M = some .long) (hq : Q (some (.long v)) t) : Rt g d M pc L [.long v] t Q := s_lret hd hn ⟨t, rfl, hq⟩
theorem t_aret {o : Nat} {nm : String} (hd : decode (mcc M) pc = .ok (.areturn, 1)) (hn : mret M = some (.object nm)) (hq : Q (some (.ref o)) t) : Rt g d M pc L [.ref o] t Q := s_aret hd hn ⟨t, rfl, hq⟩
theorem NR_i {M : Mt} (h : mret M = some .int) (v : Int32) : NR M v := ⟨.int, h, rfl⟩
theorem NR_z {M : Mt} (h : mret M = some .boolean) {v : Int32} (hv : v = 0 ∨ v = 1) : NR M v := ⟨.boolean, h, by rcases hv with rfl | rfl <;> rfl⟩
theorem Rt.cq {Q' : Option Value → Tt → Prop} (h : Rt g d M pc L S t Q) (hq : ∀ rv t', Q rv t' → Q' rv t') : Rt g d M pc L S t Q' := Rn.cq h (fun rv _ ⟨t', e, q⟩ => ⟨t', e, hq rv t' q⟩)
theorem Rt.lc {L' : List (Option Value)} (h : Rt g d M pc L' S t Q) (hL : ∀ (i : Nat) (v : Value), L'[i]? = some (some v) → L[i]? = some (some v)) : Rt g d M pc L S t Q := Rn.lc h hL
theorem Rt.dp {d' : Nat} (h : Rt g d M pc L S t Q) (hd : d ≤ d') : Rt g d' M pc L S t Q := Rn.dp h hd
/-- calls: what the callee is held to, then what goes on behind it -/
theorem t_callV {M' : Mt} {o ci n idx k : Nat} {As rest S' : List Value} {Lc : List (Option Value)} {Qc : Option Value → Tt → Prop} (hd : decode (mcc M) pc = .ok (.invokevirtual idx, 3)) (hm : Ml (my M).cls idx M' As.length) (hin : Cond.instanceMethod (my M') ∈ gwl) (hsel : Cond.selects (my M').cls (my M') (my M') ∈ gwl) (hk : kd o = (0, ci, n)) (ho : o < 93) (hc : clR ci = (my M').cls)
    (hS : S' = As.reverse ++ .ref o :: rest) (hw : (rest.map fun v => v.category).sum ≤ 8) (hla : (lg_sl ((Value.ref o :: As).map (cv g))).length ≤ mml M') (hL : eL (.ref o :: As) ++ List.replicate k none = Lc)
    (hR : Rt g d M' 0 Lc [] t Qc) (kk : ∀ rv t', Qc rv t' → Rt g (d + 1) M (pc + 3) L (rv.toList ++ rest) t' Q) : Rt g (d + 1) M pc L S' t Q := by
  subst hL
  exact s_callV hd hm hin hsel hk ho hc hS hw (Nat.le_refl _) (Nat.le_refl _) hla (Rn.cq hR (fun rv _ ⟨t', e, q⟩ => by subst e; exact kk rv t' q))
theorem t_callS {M' : Mt} {idx k : Nat} {As rest S' : List Value} {Lc : List (Option Value)} {Qc : Option Value → Tt → Prop} (hd : decode (mcc M) pc = .ok (.invokestatic idx, 3)) (hm : Ml (my M).cls idx M' As.length) (hst : Cond.static (my M') ∈ gwl)
    (hS : S' = As.reverse ++ rest) (hw : (rest.map fun v => v.category).sum ≤ 8) (hla : (lg_sl (As.map (cv g))).length ≤ mml M') (hL : eL As ++ List.replicate k none = Lc)
    (hR : Rt g d M' 0 Lc [] t Qc) (kk : ∀ rv t', Qc rv t' → Rt g (d + 1) M (pc + 3) L (rv.toList ++ rest) t' Q) : Rt g (d + 1) M pc L S' t Q := by
  subst hL
  exact s_callS hd hm hst hS hw (Nat.le_refl _) (Nat.le_refl _) hla (Rn.cq hR (fun rv _ ⟨t', e, q⟩ => by subst e; exact kk rv t' q))
end TLEV
end
section
abbrev mX0_init : Mt := (cX0_init, 1, none, yX0_init)
theorem mcX0_init : Cond.code (my mX0_init) (mcc mX0_init) (mml mX0_init) (mret mX0_init) ∈ gwl := gw_at 218 (by decide +kernel) (by decide +kernel)
theorem miX0_init : Cond.instanceMethod (my mX0_init) ∈ gwl := gw_at 217 (by decide +kernel) (by decide +kernel)
abbrev mX0_bear : Mt := (cX0_bear, 2, (some (.int)), yX0_bear)
theorem mcX0_bear : Cond.code (my mX0_bear) (mcc mX0_bear) (mml mX0_bear) (mret mX0_bear) ∈ gwl := gw_at 833 (by decide +kernel) (by decide +kernel)
theorem miX0_bear : Cond.instanceMethod (my mX0_bear) ∈ gwl := gw_at 831 (by decide +kernel) (by decide +kernel)
theorem msX0_bear : Cond.selects (my mX0_bear).cls (my mX0_bear) (my mX0_bear) ∈ gwl := gw_at 832 (by decide +kernel) (by decide +kernel)
abbrev mX0_isUnder : Mt := (cX0_isUnder, 4, (some (.boolean)), yX0_isUnder)
theorem mcX0_isUnder : Cond.code (my mX0_isUnder) (mcc mX0_isUnder) (mml mX0_isUnder) (mret mX0_isUnder) ∈ gwl := gw_at 910 (by decide +kernel) (by decide +kernel)
theorem mstX0_isUnder : Cond.static (my mX0_isUnder) ∈ gwl := gw_at 909 (by decide +kernel) (by decide +kernel)
abbrev mX0_tracedBodies : Mt := (cX0_tracedBodies, 1, (some (.int)), yX0_tracedBodies)
theorem mcX0_tracedBodies : Cond.code (my mX0_tracedBodies) (mcc mX0_tracedBodies) (mml mX0_tracedBodies) (mret mX0_tracedBodies) ∈ gwl := gw_at 866 (by decide +kernel) (by decide +kernel)
theorem miX0_tracedBodies : Cond.instanceMethod (my mX0_tracedBodies) ∈ gwl := gw_at 864 (by decide +kernel) (by decide +kernel)
theorem msX0_tracedBodies : Cond.selects (my mX0_tracedBodies).cls (my mX0_tracedBodies) (my mX0_tracedBodies) ∈ gwl := gw_at 865 (by decide +kernel) (by decide +kernel)
abbrev mX0_perform : Mt := (cX0_perform, 4, (some (.int)), yX0_perform)
theorem mcX0_perform : Cond.code (my mX0_perform) (mcc mX0_perform) (mml mX0_perform) (mret mX0_perform) ∈ gwl := gw_at 841 (by decide +kernel) (by decide +kernel)
theorem miX0_perform : Cond.instanceMethod (my mX0_perform) ∈ gwl := gw_at 839 (by decide +kernel) (by decide +kernel)
theorem msX0_perform : Cond.selects (my mX0_perform).cls (my mX0_perform) (my mX0_perform) ∈ gwl := gw_at 840 (by decide +kernel) (by decide +kernel)
abbrev mX0_run : Mt := (cX0_run, 8, (some (.int)), yX0_run)
theorem mcX0_run : Cond.code (my mX0_run) (mcc mX0_run) (mml mX0_run) (mret mX0_run) ∈ gwl := gw_at 846 (by decide +kernel) (by decide +kernel)
theorem miX0_run : Cond.instanceMethod (my mX0_run) ∈ gwl := gw_at 845 (by decide +kernel) (by decide +kernel)
theorem msX0_run : Cond.selects (my mX0_run).cls (my mX0_run) (my mX0_run) ∈ gwl := gw_at 27 (by decide +kernel) (by decide +kernel)
abbrev mX0_rootWork : Mt := (cX0_rootWork, 7, (some (.int)), yX0_rootWork)
theorem mcX0_rootWork : Cond.code (my mX0_rootWork) (mcc mX0_rootWork) (mml mX0_rootWork) (mret mX0_rootWork) ∈ gwl := gw_at 854 (by decide +kernel) (by decide +kernel)
theorem miX0_rootWork : Cond.instanceMethod (my mX0_rootWork) ∈ gwl := gw_at 853 (by decide +kernel) (by decide +kernel)
theorem msX0_rootWork : Cond.selects (my mX0_rootWork).cls (my mX0_rootWork) (my mX0_rootWork) ∈ gwl := gw_at 28 (by decide +kernel) (by decide +kernel)
abbrev mX0_work : Mt := (cX0_work, 8, (some (.int)), yX0_work)
theorem mcX0_work : Cond.code (my mX0_work) (mcc mX0_work) (mml mX0_work) (mret mX0_work) ∈ gwl := gw_at 858 (by decide +kernel) (by decide +kernel)
theorem miX0_work : Cond.instanceMethod (my mX0_work) ∈ gwl := gw_at 857 (by decide +kernel) (by decide +kernel)
theorem msX0_work : Cond.selects (my mX0_work).cls (my mX0_work) (my mX0_work) ∈ gwl := gw_at 29 (by decide +kernel) (by decide +kernel)
abbrev mX1_init : Mt := (cX1_init, 1, none, yX1_init)
theorem mcX1_init : Cond.code (my mX1_init) (mcc mX1_init) (mml mX1_init) (mret mX1_init) ∈ gwl := gw_at 187 (by decide +kernel) (by decide +kernel)
theorem miX1_init : Cond.instanceMethod (my mX1_init) ∈ gwl := gw_at 186 (by decide +kernel) (by decide +kernel)
abbrev mX1_note : Mt := (cX1_note, 5, none, yX1_note)
theorem mcX1_note : Cond.code (my mX1_note) (mcc mX1_note) (mml mX1_note) (mret mX1_note) ∈ gwl := gw_at 413 (by decide +kernel) (by decide +kernel)
theorem miX1_note : Cond.instanceMethod (my mX1_note) ∈ gwl := gw_at 411 (by decide +kernel) (by decide +kernel)
theorem msX1_note : Cond.selects (my mX1_note).cls (my mX1_note) (my mX1_note) ∈ gwl := gw_at 412 (by decide +kernel) (by decide +kernel)
abbrev mX1_dropOldest : Mt := (cX1_dropOldest, 1, none, yX1_dropOldest)
theorem mcX1_dropOldest : Cond.code (my mX1_dropOldest) (mcc mX1_dropOldest) (mml mX1_dropOldest) (mret mX1_dropOldest) ∈ gwl := gw_at 417 (by decide +kernel) (by decide +kernel)
theorem miX1_dropOldest : Cond.instanceMethod (my mX1_dropOldest) ∈ gwl := gw_at 416 (by decide +kernel) (by decide +kernel)
theorem msX1_dropOldest : Cond.selects (my mX1_dropOldest).cls (my mX1_dropOldest) (my mX1_dropOldest) ∈ gwl := gw_at 4 (by decide +kernel) (by decide +kernel)
abbrev mX2_init : Mt := (cX2_init, 1, none, yX2_init)
theorem mcX2_init : Cond.code (my mX2_init) (mcc mX2_init) (mml mX2_init) (mret mX2_init) ∈ gwl := gw_at 145 (by decide +kernel) (by decide +kernel)
theorem miX2_init : Cond.instanceMethod (my mX2_init) ∈ gwl := gw_at 144 (by decide +kernel) (by decide +kernel)
abbrev mX2_summon : Mt := (cX2_summon, 14, none, yX2_summon)
theorem mcX2_summon : Cond.code (my mX2_summon) (mcc mX2_summon) (mml mX2_summon) (mret mX2_summon) ∈ gwl := gw_at 633 (by decide +kernel) (by decide +kernel)
theorem miX2_summon : Cond.instanceMethod (my mX2_summon) ∈ gwl := gw_at 631 (by decide +kernel) (by decide +kernel)
theorem msX2_summon : Cond.selects (my mX2_summon).cls (my mX2_summon) (my mX2_summon) ∈ gwl := gw_at 632 (by decide +kernel) (by decide +kernel)
abbrev mX2_hold : Mt := (cX2_hold, 6, none, yX2_hold)
theorem mcX2_hold : Cond.code (my mX2_hold) (mcc mX2_hold) (mml mX2_hold) (mret mX2_hold) ∈ gwl := gw_at 639 (by decide +kernel) (by decide +kernel)
theorem miX2_hold : Cond.instanceMethod (my mX2_hold) ∈ gwl := gw_at 637 (by decide +kernel) (by decide +kernel)
theorem msX2_hold : Cond.selects (my mX2_hold).cls (my mX2_hold) (my mX2_hold) ∈ gwl := gw_at 638 (by decide +kernel) (by decide +kernel)
abbrev mX2_speak : Mt := (cX2_speak, 8, (some (.int)), yX2_speak)
theorem mcX2_speak : Cond.code (my mX2_speak) (mcc mX2_speak) (mml mX2_speak) (mret mX2_speak) ∈ gwl := gw_at 648 (by decide +kernel) (by decide +kernel)
theorem miX2_speak : Cond.instanceMethod (my mX2_speak) ∈ gwl := gw_at 646 (by decide +kernel) (by decide +kernel)
theorem msX2_speak : Cond.selects (my mX2_speak).cls (my mX2_speak) (my mX2_speak) ∈ gwl := gw_at 647 (by decide +kernel) (by decide +kernel)
abbrev mX2_beliefIn : Mt := (cX2_beliefIn, 5, (some (.int)), yX2_beliefIn)
theorem mcX2_beliefIn : Cond.code (my mX2_beliefIn) (mcc mX2_beliefIn) (mml mX2_beliefIn) (mret mX2_beliefIn) ∈ gwl := gw_at 682 (by decide +kernel) (by decide +kernel)
theorem miX2_beliefIn : Cond.instanceMethod (my mX2_beliefIn) ∈ gwl := gw_at 680 (by decide +kernel) (by decide +kernel)
theorem msX2_beliefIn : Cond.selects (my mX2_beliefIn).cls (my mX2_beliefIn) (my mX2_beliefIn) ∈ gwl := gw_at 681 (by decide +kernel) (by decide +kernel)
abbrev mX2_wrongBeliefs : Mt := (cX2_wrongBeliefs, 5, (some (.int)), yX2_wrongBeliefs)
theorem mcX2_wrongBeliefs : Cond.code (my mX2_wrongBeliefs) (mcc mX2_wrongBeliefs) (mml mX2_wrongBeliefs) (mret mX2_wrongBeliefs) ∈ gwl := gw_at 691 (by decide +kernel) (by decide +kernel)
theorem miX2_wrongBeliefs : Cond.instanceMethod (my mX2_wrongBeliefs) ∈ gwl := gw_at 689 (by decide +kernel) (by decide +kernel)
theorem msX2_wrongBeliefs : Cond.selects (my mX2_wrongBeliefs).cls (my mX2_wrongBeliefs) (my mX2_wrongBeliefs) ∈ gwl := gw_at 690 (by decide +kernel) (by decide +kernel)
abbrev mX2_asWorthyAs : Mt := (cX2_asWorthyAs, 4, (some (.int)), yX2_asWorthyAs)
theorem mcX2_asWorthyAs : Cond.code (my mX2_asWorthyAs) (mcc mX2_asWorthyAs) (mml mX2_asWorthyAs) (mret mX2_asWorthyAs) ∈ gwl := gw_at 696 (by decide +kernel) (by decide +kernel)
theorem miX2_asWorthyAs : Cond.instanceMethod (my mX2_asWorthyAs) ∈ gwl := gw_at 694 (by decide +kernel) (by decide +kernel)
theorem msX2_asWorthyAs : Cond.selects (my mX2_asWorthyAs).cls (my mX2_asWorthyAs) (my mX2_asWorthyAs) ∈ gwl := gw_at 695 (by decide +kernel) (by decide +kernel)
abbrev mX3_init : Mt := (cX3_init, 1, none, yX3_init)
theorem mcX3_init : Cond.code (my mX3_init) (mcc mX3_init) (mml mX3_init) (mret mX3_init) ∈ gwl := gw_at 249 (by decide +kernel) (by decide +kernel)
theorem miX3_init : Cond.instanceMethod (my mX3_init) ∈ gwl := gw_at 248 (by decide +kernel) (by decide +kernel)
abbrev mX3_add : Mt := (cX3_add, 3, none, yX3_add)
theorem mcX3_add : Cond.code (my mX3_add) (mcc mX3_add) (mml mX3_add) (mret mX3_add) ∈ gwl := gw_at 487 (by decide +kernel) (by decide +kernel)
theorem miX3_add : Cond.instanceMethod (my mX3_add) ∈ gwl := gw_at 485 (by decide +kernel) (by decide +kernel)
theorem msX3_add : Cond.selects (my mX3_add).cls (my mX3_add) (my mX3_add) ∈ gwl := gw_at 486 (by decide +kernel) (by decide +kernel)
abbrev mX3_skipToHere : Mt := (cX3_skipToHere, 2, none, yX3_skipToHere)
theorem mcX3_skipToHere : Cond.code (my mX3_skipToHere) (mcc mX3_skipToHere) (mml mX3_skipToHere) (mret mX3_skipToHere) ∈ gwl := gw_at 582 (by decide +kernel) (by decide +kernel)
theorem miX3_skipToHere : Cond.instanceMethod (my mX3_skipToHere) ∈ gwl := gw_at 580 (by decide +kernel) (by decide +kernel)
theorem msX3_skipToHere : Cond.selects (my mX3_skipToHere).cls (my mX3_skipToHere) (my mX3_skipToHere) ∈ gwl := gw_at 581 (by decide +kernel) (by decide +kernel)
abbrev mX3_priceOf : Mt := (cX3_priceOf, 6, (some (.int)), yX3_priceOf)
theorem mcX3_priceOf : Cond.code (my mX3_priceOf) (mcc mX3_priceOf) (mml mX3_priceOf) (mret mX3_priceOf) ∈ gwl := gw_at 595 (by decide +kernel) (by decide +kernel)
theorem miX3_priceOf : Cond.instanceMethod (my mX3_priceOf) ∈ gwl := gw_at 593 (by decide +kernel) (by decide +kernel)
theorem msX3_priceOf : Cond.selects (my mX3_priceOf).cls (my mX3_priceOf) (my mX3_priceOf) ∈ gwl := gw_at 594 (by decide +kernel) (by decide +kernel)
abbrev mX3_workedOut : Mt := (cX3_workedOut, 6, (some (.int)), yX3_workedOut)
theorem mcX3_workedOut : Cond.code (my mX3_workedOut) (mcc mX3_workedOut) (mml mX3_workedOut) (mret mX3_workedOut) ∈ gwl := gw_at 604 (by decide +kernel) (by decide +kernel)
theorem miX3_workedOut : Cond.instanceMethod (my mX3_workedOut) ∈ gwl := gw_at 603 (by decide +kernel) (by decide +kernel)
theorem msX3_workedOut : Cond.selects (my mX3_workedOut).cls (my mX3_workedOut) (my mX3_workedOut) ∈ gwl := gw_at 16 (by decide +kernel) (by decide +kernel)
abbrev mX3_together : Mt := (cX3_together, 3, (some (.int)), yX3_together)
theorem mcX3_together : Cond.code (my mX3_together) (mcc mX3_together) (mml mX3_together) (mret mX3_together) ∈ gwl := gw_at 615 (by decide +kernel) (by decide +kernel)
theorem mstX3_together : Cond.static (my mX3_together) ∈ gwl := gw_at 614 (by decide +kernel) (by decide +kernel)
abbrev mX3_push : Mt := (cX3_push, 2, none, yX3_push)
theorem mcX3_push : Cond.code (my mX3_push) (mcc mX3_push) (mml mX3_push) (mret mX3_push) ∈ gwl := gw_at 608 (by decide +kernel) (by decide +kernel)
theorem miX3_push : Cond.instanceMethod (my mX3_push) ∈ gwl := gw_at 607 (by decide +kernel) (by decide +kernel)
theorem msX3_push : Cond.selects (my mX3_push).cls (my mX3_push) (my mX3_push) ∈ gwl := gw_at 17 (by decide +kernel) (by decide +kernel)
abbrev mX3_pop : Mt := (cX3_pop, 1, (some (.int)), yX3_pop)
theorem mcX3_pop : Cond.code (my mX3_pop) (mcc mX3_pop) (mml mX3_pop) (mret mX3_pop) ∈ gwl := gw_at 612 (by decide +kernel) (by decide +kernel)
theorem miX3_pop : Cond.instanceMethod (my mX3_pop) ∈ gwl := gw_at 611 (by decide +kernel) (by decide +kernel)
theorem msX3_pop : Cond.selects (my mX3_pop).cls (my mX3_pop) (my mX3_pop) ∈ gwl := gw_at 18 (by decide +kernel) (by decide +kernel)
abbrev mX4_init : Mt := (cX4_init, 1, none, yX4_init)
theorem mcX4_init : Cond.code (my mX4_init) (mcc mX4_init) (mml mX4_init) (mret mX4_init) ∈ gwl := gw_at 243 (by decide +kernel) (by decide +kernel)
theorem miX4_init : Cond.instanceMethod (my mX4_init) ∈ gwl := gw_at 242 (by decide +kernel) (by decide +kernel)
abbrev mX4_take : Mt := (cX4_take, 2, (some (.int)), yX4_take)
theorem mcX4_take : Cond.code (my mX4_take) (mcc mX4_take) (mml mX4_take) (mret mX4_take) ∈ gwl := gw_at 436 (by decide +kernel) (by decide +kernel)
theorem miX4_take : Cond.instanceMethod (my mX4_take) ∈ gwl := gw_at 434 (by decide +kernel) (by decide +kernel)
theorem msX4_take : Cond.selects (my mX4_take).cls (my mX4_take) (my mX4_take) ∈ gwl := gw_at 435 (by decide +kernel) (by decide +kernel)
abbrev mX4_exchangeFor : Mt := (cX4_exchangeFor, 3, (some (.object "SkinOfTeeth$Law")), yX4_exchangeFor)
theorem mcX4_exchangeFor : Cond.code (my mX4_exchangeFor) (mcc mX4_exchangeFor) (mml mX4_exchangeFor) (mret mX4_exchangeFor) ∈ gwl := gw_at 586 (by decide +kernel) (by decide +kernel)
theorem miX4_exchangeFor : Cond.instanceMethod (my mX4_exchangeFor) ∈ gwl := gw_at 584 (by decide +kernel) (by decide +kernel)
theorem msX4_exchangeFor : Cond.selects (my mX4_exchangeFor).cls (my mX4_exchangeFor) (my mX4_exchangeFor) ∈ gwl := gw_at 585 (by decide +kernel) (by decide +kernel)
abbrev mX4_read : Mt := (cX4_read, 3, (some (.int)), yX4_read)
theorem mcX4_read : Cond.code (my mX4_read) (mcc mX4_read) (mml mX4_read) (mret mX4_read) ∈ gwl := gw_at 444 (by decide +kernel) (by decide +kernel)
theorem miX4_read : Cond.instanceMethod (my mX4_read) ∈ gwl := gw_at 442 (by decide +kernel) (by decide +kernel)
theorem msX4_read : Cond.selects (my mX4_read).cls (my mX4_read) (my mX4_read) ∈ gwl := gw_at 443 (by decide +kernel) (by decide +kernel)
abbrev mX4_next : Mt := (cX4_next, 1, (some (.int)), yX4_next)
theorem mcX4_next : Cond.code (my mX4_next) (mcc mX4_next) (mml mX4_next) (mret mX4_next) ∈ gwl := gw_at 476 (by decide +kernel) (by decide +kernel)
theorem miX4_next : Cond.instanceMethod (my mX4_next) ∈ gwl := gw_at 475 (by decide +kernel) (by decide +kernel)
theorem msX4_next : Cond.selects (my mX4_next).cls (my mX4_next) (my mX4_next) ∈ gwl := gw_at 13 (by decide +kernel) (by decide +kernel)
abbrev mX4_readLine : Mt := (cX4_readLine, 3, (some (.boolean)), yX4_readLine)
theorem mcX4_readLine : Cond.code (my mX4_readLine) (mcc mX4_readLine) (mml mX4_readLine) (mret mX4_readLine) ∈ gwl := gw_at 448 (by decide +kernel) (by decide +kernel)
theorem miX4_readLine : Cond.instanceMethod (my mX4_readLine) ∈ gwl := gw_at 447 (by decide +kernel) (by decide +kernel)
theorem msX4_readLine : Cond.selects (my mX4_readLine).cls (my mX4_readLine) (my mX4_readLine) ∈ gwl := gw_at 6 (by decide +kernel) (by decide +kernel)
abbrev mX4_readAny : Mt := (cX4_readAny, 4, (some (.boolean)), yX4_readAny)
theorem mcX4_readAny : Cond.code (my mX4_readAny) (mcc mX4_readAny) (mml mX4_readAny) (mret mX4_readAny) ∈ gwl := gw_at 452 (by decide +kernel) (by decide +kernel)
theorem miX4_readAny : Cond.instanceMethod (my mX4_readAny) ∈ gwl := gw_at 451 (by decide +kernel) (by decide +kernel)
theorem msX4_readAny : Cond.selects (my mX4_readAny).cls (my mX4_readAny) (my mX4_readAny) ∈ gwl := gw_at 7 (by decide +kernel) (by decide +kernel)
abbrev mX4_readAll : Mt := (cX4_readAll, 4, (some (.boolean)), yX4_readAll)
theorem mcX4_readAll : Cond.code (my mX4_readAll) (mcc mX4_readAll) (mml mX4_readAll) (mret mX4_readAll) ∈ gwl := gw_at 456 (by decide +kernel) (by decide +kernel)
theorem miX4_readAll : Cond.instanceMethod (my mX4_readAll) ∈ gwl := gw_at 455 (by decide +kernel) (by decide +kernel)
theorem msX4_readAll : Cond.selects (my mX4_readAll).cls (my mX4_readAll) (my mX4_readAll) ∈ gwl := gw_at 8 (by decide +kernel) (by decide +kernel)
abbrev mX4_readCompared : Mt := (cX4_readCompared, 4, (some (.boolean)), yX4_readCompared)
theorem mcX4_readCompared : Cond.code (my mX4_readCompared) (mcc mX4_readCompared) (mml mX4_readCompared) (mret mX4_readCompared) ∈ gwl := gw_at 460 (by decide +kernel) (by decide +kernel)
theorem miX4_readCompared : Cond.instanceMethod (my mX4_readCompared) ∈ gwl := gw_at 459 (by decide +kernel) (by decide +kernel)
theorem msX4_readCompared : Cond.selects (my mX4_readCompared).cls (my mX4_readCompared) (my mX4_readCompared) ∈ gwl := gw_at 9 (by decide +kernel) (by decide +kernel)
abbrev mX4_readSum : Mt := (cX4_readSum, 5, (some (.boolean)), yX4_readSum)
theorem mcX4_readSum : Cond.code (my mX4_readSum) (mcc mX4_readSum) (mml mX4_readSum) (mret mX4_readSum) ∈ gwl := gw_at 464 (by decide +kernel) (by decide +kernel)
theorem miX4_readSum : Cond.instanceMethod (my mX4_readSum) ∈ gwl := gw_at 463 (by decide +kernel) (by decide +kernel)
theorem msX4_readSum : Cond.selects (my mX4_readSum).cls (my mX4_readSum) (my mX4_readSum) ∈ gwl := gw_at 10 (by decide +kernel) (by decide +kernel)
abbrev mX4_readProduct : Mt := (cX4_readProduct, 5, (some (.boolean)), yX4_readProduct)
theorem mcX4_readProduct : Cond.code (my mX4_readProduct) (mcc mX4_readProduct) (mml mX4_readProduct) (mret mX4_readProduct) ∈ gwl := gw_at 468 (by decide +kernel) (by decide +kernel)
theorem miX4_readProduct : Cond.instanceMethod (my mX4_readProduct) ∈ gwl := gw_at 467 (by decide +kernel) (by decide +kernel)
theorem msX4_readProduct : Cond.selects (my mX4_readProduct).cls (my mX4_readProduct) (my mX4_readProduct) ∈ gwl := gw_at 11 (by decide +kernel) (by decide +kernel)
abbrev mX4_readOperand : Mt := (cX4_readOperand, 4, (some (.boolean)), yX4_readOperand)
theorem mcX4_readOperand : Cond.code (my mX4_readOperand) (mcc mX4_readOperand) (mml mX4_readOperand) (mret mX4_readOperand) ∈ gwl := gw_at 472 (by decide +kernel) (by decide +kernel)
theorem miX4_readOperand : Cond.instanceMethod (my mX4_readOperand) ∈ gwl := gw_at 471 (by decide +kernel) (by decide +kernel)
theorem msX4_readOperand : Cond.selects (my mX4_readOperand).cls (my mX4_readOperand) (my mX4_readOperand) ∈ gwl := gw_at 12 (by decide +kernel) (by decide +kernel)
abbrev mX4_readOpened : Mt := (cX4_readOpened, 4, (some (.boolean)), yX4_readOpened)
theorem mcX4_readOpened : Cond.code (my mX4_readOpened) (mcc mX4_readOpened) (mml mX4_readOpened) (mret mX4_readOpened) ∈ gwl := gw_at 578 (by decide +kernel) (by decide +kernel)
theorem miX4_readOpened : Cond.instanceMethod (my mX4_readOpened) ∈ gwl := gw_at 577 (by decide +kernel) (by decide +kernel)
theorem msX4_readOpened : Cond.selects (my mX4_readOpened).cls (my mX4_readOpened) (my mX4_readOpened) ∈ gwl := gw_at 15 (by decide +kernel) (by decide +kernel)
abbrev mX4_readNumber : Mt := (cX4_readNumber, 3, none, yX4_readNumber)
theorem mcX4_readNumber : Cond.code (my mX4_readNumber) (mcc mX4_readNumber) (mml mX4_readNumber) (mret mX4_readNumber) ∈ gwl := gw_at 483 (by decide +kernel) (by decide +kernel)
theorem miX4_readNumber : Cond.instanceMethod (my mX4_readNumber) ∈ gwl := gw_at 482 (by decide +kernel) (by decide +kernel)
theorem msX4_readNumber : Cond.selects (my mX4_readNumber).cls (my mX4_readNumber) (my mX4_readNumber) ∈ gwl := gw_at 14 (by decide +kernel) (by decide +kernel)
abbrev mX4_isDigit : Mt := (cX4_isDigit, 1, (some (.boolean)), yX4_isDigit)
theorem mcX4_isDigit : Cond.code (my mX4_isDigit) (mcc mX4_isDigit) (mml mX4_isDigit) (mret mX4_isDigit) ∈ gwl := gw_at 479 (by decide +kernel) (by decide +kernel)
theorem mstX4_isDigit : Cond.static (my mX4_isDigit) ∈ gwl := gw_at 478 (by decide +kernel) (by decide +kernel)
abbrev mX5_init : Mt := (cX5_init, 1, none, yX5_init)
theorem mcX5_init : Cond.code (my mX5_init) (mcc mX5_init) (mml mX5_init) (mret mX5_init) ∈ gwl := gw_at 115 (by decide +kernel) (by decide +kernel)
theorem miX5_init : Cond.instanceMethod (my mX5_init) ∈ gwl := gw_at 114 (by decide +kernel) (by decide +kernel)
abbrev mX5_newcomer : Mt := (cX5_newcomer, 3, (some (.int)), yX5_newcomer)
theorem mcX5_newcomer : Cond.code (my mX5_newcomer) (mcc mX5_newcomer) (mml mX5_newcomer) (mret mX5_newcomer) ∈ gwl := gw_at 362 (by decide +kernel) (by decide +kernel)
theorem miX5_newcomer : Cond.instanceMethod (my mX5_newcomer) ∈ gwl := gw_at 360 (by decide +kernel) (by decide +kernel)
theorem msX5_newcomer : Cond.selects (my mX5_newcomer).cls (my mX5_newcomer) (my mX5_newcomer) ∈ gwl := gw_at 361 (by decide +kernel) (by decide +kernel)
abbrev mX5_copyFrom : Mt := (cX5_copyFrom, 2, none, yX5_copyFrom)
theorem mcX5_copyFrom : Cond.code (my mX5_copyFrom) (mcc mX5_copyFrom) (mml mX5_copyFrom) (mret mX5_copyFrom) ∈ gwl := gw_at 643 (by decide +kernel) (by decide +kernel)
theorem miX5_copyFrom : Cond.instanceMethod (my mX5_copyFrom) ∈ gwl := gw_at 641 (by decide +kernel) (by decide +kernel)
theorem msX5_copyFrom : Cond.selects (my mX5_copyFrom).cls (my mX5_copyFrom) (my mX5_copyFrom) ∈ gwl := gw_at 642 (by decide +kernel) (by decide +kernel)
abbrev mX5_layBack : Mt := (cX5_layBack, 3, none, yX5_layBack)
theorem mcX5_layBack : Cond.code (my mX5_layBack) (mcc mX5_layBack) (mml mX5_layBack) (mret mX5_layBack) ∈ gwl := gw_at 817 (by decide +kernel) (by decide +kernel)
theorem miX5_layBack : Cond.instanceMethod (my mX5_layBack) ∈ gwl := gw_at 815 (by decide +kernel) (by decide +kernel)
theorem msX5_layBack : Cond.selects (my mX5_layBack).cls (my mX5_layBack) (my mX5_layBack) ∈ gwl := gw_at 816 (by decide +kernel) (by decide +kernel)
abbrev mX5_flakesOf : Mt := (cX5_flakesOf, 4, (some (.int)), yX5_flakesOf)
theorem mcX5_flakesOf : Cond.code (my mX5_flakesOf) (mcc mX5_flakesOf) (mml mX5_flakesOf) (mret mX5_flakesOf) ∈ gwl := gw_at 403 (by decide +kernel) (by decide +kernel)
theorem miX5_flakesOf : Cond.instanceMethod (my mX5_flakesOf) ∈ gwl := gw_at 401 (by decide +kernel) (by decide +kernel)
theorem msX5_flakesOf : Cond.selects (my mX5_flakesOf).cls (my mX5_flakesOf) (my mX5_flakesOf) ∈ gwl := gw_at 402 (by decide +kernel) (by decide +kernel)
abbrev mX5_flakesOfAll : Mt := (cX5_flakesOfAll, 3, (some (.int)), yX5_flakesOfAll)
theorem mcX5_flakesOfAll : Cond.code (my mX5_flakesOfAll) (mcc mX5_flakesOfAll) (mml mX5_flakesOfAll) (mret mX5_flakesOfAll) ∈ gwl := gw_at 779 (by decide +kernel) (by decide +kernel)
theorem miX5_flakesOfAll : Cond.instanceMethod (my mX5_flakesOfAll) ∈ gwl := gw_at 777 (by decide +kernel) (by decide +kernel)
theorem msX5_flakesOfAll : Cond.selects (my mX5_flakesOfAll).cls (my mX5_flakesOfAll) (my mX5_flakesOfAll) ∈ gwl := gw_at 778 (by decide +kernel) (by decide +kernel)
abbrev mX5_worthOf : Mt := (cX5_worthOf, 2, (some (.int)), yX5_worthOf)
theorem mcX5_worthOf : Cond.code (my mX5_worthOf) (mcc mX5_worthOf) (mml mX5_worthOf) (mret mX5_worthOf) ∈ gwl := gw_at 399 (by decide +kernel) (by decide +kernel)
theorem miX5_worthOf : Cond.instanceMethod (my mX5_worthOf) ∈ gwl := gw_at 397 (by decide +kernel) (by decide +kernel)
theorem msX5_worthOf : Cond.selects (my mX5_worthOf).cls (my mX5_worthOf) (my mX5_worthOf) ∈ gwl := gw_at 398 (by decide +kernel) (by decide +kernel)
abbrev mX5_worthTogether : Mt := (cX5_worthTogether, 4, (some (.int)), yX5_worthTogether)
theorem mcX5_worthTogether : Cond.code (my mX5_worthTogether) (mcc mX5_worthTogether) (mml mX5_worthTogether) (mret mX5_worthTogether) ∈ gwl := gw_at 724 (by decide +kernel) (by decide +kernel)
theorem miX5_worthTogether : Cond.instanceMethod (my mX5_worthTogether) ∈ gwl := gw_at 722 (by decide +kernel) (by decide +kernel)
theorem msX5_worthTogether : Cond.selects (my mX5_worthTogether).cls (my mX5_worthTogether) (my mX5_worthTogether) ∈ gwl := gw_at 723 (by decide +kernel) (by decide +kernel)
abbrev mX5_isGone : Mt := (cX5_isGone, 2, (some (.boolean)), yX5_isGone)
theorem mcX5_isGone : Cond.code (my mX5_isGone) (mcc mX5_isGone) (mml mX5_isGone) (mret mX5_isGone) ∈ gwl := gw_at 662 (by decide +kernel) (by decide +kernel)
theorem miX5_isGone : Cond.instanceMethod (my mX5_isGone) ∈ gwl := gw_at 660 (by decide +kernel) (by decide +kernel)
theorem msX5_isGone : Cond.selects (my mX5_isGone).cls (my mX5_isGone) (my mX5_isGone) ∈ gwl := gw_at 661 (by decide +kernel) (by decide +kernel)
abbrev mX5_howManyGone : Mt := (cX5_howManyGone, 3, (some (.int)), yX5_howManyGone)
theorem mcX5_howManyGone : Cond.code (my mX5_howManyGone) (mcc mX5_howManyGone) (mml mX5_howManyGone) (mret mX5_howManyGone) ∈ gwl := gw_at 918 (by decide +kernel) (by decide +kernel)
theorem miX5_howManyGone : Cond.instanceMethod (my mX5_howManyGone) ∈ gwl := gw_at 916 (by decide +kernel) (by decide +kernel)
theorem msX5_howManyGone : Cond.selects (my mX5_howManyGone).cls (my mX5_howManyGone) (my mX5_howManyGone) ∈ gwl := gw_at 917 (by decide +kernel) (by decide +kernel)
abbrev mX5_isCapped : Mt := (cX5_isCapped, 3, (some (.boolean)), yX5_isCapped)
theorem mcX5_isCapped : Cond.code (my mX5_isCapped) (mcc mX5_isCapped) (mml mX5_isCapped) (mret mX5_isCapped) ∈ gwl := gw_at 600 (by decide +kernel) (by decide +kernel)
theorem miX5_isCapped : Cond.instanceMethod (my mX5_isCapped) ∈ gwl := gw_at 598 (by decide +kernel) (by decide +kernel)
theorem msX5_isCapped : Cond.selects (my mX5_isCapped).cls (my mX5_isCapped) (my mX5_isCapped) ∈ gwl := gw_at 599 (by decide +kernel) (by decide +kernel)
abbrev mX5_looksLike : Mt := (cX5_looksLike, 4, (some (.boolean)), yX5_looksLike)
theorem mcX5_looksLike : Cond.code (my mX5_looksLike) (mcc mX5_looksLike) (mml mX5_looksLike) (mret mX5_looksLike) ∈ gwl := gw_at 753 (by decide +kernel) (by decide +kernel)
theorem miX5_looksLike : Cond.instanceMethod (my mX5_looksLike) ∈ gwl := gw_at 751 (by decide +kernel) (by decide +kernel)
theorem msX5_looksLike : Cond.selects (my mX5_looksLike).cls (my mX5_looksLike) (my mX5_looksLike) ∈ gwl := gw_at 752 (by decide +kernel) (by decide +kernel)
abbrev mX5_lie : Mt := (cX5_lie, 11, (some (.int)), yX5_lie)
theorem mcX5_lie : Cond.code (my mX5_lie) (mcc mX5_lie) (mml mX5_lie) (mret mX5_lie) ∈ gwl := gw_at 655 (by decide +kernel) (by decide +kernel)
theorem miX5_lie : Cond.instanceMethod (my mX5_lie) ∈ gwl := gw_at 653 (by decide +kernel) (by decide +kernel)
theorem msX5_lie : Cond.selects (my mX5_lie).cls (my mX5_lie) (my mX5_lie) ∈ gwl := gw_at 654 (by decide +kernel) (by decide +kernel)
abbrev mX5_exchange : Mt := (cX5_exchange, 5, none, yX5_exchange)
theorem mcX5_exchange : Cond.code (my mX5_exchange) (mcc mX5_exchange) (mml mX5_exchange) (mret mX5_exchange) ∈ gwl := gw_at 791 (by decide +kernel) (by decide +kernel)
theorem miX5_exchange : Cond.instanceMethod (my mX5_exchange) ∈ gwl := gw_at 789 (by decide +kernel) (by decide +kernel)
theorem msX5_exchange : Cond.selects (my mX5_exchange).cls (my mX5_exchange) (my mX5_exchange) ∈ gwl := gw_at 790 (by decide +kernel) (by decide +kernel)
abbrev mX6_init : Mt := (cX6_init, 1, none, yX6_init)
theorem mcX6_init : Cond.code (my mX6_init) (mcc mX6_init) (mml mX6_init) (mret mX6_init) ∈ gwl := gw_at 290 (by decide +kernel) (by decide +kernel)
theorem miX6_init : Cond.instanceMethod (my mX6_init) ∈ gwl := gw_at 289 (by decide +kernel) (by decide +kernel)
abbrev mX6_becomeRow : Mt := (cX6_becomeRow, 4, none, yX6_becomeRow)
theorem mcX6_becomeRow : Cond.code (my mX6_becomeRow) (mcc mX6_becomeRow) (mml mX6_becomeRow) (mret mX6_becomeRow) ∈ gwl := gw_at 879 (by decide +kernel) (by decide +kernel)
theorem miX6_becomeRow : Cond.instanceMethod (my mX6_becomeRow) ∈ gwl := gw_at 877 (by decide +kernel) (by decide +kernel)
theorem msX6_becomeRow : Cond.selects (my mX6_becomeRow).cls (my mX6_becomeRow) (my mX6_becomeRow) ∈ gwl := gw_at 878 (by decide +kernel) (by decide +kernel)
abbrev mX6_lacks : Mt := (cX6_lacks, 3, (some (.boolean)), yX6_lacks)
theorem mcX6_lacks : Cond.code (my mX6_lacks) (mcc mX6_lacks) (mml mX6_lacks) (mret mX6_lacks) ∈ gwl := gw_at 903 (by decide +kernel) (by decide +kernel)
theorem miX6_lacks : Cond.instanceMethod (my mX6_lacks) ∈ gwl := gw_at 901 (by decide +kernel) (by decide +kernel)
theorem msX6_lacks : Cond.selects (my mX6_lacks).cls (my mX6_lacks) (my mX6_lacks) ∈ gwl := gw_at 902 (by decide +kernel) (by decide +kernel)
abbrev mX6_narrowed : Mt := (cX6_narrowed, 3, (some (.long)), yX6_narrowed)
theorem mcX6_narrowed : Cond.code (my mX6_narrowed) (mcc mX6_narrowed) (mml mX6_narrowed) (mret mX6_narrowed) ∈ gwl := gw_at 890 (by decide +kernel) (by decide +kernel)
theorem mstX6_narrowed : Cond.static (my mX6_narrowed) ∈ gwl := gw_at 889 (by decide +kernel) (by decide +kernel)
abbrev mX7_init : Mt := (cX7_init, 2, none, yX7_init)
theorem mcX7_init : Cond.code (my mX7_init) (mcc mX7_init) (mml mX7_init) (mret mX7_init) ∈ gwl := gw_at 107 (by decide +kernel) (by decide +kernel)
theorem miX7_init : Cond.instanceMethod (my mX7_init) ∈ gwl := gw_at 106 (by decide +kernel) (by decide +kernel)
abbrev mX7_person : Mt := (cX7_person, 4, (some (.int)), yX7_person)
theorem mcX7_person : Cond.code (my mX7_person) (mcc mX7_person) (mml mX7_person) (mret mX7_person) ∈ gwl := gw_at 355 (by decide +kernel) (by decide +kernel)
theorem miX7_person : Cond.instanceMethod (my mX7_person) ∈ gwl := gw_at 353 (by decide +kernel) (by decide +kernel)
theorem msX7_person : Cond.selects (my mX7_person).cls (my mX7_person) (my mX7_person) ∈ gwl := gw_at 354 (by decide +kernel) (by decide +kernel)
abbrev mX7_people : Mt := (cX7_people, 7, (some (.int)), yX7_people)
theorem mcX7_people : Cond.code (my mX7_people) (mcc mX7_people) (mml mX7_people) (mret mX7_people) ∈ gwl := gw_at 366 (by decide +kernel) (by decide +kernel)
theorem miX7_people : Cond.instanceMethod (my mX7_people) ∈ gwl := gw_at 364 (by decide +kernel) (by decide +kernel)
theorem msX7_people : Cond.selects (my mX7_people).cls (my mX7_people) (my mX7_people) ∈ gwl := gw_at 365 (by decide +kernel) (by decide +kernel)
abbrev mX7_isNine : Mt := (cX7_isNine, 3, (some (.boolean)), yX7_isNine)
theorem mcX7_isNine : Cond.code (my mX7_isNine) (mcc mX7_isNine) (mml mX7_isNine) (mret mX7_isNine) ∈ gwl := gw_at 372 (by decide +kernel) (by decide +kernel)
theorem mstX7_isNine : Cond.static (my mX7_isNine) ∈ gwl := gw_at 371 (by decide +kernel) (by decide +kernel)
abbrev mX7_comeFrom : Mt := (cX7_comeFrom, 5, none, yX7_comeFrom)
theorem mcX7_comeFrom : Cond.code (my mX7_comeFrom) (mcc mX7_comeFrom) (mml mX7_comeFrom) (mret mX7_comeFrom) ∈ gwl := gw_at 376 (by decide +kernel) (by decide +kernel)
theorem miX7_comeFrom : Cond.instanceMethod (my mX7_comeFrom) ∈ gwl := gw_at 375 (by decide +kernel) (by decide +kernel)
theorem msX7_comeFrom : Cond.selects (my mX7_comeFrom).cls (my mX7_comeFrom) (my mX7_comeFrom) ∈ gwl := gw_at 0 (by decide +kernel) (by decide +kernel)
abbrev mX7_mend : Mt := (cX7_mend, 5, (some (.int)), yX7_mend)
theorem mcX7_mend : Cond.code (my mX7_mend) (mcc mX7_mend) (mml mX7_mend) (mret mX7_mend) ∈ gwl := gw_at 380 (by decide +kernel) (by decide +kernel)
theorem miX7_mend : Cond.instanceMethod (my mX7_mend) ∈ gwl := gw_at 378 (by decide +kernel) (by decide +kernel)
theorem msX7_mend : Cond.selects (my mX7_mend).cls (my mX7_mend) (my mX7_mend) ∈ gwl := gw_at 379 (by decide +kernel) (by decide +kernel)
abbrev mX7_of : Mt := (cX7_of, 3, (some (.int)), yX7_of)
theorem mcX7_of : Cond.code (my mX7_of) (mcc mX7_of) (mml mX7_of) (mret mX7_of) ∈ gwl := gw_at 428 (by decide +kernel) (by decide +kernel)
theorem miX7_of : Cond.instanceMethod (my mX7_of) ∈ gwl := gw_at 426 (by decide +kernel) (by decide +kernel)
theorem msX7_of : Cond.selects (my mX7_of).cls (my mX7_of) (my mX7_of) ∈ gwl := gw_at 427 (by decide +kernel) (by decide +kernel)
abbrev mX7_noNumber : Mt := (cX7_noNumber, 3, (some (.boolean)), yX7_noNumber)
theorem mcX7_noNumber : Cond.code (my mX7_noNumber) (mcc mX7_noNumber) (mml mX7_noNumber) (mret mX7_noNumber) ∈ gwl := gw_at 384 (by decide +kernel) (by decide +kernel)
theorem miX7_noNumber : Cond.instanceMethod (my mX7_noNumber) ∈ gwl := gw_at 383 (by decide +kernel) (by decide +kernel)
theorem msX7_noNumber : Cond.selects (my mX7_noNumber).cls (my mX7_noNumber) (my mX7_noNumber) ∈ gwl := gw_at 1 (by decide +kernel) (by decide +kernel)
abbrev mX7_mostOf : Mt := (cX7_mostOf, 1, (some (.int)), yX7_mostOf)
theorem mcX7_mostOf : Cond.code (my mX7_mostOf) (mcc mX7_mostOf) (mml mX7_mostOf) (mret mX7_mostOf) ∈ gwl := gw_at 391 (by decide +kernel) (by decide +kernel)
theorem mstX7_mostOf : Cond.static (my mX7_mostOf) ∈ gwl := gw_at 390 (by decide +kernel) (by decide +kernel)
abbrev mX7_numberNow : Mt := (cX7_numberNow, 3, (some (.int)), yX7_numberNow)
theorem mcX7_numberNow : Cond.code (my mX7_numberNow) (mcc mX7_numberNow) (mml mX7_numberNow) (mret mX7_numberNow) ∈ gwl := gw_at 395 (by decide +kernel) (by decide +kernel)
theorem miX7_numberNow : Cond.instanceMethod (my mX7_numberNow) ∈ gwl := gw_at 394 (by decide +kernel) (by decide +kernel)
theorem msX7_numberNow : Cond.selects (my mX7_numberNow).cls (my mX7_numberNow) (my mX7_numberNow) ∈ gwl := gw_at 3 (by decide +kernel) (by decide +kernel)
abbrev mX7_makeNumber : Mt := (cX7_makeNumber, 4, none, yX7_makeNumber)
theorem mcX7_makeNumber : Cond.code (my mX7_makeNumber) (mcc mX7_makeNumber) (mml mX7_makeNumber) (mret mX7_makeNumber) ∈ gwl := gw_at 424 (by decide +kernel) (by decide +kernel)
theorem miX7_makeNumber : Cond.instanceMethod (my mX7_makeNumber) ∈ gwl := gw_at 423 (by decide +kernel) (by decide +kernel)
theorem msX7_makeNumber : Cond.selects (my mX7_makeNumber).cls (my mX7_makeNumber) (my mX7_makeNumber) ∈ gwl := gw_at 5 (by decide +kernel) (by decide +kernel)
abbrev mX7_feed : Mt := (cX7_feed, 2, (some (.int)), yX7_feed)
theorem mcX7_feed : Cond.code (my mX7_feed) (mcc mX7_feed) (mml mX7_feed) (mret mX7_feed) ∈ gwl := gw_at 432 (by decide +kernel) (by decide +kernel)
theorem miX7_feed : Cond.instanceMethod (my mX7_feed) ∈ gwl := gw_at 430 (by decide +kernel) (by decide +kernel)
theorem msX7_feed : Cond.selects (my mX7_feed).cls (my mX7_feed) (my mX7_feed) ∈ gwl := gw_at 431 (by decide +kernel) (by decide +kernel)
abbrev mX7_law : Mt := (cX7_law, 2, (some (.int)), yX7_law)
theorem mcX7_law : Cond.code (my mX7_law) (mcc mX7_law) (mml mX7_law) (mret mX7_law) ∈ gwl := gw_at 440 (by decide +kernel) (by decide +kernel)
theorem miX7_law : Cond.instanceMethod (my mX7_law) ∈ gwl := gw_at 438 (by decide +kernel) (by decide +kernel)
theorem msX7_law : Cond.selects (my mX7_law).cls (my mX7_law) (my mX7_law) ∈ gwl := gw_at 439 (by decide +kernel) (by decide +kernel)
abbrev mX7_takes : Mt := (cX7_takes, 3, (some (.int)), yX7_takes)
theorem mcX7_takes : Cond.code (my mX7_takes) (mcc mX7_takes) (mml mX7_takes) (mret mX7_takes) ∈ gwl := gw_at 591 (by decide +kernel) (by decide +kernel)
theorem miX7_takes : Cond.instanceMethod (my mX7_takes) ∈ gwl := gw_at 589 (by decide +kernel) (by decide +kernel)
theorem msX7_takes : Cond.selects (my mX7_takes).cls (my mX7_takes) (my mX7_takes) ∈ gwl := gw_at 590 (by decide +kernel) (by decide +kernel)
abbrev mX7_trial : Mt := (cX7_trial, 5, (some (.int)), yX7_trial)
theorem mcX7_trial : Cond.code (my mX7_trial) (mcc mX7_trial) (mml mX7_trial) (mret mX7_trial) ∈ gwl := gw_at 621 (by decide +kernel) (by decide +kernel)
theorem miX7_trial : Cond.instanceMethod (my mX7_trial) ∈ gwl := gw_at 619 (by decide +kernel) (by decide +kernel)
theorem msX7_trial : Cond.selects (my mX7_trial).cls (my mX7_trial) (my mX7_trial) ∈ gwl := gw_at 620 (by decide +kernel) (by decide +kernel)
abbrev mX7_tooth : Mt := (cX7_tooth, 4, (some (.int)), yX7_tooth)
theorem mcX7_tooth : Cond.code (my mX7_tooth) (mcc mX7_tooth) (mml mX7_tooth) (mret mX7_tooth) ∈ gwl := gw_at 666 (by decide +kernel) (by decide +kernel)
theorem miX7_tooth : Cond.instanceMethod (my mX7_tooth) ∈ gwl := gw_at 664 (by decide +kernel) (by decide +kernel)
theorem msX7_tooth : Cond.selects (my mX7_tooth).cls (my mX7_tooth) (my mX7_tooth) ∈ gwl := gw_at 665 (by decide +kernel) (by decide +kernel)
abbrev mX7_gone : Mt := (cX7_gone, 3, (some (.int)), yX7_gone)
theorem mcX7_gone : Cond.code (my mX7_gone) (mcc mX7_gone) (mml mX7_gone) (mret mX7_gone) ∈ gwl := gw_at 674 (by decide +kernel) (by decide +kernel)
theorem miX7_gone : Cond.instanceMethod (my mX7_gone) ∈ gwl := gw_at 672 (by decide +kernel) (by decide +kernel)
theorem msX7_gone : Cond.selects (my mX7_gone).cls (my mX7_gone) (my mX7_gone) ∈ gwl := gw_at 673 (by decide +kernel) (by decide +kernel)
abbrev mX7_believed : Mt := (cX7_believed, 4, (some (.int)), yX7_believed)
theorem mcX7_believed : Cond.code (my mX7_believed) (mcc mX7_believed) (mml mX7_believed) (mret mX7_believed) ∈ gwl := gw_at 678 (by decide +kernel) (by decide +kernel)
theorem miX7_believed : Cond.instanceMethod (my mX7_believed) ∈ gwl := gw_at 676 (by decide +kernel) (by decide +kernel)
theorem msX7_believed : Cond.selects (my mX7_believed).cls (my mX7_believed) (my mX7_believed) ∈ gwl := gw_at 677 (by decide +kernel) (by decide +kernel)
abbrev mX7_told : Mt := (cX7_told, 4, (some (.int)), yX7_told)
theorem mcX7_told : Cond.code (my mX7_told) (mcc mX7_told) (mml mX7_told) (mret mX7_told) ∈ gwl := gw_at 687 (by decide +kernel) (by decide +kernel)
theorem miX7_told : Cond.instanceMethod (my mX7_told) ∈ gwl := gw_at 685 (by decide +kernel) (by decide +kernel)
theorem msX7_told : Cond.selects (my mX7_told).cls (my mX7_told) (my mX7_told) ∈ gwl := gw_at 686 (by decide +kernel) (by decide +kernel)
abbrev mX7_have : Mt := (cX7_have, 6, (some (.int)), yX7_have)
theorem mcX7_have : Cond.code (my mX7_have) (mcc mX7_have) (mml mX7_have) (mret mX7_have) ∈ gwl := gw_at 700 (by decide +kernel) (by decide +kernel)
theorem miX7_have : Cond.instanceMethod (my mX7_have) ∈ gwl := gw_at 698 (by decide +kernel) (by decide +kernel)
theorem msX7_have : Cond.selects (my mX7_have).cls (my mX7_have) (my mX7_have) ∈ gwl := gw_at 699 (by decide +kernel) (by decide +kernel)
abbrev mX7_cheapestWay : Mt := (cX7_cheapestWay, 9, (some (.int)), yX7_cheapestWay)
theorem mcX7_cheapestWay : Cond.code (my mX7_cheapestWay) (mcc mX7_cheapestWay) (mml mX7_cheapestWay) (mret mX7_cheapestWay) ∈ gwl := gw_at 707 (by decide +kernel) (by decide +kernel)
theorem miX7_cheapestWay : Cond.instanceMethod (my mX7_cheapestWay) ∈ gwl := gw_at 706 (by decide +kernel) (by decide +kernel)
theorem msX7_cheapestWay : Cond.selects (my mX7_cheapestWay).cls (my mX7_cheapestWay) (my mX7_cheapestWay) ∈ gwl := gw_at 22 (by decide +kernel) (by decide +kernel)
abbrev mX7_left : Mt := (cX7_left, 4, (some (.int)), yX7_left)
theorem mcX7_left : Cond.code (my mX7_left) (mcc mX7_left) (mml mX7_left) (mret mX7_left) ∈ gwl := gw_at 713 (by decide +kernel) (by decide +kernel)
theorem miX7_left : Cond.instanceMethod (my mX7_left) ∈ gwl := gw_at 711 (by decide +kernel) (by decide +kernel)
theorem msX7_left : Cond.selects (my mX7_left).cls (my mX7_left) (my mX7_left) ∈ gwl := gw_at 712 (by decide +kernel) (by decide +kernel)
abbrev mX7_enough : Mt := (cX7_enough, 6, (some (.int)), yX7_enough)
theorem mcX7_enough : Cond.code (my mX7_enough) (mcc mX7_enough) (mml mX7_enough) (mret mX7_enough) ∈ gwl := gw_at 719 (by decide +kernel) (by decide +kernel)
theorem miX7_enough : Cond.instanceMethod (my mX7_enough) ∈ gwl := gw_at 717 (by decide +kernel) (by decide +kernel)
theorem msX7_enough : Cond.selects (my mX7_enough).cls (my mX7_enough) (my mX7_enough) ∈ gwl := gw_at 718 (by decide +kernel) (by decide +kernel)
abbrev mX7_jury : Mt := (cX7_jury, 5, (some (.int)), yX7_jury)
theorem mcX7_jury : Cond.code (my mX7_jury) (mcc mX7_jury) (mml mX7_jury) (mret mX7_jury) ∈ gwl := gw_at 729 (by decide +kernel) (by decide +kernel)
theorem miX7_jury : Cond.instanceMethod (my mX7_jury) ∈ gwl := gw_at 727 (by decide +kernel) (by decide +kernel)
theorem msX7_jury : Cond.selects (my mX7_jury).cls (my mX7_jury) (my mX7_jury) ∈ gwl := gw_at 728 (by decide +kernel) (by decide +kernel)
abbrev mX7_isLesser : Mt := (cX7_isLesser, 4, (some (.boolean)), yX7_isLesser)
theorem mcX7_isLesser : Cond.code (my mX7_isLesser) (mcc mX7_isLesser) (mml mX7_isLesser) (mret mX7_isLesser) ∈ gwl := gw_at 733 (by decide +kernel) (by decide +kernel)
theorem miX7_isLesser : Cond.instanceMethod (my mX7_isLesser) ∈ gwl := gw_at 732 (by decide +kernel) (by decide +kernel)
theorem msX7_isLesser : Cond.selects (my mX7_isLesser).cls (my mX7_isLesser) (my mX7_isLesser) ∈ gwl := gw_at 23 (by decide +kernel) (by decide +kernel)
abbrev mX7_bribe : Mt := (cX7_bribe, 6, (some (.int)), yX7_bribe)
theorem mcX7_bribe : Cond.code (my mX7_bribe) (mcc mX7_bribe) (mml mX7_bribe) (mret mX7_bribe) ∈ gwl := gw_at 737 (by decide +kernel) (by decide +kernel)
theorem miX7_bribe : Cond.instanceMethod (my mX7_bribe) ∈ gwl := gw_at 735 (by decide +kernel) (by decide +kernel)
theorem msX7_bribe : Cond.selects (my mX7_bribe).cls (my mX7_bribe) (my mX7_bribe) ∈ gwl := gw_at 736 (by decide +kernel) (by decide +kernel)
abbrev mX7_fewestTurned : Mt := (cX7_fewestTurned, 5, (some (.int)), yX7_fewestTurned)
theorem mcX7_fewestTurned : Cond.code (my mX7_fewestTurned) (mcc mX7_fewestTurned) (mml mX7_fewestTurned) (mret mX7_fewestTurned) ∈ gwl := gw_at 741 (by decide +kernel) (by decide +kernel)
theorem miX7_fewestTurned : Cond.instanceMethod (my mX7_fewestTurned) ∈ gwl := gw_at 740 (by decide +kernel) (by decide +kernel)
theorem msX7_fewestTurned : Cond.selects (my mX7_fewestTurned).cls (my mX7_fewestTurned) (my mX7_fewestTurned) ∈ gwl := gw_at 24 (by decide +kernel) (by decide +kernel)
abbrev mX7_liesFor : Mt := (cX7_liesFor, 6, (some (.int)), yX7_liesFor)
theorem mcX7_liesFor : Cond.code (my mX7_liesFor) (mcc mX7_liesFor) (mml mX7_liesFor) (mret mX7_liesFor) ∈ gwl := gw_at 745 (by decide +kernel) (by decide +kernel)
theorem miX7_liesFor : Cond.instanceMethod (my mX7_liesFor) ∈ gwl := gw_at 743 (by decide +kernel) (by decide +kernel)
theorem msX7_liesFor : Cond.selects (my mX7_liesFor).cls (my mX7_liesFor) (my mX7_liesFor) ∈ gwl := gw_at 744 (by decide +kernel) (by decide +kernel)
abbrev mX7_two : Mt := (cX7_two, 8, (some (.int)), yX7_two)
theorem mcX7_two : Cond.code (my mX7_two) (mcc mX7_two) (mml mX7_two) (mret mX7_two) ∈ gwl := gw_at 757 (by decide +kernel) (by decide +kernel)
theorem miX7_two : Cond.instanceMethod (my mX7_two) ∈ gwl := gw_at 755 (by decide +kernel) (by decide +kernel)
theorem msX7_two : Cond.selects (my mX7_two).cls (my mX7_two) (my mX7_two) ∈ gwl := gw_at 756 (by decide +kernel) (by decide +kernel)
abbrev mX7_others : Mt := (cX7_others, 5, (some (.int)), yX7_others)
theorem mcX7_others : Cond.code (my mX7_others) (mcc mX7_others) (mml mX7_others) (mret mX7_others) ∈ gwl := gw_at 761 (by decide +kernel) (by decide +kernel)
theorem miX7_others : Cond.instanceMethod (my mX7_others) ∈ gwl := gw_at 759 (by decide +kernel) (by decide +kernel)
theorem msX7_others : Cond.selects (my mX7_others).cls (my mX7_others) (my mX7_others) ∈ gwl := gw_at 760 (by decide +kernel) (by decide +kernel)
abbrev mX7_isSo : Mt := (cX7_isSo, 7, (some (.int)), yX7_isSo)
theorem mcX7_isSo : Cond.code (my mX7_isSo) (mcc mX7_isSo) (mml mX7_isSo) (mret mX7_isSo) ∈ gwl := gw_at 765 (by decide +kernel) (by decide +kernel)
theorem miX7_isSo : Cond.instanceMethod (my mX7_isSo) ∈ gwl := gw_at 763 (by decide +kernel) (by decide +kernel)
theorem msX7_isSo : Cond.selects (my mX7_isSo).cls (my mX7_isSo) (my mX7_isSo) ∈ gwl := gw_at 764 (by decide +kernel) (by decide +kernel)
abbrev mX7_waysOfSo : Mt := (cX7_waysOfSo, 10, (some (.int)), yX7_waysOfSo)
theorem mcX7_waysOfSo : Cond.code (my mX7_waysOfSo) (mcc mX7_waysOfSo) (mml mX7_waysOfSo) (mret mX7_waysOfSo) ∈ gwl := gw_at 769 (by decide +kernel) (by decide +kernel)
theorem miX7_waysOfSo : Cond.instanceMethod (my mX7_waysOfSo) ∈ gwl := gw_at 768 (by decide +kernel) (by decide +kernel)
theorem msX7_waysOfSo : Cond.selects (my mX7_waysOfSo).cls (my mX7_waysOfSo) (my mX7_waysOfSo) ∈ gwl := gw_at 26 (by decide +kernel) (by decide +kernel)
abbrev mX7_drawn : Mt := (cX7_drawn, 12, (some (.int)), yX7_drawn)
theorem mcX7_drawn : Cond.code (my mX7_drawn) (mcc mX7_drawn) (mml mX7_drawn) (mret mX7_drawn) ∈ gwl := gw_at 773 (by decide +kernel) (by decide +kernel)
theorem miX7_drawn : Cond.instanceMethod (my mX7_drawn) ∈ gwl := gw_at 771 (by decide +kernel) (by decide +kernel)
theorem msX7_drawn : Cond.selects (my mX7_drawn).cls (my mX7_drawn) (my mX7_drawn) ∈ gwl := gw_at 772 (by decide +kernel) (by decide +kernel)
abbrev mX7_say : Mt := (cX7_say, 5, (some (.int)), yX7_say)
theorem mcX7_say : Cond.code (my mX7_say) (mcc mX7_say) (mml mX7_say) (mret mX7_say) ∈ gwl := gw_at 783 (by decide +kernel) (by decide +kernel)
theorem miX7_say : Cond.instanceMethod (my mX7_say) ∈ gwl := gw_at 781 (by decide +kernel) (by decide +kernel)
theorem msX7_say : Cond.selects (my mX7_say).cls (my mX7_say) (my mX7_say) ∈ gwl := gw_at 782 (by decide +kernel) (by decide +kernel)
abbrev mX7_lend : Mt := (cX7_lend, 3, (some (.int)), yX7_lend)
theorem mcX7_lend : Cond.code (my mX7_lend) (mcc mX7_lend) (mml mX7_lend) (mret mX7_lend) ∈ gwl := gw_at 787 (by decide +kernel) (by decide +kernel)
theorem miX7_lend : Cond.instanceMethod (my mX7_lend) ∈ gwl := gw_at 785 (by decide +kernel) (by decide +kernel)
theorem msX7_lend : Cond.selects (my mX7_lend).cls (my mX7_lend) (my mX7_lend) ∈ gwl := gw_at 786 (by decide +kernel) (by decide +kernel)
abbrev mX7_cap : Mt := (cX7_cap, 3, (some (.int)), yX7_cap)
theorem mcX7_cap : Cond.code (my mX7_cap) (mcc mX7_cap) (mml mX7_cap) (mret mX7_cap) ∈ gwl := gw_at 795 (by decide +kernel) (by decide +kernel)
theorem miX7_cap : Cond.instanceMethod (my mX7_cap) ∈ gwl := gw_at 793 (by decide +kernel) (by decide +kernel)
theorem msX7_cap : Cond.selects (my mX7_cap).cls (my mX7_cap) (my mX7_cap) ∈ gwl := gw_at 794 (by decide +kernel) (by decide +kernel)
abbrev mX7_year : Mt := (cX7_year, 3, (some (.int)), yX7_year)
theorem mcX7_year : Cond.code (my mX7_year) (mcc mX7_year) (mml mX7_year) (mret mX7_year) ∈ gwl := gw_at 800 (by decide +kernel) (by decide +kernel)
theorem miX7_year : Cond.instanceMethod (my mX7_year) ∈ gwl := gw_at 798 (by decide +kernel) (by decide +kernel)
theorem msX7_year : Cond.selects (my mX7_year).cls (my mX7_year) (my mX7_year) ∈ gwl := gw_at 799 (by decide +kernel) (by decide +kernel)
abbrev mX7_led : Mt := (cX7_led, 2, (some (.int)), yX7_led)
theorem mcX7_led : Cond.code (my mX7_led) (mcc mX7_led) (mml mX7_led) (mret mX7_led) ∈ gwl := gw_at 804 (by decide +kernel) (by decide +kernel)
theorem miX7_led : Cond.instanceMethod (my mX7_led) ∈ gwl := gw_at 802 (by decide +kernel) (by decide +kernel)
theorem msX7_led : Cond.selects (my mX7_led).cls (my mX7_led) (my mX7_led) ∈ gwl := gw_at 803 (by decide +kernel) (by decide +kernel)
abbrev mX7_image : Mt := (cX7_image, 1, (some (.int)), yX7_image)
theorem mcX7_image : Cond.code (my mX7_image) (mcc mX7_image) (mml mX7_image) (mret mX7_image) ∈ gwl := gw_at 808 (by decide +kernel) (by decide +kernel)
theorem miX7_image : Cond.instanceMethod (my mX7_image) ∈ gwl := gw_at 806 (by decide +kernel) (by decide +kernel)
theorem msX7_image : Cond.selects (my mX7_image).cls (my mX7_image) (my mX7_image) ∈ gwl := gw_at 807 (by decide +kernel) (by decide +kernel)
abbrev mX7_back : Mt := (cX7_back, 1, (some (.int)), yX7_back)
theorem mcX7_back : Cond.code (my mX7_back) (mcc mX7_back) (mml mX7_back) (mret mX7_back) ∈ gwl := gw_at 813 (by decide +kernel) (by decide +kernel)
theorem miX7_back : Cond.instanceMethod (my mX7_back) ∈ gwl := gw_at 811 (by decide +kernel) (by decide +kernel)
theorem msX7_back : Cond.selects (my mX7_back).cls (my mX7_back) (my mX7_back) ∈ gwl := gw_at 812 (by decide +kernel) (by decide +kernel)
abbrev mX7_undo : Mt := (cX7_undo, 2, (some (.int)), yX7_undo)
theorem mcX7_undo : Cond.code (my mX7_undo) (mcc mX7_undo) (mml mX7_undo) (mret mX7_undo) ∈ gwl := gw_at 821 (by decide +kernel) (by decide +kernel)
theorem miX7_undo : Cond.instanceMethod (my mX7_undo) ∈ gwl := gw_at 819 (by decide +kernel) (by decide +kernel)
theorem msX7_undo : Cond.selects (my mX7_undo).cls (my mX7_undo) (my mX7_undo) ∈ gwl := gw_at 820 (by decide +kernel) (by decide +kernel)
abbrev mX7_redo : Mt := (cX7_redo, 2, (some (.int)), yX7_redo)
theorem mcX7_redo : Cond.code (my mX7_redo) (mcc mX7_redo) (mml mX7_redo) (mret mX7_redo) ∈ gwl := gw_at 825 (by decide +kernel) (by decide +kernel)
theorem miX7_redo : Cond.instanceMethod (my mX7_redo) ∈ gwl := gw_at 823 (by decide +kernel) (by decide +kernel)
theorem msX7_redo : Cond.selects (my mX7_redo).cls (my mX7_redo) (my mX7_redo) ∈ gwl := gw_at 824 (by decide +kernel) (by decide +kernel)
abbrev mX7_body : Mt := (cX7_body, 2, (some (.int)), yX7_body)
theorem mcX7_body : Cond.code (my mX7_body) (mcc mX7_body) (mml mX7_body) (mret mX7_body) ∈ gwl := gw_at 829 (by decide +kernel) (by decide +kernel)
theorem miX7_body : Cond.instanceMethod (my mX7_body) ∈ gwl := gw_at 827 (by decide +kernel) (by decide +kernel)
theorem msX7_body : Cond.selects (my mX7_body).cls (my mX7_body) (my mX7_body) ∈ gwl := gw_at 828 (by decide +kernel) (by decide +kernel)
abbrev mX7_act : Mt := (cX7_act, 4, (some (.int)), yX7_act)
theorem mcX7_act : Cond.code (my mX7_act) (mcc mX7_act) (mml mX7_act) (mret mX7_act) ∈ gwl := gw_at 837 (by decide +kernel) (by decide +kernel)
theorem miX7_act : Cond.instanceMethod (my mX7_act) ∈ gwl := gw_at 835 (by decide +kernel) (by decide +kernel)
theorem msX7_act : Cond.selects (my mX7_act).cls (my mX7_act) (my mX7_act) ∈ gwl := gw_at 836 (by decide +kernel) (by decide +kernel)
abbrev mX7_trace : Mt := (cX7_trace, 2, (some (.int)), yX7_trace)
theorem mcX7_trace : Cond.code (my mX7_trace) (mcc mX7_trace) (mml mX7_trace) (mret mX7_trace) ∈ gwl := gw_at 862 (by decide +kernel) (by decide +kernel)
theorem miX7_trace : Cond.instanceMethod (my mX7_trace) ∈ gwl := gw_at 860 (by decide +kernel) (by decide +kernel)
theorem msX7_trace : Cond.selects (my mX7_trace).cls (my mX7_trace) (my mX7_trace) ∈ gwl := gw_at 861 (by decide +kernel) (by decide +kernel)
abbrev mX7_keep : Mt := (cX7_keep, 3, (some (.int)), yX7_keep)
theorem mcX7_keep : Cond.code (my mX7_keep) (mcc mX7_keep) (mml mX7_keep) (mret mX7_keep) ∈ gwl := gw_at 871 (by decide +kernel) (by decide +kernel)
theorem miX7_keep : Cond.instanceMethod (my mX7_keep) ∈ gwl := gw_at 869 (by decide +kernel) (by decide +kernel)
theorem msX7_keep : Cond.selects (my mX7_keep).cls (my mX7_keep) (my mX7_keep) ∈ gwl := gw_at 870 (by decide +kernel) (by decide +kernel)
abbrev mX7_row : Mt := (cX7_row, 4, (some (.int)), yX7_row)
theorem mcX7_row : Cond.code (my mX7_row) (mcc mX7_row) (mml mX7_row) (mret mX7_row) ∈ gwl := gw_at 875 (by decide +kernel) (by decide +kernel)
theorem miX7_row : Cond.instanceMethod (my mX7_row) ∈ gwl := gw_at 873 (by decide +kernel) (by decide +kernel)
theorem msX7_row : Cond.selects (my mX7_row).cls (my mX7_row) (my mX7_row) ∈ gwl := gw_at 874 (by decide +kernel) (by decide +kernel)
abbrev mX7_put : Mt := (cX7_put, 6, (some (.int)), yX7_put)
theorem mcX7_put : Cond.code (my mX7_put) (mcc mX7_put) (mml mX7_put) (mret mX7_put) ∈ gwl := gw_at 883 (by decide +kernel) (by decide +kernel)
theorem miX7_put : Cond.instanceMethod (my mX7_put) ∈ gwl := gw_at 881 (by decide +kernel) (by decide +kernel)
theorem msX7_put : Cond.selects (my mX7_put).cls (my mX7_put) (my mX7_put) ∈ gwl := gw_at 882 (by decide +kernel) (by decide +kernel)
abbrev mX7_element : Mt := (cX7_element, 3, (some (.long)), yX7_element)
theorem mcX7_element : Cond.code (my mX7_element) (mcc mX7_element) (mml mX7_element) (mret mX7_element) ∈ gwl := gw_at 894 (by decide +kernel) (by decide +kernel)
theorem miX7_element : Cond.instanceMethod (my mX7_element) ∈ gwl := gw_at 892 (by decide +kernel) (by decide +kernel)
theorem msX7_element : Cond.selects (my mX7_element).cls (my mX7_element) (my mX7_element) ∈ gwl := gw_at 893 (by decide +kernel) (by decide +kernel)
abbrev mX7_shift : Mt := (cX7_shift, 8, (some (.int)), yX7_shift)
theorem mcX7_shift : Cond.code (my mX7_shift) (mcc mX7_shift) (mml mX7_shift) (mret mX7_shift) ∈ gwl := gw_at 899 (by decide +kernel) (by decide +kernel)
theorem miX7_shift : Cond.instanceMethod (my mX7_shift) ∈ gwl := gw_at 897 (by decide +kernel) (by decide +kernel)
theorem msX7_shift : Cond.selects (my mX7_shift).cls (my mX7_shift) (my mX7_shift) ∈ gwl := gw_at 898 (by decide +kernel) (by decide +kernel)
abbrev mX7_taken : Mt := (cX7_taken, 5, (some (.int)), yX7_taken)
theorem mcX7_taken : Cond.code (my mX7_taken) (mcc mX7_taken) (mml mX7_taken) (mret mX7_taken) ∈ gwl := gw_at 907 (by decide +kernel) (by decide +kernel)
theorem miX7_taken : Cond.instanceMethod (my mX7_taken) ∈ gwl := gw_at 905 (by decide +kernel) (by decide +kernel)
theorem msX7_taken : Cond.selects (my mX7_taken).cls (my mX7_taken) (my mX7_taken) ∈ gwl := gw_at 906 (by decide +kernel) (by decide +kernel)
abbrev mX7_count : Mt := (cX7_count, 2, (some (.int)), yX7_count)
theorem mcX7_count : Cond.code (my mX7_count) (mcc mX7_count) (mml mX7_count) (mret mX7_count) ∈ gwl := gw_at 914 (by decide +kernel) (by decide +kernel)
theorem miX7_count : Cond.instanceMethod (my mX7_count) ∈ gwl := gw_at 912 (by decide +kernel) (by decide +kernel)
theorem msX7_count : Cond.selects (my mX7_count).cls (my mX7_count) (my mX7_count) ∈ gwl := gw_at 913 (by decide +kernel) (by decide +kernel)
abbrev mX7_outside : Mt := (cX7_outside, 2, (some (.boolean)), yX7_outside)
theorem mcX7_outside : Cond.code (my mX7_outside) (mcc mX7_outside) (mml mX7_outside) (mret mX7_outside) ∈ gwl := gw_at 358 (by decide +kernel) (by decide +kernel)
theorem mstX7_outside : Cond.static (my mX7_outside) ∈ gwl := gw_at 357 (by decide +kernel) (by decide +kernel)
abbrev mX7_noShelf : Mt := (cX7_noShelf, 1, (some (.boolean)), yX7_noShelf)
theorem mcX7_noShelf : Cond.code (my mX7_noShelf) (mcc mX7_noShelf) (mml mX7_noShelf) (mret mX7_noShelf) ∈ gwl := gw_at 369 (by decide +kernel) (by decide +kernel)
theorem mstX7_noShelf : Cond.static (my mX7_noShelf) ∈ gwl := gw_at 368 (by decide +kernel) (by decide +kernel)
abbrev mX7_noClaim : Mt := (cX7_noClaim, 1, (some (.boolean)), yX7_noClaim)
theorem mcX7_noClaim : Cond.code (my mX7_noClaim) (mcc mX7_noClaim) (mml mX7_noClaim) (mret mX7_noClaim) ∈ gwl := gw_at 703 (by decide +kernel) (by decide +kernel)
theorem mstX7_noClaim : Cond.static (my mX7_noClaim) ∈ gwl := gw_at 702 (by decide +kernel) (by decide +kernel)
abbrev mX7_nobody : Mt := (cX7_nobody, 2, (some (.boolean)), yX7_nobody)
theorem mcX7_nobody : Cond.code (my mX7_nobody) (mcc mX7_nobody) (mml mX7_nobody) (mret mX7_nobody) ∈ gwl := gw_at 388 (by decide +kernel) (by decide +kernel)
theorem miX7_nobody : Cond.instanceMethod (my mX7_nobody) ∈ gwl := gw_at 387 (by decide +kernel) (by decide +kernel)
theorem msX7_nobody : Cond.selects (my mX7_nobody).cls (my mX7_nobody) (my mX7_nobody) ∈ gwl := gw_at 2 (by decide +kernel) (by decide +kernel)
abbrev mX7_noTooth : Mt := (cX7_noTooth, 2, (some (.boolean)), yX7_noTooth)
theorem mcX7_noTooth : Cond.code (my mX7_noTooth) (mcc mX7_noTooth) (mml mX7_noTooth) (mret mX7_noTooth) ∈ gwl := gw_at 670 (by decide +kernel) (by decide +kernel)
theorem miX7_noTooth : Cond.instanceMethod (my mX7_noTooth) ∈ gwl := gw_at 669 (by decide +kernel) (by decide +kernel)
theorem msX7_noTooth : Cond.selects (my mX7_noTooth).cls (my mX7_noTooth) (my mX7_noTooth) ∈ gwl := gw_at 21 (by decide +kernel) (by decide +kernel)
abbrev mX7_isLie : Mt := (cX7_isLie, 3, (some (.boolean)), yX7_isLie)
theorem mcX7_isLie : Cond.code (my mX7_isLie) (mcc mX7_isLie) (mml mX7_isLie) (mret mX7_isLie) ∈ gwl := gw_at 651 (by decide +kernel) (by decide +kernel)
theorem mstX7_isLie : Cond.static (my mX7_isLie) ∈ gwl := gw_at 650 (by decide +kernel) (by decide +kernel)
abbrev mX7_refusalOfBytes : Mt := (cX7_refusalOfBytes, 3, (some (.int)), yX7_refusalOfBytes)
theorem mcX7_refusalOfBytes : Cond.code (my mX7_refusalOfBytes) (mcc mX7_refusalOfBytes) (mml mX7_refusalOfBytes) (mret mX7_refusalOfBytes) ∈ gwl := gw_at 625 (by decide +kernel) (by decide +kernel)
theorem miX7_refusalOfBytes : Cond.instanceMethod (my mX7_refusalOfBytes) ∈ gwl := gw_at 624 (by decide +kernel) (by decide +kernel)
theorem msX7_refusalOfBytes : Cond.selects (my mX7_refusalOfBytes).cls (my mX7_refusalOfBytes) (my mX7_refusalOfBytes) ∈ gwl := gw_at 19 (by decide +kernel) (by decide +kernel)
abbrev mX7_refusalOfMirror : Mt := (cX7_refusalOfMirror, 3, (some (.int)), yX7_refusalOfMirror)
theorem mcX7_refusalOfMirror : Cond.code (my mX7_refusalOfMirror) (mcc mX7_refusalOfMirror) (mml mX7_refusalOfMirror) (mret mX7_refusalOfMirror) ∈ gwl := gw_at 749 (by decide +kernel) (by decide +kernel)
theorem miX7_refusalOfMirror : Cond.instanceMethod (my mX7_refusalOfMirror) ∈ gwl := gw_at 748 (by decide +kernel) (by decide +kernel)
theorem msX7_refusalOfMirror : Cond.selects (my mX7_refusalOfMirror).cls (my mX7_refusalOfMirror) (my mX7_refusalOfMirror) ∈ gwl := gw_at 25 (by decide +kernel) (by decide +kernel)
abbrev mX7_refusalOfPlace : Mt := (cX7_refusalOfPlace, 4, (some (.int)), yX7_refusalOfPlace)
theorem mcX7_refusalOfPlace : Cond.code (my mX7_refusalOfPlace) (mcc mX7_refusalOfPlace) (mml mX7_refusalOfPlace) (mret mX7_refusalOfPlace) ∈ gwl := gw_at 887 (by decide +kernel) (by decide +kernel)
theorem miX7_refusalOfPlace : Cond.instanceMethod (my mX7_refusalOfPlace) ∈ gwl := gw_at 886 (by decide +kernel) (by decide +kernel)
theorem msX7_refusalOfPlace : Cond.selects (my mX7_refusalOfPlace).cls (my mX7_refusalOfPlace) (my mX7_refusalOfPlace) ∈ gwl := gw_at 30 (by decide +kernel) (by decide +kernel)
abbrev mX7_hear : Mt := (cX7_hear, 2, none, yX7_hear)
theorem mcX7_hear : Cond.code (my mX7_hear) (mcc mX7_hear) (mml mX7_hear) (mret mX7_hear) ∈ gwl := gw_at 629 (by decide +kernel) (by decide +kernel)
theorem miX7_hear : Cond.instanceMethod (my mX7_hear) ∈ gwl := gw_at 628 (by decide +kernel) (by decide +kernel)
theorem msX7_hear : Cond.selects (my mX7_hear).cls (my mX7_hear) (my mX7_hear) ∈ gwl := gw_at 20 (by decide +kernel) (by decide +kernel)
abbrev mX8_init : Mt := (cX8_init, 1, none, yX8_init)
theorem mcX8_init : Cond.code (my mX8_init) (mcc mX8_init) (mml mX8_init) (mret mX8_init) ∈ gwl := gw_at 924 (by decide +kernel) (by decide +kernel)
theorem miX8_init : Cond.instanceMethod (my mX8_init) ∈ gwl := gw_at 923 (by decide +kernel) (by decide +kernel)
abbrev mX8_in : Mt := (cX8_in, 3, (some (.boolean)), yX8_in)
theorem mcX8_in : Cond.code (my mX8_in) (mcc mX8_in) (mml mX8_in) (mret mX8_in) ∈ gwl := gw_at 1092 (by decide +kernel) (by decide +kernel)
theorem mstX8_in : Cond.static (my mX8_in) ∈ gwl := gw_at 1091 (by decide +kernel) (by decide +kernel)
abbrev mX8_bitsOf : Mt := (cX8_bitsOf, 3, (some (.int)), yX8_bitsOf)
theorem mcX8_bitsOf : Cond.code (my mX8_bitsOf) (mcc mX8_bitsOf) (mml mX8_bitsOf) (mret mX8_bitsOf) ∈ gwl := gw_at 1161 (by decide +kernel) (by decide +kernel)
theorem mstX8_bitsOf : Cond.static (my mX8_bitsOf) ∈ gwl := gw_at 1160 (by decide +kernel) (by decide +kernel)
abbrev mX8_isPerson : Mt := (cX8_isPerson, 2, (some (.boolean)), yX8_isPerson)
theorem mcX8_isPerson : Cond.code (my mX8_isPerson) (mcc mX8_isPerson) (mml mX8_isPerson) (mret mX8_isPerson) ∈ gwl := gw_at 1128 (by decide +kernel) (by decide +kernel)
theorem miX8_isPerson : Cond.instanceMethod (my mX8_isPerson) ∈ gwl := gw_at 1127 (by decide +kernel) (by decide +kernel)
theorem msX8_isPerson : Cond.selects (my mX8_isPerson).cls (my mX8_isPerson) (my mX8_isPerson) ∈ gwl := gw_at 34 (by decide +kernel) (by decide +kernel)
abbrev mX8_isFact : Mt := (cX8_isFact, 1, (some (.boolean)), yX8_isFact)
theorem mcX8_isFact : Cond.code (my mX8_isFact) (mcc mX8_isFact) (mml mX8_isFact) (mret mX8_isFact) ∈ gwl := gw_at 1131 (by decide +kernel) (by decide +kernel)
theorem mstX8_isFact : Cond.static (my mX8_isFact) ∈ gwl := gw_at 1130 (by decide +kernel) (by decide +kernel)
abbrev mX8_person : Mt := (cX8_person, 3, (some (.int)), yX8_person)
theorem mcX8_person : Cond.code (my mX8_person) (mcc mX8_person) (mml mX8_person) (mret mX8_person) ∈ gwl := gw_at 1089 (by decide +kernel) (by decide +kernel)
theorem miX8_person : Cond.instanceMethod (my mX8_person) ∈ gwl := gw_at 1087 (by decide +kernel) (by decide +kernel)
theorem msX8_person : Cond.selects (my mX8_person).cls (my mX8_person) (my mX8_person) ∈ gwl := gw_at 1088 (by decide +kernel) (by decide +kernel)
abbrev mX8_isMouth : Mt := (cX8_isMouth, 4, (some (.boolean)), yX8_isMouth)
theorem mcX8_isMouth : Cond.code (my mX8_isMouth) (mcc mX8_isMouth) (mml mX8_isMouth) (mret mX8_isMouth) ∈ gwl := gw_at 1104 (by decide +kernel) (by decide +kernel)
theorem miX8_isMouth : Cond.instanceMethod (my mX8_isMouth) ∈ gwl := gw_at 1103 (by decide +kernel) (by decide +kernel)
theorem msX8_isMouth : Cond.selects (my mX8_isMouth).cls (my mX8_isMouth) (my mX8_isMouth) ∈ gwl := gw_at 31 (by decide +kernel) (by decide +kernel)
abbrev mX8_people : Mt := (cX8_people, 8, (some (.int)), yX8_people)
theorem mcX8_people : Cond.code (my mX8_people) (mcc mX8_people) (mml mX8_people) (mret mX8_people) ∈ gwl := gw_at 1096 (by decide +kernel) (by decide +kernel)
theorem miX8_people : Cond.instanceMethod (my mX8_people) ∈ gwl := gw_at 1094 (by decide +kernel) (by decide +kernel)
theorem msX8_people : Cond.selects (my mX8_people).cls (my mX8_people) (my mX8_people) ∈ gwl := gw_at 1095 (by decide +kernel) (by decide +kernel)
abbrev mX8_valueAt : Mt := (cX8_valueAt, 3, (some (.int)), yX8_valueAt)
theorem mcX8_valueAt : Cond.code (my mX8_valueAt) (mcc mX8_valueAt) (mml mX8_valueAt) (mret mX8_valueAt) ∈ gwl := gw_at 1142 (by decide +kernel) (by decide +kernel)
theorem miX8_valueAt : Cond.instanceMethod (my mX8_valueAt) ∈ gwl := gw_at 1141 (by decide +kernel) (by decide +kernel)
theorem msX8_valueAt : Cond.selects (my mX8_valueAt).cls (my mX8_valueAt) (my mX8_valueAt) ∈ gwl := gw_at 36 (by decide +kernel) (by decide +kernel)
abbrev mX8_lays : Mt := (cX8_lays, 4, none, yX8_lays)
theorem mcX8_lays : Cond.code (my mX8_lays) (mcc mX8_lays) (mml mX8_lays) (mret mX8_lays) ∈ gwl := gw_at 1112 (by decide +kernel) (by decide +kernel)
theorem miX8_lays : Cond.instanceMethod (my mX8_lays) ∈ gwl := gw_at 1111 (by decide +kernel) (by decide +kernel)
theorem msX8_lays : Cond.selects (my mX8_lays).cls (my mX8_lays) (my mX8_lays) ∈ gwl := gw_at 32 (by decide +kernel) (by decide +kernel)
abbrev mX8_changes : Mt := (cX8_changes, 6, (some (.int)), yX8_changes)
theorem mcX8_changes : Cond.code (my mX8_changes) (mcc mX8_changes) (mml mX8_changes) (mret mX8_changes) ∈ gwl := gw_at 1138 (by decide +kernel) (by decide +kernel)
theorem miX8_changes : Cond.instanceMethod (my mX8_changes) ∈ gwl := gw_at 1137 (by decide +kernel) (by decide +kernel)
theorem msX8_changes : Cond.selects (my mX8_changes).cls (my mX8_changes) (my mX8_changes) ∈ gwl := gw_at 35 (by decide +kernel) (by decide +kernel)
abbrev mX8_undo : Mt := (cX8_undo, 1, (some (.int)), yX8_undo)
theorem mcX8_undo : Cond.code (my mX8_undo) (mcc mX8_undo) (mml mX8_undo) (mret mX8_undo) ∈ gwl := gw_at 1108 (by decide +kernel) (by decide +kernel)
theorem miX8_undo : Cond.instanceMethod (my mX8_undo) ∈ gwl := gw_at 1106 (by decide +kernel) (by decide +kernel)
theorem msX8_undo : Cond.selects (my mX8_undo).cls (my mX8_undo) (my mX8_undo) ∈ gwl := gw_at 1107 (by decide +kernel) (by decide +kernel)
abbrev mX8_redo : Mt := (cX8_redo, 1, (some (.int)), yX8_redo)
theorem mcX8_redo : Cond.code (my mX8_redo) (mcc mX8_redo) (mml mX8_redo) (mret mX8_redo) ∈ gwl := gw_at 1116 (by decide +kernel) (by decide +kernel)
theorem miX8_redo : Cond.instanceMethod (my mX8_redo) ∈ gwl := gw_at 1114 (by decide +kernel) (by decide +kernel)
theorem msX8_redo : Cond.selects (my mX8_redo).cls (my mX8_redo) (my mX8_redo) ∈ gwl := gw_at 1115 (by decide +kernel) (by decide +kernel)
abbrev mX8_isOne : Mt := (cX8_isOne, 3, (some (.boolean)), yX8_isOne)
theorem mcX8_isOne : Cond.code (my mX8_isOne) (mcc mX8_isOne) (mml mX8_isOne) (mret mX8_isOne) ∈ gwl := gw_at 1124 (by decide +kernel) (by decide +kernel)
theorem miX8_isOne : Cond.instanceMethod (my mX8_isOne) ∈ gwl := gw_at 1123 (by decide +kernel) (by decide +kernel)
theorem msX8_isOne : Cond.selects (my mX8_isOne).cls (my mX8_isOne) (my mX8_isOne) ∈ gwl := gw_at 33 (by decide +kernel) (by decide +kernel)
abbrev mX8_mayBe : Mt := (cX8_mayBe, 2, (some (.boolean)), yX8_mayBe)
theorem mcX8_mayBe : Cond.code (my mX8_mayBe) (mcc mX8_mayBe) (mml mX8_mayBe) (mret mX8_mayBe) ∈ gwl := gw_at 1134 (by decide +kernel) (by decide +kernel)
theorem mstX8_mayBe : Cond.static (my mX8_mayBe) ∈ gwl := gw_at 1133 (by decide +kernel) (by decide +kernel)
abbrev mX8_mend : Mt := (cX8_mend, 4, (some (.int)), yX8_mend)
theorem mcX8_mend : Cond.code (my mX8_mend) (mcc mX8_mend) (mml mX8_mend) (mret mX8_mend) ∈ gwl := gw_at 1120 (by decide +kernel) (by decide +kernel)
theorem miX8_mend : Cond.instanceMethod (my mX8_mend) ∈ gwl := gw_at 1118 (by decide +kernel) (by decide +kernel)
theorem msX8_mend : Cond.selects (my mX8_mend).cls (my mX8_mend) (my mX8_mend) ∈ gwl := gw_at 1119 (by decide +kernel) (by decide +kernel)
abbrev mX8_of : Mt := (cX8_of, 3, (some (.int)), yX8_of)
theorem mcX8_of : Cond.code (my mX8_of) (mcc mX8_of) (mml mX8_of) (mret mX8_of) ∈ gwl := gw_at 1146 (by decide +kernel) (by decide +kernel)
theorem miX8_of : Cond.instanceMethod (my mX8_of) ∈ gwl := gw_at 1144 (by decide +kernel) (by decide +kernel)
theorem msX8_of : Cond.selects (my mX8_of).cls (my mX8_of) (my mX8_of) ∈ gwl := gw_at 1145 (by decide +kernel) (by decide +kernel)
abbrev mX8_feed : Mt := (cX8_feed, 2, (some (.int)), yX8_feed)
theorem mcX8_feed : Cond.code (my mX8_feed) (mcc mX8_feed) (mml mX8_feed) (mret mX8_feed) ∈ gwl := gw_at 1165 (by decide +kernel) (by decide +kernel)
theorem miX8_feed : Cond.instanceMethod (my mX8_feed) ∈ gwl := gw_at 1163 (by decide +kernel) (by decide +kernel)
theorem msX8_feed : Cond.selects (my mX8_feed).cls (my mX8_feed) (my mX8_feed) ∈ gwl := gw_at 1164 (by decide +kernel) (by decide +kernel)
abbrev mX8_look : Mt := (cX8_look, 1, (some (.int)), yX8_look)
theorem mcX8_look : Cond.code (my mX8_look) (mcc mX8_look) (mml mX8_look) (mret mX8_look) ∈ gwl := gw_at 1205 (by decide +kernel) (by decide +kernel)
theorem miX8_look : Cond.instanceMethod (my mX8_look) ∈ gwl := gw_at 1204 (by decide +kernel) (by decide +kernel)
theorem msX8_look : Cond.selects (my mX8_look).cls (my mX8_look) (my mX8_look) ∈ gwl := gw_at 48 (by decide +kernel) (by decide +kernel)
abbrev mX8_wrong : Mt := (cX8_wrong, 1, none, yX8_wrong)
theorem mcX8_wrong : Cond.code (my mX8_wrong) (mcc mX8_wrong) (mml mX8_wrong) (mret mX8_wrong) ∈ gwl := gw_at 1220 (by decide +kernel) (by decide +kernel)
theorem miX8_wrong : Cond.instanceMethod (my mX8_wrong) ∈ gwl := gw_at 1219 (by decide +kernel) (by decide +kernel)
theorem msX8_wrong : Cond.selects (my mX8_wrong).cls (my mX8_wrong) (my mX8_wrong) ∈ gwl := gw_at 51 (by decide +kernel) (by decide +kernel)
abbrev mX8_addStep : Mt := (cX8_addStep, 3, none, yX8_addStep)
theorem mcX8_addStep : Cond.code (my mX8_addStep) (mcc mX8_addStep) (mml mX8_addStep) (mret mX8_addStep) ∈ gwl := gw_at 1212 (by decide +kernel) (by decide +kernel)
theorem miX8_addStep : Cond.instanceMethod (my mX8_addStep) ∈ gwl := gw_at 1211 (by decide +kernel) (by decide +kernel)
theorem msX8_addStep : Cond.selects (my mX8_addStep).cls (my mX8_addStep) (my mX8_addStep) ∈ gwl := gw_at 49 (by decide +kernel) (by decide +kernel)
abbrev mX8_nameOf : Mt := (cX8_nameOf, 1, (some (.int)), yX8_nameOf)
theorem mcX8_nameOf : Cond.code (my mX8_nameOf) (mcc mX8_nameOf) (mml mX8_nameOf) (mret mX8_nameOf) ∈ gwl := gw_at 1208 (by decide +kernel) (by decide +kernel)
theorem mstX8_nameOf : Cond.static (my mX8_nameOf) ∈ gwl := gw_at 1207 (by decide +kernel) (by decide +kernel)
abbrev mX8_opens : Mt := (cX8_opens, 1, (some (.boolean)), yX8_opens)
theorem mcX8_opens : Cond.code (my mX8_opens) (mcc mX8_opens) (mml mX8_opens) (mret mX8_opens) ∈ gwl := gw_at 1216 (by decide +kernel) (by decide +kernel)
theorem miX8_opens : Cond.instanceMethod (my mX8_opens) ∈ gwl := gw_at 1215 (by decide +kernel) (by decide +kernel)
theorem msX8_opens : Cond.selects (my mX8_opens).cls (my mX8_opens) (my mX8_opens) ∈ gwl := gw_at 50 (by decide +kernel) (by decide +kernel)
abbrev mX8_figure : Mt := (cX8_figure, 3, none, yX8_figure)
theorem mcX8_figure : Cond.code (my mX8_figure) (mcc mX8_figure) (mml mX8_figure) (mret mX8_figure) ∈ gwl := gw_at 1224 (by decide +kernel) (by decide +kernel)
theorem miX8_figure : Cond.instanceMethod (my mX8_figure) ∈ gwl := gw_at 1223 (by decide +kernel) (by decide +kernel)
theorem msX8_figure : Cond.selects (my mX8_figure).cls (my mX8_figure) (my mX8_figure) ∈ gwl := gw_at 52 (by decide +kernel) (by decide +kernel)
abbrev mX8_operand : Mt := (cX8_operand, 2, none, yX8_operand)
theorem mcX8_operand : Cond.code (my mX8_operand) (mcc mX8_operand) (mml mX8_operand) (mret mX8_operand) ∈ gwl := gw_at 1201 (by decide +kernel) (by decide +kernel)
theorem miX8_operand : Cond.instanceMethod (my mX8_operand) ∈ gwl := gw_at 1200 (by decide +kernel) (by decide +kernel)
theorem msX8_operand : Cond.selects (my mX8_operand).cls (my mX8_operand) (my mX8_operand) ∈ gwl := gw_at 47 (by decide +kernel) (by decide +kernel)
abbrev mX8_product : Mt := (cX8_product, 2, none, yX8_product)
theorem mcX8_product : Cond.code (my mX8_product) (mcc mX8_product) (mml mX8_product) (mret mX8_product) ∈ gwl := gw_at 1197 (by decide +kernel) (by decide +kernel)
theorem miX8_product : Cond.instanceMethod (my mX8_product) ∈ gwl := gw_at 1196 (by decide +kernel) (by decide +kernel)
theorem msX8_product : Cond.selects (my mX8_product).cls (my mX8_product) (my mX8_product) ∈ gwl := gw_at 46 (by decide +kernel) (by decide +kernel)
abbrev mX8_sum : Mt := (cX8_sum, 2, none, yX8_sum)
theorem mcX8_sum : Cond.code (my mX8_sum) (mcc mX8_sum) (mml mX8_sum) (mret mX8_sum) ∈ gwl := gw_at 1193 (by decide +kernel) (by decide +kernel)
theorem miX8_sum : Cond.instanceMethod (my mX8_sum) ∈ gwl := gw_at 1192 (by decide +kernel) (by decide +kernel)
theorem msX8_sum : Cond.selects (my mX8_sum).cls (my mX8_sum) (my mX8_sum) ∈ gwl := gw_at 45 (by decide +kernel) (by decide +kernel)
abbrev mX8_compared : Mt := (cX8_compared, 2, none, yX8_compared)
theorem mcX8_compared : Cond.code (my mX8_compared) (mcc mX8_compared) (mml mX8_compared) (mret mX8_compared) ∈ gwl := gw_at 1189 (by decide +kernel) (by decide +kernel)
theorem miX8_compared : Cond.instanceMethod (my mX8_compared) ∈ gwl := gw_at 1188 (by decide +kernel) (by decide +kernel)
theorem msX8_compared : Cond.selects (my mX8_compared).cls (my mX8_compared) (my mX8_compared) ∈ gwl := gw_at 44 (by decide +kernel) (by decide +kernel)
abbrev mX8_both : Mt := (cX8_both, 1, none, yX8_both)
theorem mcX8_both : Cond.code (my mX8_both) (mcc mX8_both) (mml mX8_both) (mret mX8_both) ∈ gwl := gw_at 1185 (by decide +kernel) (by decide +kernel)
theorem miX8_both : Cond.instanceMethod (my mX8_both) ∈ gwl := gw_at 1184 (by decide +kernel) (by decide +kernel)
theorem msX8_both : Cond.selects (my mX8_both).cls (my mX8_both) (my mX8_both) ∈ gwl := gw_at 43 (by decide +kernel) (by decide +kernel)
abbrev mX8_either : Mt := (cX8_either, 1, none, yX8_either)
theorem mcX8_either : Cond.code (my mX8_either) (mcc mX8_either) (mml mX8_either) (mret mX8_either) ∈ gwl := gw_at 1181 (by decide +kernel) (by decide +kernel)
theorem miX8_either : Cond.instanceMethod (my mX8_either) ∈ gwl := gw_at 1180 (by decide +kernel) (by decide +kernel)
theorem msX8_either : Cond.selects (my mX8_either).cls (my mX8_either) (my mX8_either) ∈ gwl := gw_at 42 (by decide +kernel) (by decide +kernel)
abbrev mX8_line : Mt := (cX8_line, 2, none, yX8_line)
theorem mcX8_line : Cond.code (my mX8_line) (mcc mX8_line) (mml mX8_line) (mret mX8_line) ∈ gwl := gw_at 1177 (by decide +kernel) (by decide +kernel)
theorem miX8_line : Cond.instanceMethod (my mX8_line) ∈ gwl := gw_at 1176 (by decide +kernel) (by decide +kernel)
theorem msX8_line : Cond.selects (my mX8_line).cls (my mX8_line) (my mX8_line) ∈ gwl := gw_at 41 (by decide +kernel) (by decide +kernel)
abbrev mX8_readText : Mt := (cX8_readText, 3, (some (.int)), yX8_readText)
theorem mcX8_readText : Cond.code (my mX8_readText) (mcc mX8_readText) (mml mX8_readText) (mret mX8_readText) ∈ gwl := gw_at 1173 (by decide +kernel) (by decide +kernel)
theorem miX8_readText : Cond.instanceMethod (my mX8_readText) ∈ gwl := gw_at 1172 (by decide +kernel) (by decide +kernel)
theorem msX8_readText : Cond.selects (my mX8_readText).cls (my mX8_readText) (my mX8_readText) ∈ gwl := gw_at 40 (by decide +kernel) (by decide +kernel)
abbrev mX8_twoOf : Mt := (cX8_twoOf, 3, (some (.int)), yX8_twoOf)
theorem mcX8_twoOf : Cond.code (my mX8_twoOf) (mcc mX8_twoOf) (mml mX8_twoOf) (mret mX8_twoOf) ∈ gwl := gw_at 1243 (by decide +kernel) (by decide +kernel)
theorem mstX8_twoOf : Cond.static (my mX8_twoOf) ∈ gwl := gw_at 1242 (by decide +kernel) (by decide +kernel)
abbrev mX8_worked : Mt := (cX8_worked, 7, (some (.int)), yX8_worked)
theorem mcX8_worked : Cond.code (my mX8_worked) (mcc mX8_worked) (mml mX8_worked) (mret mX8_worked) ∈ gwl := gw_at 1240 (by decide +kernel) (by decide +kernel)
theorem miX8_worked : Cond.instanceMethod (my mX8_worked) ∈ gwl := gw_at 1239 (by decide +kernel) (by decide +kernel)
theorem msX8_worked : Cond.selects (my mX8_worked).cls (my mX8_worked) (my mX8_worked) ∈ gwl := gw_at 55 (by decide +kernel) (by decide +kernel)
abbrev mX8_gives : Mt := (cX8_gives, 4, (some (.int)), yX8_gives)
theorem mcX8_gives : Cond.code (my mX8_gives) (mcc mX8_gives) (mml mX8_gives) (mret mX8_gives) ∈ gwl := gw_at 1236 (by decide +kernel) (by decide +kernel)
theorem miX8_gives : Cond.instanceMethod (my mX8_gives) ∈ gwl := gw_at 1235 (by decide +kernel) (by decide +kernel)
theorem msX8_gives : Cond.selects (my mX8_gives).cls (my mX8_gives) (my mX8_gives) ∈ gwl := gw_at 54 (by decide +kernel) (by decide +kernel)
abbrev mX8_law : Mt := (cX8_law, 2, (some (.int)), yX8_law)
theorem mcX8_law : Cond.code (my mX8_law) (mcc mX8_law) (mml mX8_law) (mret mX8_law) ∈ gwl := gw_at 1169 (by decide +kernel) (by decide +kernel)
theorem miX8_law : Cond.instanceMethod (my mX8_law) ∈ gwl := gw_at 1167 (by decide +kernel) (by decide +kernel)
theorem msX8_law : Cond.selects (my mX8_law).cls (my mX8_law) (my mX8_law) ∈ gwl := gw_at 1168 (by decide +kernel) (by decide +kernel)
abbrev mX8_beginMouths : Mt := (cX8_beginMouths, 2, none, yX8_beginMouths)
theorem mcX8_beginMouths : Cond.code (my mX8_beginMouths) (mcc mX8_beginMouths) (mml mX8_beginMouths) (mret mX8_beginMouths) ∈ gwl := gw_at 1150 (by decide +kernel) (by decide +kernel)
theorem miX8_beginMouths : Cond.instanceMethod (my mX8_beginMouths) ∈ gwl := gw_at 1149 (by decide +kernel) (by decide +kernel)
theorem msX8_beginMouths : Cond.selects (my mX8_beginMouths).cls (my mX8_beginMouths) (my mX8_beginMouths) ∈ gwl := gw_at 37 (by decide +kernel) (by decide +kernel)
abbrev mX8_flakesOf : Mt := (cX8_flakesOf, 4, (some (.int)), yX8_flakesOf)
theorem mcX8_flakesOf : Cond.code (my mX8_flakesOf) (mcc mX8_flakesOf) (mml mX8_flakesOf) (mret mX8_flakesOf) ∈ gwl := gw_at 1158 (by decide +kernel) (by decide +kernel)
theorem miX8_flakesOf : Cond.instanceMethod (my mX8_flakesOf) ∈ gwl := gw_at 1157 (by decide +kernel) (by decide +kernel)
theorem msX8_flakesOf : Cond.selects (my mX8_flakesOf).cls (my mX8_flakesOf) (my mX8_flakesOf) ∈ gwl := gw_at 39 (by decide +kernel) (by decide +kernel)
abbrev mX8_worthOf : Mt := (cX8_worthOf, 2, (some (.int)), yX8_worthOf)
theorem mcX8_worthOf : Cond.code (my mX8_worthOf) (mcc mX8_worthOf) (mml mX8_worthOf) (mret mX8_worthOf) ∈ gwl := gw_at 1154 (by decide +kernel) (by decide +kernel)
theorem miX8_worthOf : Cond.instanceMethod (my mX8_worthOf) ∈ gwl := gw_at 1153 (by decide +kernel) (by decide +kernel)
theorem msX8_worthOf : Cond.selects (my mX8_worthOf).cls (my mX8_worthOf) (my mX8_worthOf) ∈ gwl := gw_at 38 (by decide +kernel) (by decide +kernel)
abbrev mX8_isGone : Mt := (cX8_isGone, 2, (some (.boolean)), yX8_isGone)
theorem mcX8_isGone : Cond.code (my mX8_isGone) (mcc mX8_isGone) (mml mX8_isGone) (mret mX8_isGone) ∈ gwl := gw_at 1279 (by decide +kernel) (by decide +kernel)
theorem miX8_isGone : Cond.instanceMethod (my mX8_isGone) ∈ gwl := gw_at 1278 (by decide +kernel) (by decide +kernel)
theorem msX8_isGone : Cond.selects (my mX8_isGone).cls (my mX8_isGone) (my mX8_isGone) ∈ gwl := gw_at 63 (by decide +kernel) (by decide +kernel)
abbrev mX8_takesBy : Mt := (cX8_takesBy, 6, (some (.int)), yX8_takesBy)
theorem mcX8_takesBy : Cond.code (my mX8_takesBy) (mcc mX8_takesBy) (mml mX8_takesBy) (mret mX8_takesBy) ∈ gwl := gw_at 1232 (by decide +kernel) (by decide +kernel)
theorem miX8_takesBy : Cond.instanceMethod (my mX8_takesBy) ∈ gwl := gw_at 1231 (by decide +kernel) (by decide +kernel)
theorem msX8_takesBy : Cond.selects (my mX8_takesBy).cls (my mX8_takesBy) (my mX8_takesBy) ∈ gwl := gw_at 53 (by decide +kernel) (by decide +kernel)
abbrev mX8_takes : Mt := (cX8_takes, 3, (some (.int)), yX8_takes)
theorem mcX8_takes : Cond.code (my mX8_takes) (mcc mX8_takes) (mml mX8_takes) (mret mX8_takes) ∈ gwl := gw_at 1228 (by decide +kernel) (by decide +kernel)
theorem miX8_takes : Cond.instanceMethod (my mX8_takes) ∈ gwl := gw_at 1226 (by decide +kernel) (by decide +kernel)
theorem msX8_takes : Cond.selects (my mX8_takes).cls (my mX8_takes) (my mX8_takes) ∈ gwl := gw_at 1227 (by decide +kernel) (by decide +kernel)
abbrev mX8_lieOf : Mt := (cX8_lieOf, 9, (some (.int)), yX8_lieOf)
theorem mcX8_lieOf : Cond.code (my mX8_lieOf) (mcc mX8_lieOf) (mml mX8_lieOf) (mret mX8_lieOf) ∈ gwl := gw_at 1275 (by decide +kernel) (by decide +kernel)
theorem miX8_lieOf : Cond.instanceMethod (my mX8_lieOf) ∈ gwl := gw_at 1274 (by decide +kernel) (by decide +kernel)
theorem msX8_lieOf : Cond.selects (my mX8_lieOf).cls (my mX8_lieOf) (my mX8_lieOf) ∈ gwl := gw_at 62 (by decide +kernel) (by decide +kernel)
abbrev mX8_sayOf : Mt := (cX8_sayOf, 5, (some (.int)), yX8_sayOf)
theorem mcX8_sayOf : Cond.code (my mX8_sayOf) (mcc mX8_sayOf) (mml mX8_sayOf) (mret mX8_sayOf) ∈ gwl := gw_at 1271 (by decide +kernel) (by decide +kernel)
theorem miX8_sayOf : Cond.instanceMethod (my mX8_sayOf) ∈ gwl := gw_at 1270 (by decide +kernel) (by decide +kernel)
theorem msX8_sayOf : Cond.selects (my mX8_sayOf).cls (my mX8_sayOf) (my mX8_sayOf) ∈ gwl := gw_at 61 (by decide +kernel) (by decide +kernel)
abbrev mX8_rowFault : Mt := (cX8_rowFault, 2, (some (.int)), yX8_rowFault)
theorem mcX8_rowFault : Cond.code (my mX8_rowFault) (mcc mX8_rowFault) (mml mX8_rowFault) (mret mX8_rowFault) ∈ gwl := gw_at 1255 (by decide +kernel) (by decide +kernel)
theorem miX8_rowFault : Cond.instanceMethod (my mX8_rowFault) ∈ gwl := gw_at 1254 (by decide +kernel) (by decide +kernel)
theorem msX8_rowFault : Cond.selects (my mX8_rowFault).cls (my mX8_rowFault) (my mX8_rowFault) ∈ gwl := gw_at 57 (by decide +kernel) (by decide +kernel)
abbrev mX8_seenAt : Mt := (cX8_seenAt, 3, (some (.int)), yX8_seenAt)
theorem mcX8_seenAt : Cond.code (my mX8_seenAt) (mcc mX8_seenAt) (mml mX8_seenAt) (mret mX8_seenAt) ∈ gwl := gw_at 1263 (by decide +kernel) (by decide +kernel)
theorem miX8_seenAt : Cond.instanceMethod (my mX8_seenAt) ∈ gwl := gw_at 1262 (by decide +kernel) (by decide +kernel)
theorem msX8_seenAt : Cond.selects (my mX8_seenAt).cls (my mX8_seenAt) (my mX8_seenAt) ∈ gwl := gw_at 59 (by decide +kernel) (by decide +kernel)
abbrev mX8_layTrial : Mt := (cX8_layTrial, 3, none, yX8_layTrial)
theorem mcX8_layTrial : Cond.code (my mX8_layTrial) (mcc mX8_layTrial) (mml mX8_layTrial) (mret mX8_layTrial) ∈ gwl := gw_at 1259 (by decide +kernel) (by decide +kernel)
theorem miX8_layTrial : Cond.instanceMethod (my mX8_layTrial) ∈ gwl := gw_at 1258 (by decide +kernel) (by decide +kernel)
theorem msX8_layTrial : Cond.selects (my mX8_layTrial).cls (my mX8_layTrial) (my mX8_layTrial) ∈ gwl := gw_at 58 (by decide +kernel) (by decide +kernel)
abbrev mX8_goTrial : Mt := (cX8_goTrial, 5, none, yX8_goTrial)
theorem mcX8_goTrial : Cond.code (my mX8_goTrial) (mcc mX8_goTrial) (mml mX8_goTrial) (mret mX8_goTrial) ∈ gwl := gw_at 1267 (by decide +kernel) (by decide +kernel)
theorem miX8_goTrial : Cond.instanceMethod (my mX8_goTrial) ∈ gwl := gw_at 1266 (by decide +kernel) (by decide +kernel)
theorem msX8_goTrial : Cond.selects (my mX8_goTrial).cls (my mX8_goTrial) (my mX8_goTrial) ∈ gwl := gw_at 60 (by decide +kernel) (by decide +kernel)
abbrev mX8_believedNow : Mt := (cX8_believedNow, 5, (some (.int)), yX8_believedNow)
theorem mcX8_believedNow : Cond.code (my mX8_believedNow) (mcc mX8_believedNow) (mml mX8_believedNow) (mret mX8_believedNow) ∈ gwl := gw_at 1295 (by decide +kernel) (by decide +kernel)
theorem miX8_believedNow : Cond.instanceMethod (my mX8_believedNow) ∈ gwl := gw_at 1294 (by decide +kernel) (by decide +kernel)
theorem msX8_believedNow : Cond.selects (my mX8_believedNow).cls (my mX8_believedNow) (my mX8_believedNow) ∈ gwl := gw_at 64 (by decide +kernel) (by decide +kernel)
abbrev mX8_layOr : Mt := (cX8_layOr, 3, (some (.int)), yX8_layOr)
theorem mcX8_layOr : Cond.code (my mX8_layOr) (mcc mX8_layOr) (mml mX8_layOr) (mret mX8_layOr) ∈ gwl := gw_at 1251 (by decide +kernel) (by decide +kernel)
theorem miX8_layOr : Cond.instanceMethod (my mX8_layOr) ∈ gwl := gw_at 1250 (by decide +kernel) (by decide +kernel)
theorem msX8_layOr : Cond.selects (my mX8_layOr).cls (my mX8_layOr) (my mX8_layOr) ∈ gwl := gw_at 56 (by decide +kernel) (by decide +kernel)
abbrev mX8_trial : Mt := (cX8_trial, 5, (some (.int)), yX8_trial)
theorem mcX8_trial : Cond.code (my mX8_trial) (mcc mX8_trial) (mml mX8_trial) (mret mX8_trial) ∈ gwl := gw_at 1247 (by decide +kernel) (by decide +kernel)
theorem miX8_trial : Cond.instanceMethod (my mX8_trial) ∈ gwl := gw_at 1245 (by decide +kernel) (by decide +kernel)
theorem msX8_trial : Cond.selects (my mX8_trial).cls (my mX8_trial) (my mX8_trial) ∈ gwl := gw_at 1246 (by decide +kernel) (by decide +kernel)
abbrev mX8_tooth : Mt := (cX8_tooth, 4, (some (.int)), yX8_tooth)
theorem mcX8_tooth : Cond.code (my mX8_tooth) (mcc mX8_tooth) (mml mX8_tooth) (mret mX8_tooth) ∈ gwl := gw_at 1283 (by decide +kernel) (by decide +kernel)
theorem miX8_tooth : Cond.instanceMethod (my mX8_tooth) ∈ gwl := gw_at 1281 (by decide +kernel) (by decide +kernel)
theorem msX8_tooth : Cond.selects (my mX8_tooth).cls (my mX8_tooth) (my mX8_tooth) ∈ gwl := gw_at 1282 (by decide +kernel) (by decide +kernel)
abbrev mX8_gone : Mt := (cX8_gone, 3, (some (.int)), yX8_gone)
theorem mcX8_gone : Cond.code (my mX8_gone) (mcc mX8_gone) (mml mX8_gone) (mret mX8_gone) ∈ gwl := gw_at 1287 (by decide +kernel) (by decide +kernel)
theorem miX8_gone : Cond.instanceMethod (my mX8_gone) ∈ gwl := gw_at 1285 (by decide +kernel) (by decide +kernel)
theorem msX8_gone : Cond.selects (my mX8_gone).cls (my mX8_gone) (my mX8_gone) ∈ gwl := gw_at 1286 (by decide +kernel) (by decide +kernel)
abbrev mX8_believed : Mt := (cX8_believed, 4, (some (.int)), yX8_believed)
theorem mcX8_believed : Cond.code (my mX8_believed) (mcc mX8_believed) (mml mX8_believed) (mret mX8_believed) ∈ gwl := gw_at 1291 (by decide +kernel) (by decide +kernel)
theorem miX8_believed : Cond.instanceMethod (my mX8_believed) ∈ gwl := gw_at 1289 (by decide +kernel) (by decide +kernel)
theorem msX8_believed : Cond.selects (my mX8_believed).cls (my mX8_believed) (my mX8_believed) ∈ gwl := gw_at 1290 (by decide +kernel) (by decide +kernel)
abbrev mX8_honest : Mt := (cX8_honest, 5, (some (.int)), yX8_honest)
theorem mcX8_honest : Cond.code (my mX8_honest) (mcc mX8_honest) (mml mX8_honest) (mret mX8_honest) ∈ gwl := gw_at 1307 (by decide +kernel) (by decide +kernel)
theorem miX8_honest : Cond.instanceMethod (my mX8_honest) ∈ gwl := gw_at 1306 (by decide +kernel) (by decide +kernel)
theorem msX8_honest : Cond.selects (my mX8_honest).cls (my mX8_honest) (my mX8_honest) ∈ gwl := gw_at 66 (by decide +kernel) (by decide +kernel)
abbrev mX8_isSpoken : Mt := (cX8_isSpoken, 3, (some (.boolean)), yX8_isSpoken)
theorem mcX8_isSpoken : Cond.code (my mX8_isSpoken) (mcc mX8_isSpoken) (mml mX8_isSpoken) (mret mX8_isSpoken) ∈ gwl := gw_at 1311 (by decide +kernel) (by decide +kernel)
theorem miX8_isSpoken : Cond.instanceMethod (my mX8_isSpoken) ∈ gwl := gw_at 1310 (by decide +kernel) (by decide +kernel)
theorem msX8_isSpoken : Cond.selects (my mX8_isSpoken).cls (my mX8_isSpoken) (my mX8_isSpoken) ∈ gwl := gw_at 67 (by decide +kernel) (by decide +kernel)
abbrev mX8_toldBy : Mt := (cX8_toldBy, 6, (some (.int)), yX8_toldBy)
theorem mcX8_toldBy : Cond.code (my mX8_toldBy) (mcc mX8_toldBy) (mml mX8_toldBy) (mret mX8_toldBy) ∈ gwl := gw_at 1303 (by decide +kernel) (by decide +kernel)
theorem miX8_toldBy : Cond.instanceMethod (my mX8_toldBy) ∈ gwl := gw_at 1302 (by decide +kernel) (by decide +kernel)
theorem msX8_toldBy : Cond.selects (my mX8_toldBy).cls (my mX8_toldBy) (my mX8_toldBy) ∈ gwl := gw_at 65 (by decide +kernel) (by decide +kernel)
abbrev mX8_told : Mt := (cX8_told, 4, (some (.int)), yX8_told)
theorem mcX8_told : Cond.code (my mX8_told) (mcc mX8_told) (mml mX8_told) (mret mX8_told) ∈ gwl := gw_at 1299 (by decide +kernel) (by decide +kernel)
theorem miX8_told : Cond.instanceMethod (my mX8_told) ∈ gwl := gw_at 1297 (by decide +kernel) (by decide +kernel)
theorem msX8_told : Cond.selects (my mX8_told).cls (my mX8_told) (my mX8_told) ∈ gwl := gw_at 1298 (by decide +kernel) (by decide +kernel)
abbrev mX8_areFact : Mt := (cX8_areFact, 1, (some (.boolean)), yX8_areFact)
theorem mcX8_areFact : Cond.code (my mX8_areFact) (mcc mX8_areFact) (mml mX8_areFact) (mret mX8_areFact) ∈ gwl := gw_at 1318 (by decide +kernel) (by decide +kernel)
theorem mstX8_areFact : Cond.static (my mX8_areFact) ∈ gwl := gw_at 1317 (by decide +kernel) (by decide +kernel)
abbrev mX8_have : Mt := (cX8_have, 13, (some (.int)), yX8_have)
theorem mcX8_have : Cond.code (my mX8_have) (mcc mX8_have) (mml mX8_have) (mret mX8_have) ∈ gwl := gw_at 1315 (by decide +kernel) (by decide +kernel)
theorem miX8_have : Cond.instanceMethod (my mX8_have) ∈ gwl := gw_at 1313 (by decide +kernel) (by decide +kernel)
theorem msX8_have : Cond.selects (my mX8_have).cls (my mX8_have) (my mX8_have) ∈ gwl := gw_at 1314 (by decide +kernel) (by decide +kernel)
abbrev mX8_left : Mt := (cX8_left, 4, (some (.int)), yX8_left)
theorem mcX8_left : Cond.code (my mX8_left) (mcc mX8_left) (mml mX8_left) (mret mX8_left) ∈ gwl := gw_at 1322 (by decide +kernel) (by decide +kernel)
theorem miX8_left : Cond.instanceMethod (my mX8_left) ∈ gwl := gw_at 1320 (by decide +kernel) (by decide +kernel)
theorem msX8_left : Cond.selects (my mX8_left).cls (my mX8_left) (my mX8_left) ∈ gwl := gw_at 1321 (by decide +kernel) (by decide +kernel)
abbrev mX8_enough : Mt := (cX8_enough, 7, (some (.int)), yX8_enough)
theorem mcX8_enough : Cond.code (my mX8_enough) (mcc mX8_enough) (mml mX8_enough) (mret mX8_enough) ∈ gwl := gw_at 1326 (by decide +kernel) (by decide +kernel)
theorem miX8_enough : Cond.instanceMethod (my mX8_enough) ∈ gwl := gw_at 1324 (by decide +kernel) (by decide +kernel)
theorem msX8_enough : Cond.selects (my mX8_enough).cls (my mX8_enough) (my mX8_enough) ∈ gwl := gw_at 1325 (by decide +kernel) (by decide +kernel)
abbrev mX8_isLesser : Mt := (cX8_isLesser, 3, (some (.boolean)), yX8_isLesser)
theorem mcX8_isLesser : Cond.code (my mX8_isLesser) (mcc mX8_isLesser) (mml mX8_isLesser) (mret mX8_isLesser) ∈ gwl := gw_at 1334 (by decide +kernel) (by decide +kernel)
theorem miX8_isLesser : Cond.instanceMethod (my mX8_isLesser) ∈ gwl := gw_at 1333 (by decide +kernel) (by decide +kernel)
theorem msX8_isLesser : Cond.selects (my mX8_isLesser).cls (my mX8_isLesser) (my mX8_isLesser) ∈ gwl := gw_at 68 (by decide +kernel) (by decide +kernel)
abbrev mX8_jury : Mt := (cX8_jury, 5, (some (.int)), yX8_jury)
theorem mcX8_jury : Cond.code (my mX8_jury) (mcc mX8_jury) (mml mX8_jury) (mret mX8_jury) ∈ gwl := gw_at 1330 (by decide +kernel) (by decide +kernel)
theorem miX8_jury : Cond.instanceMethod (my mX8_jury) ∈ gwl := gw_at 1328 (by decide +kernel) (by decide +kernel)
theorem msX8_jury : Cond.selects (my mX8_jury).cls (my mX8_jury) (my mX8_jury) ∈ gwl := gw_at 1329 (by decide +kernel) (by decide +kernel)
abbrev mX8_bribe : Mt := (cX8_bribe, 7, (some (.int)), yX8_bribe)
theorem mcX8_bribe : Cond.code (my mX8_bribe) (mcc mX8_bribe) (mml mX8_bribe) (mret mX8_bribe) ∈ gwl := gw_at 1338 (by decide +kernel) (by decide +kernel)
theorem miX8_bribe : Cond.instanceMethod (my mX8_bribe) ∈ gwl := gw_at 1336 (by decide +kernel) (by decide +kernel)
theorem msX8_bribe : Cond.selects (my mX8_bribe).cls (my mX8_bribe) (my mX8_bribe) ∈ gwl := gw_at 1337 (by decide +kernel) (by decide +kernel)
abbrev mX8_isMirror : Mt := (cX8_isMirror, 2, (some (.boolean)), yX8_isMirror)
theorem mcX8_isMirror : Cond.code (my mX8_isMirror) (mcc mX8_isMirror) (mml mX8_isMirror) (mret mX8_isMirror) ∈ gwl := gw_at 1346 (by decide +kernel) (by decide +kernel)
theorem miX8_isMirror : Cond.instanceMethod (my mX8_isMirror) ∈ gwl := gw_at 1345 (by decide +kernel) (by decide +kernel)
theorem msX8_isMirror : Cond.selects (my mX8_isMirror).cls (my mX8_isMirror) (my mX8_isMirror) ∈ gwl := gw_at 69 (by decide +kernel) (by decide +kernel)
abbrev mX8_isSeen : Mt := (cX8_isSeen, 4, (some (.boolean)), yX8_isSeen)
theorem mcX8_isSeen : Cond.code (my mX8_isSeen) (mcc mX8_isSeen) (mml mX8_isSeen) (mret mX8_isSeen) ∈ gwl := gw_at 1350 (by decide +kernel) (by decide +kernel)
theorem miX8_isSeen : Cond.instanceMethod (my mX8_isSeen) ∈ gwl := gw_at 1349 (by decide +kernel) (by decide +kernel)
theorem msX8_isSeen : Cond.selects (my mX8_isSeen).cls (my mX8_isSeen) (my mX8_isSeen) ∈ gwl := gw_at 70 (by decide +kernel) (by decide +kernel)
abbrev mX8_liesFor : Mt := (cX8_liesFor, 5, (some (.int)), yX8_liesFor)
theorem mcX8_liesFor : Cond.code (my mX8_liesFor) (mcc mX8_liesFor) (mml mX8_liesFor) (mret mX8_liesFor) ∈ gwl := gw_at 1342 (by decide +kernel) (by decide +kernel)
theorem miX8_liesFor : Cond.instanceMethod (my mX8_liesFor) ∈ gwl := gw_at 1340 (by decide +kernel) (by decide +kernel)
theorem msX8_liesFor : Cond.selects (my mX8_liesFor).cls (my mX8_liesFor) (my mX8_liesFor) ∈ gwl := gw_at 1341 (by decide +kernel) (by decide +kernel)
abbrev mX8_two : Mt := (cX8_two, 7, (some (.int)), yX8_two)
theorem mcX8_two : Cond.code (my mX8_two) (mcc mX8_two) (mml mX8_two) (mret mX8_two) ∈ gwl := gw_at 1354 (by decide +kernel) (by decide +kernel)
theorem miX8_two : Cond.instanceMethod (my mX8_two) ∈ gwl := gw_at 1352 (by decide +kernel) (by decide +kernel)
theorem msX8_two : Cond.selects (my mX8_two).cls (my mX8_two) (my mX8_two) ∈ gwl := gw_at 1353 (by decide +kernel) (by decide +kernel)
abbrev mX8_others : Mt := (cX8_others, 4, (some (.int)), yX8_others)
theorem mcX8_others : Cond.code (my mX8_others) (mcc mX8_others) (mml mX8_others) (mret mX8_others) ∈ gwl := gw_at 1358 (by decide +kernel) (by decide +kernel)
theorem miX8_others : Cond.instanceMethod (my mX8_others) ∈ gwl := gw_at 1356 (by decide +kernel) (by decide +kernel)
theorem msX8_others : Cond.selects (my mX8_others).cls (my mX8_others) (my mX8_others) ∈ gwl := gw_at 1357 (by decide +kernel) (by decide +kernel)
abbrev mX8_isSo : Mt := (cX8_isSo, 10, (some (.int)), yX8_isSo)
theorem mcX8_isSo : Cond.code (my mX8_isSo) (mcc mX8_isSo) (mml mX8_isSo) (mret mX8_isSo) ∈ gwl := gw_at 1362 (by decide +kernel) (by decide +kernel)
theorem miX8_isSo : Cond.instanceMethod (my mX8_isSo) ∈ gwl := gw_at 1360 (by decide +kernel) (by decide +kernel)
theorem msX8_isSo : Cond.selects (my mX8_isSo).cls (my mX8_isSo) (my mX8_isSo) ∈ gwl := gw_at 1361 (by decide +kernel) (by decide +kernel)
abbrev mX8_drawn : Mt := (cX8_drawn, 11, (some (.int)), yX8_drawn)
theorem mcX8_drawn : Cond.code (my mX8_drawn) (mcc mX8_drawn) (mml mX8_drawn) (mret mX8_drawn) ∈ gwl := gw_at 1366 (by decide +kernel) (by decide +kernel)
theorem miX8_drawn : Cond.instanceMethod (my mX8_drawn) ∈ gwl := gw_at 1364 (by decide +kernel) (by decide +kernel)
theorem msX8_drawn : Cond.selects (my mX8_drawn).cls (my mX8_drawn) (my mX8_drawn) ∈ gwl := gw_at 1365 (by decide +kernel) (by decide +kernel)
abbrev mX8_say : Mt := (cX8_say, 7, (some (.int)), yX8_say)
theorem mcX8_say : Cond.code (my mX8_say) (mcc mX8_say) (mml mX8_say) (mret mX8_say) ∈ gwl := gw_at 1371 (by decide +kernel) (by decide +kernel)
theorem miX8_say : Cond.instanceMethod (my mX8_say) ∈ gwl := gw_at 1369 (by decide +kernel) (by decide +kernel)
theorem msX8_say : Cond.selects (my mX8_say).cls (my mX8_say) (my mX8_say) ∈ gwl := gw_at 1370 (by decide +kernel) (by decide +kernel)
abbrev mX8_lend : Mt := (cX8_lend, 7, (some (.int)), yX8_lend)
theorem mcX8_lend : Cond.code (my mX8_lend) (mcc mX8_lend) (mml mX8_lend) (mret mX8_lend) ∈ gwl := gw_at 1375 (by decide +kernel) (by decide +kernel)
theorem miX8_lend : Cond.instanceMethod (my mX8_lend) ∈ gwl := gw_at 1373 (by decide +kernel) (by decide +kernel)
theorem msX8_lend : Cond.selects (my mX8_lend).cls (my mX8_lend) (my mX8_lend) ∈ gwl := gw_at 1374 (by decide +kernel) (by decide +kernel)
abbrev mX8_cap : Mt := (cX8_cap, 3, (some (.int)), yX8_cap)
theorem mcX8_cap : Cond.code (my mX8_cap) (mcc mX8_cap) (mml mX8_cap) (mret mX8_cap) ∈ gwl := gw_at 1379 (by decide +kernel) (by decide +kernel)
theorem miX8_cap : Cond.instanceMethod (my mX8_cap) ∈ gwl := gw_at 1377 (by decide +kernel) (by decide +kernel)
theorem msX8_cap : Cond.selects (my mX8_cap).cls (my mX8_cap) (my mX8_cap) ∈ gwl := gw_at 1378 (by decide +kernel) (by decide +kernel)
abbrev mX8_year : Mt := (cX8_year, 3, (some (.int)), yX8_year)
theorem mcX8_year : Cond.code (my mX8_year) (mcc mX8_year) (mml mX8_year) (mret mX8_year) ∈ gwl := gw_at 1383 (by decide +kernel) (by decide +kernel)
theorem miX8_year : Cond.instanceMethod (my mX8_year) ∈ gwl := gw_at 1381 (by decide +kernel) (by decide +kernel)
theorem msX8_year : Cond.selects (my mX8_year).cls (my mX8_year) (my mX8_year) ∈ gwl := gw_at 1382 (by decide +kernel) (by decide +kernel)
abbrev mX8_led : Mt := (cX8_led, 2, (some (.int)), yX8_led)
theorem mcX8_led : Cond.code (my mX8_led) (mcc mX8_led) (mml mX8_led) (mret mX8_led) ∈ gwl := gw_at 1387 (by decide +kernel) (by decide +kernel)
theorem miX8_led : Cond.instanceMethod (my mX8_led) ∈ gwl := gw_at 1385 (by decide +kernel) (by decide +kernel)
theorem msX8_led : Cond.selects (my mX8_led).cls (my mX8_led) (my mX8_led) ∈ gwl := gw_at 1386 (by decide +kernel) (by decide +kernel)
abbrev mX8_image : Mt := (cX8_image, 2, (some (.int)), yX8_image)
theorem mcX8_image : Cond.code (my mX8_image) (mcc mX8_image) (mml mX8_image) (mret mX8_image) ∈ gwl := gw_at 1391 (by decide +kernel) (by decide +kernel)
theorem miX8_image : Cond.instanceMethod (my mX8_image) ∈ gwl := gw_at 1389 (by decide +kernel) (by decide +kernel)
theorem msX8_image : Cond.selects (my mX8_image).cls (my mX8_image) (my mX8_image) ∈ gwl := gw_at 1390 (by decide +kernel) (by decide +kernel)
abbrev mX8_back : Mt := (cX8_back, 2, (some (.int)), yX8_back)
theorem mcX8_back : Cond.code (my mX8_back) (mcc mX8_back) (mml mX8_back) (mret mX8_back) ∈ gwl := gw_at 1395 (by decide +kernel) (by decide +kernel)
theorem miX8_back : Cond.instanceMethod (my mX8_back) ∈ gwl := gw_at 1393 (by decide +kernel) (by decide +kernel)
theorem msX8_back : Cond.selects (my mX8_back).cls (my mX8_back) (my mX8_back) ∈ gwl := gw_at 1394 (by decide +kernel) (by decide +kernel)
abbrev mX8_isBody : Mt := (cX8_isBody, 2, (some (.boolean)), yX8_isBody)
theorem mcX8_isBody : Cond.code (my mX8_isBody) (mcc mX8_isBody) (mml mX8_isBody) (mret mX8_isBody) ∈ gwl := gw_at 1411 (by decide +kernel) (by decide +kernel)
theorem miX8_isBody : Cond.instanceMethod (my mX8_isBody) ∈ gwl := gw_at 1410 (by decide +kernel) (by decide +kernel)
theorem msX8_isBody : Cond.selects (my mX8_isBody).cls (my mX8_isBody) (my mX8_isBody) ∈ gwl := gw_at 71 (by decide +kernel) (by decide +kernel)
abbrev mX8_ran : Mt := (cX8_ran, 2, none, yX8_ran)
theorem mcX8_ran : Cond.code (my mX8_ran) (mcc mX8_ran) (mml mX8_ran) (mret mX8_ran) ∈ gwl := gw_at 1422 (by decide +kernel) (by decide +kernel)
theorem miX8_ran : Cond.instanceMethod (my mX8_ran) ∈ gwl := gw_at 1421 (by decide +kernel) (by decide +kernel)
theorem msX8_ran : Cond.selects (my mX8_ran).cls (my mX8_ran) (my mX8_ran) ∈ gwl := gw_at 73 (by decide +kernel) (by decide +kernel)
abbrev mX8_trace : Mt := (cX8_trace, 2, (some (.int)), yX8_trace)
theorem mcX8_trace : Cond.code (my mX8_trace) (mcc mX8_trace) (mml mX8_trace) (mret mX8_trace) ∈ gwl := gw_at 1399 (by decide +kernel) (by decide +kernel)
theorem miX8_trace : Cond.instanceMethod (my mX8_trace) ∈ gwl := gw_at 1397 (by decide +kernel) (by decide +kernel)
theorem msX8_trace : Cond.selects (my mX8_trace).cls (my mX8_trace) (my mX8_trace) ∈ gwl := gw_at 1398 (by decide +kernel) (by decide +kernel)
abbrev mX8_body : Mt := (cX8_body, 2, (some (.int)), yX8_body)
theorem mcX8_body : Cond.code (my mX8_body) (mcc mX8_body) (mml mX8_body) (mret mX8_body) ∈ gwl := gw_at 1403 (by decide +kernel) (by decide +kernel)
theorem miX8_body : Cond.instanceMethod (my mX8_body) ∈ gwl := gw_at 1401 (by decide +kernel) (by decide +kernel)
theorem msX8_body : Cond.selects (my mX8_body).cls (my mX8_body) (my mX8_body) ∈ gwl := gw_at 1402 (by decide +kernel) (by decide +kernel)
abbrev mX8_isUnder : Mt := (cX8_isUnder, 2, (some (.boolean)), yX8_isUnder)
theorem mcX8_isUnder : Cond.code (my mX8_isUnder) (mcc mX8_isUnder) (mml mX8_isUnder) (mret mX8_isUnder) ∈ gwl := gw_at 1418 (by decide +kernel) (by decide +kernel)
theorem mstX8_isUnder : Cond.static (my mX8_isUnder) ∈ gwl := gw_at 1417 (by decide +kernel) (by decide +kernel)
abbrev mX8_plainBites : Mt := (cX8_plainBites, 3, (some (.int)), yX8_plainBites)
theorem mcX8_plainBites : Cond.code (my mX8_plainBites) (mcc mX8_plainBites) (mml mX8_plainBites) (mret mX8_plainBites) ∈ gwl := gw_at 1426 (by decide +kernel) (by decide +kernel)
theorem miX8_plainBites : Cond.instanceMethod (my mX8_plainBites) ∈ gwl := gw_at 1425 (by decide +kernel) (by decide +kernel)
theorem msX8_plainBites : Cond.selects (my mX8_plainBites).cls (my mX8_plainBites) (my mX8_plainBites) ∈ gwl := gw_at 74 (by decide +kernel) (by decide +kernel)
abbrev mX8_mirrorBites : Mt := (cX8_mirrorBites, 3, (some (.int)), yX8_mirrorBites)
theorem mcX8_mirrorBites : Cond.code (my mX8_mirrorBites) (mcc mX8_mirrorBites) (mml mX8_mirrorBites) (mret mX8_mirrorBites) ∈ gwl := gw_at 1430 (by decide +kernel) (by decide +kernel)
theorem miX8_mirrorBites : Cond.instanceMethod (my mX8_mirrorBites) ∈ gwl := gw_at 1429 (by decide +kernel) (by decide +kernel)
theorem msX8_mirrorBites : Cond.selects (my mX8_mirrorBites).cls (my mX8_mirrorBites) (my mX8_mirrorBites) ∈ gwl := gw_at 75 (by decide +kernel) (by decide +kernel)
abbrev mX8_biting : Mt := (cX8_biting, 3, (some (.int)), yX8_biting)
theorem mcX8_biting : Cond.code (my mX8_biting) (mcc mX8_biting) (mml mX8_biting) (mret mX8_biting) ∈ gwl := gw_at 1415 (by decide +kernel) (by decide +kernel)
theorem miX8_biting : Cond.instanceMethod (my mX8_biting) ∈ gwl := gw_at 1414 (by decide +kernel) (by decide +kernel)
theorem msX8_biting : Cond.selects (my mX8_biting).cls (my mX8_biting) (my mX8_biting) ∈ gwl := gw_at 72 (by decide +kernel) (by decide +kernel)
abbrev mX8_plainLies : Mt := (cX8_plainLies, 3, (some (.int)), yX8_plainLies)
theorem mcX8_plainLies : Cond.code (my mX8_plainLies) (mcc mX8_plainLies) (mml mX8_plainLies) (mret mX8_plainLies) ∈ gwl := gw_at 1442 (by decide +kernel) (by decide +kernel)
theorem miX8_plainLies : Cond.instanceMethod (my mX8_plainLies) ∈ gwl := gw_at 1441 (by decide +kernel) (by decide +kernel)
theorem msX8_plainLies : Cond.selects (my mX8_plainLies).cls (my mX8_plainLies) (my mX8_plainLies) ∈ gwl := gw_at 78 (by decide +kernel) (by decide +kernel)
abbrev mX8_stumpLies : Mt := (cX8_stumpLies, 3, (some (.int)), yX8_stumpLies)
theorem mcX8_stumpLies : Cond.code (my mX8_stumpLies) (mcc mX8_stumpLies) (mml mX8_stumpLies) (mret mX8_stumpLies) ∈ gwl := gw_at 1438 (by decide +kernel) (by decide +kernel)
theorem miX8_stumpLies : Cond.instanceMethod (my mX8_stumpLies) ∈ gwl := gw_at 1437 (by decide +kernel) (by decide +kernel)
theorem msX8_stumpLies : Cond.selects (my mX8_stumpLies).cls (my mX8_stumpLies) (my mX8_stumpLies) ∈ gwl := gw_at 77 (by decide +kernel) (by decide +kernel)
abbrev mX8_lying : Mt := (cX8_lying, 4, (some (.int)), yX8_lying)
theorem mcX8_lying : Cond.code (my mX8_lying) (mcc mX8_lying) (mml mX8_lying) (mret mX8_lying) ∈ gwl := gw_at 1434 (by decide +kernel) (by decide +kernel)
theorem miX8_lying : Cond.instanceMethod (my mX8_lying) ∈ gwl := gw_at 1433 (by decide +kernel) (by decide +kernel)
theorem msX8_lying : Cond.selects (my mX8_lying).cls (my mX8_lying) (my mX8_lying) ∈ gwl := gw_at 76 (by decide +kernel) (by decide +kernel)
abbrev mX8_plainGrins : Mt := (cX8_plainGrins, 3, (some (.int)), yX8_plainGrins)
theorem mcX8_plainGrins : Cond.code (my mX8_plainGrins) (mcc mX8_plainGrins) (mml mX8_plainGrins) (mret mX8_plainGrins) ∈ gwl := gw_at 1454 (by decide +kernel) (by decide +kernel)
theorem miX8_plainGrins : Cond.instanceMethod (my mX8_plainGrins) ∈ gwl := gw_at 1453 (by decide +kernel) (by decide +kernel)
theorem msX8_plainGrins : Cond.selects (my mX8_plainGrins).cls (my mX8_plainGrins) (my mX8_plainGrins) ∈ gwl := gw_at 81 (by decide +kernel) (by decide +kernel)
abbrev mX8_capGrins : Mt := (cX8_capGrins, 3, (some (.int)), yX8_capGrins)
theorem mcX8_capGrins : Cond.code (my mX8_capGrins) (mcc mX8_capGrins) (mml mX8_capGrins) (mret mX8_capGrins) ∈ gwl := gw_at 1450 (by decide +kernel) (by decide +kernel)
theorem miX8_capGrins : Cond.instanceMethod (my mX8_capGrins) ∈ gwl := gw_at 1449 (by decide +kernel) (by decide +kernel)
theorem msX8_capGrins : Cond.selects (my mX8_capGrins).cls (my mX8_capGrins) (my mX8_capGrins) ∈ gwl := gw_at 80 (by decide +kernel) (by decide +kernel)
abbrev mX8_grinning : Mt := (cX8_grinning, 4, (some (.int)), yX8_grinning)
theorem mcX8_grinning : Cond.code (my mX8_grinning) (mcc mX8_grinning) (mml mX8_grinning) (mret mX8_grinning) ∈ gwl := gw_at 1446 (by decide +kernel) (by decide +kernel)
theorem miX8_grinning : Cond.instanceMethod (my mX8_grinning) ∈ gwl := gw_at 1445 (by decide +kernel) (by decide +kernel)
theorem msX8_grinning : Cond.selects (my mX8_grinning).cls (my mX8_grinning) (my mX8_grinning) ∈ gwl := gw_at 79 (by decide +kernel) (by decide +kernel)
abbrev mX8_plainTells : Mt := (cX8_plainTells, 4, (some (.int)), yX8_plainTells)
theorem mcX8_plainTells : Cond.code (my mX8_plainTells) (mcc mX8_plainTells) (mml mX8_plainTells) (mret mX8_plainTells) ∈ gwl := gw_at 1462 (by decide +kernel) (by decide +kernel)
theorem miX8_plainTells : Cond.instanceMethod (my mX8_plainTells) ∈ gwl := gw_at 1461 (by decide +kernel) (by decide +kernel)
theorem msX8_plainTells : Cond.selects (my mX8_plainTells).cls (my mX8_plainTells) (my mX8_plainTells) ∈ gwl := gw_at 83 (by decide +kernel) (by decide +kernel)
abbrev mX8_telling : Mt := (cX8_telling, 3, (some (.int)), yX8_telling)
theorem mcX8_telling : Cond.code (my mX8_telling) (mcc mX8_telling) (mml mX8_telling) (mret mX8_telling) ∈ gwl := gw_at 1458 (by decide +kernel) (by decide +kernel)
theorem miX8_telling : Cond.instanceMethod (my mX8_telling) ∈ gwl := gw_at 1457 (by decide +kernel) (by decide +kernel)
theorem msX8_telling : Cond.selects (my mX8_telling).cls (my mX8_telling) (my mX8_telling) ∈ gwl := gw_at 82 (by decide +kernel) (by decide +kernel)
abbrev mX8_act : Mt := (cX8_act, 4, (some (.int)), yX8_act)
theorem mcX8_act : Cond.code (my mX8_act) (mcc mX8_act) (mml mX8_act) (mret mX8_act) ∈ gwl := gw_at 1407 (by decide +kernel) (by decide +kernel)
theorem miX8_act : Cond.instanceMethod (my mX8_act) ∈ gwl := gw_at 1405 (by decide +kernel) (by decide +kernel)
theorem msX8_act : Cond.selects (my mX8_act).cls (my mX8_act) (my mX8_act) ∈ gwl := gw_at 1406 (by decide +kernel) (by decide +kernel)
abbrev mX8_count : Mt := (cX8_count, 4, (some (.int)), yX8_count)
theorem mcX8_count : Cond.code (my mX8_count) (mcc mX8_count) (mml mX8_count) (mret mX8_count) ∈ gwl := gw_at 1466 (by decide +kernel) (by decide +kernel)
theorem miX8_count : Cond.instanceMethod (my mX8_count) ∈ gwl := gw_at 1464 (by decide +kernel) (by decide +kernel)
theorem msX8_count : Cond.selects (my mX8_count).cls (my mX8_count) (my mX8_count) ∈ gwl := gw_at 1465 (by decide +kernel) (by decide +kernel)
abbrev mX8_isShelf : Mt := (cX8_isShelf, 1, (some (.boolean)), yX8_isShelf)
theorem mcX8_isShelf : Cond.code (my mX8_isShelf) (mcc mX8_isShelf) (mml mX8_isShelf) (mret mX8_isShelf) ∈ gwl := gw_at 1099 (by decide +kernel) (by decide +kernel)
theorem mstX8_isShelf : Cond.static (my mX8_isShelf) ∈ gwl := gw_at 1098 (by decide +kernel) (by decide +kernel)
abbrev mX8_keep : Mt := (cX8_keep, 3, (some (.int)), yX8_keep)
theorem mcX8_keep : Cond.code (my mX8_keep) (mcc mX8_keep) (mml mX8_keep) (mret mX8_keep) ∈ gwl := gw_at 1470 (by decide +kernel) (by decide +kernel)
theorem miX8_keep : Cond.instanceMethod (my mX8_keep) ∈ gwl := gw_at 1468 (by decide +kernel) (by decide +kernel)
theorem msX8_keep : Cond.selects (my mX8_keep).cls (my mX8_keep) (my mX8_keep) ∈ gwl := gw_at 1469 (by decide +kernel) (by decide +kernel)
abbrev mX8_row : Mt := (cX8_row, 5, (some (.int)), yX8_row)
theorem mcX8_row : Cond.code (my mX8_row) (mcc mX8_row) (mml mX8_row) (mret mX8_row) ∈ gwl := gw_at 1474 (by decide +kernel) (by decide +kernel)
theorem miX8_row : Cond.instanceMethod (my mX8_row) ∈ gwl := gw_at 1472 (by decide +kernel) (by decide +kernel)
theorem msX8_row : Cond.selects (my mX8_row).cls (my mX8_row) (my mX8_row) ∈ gwl := gw_at 1473 (by decide +kernel) (by decide +kernel)
abbrev mX8_whyNoPlace : Mt := (cX8_whyNoPlace, 3, (some (.int)), yX8_whyNoPlace)
theorem mcX8_whyNoPlace : Cond.code (my mX8_whyNoPlace) (mcc mX8_whyNoPlace) (mml mX8_whyNoPlace) (mret mX8_whyNoPlace) ∈ gwl := gw_at 1482 (by decide +kernel) (by decide +kernel)
theorem miX8_whyNoPlace : Cond.instanceMethod (my mX8_whyNoPlace) ∈ gwl := gw_at 1481 (by decide +kernel) (by decide +kernel)
theorem msX8_whyNoPlace : Cond.selects (my mX8_whyNoPlace).cls (my mX8_whyNoPlace) (my mX8_whyNoPlace) ∈ gwl := gw_at 84 (by decide +kernel) (by decide +kernel)
abbrev mX8_put : Mt := (cX8_put, 7, (some (.int)), yX8_put)
theorem mcX8_put : Cond.code (my mX8_put) (mcc mX8_put) (mml mX8_put) (mret mX8_put) ∈ gwl := gw_at 1478 (by decide +kernel) (by decide +kernel)
theorem miX8_put : Cond.instanceMethod (my mX8_put) ∈ gwl := gw_at 1476 (by decide +kernel) (by decide +kernel)
theorem msX8_put : Cond.selects (my mX8_put).cls (my mX8_put) (my mX8_put) ∈ gwl := gw_at 1477 (by decide +kernel) (by decide +kernel)
abbrev mX8_element : Mt := (cX8_element, 3, (some (.long)), yX8_element)
theorem mcX8_element : Cond.code (my mX8_element) (mcc mX8_element) (mml mX8_element) (mret mX8_element) ∈ gwl := gw_at 1486 (by decide +kernel) (by decide +kernel)
theorem miX8_element : Cond.instanceMethod (my mX8_element) ∈ gwl := gw_at 1484 (by decide +kernel) (by decide +kernel)
theorem msX8_element : Cond.selects (my mX8_element).cls (my mX8_element) (my mX8_element) ∈ gwl := gw_at 1485 (by decide +kernel) (by decide +kernel)
abbrev mX8_shift : Mt := (cX8_shift, 7, (some (.int)), yX8_shift)
theorem mcX8_shift : Cond.code (my mX8_shift) (mcc mX8_shift) (mml mX8_shift) (mret mX8_shift) ∈ gwl := gw_at 1491 (by decide +kernel) (by decide +kernel)
theorem miX8_shift : Cond.instanceMethod (my mX8_shift) ∈ gwl := gw_at 1489 (by decide +kernel) (by decide +kernel)
theorem msX8_shift : Cond.selects (my mX8_shift).cls (my mX8_shift) (my mX8_shift) ∈ gwl := gw_at 1490 (by decide +kernel) (by decide +kernel)
abbrev mX8_taken : Mt := (cX8_taken, 3, (some (.int)), yX8_taken)
theorem mcX8_taken : Cond.code (my mX8_taken) (mcc mX8_taken) (mml mX8_taken) (mret mX8_taken) ∈ gwl := gw_at 1495 (by decide +kernel) (by decide +kernel)
theorem miX8_taken : Cond.instanceMethod (my mX8_taken) ∈ gwl := gw_at 1493 (by decide +kernel) (by decide +kernel)
theorem msX8_taken : Cond.selects (my mX8_taken).cls (my mX8_taken) (my mX8_taken) ∈ gwl := gw_at 1494 (by decide +kernel) (by decide +kernel)
abbrev mJ6_bitCount_0f7a4 : Mt := (cJ6_bitCount_0f7a4, 1, (some (.int)), yJ6_bitCount_0f7a4)
theorem mcJ6_bitCount_0f7a4 : Cond.code (my mJ6_bitCount_0f7a4) (mcc mJ6_bitCount_0f7a4) (mml mJ6_bitCount_0f7a4) (mret mJ6_bitCount_0f7a4) ∈ gwl := gw_at 406 (by decide +kernel) (by decide +kernel)
theorem mstJ6_bitCount_0f7a4 : Cond.static (my mJ6_bitCount_0f7a4) ∈ gwl := gw_at 405 (by decide +kernel) (by decide +kernel)
abbrev mJ0_length_8abf5 : Mt := (cJ0_length_8abf5, 1, (some (.int)), yJ0_length_8abf5)
theorem mcJ0_length_8abf5 : Cond.code (my mJ0_length_8abf5) (mcc mJ0_length_8abf5) (mml mJ0_length_8abf5) (mret mJ0_length_8abf5) ∈ gwl := gw_at 506 (by decide +kernel) (by decide +kernel)
theorem miJ0_length_8abf5 : Cond.instanceMethod (my mJ0_length_8abf5) ∈ gwl := gw_at 504 (by decide +kernel) (by decide +kernel)
theorem msJ0_length_8abf5 : Cond.selects (my mJ0_length_8abf5).cls (my mJ0_length_8abf5) (my mJ0_length_8abf5) ∈ gwl := gw_at 505 (by decide +kernel) (by decide +kernel)
abbrev mJ0_indexOf_0f7a4 : Mt := (cJ0_indexOf_0f7a4, 2, (some (.int)), yJ0_indexOf_0f7a4)
theorem mcJ0_indexOf_0f7a4 : Cond.code (my mJ0_indexOf_0f7a4) (mcc mJ0_indexOf_0f7a4) (mml mJ0_indexOf_0f7a4) (mret mJ0_indexOf_0f7a4) ∈ gwl := gw_at 492 (by decide +kernel) (by decide +kernel)
theorem miJ0_indexOf_0f7a4 : Cond.instanceMethod (my mJ0_indexOf_0f7a4) ∈ gwl := gw_at 490 (by decide +kernel) (by decide +kernel)
theorem msJ0_indexOf_0f7a4 : Cond.selects (my mJ0_indexOf_0f7a4).cls (my mJ0_indexOf_0f7a4) (my mJ0_indexOf_0f7a4) ∈ gwl := gw_at 491 (by decide +kernel) (by decide +kernel)
abbrev mJ0_indexOf_7cf53 : Mt := (cJ0_indexOf_7cf53, 3, (some (.int)), yJ0_indexOf_7cf53)
theorem mcJ0_indexOf_7cf53 : Cond.code (my mJ0_indexOf_7cf53) (mcc mJ0_indexOf_7cf53) (mml mJ0_indexOf_7cf53) (mret mJ0_indexOf_7cf53) ∈ gwl := gw_at 496 (by decide +kernel) (by decide +kernel)
theorem miJ0_indexOf_7cf53 : Cond.instanceMethod (my mJ0_indexOf_7cf53) ∈ gwl := gw_at 494 (by decide +kernel) (by decide +kernel)
theorem msJ0_indexOf_7cf53 : Cond.selects (my mJ0_indexOf_7cf53).cls (my mJ0_indexOf_7cf53) (my mJ0_indexOf_7cf53) ∈ gwl := gw_at 495 (by decide +kernel) (by decide +kernel)
abbrev mJ0_coder_7d493 : Mt := (cJ0_coder_7d493, 1, (some (.byte)), yJ0_coder_7d493)
theorem mcJ0_coder_7d493 : Cond.code (my mJ0_coder_7d493) (mcc mJ0_coder_7d493) (mml mJ0_coder_7d493) (mret mJ0_coder_7d493) ∈ gwl := gw_at 510 (by decide +kernel) (by decide +kernel)
theorem miJ0_coder_7d493 : Cond.instanceMethod (my mJ0_coder_7d493) ∈ gwl := gw_at 508 (by decide +kernel) (by decide +kernel)
theorem msJ0_coder_7d493 : Cond.selects (my mJ0_coder_7d493).cls (my mJ0_coder_7d493) (my mJ0_coder_7d493) ∈ gwl := gw_at 509 (by decide +kernel) (by decide +kernel)
abbrev mJ0_isLatin1_aae02 : Mt := (cJ0_isLatin1_aae02, 1, (some (.boolean)), yJ0_isLatin1_aae02)
theorem mcJ0_isLatin1_aae02 : Cond.code (my mJ0_isLatin1_aae02) (mcc mJ0_isLatin1_aae02) (mml mJ0_isLatin1_aae02) (mret mJ0_isLatin1_aae02) ∈ gwl := gw_at 500 (by decide +kernel) (by decide +kernel)
theorem miJ0_isLatin1_aae02 : Cond.instanceMethod (my mJ0_isLatin1_aae02) ∈ gwl := gw_at 498 (by decide +kernel) (by decide +kernel)
theorem msJ0_isLatin1_aae02 : Cond.selects (my mJ0_isLatin1_aae02).cls (my mJ0_isLatin1_aae02) (my mJ0_isLatin1_aae02) ∈ gwl := gw_at 499 (by decide +kernel) (by decide +kernel)
abbrev mJ1_canEncode_9a6ad : Mt := (cJ1_canEncode_9a6ad, 1, (some (.boolean)), yJ1_canEncode_9a6ad)
theorem mcJ1_canEncode_9a6ad : Cond.code (my mJ1_canEncode_9a6ad) (mcc mJ1_canEncode_9a6ad) (mml mJ1_canEncode_9a6ad) (mret mJ1_canEncode_9a6ad) ∈ gwl := gw_at 516 (by decide +kernel) (by decide +kernel)
theorem mstJ1_canEncode_9a6ad : Cond.static (my mJ1_canEncode_9a6ad) ∈ gwl := gw_at 515 (by decide +kernel) (by decide +kernel)
abbrev mJ1_indexOf_4cfef : Mt := (cJ1_indexOf_4cfef, 4, (some (.int)), yJ1_indexOf_4cfef)
theorem mcJ1_indexOf_4cfef : Cond.code (my mJ1_indexOf_4cfef) (mcc mJ1_indexOf_4cfef) (mml mJ1_indexOf_4cfef) (mret mJ1_indexOf_4cfef) ∈ gwl := gw_at 513 (by decide +kernel) (by decide +kernel)
theorem mstJ1_indexOf_4cfef : Cond.static (my mJ1_indexOf_4cfef) ∈ gwl := gw_at 512 (by decide +kernel) (by decide +kernel)
abbrev mJ1_indexOfChar_4cfef : Mt := (cJ1_indexOfChar_4cfef, 6, (some (.int)), yJ1_indexOfChar_4cfef)
theorem mcJ1_indexOfChar_4cfef : Cond.code (my mJ1_indexOfChar_4cfef) (mcc mJ1_indexOfChar_4cfef) (mml mJ1_indexOfChar_4cfef) (mret mJ1_indexOfChar_4cfef) ∈ gwl := gw_at 525 (by decide +kernel) (by decide +kernel)
theorem mstJ1_indexOfChar_4cfef : Cond.static (my mJ1_indexOfChar_4cfef) ∈ gwl := gw_at 524 (by decide +kernel) (by decide +kernel)
theorem ini_RX8 : Cond.initialized RX8 ∈ gwl := gw_at 94 (by decide +kernel) (by decide +kernel)
theorem ini_RX1 : Cond.initialized RX1 ∈ gwl := gw_at 89 (by decide +kernel) (by decide +kernel)
theorem ini_RX0 : Cond.initialized RX0 ∈ gwl := gw_at 90 (by decide +kernel) (by decide +kernel)
theorem ini_RX2 : Cond.initialized RX2 ∈ gwl := gw_at 88 (by decide +kernel) (by decide +kernel)
theorem ini_RJ0 : Cond.initialized RJ0 ∈ gwl := gw_at 97 (by decide +kernel) (by decide +kernel)
theorem ini_RX3 : Cond.initialized RX3 ∈ gwl := gw_at 92 (by decide +kernel) (by decide +kernel)
theorem ini_RJ6 : Cond.initialized RJ6 ∈ gwl := gw_at 95 (by decide +kernel) (by decide +kernel)
theorem ini_RX6 : Cond.initialized RX6 ∈ gwl := gw_at 93 (by decide +kernel) (by decide +kernel)
theorem ini_RJ1 : Cond.initialized RJ1 ∈ gwl := gw_at 98 (by decide +kernel) (by decide +kernel)
theorem ini_RX5 : Cond.initialized RX5 ∈ gwl := gw_at 87 (by decide +kernel) (by decide +kernel)
theorem ini_RX7 : Cond.initialized RX7 ∈ gwl := gw_at 86 (by decide +kernel) (by decide +kernel)
theorem ini_RX4 : Cond.initialized RX4 ∈ gwl := gw_at 91 (by decide +kernel) (by decide +kernel)
theorem ml_X7_9 : Ml RX7 9 mX5_init 0 := ⟨by decide, mcX5_init, ini_RX5, by decide, by decide +kernel, Or.inr ⟨_, nw_at (w := Cond.methodLinkNest RX7 9 (my mX5_init) "SkinOfTeeth") 113 (by decide +kernel) (by decide +kernel)⟩⟩
theorem ml_X7_24 : Ml RX7 24 mX2_init 0 := ⟨by decide, mcX2_init, ini_RX2, by decide, by decide +kernel, Or.inr ⟨_, nw_at (w := Cond.methodLinkNest RX7 24 (my mX2_init) "SkinOfTeeth") 143 (by decide +kernel) (by decide +kernel)⟩⟩
theorem ml_X7_31 : Ml RX7 31 mX1_init 0 := ⟨by decide, mcX1_init, ini_RX1, by decide, by decide +kernel, Or.inr ⟨_, nw_at (w := Cond.methodLinkNest RX7 31 (my mX1_init) "SkinOfTeeth") 185 (by decide +kernel) (by decide +kernel)⟩⟩
theorem ml_X7_38 : Ml RX7 38 mX0_init 0 := ⟨by decide, mcX0_init, ini_RX0, by decide, by decide +kernel, Or.inr ⟨_, nw_at (w := Cond.methodLinkNest RX7 38 (my mX0_init) "SkinOfTeeth") 216 (by decide +kernel) (by decide +kernel)⟩⟩
theorem ml_X7_58 : Ml RX7 58 mX4_init 0 := ⟨by decide, mcX4_init, ini_RX4, by decide, by decide +kernel, Or.inr ⟨_, nw_at (w := Cond.methodLinkNest RX7 58 (my mX4_init) "SkinOfTeeth") 241 (by decide +kernel) (by decide +kernel)⟩⟩
theorem ml_X7_65 : Ml RX7 65 mX3_init 0 := ⟨by decide, mcX3_init, ini_RX3, by decide, by decide +kernel, Or.inr ⟨_, nw_at (w := Cond.methodLinkNest RX7 65 (my mX3_init) "SkinOfTeeth") 286 (by decide +kernel) (by decide +kernel)⟩⟩
theorem ml_X7_70 : Ml RX7 70 mX6_init 0 := ⟨by decide, mcX6_init, ini_RX6, by decide, by decide +kernel, Or.inr ⟨_, nw_at (w := Cond.methodLinkNest RX7 70 (my mX6_init) "SkinOfTeeth") 288 (by decide +kernel) (by decide +kernel)⟩⟩
theorem ml_X7_71 : Ml RX7 71 mX7_outside 2 := ⟨by decide, mcX7_outside, ini_RX7, by decide, by decide +kernel, Or.inl (gw_at 356 (by decide +kernel) (by decide +kernel))⟩
theorem ml_X7_79 : Ml RX7 79 mX5_newcomer 1 := ⟨by decide, mcX5_newcomer, ini_RX5, by decide, by decide +kernel, Or.inl (gw_at 359 (by decide +kernel) (by decide +kernel))⟩
theorem ml_X7_86 : Ml RX7 86 mX7_noShelf 1 := ⟨by decide, mcX7_noShelf, ini_RX7, by decide, by decide +kernel, Or.inl (gw_at 367 (by decide +kernel) (by decide +kernel))⟩
theorem ml_X7_93 : Ml RX7 93 mX7_isNine 2 := ⟨by decide, mcX7_isNine, ini_RX7, by decide, by decide +kernel, Or.inl (gw_at 370 (by decide +kernel) (by decide +kernel))⟩
theorem ml_X7_97 : Ml RX7 97 mX7_comeFrom 2 := ⟨by decide, mcX7_comeFrom, ini_RX7, by decide, by decide +kernel, Or.inl (gw_at 373 (by decide +kernel) (by decide +kernel))⟩
theorem ml_X7_108 : Ml RX7 108 mX7_noNumber 2 := ⟨by decide, mcX7_noNumber, ini_RX7, by decide, by decide +kernel, Or.inl (gw_at 381 (by decide +kernel) (by decide +kernel))⟩
theorem ml_X7_111 : Ml RX7 111 mX7_mostOf 1 := ⟨by decide, mcX7_mostOf, ini_RX7, by decide, by decide +kernel, Or.inl (gw_at 389 (by decide +kernel) (by decide +kernel))⟩
theorem ml_X7_114 : Ml RX7 114 mX7_numberNow 2 := ⟨by decide, mcX7_numberNow, ini_RX7, by decide, by decide +kernel, Or.inl (gw_at 392 (by decide +kernel) (by decide +kernel))⟩
theorem ml_X7_118 : Ml RX7 118 mX1_note 4 := ⟨by decide, mcX1_note, ini_RX1, by decide, by decide +kernel, Or.inl (gw_at 410 (by decide +kernel) (by decide +kernel))⟩
theorem ml_X7_122 : Ml RX7 122 mX7_makeNumber 3 := ⟨by decide, mcX7_makeNumber, ini_RX7, by decide, by decide +kernel, Or.inl (gw_at 421 (by decide +kernel) (by decide +kernel))⟩
theorem ml_X7_126 : Ml RX7 126 mX7_nobody 1 := ⟨by decide, mcX7_nobody, ini_RX7, by decide, by decide +kernel, Or.inl (gw_at 385 (by decide +kernel) (by decide +kernel))⟩
theorem ml_X7_138 : Ml RX7 138 mX5_worthOf 1 := ⟨by decide, mcX5_worthOf, ini_RX5, by decide, by decide +kernel, Or.inl (gw_at 396 (by decide +kernel) (by decide +kernel))⟩
theorem ml_X7_144 : Ml RX7 144 mX4_take 1 := ⟨by decide, mcX4_take, ini_RX4, by decide, by decide +kernel, Or.inl (gw_at 433 (by decide +kernel) (by decide +kernel))⟩
theorem ml_X7_147 : Ml RX7 147 mX4_read 0 := ⟨by decide, mcX4_read, ini_RX4, by decide, by decide +kernel, Or.inl (gw_at 441 (by decide +kernel) (by decide +kernel))⟩
theorem ml_X7_154 : Ml RX7 154 mX4_exchangeFor 1 := ⟨by decide, mcX4_exchangeFor, ini_RX4, by decide, by decide +kernel, Or.inl (gw_at 583 (by decide +kernel) (by decide +kernel))⟩
theorem ml_X7_158 : Ml RX7 158 mX3_priceOf 4 := ⟨by decide, mcX3_priceOf, ini_RX3, by decide, by decide +kernel, Or.inl (gw_at 592 (by decide +kernel) (by decide +kernel))⟩
theorem ml_X7_162 : Ml RX7 162 mX7_refusalOfBytes 1 := ⟨by decide, mcX7_refusalOfBytes, ini_RX7, by decide, by decide +kernel, Or.inl (gw_at 622 (by decide +kernel) (by decide +kernel))⟩
theorem ml_X7_165 : Ml RX7 165 mX7_hear 1 := ⟨by decide, mcX7_hear, ini_RX7, by decide, by decide +kernel, Or.inl (gw_at 626 (by decide +kernel) (by decide +kernel))⟩
theorem ml_X7_175 : Ml RX7 175 mX7_noTooth 1 := ⟨by decide, mcX7_noTooth, ini_RX7, by decide, by decide +kernel, Or.inl (gw_at 667 (by decide +kernel) (by decide +kernel))⟩
theorem ml_X7_181 : Ml RX7 181 mX2_beliefIn 1 := ⟨by decide, mcX2_beliefIn, ini_RX2, by decide, by decide +kernel, Or.inl (gw_at 679 (by decide +kernel) (by decide +kernel))⟩
theorem ml_X7_184 : Ml RX7 184 mX2_wrongBeliefs 1 := ⟨by decide, mcX2_wrongBeliefs, ini_RX2, by decide, by decide +kernel, Or.inl (gw_at 688 (by decide +kernel) (by decide +kernel))⟩
theorem ml_X7_193 : Ml RX7 193 mX2_asWorthyAs 1 := ⟨by decide, mcX2_asWorthyAs, ini_RX2, by decide, by decide +kernel, Or.inl (gw_at 693 (by decide +kernel) (by decide +kernel))⟩
theorem ml_X7_197 : Ml RX7 197 mX7_noClaim 1 := ⟨by decide, mcX7_noClaim, ini_RX7, by decide, by decide +kernel, Or.inl (gw_at 701 (by decide +kernel) (by decide +kernel))⟩
theorem ml_X7_200 : Ml RX7 200 mX7_cheapestWay 2 := ⟨by decide, mcX7_cheapestWay, ini_RX7, by decide, by decide +kernel, Or.inl (gw_at 704 (by decide +kernel) (by decide +kernel))⟩
theorem ml_X7_203 : Ml RX7 203 mX5_copyFrom 1 := ⟨by decide, mcX5_copyFrom, ini_RX5, by decide, by decide +kernel, Or.inl (gw_at 708 (by decide +kernel) (by decide +kernel))⟩
theorem ml_X7_210 : Ml RX7 210 mX2_speak 5 := ⟨by decide, mcX2_speak, ini_RX2, by decide, by decide +kernel, Or.inl (gw_at 709 (by decide +kernel) (by decide +kernel))⟩
theorem ml_X7_214 : Ml RX7 214 mX5_isGone 1 := ⟨by decide, mcX5_isGone, ini_RX5, by decide, by decide +kernel, Or.inl (gw_at 714 (by decide +kernel) (by decide +kernel))⟩
theorem ml_X7_217 : Ml RX7 217 mX5_lie 4 := ⟨by decide, mcX5_lie, ini_RX5, by decide, by decide +kernel, Or.inl (gw_at 715 (by decide +kernel) (by decide +kernel))⟩
theorem ml_X7_221 : Ml RX7 221 mJ6_bitCount_0f7a4 1 := ⟨by decide, mcJ6_bitCount_0f7a4, ini_RJ6, by decide, by decide +kernel, Or.inl (gw_at 720 (by decide +kernel) (by decide +kernel))⟩
theorem ml_X7_226 : Ml RX7 226 mX5_worthTogether 1 := ⟨by decide, mcX5_worthTogether, ini_RX5, by decide, by decide +kernel, Or.inl (gw_at 721 (by decide +kernel) (by decide +kernel))⟩
theorem ml_X7_229 : Ml RX7 229 mX7_isLesser 2 := ⟨by decide, mcX7_isLesser, ini_RX7, by decide, by decide +kernel, Or.inl (gw_at 730 (by decide +kernel) (by decide +kernel))⟩
theorem ml_X7_232 : Ml RX7 232 mX2_summon 2 := ⟨by decide, mcX2_summon, ini_RX2, by decide, by decide +kernel, Or.inl (gw_at 630 (by decide +kernel) (by decide +kernel))⟩
theorem ml_X7_235 : Ml RX7 235 mX7_fewestTurned 2 := ⟨by decide, mcX7_fewestTurned, ini_RX7, by decide, by decide +kernel, Or.inl (gw_at 738 (by decide +kernel) (by decide +kernel))⟩
theorem ml_X7_238 : Ml RX7 238 mX2_hold 4 := ⟨by decide, mcX2_hold, ini_RX2, by decide, by decide +kernel, Or.inl (gw_at 636 (by decide +kernel) (by decide +kernel))⟩
theorem ml_X7_242 : Ml RX7 242 mX7_refusalOfMirror 1 := ⟨by decide, mcX7_refusalOfMirror, ini_RX7, by decide, by decide +kernel, Or.inl (gw_at 746 (by decide +kernel) (by decide +kernel))⟩
theorem ml_X7_245 : Ml RX7 245 mX5_looksLike 2 := ⟨by decide, mcX5_looksLike, ini_RX5, by decide, by decide +kernel, Or.inl (gw_at 750 (by decide +kernel) (by decide +kernel))⟩
theorem ml_X7_249 : Ml RX7 249 mX7_waysOfSo 4 := ⟨by decide, mcX7_waysOfSo, ini_RX7, by decide, by decide +kernel, Or.inl (gw_at 766 (by decide +kernel) (by decide +kernel))⟩
theorem ml_X7_254 : Ml RX7 254 mX7_isLie 3 := ⟨by decide, mcX7_isLie, ini_RX7, by decide, by decide +kernel, Or.inl (gw_at 775 (by decide +kernel) (by decide +kernel))⟩
theorem ml_X7_258 : Ml RX7 258 mX5_flakesOfAll 0 := ⟨by decide, mcX5_flakesOfAll, ini_RX5, by decide, by decide +kernel, Or.inl (gw_at 776 (by decide +kernel) (by decide +kernel))⟩
theorem ml_X7_261 : Ml RX7 261 mX5_exchange 3 := ⟨by decide, mcX5_exchange, ini_RX5, by decide, by decide +kernel, Or.inl (gw_at 788 (by decide +kernel) (by decide +kernel))⟩
theorem ml_X7_264 : Ml RX7 264 mX5_isCapped 2 := ⟨by decide, mcX5_isCapped, ini_RX5, by decide, by decide +kernel, Or.inl (gw_at 796 (by decide +kernel) (by decide +kernel))⟩
theorem ml_X7_277 : Ml RX7 277 mX5_layBack 1 := ⟨by decide, mcX5_layBack, ini_RX5, by decide, by decide +kernel, Or.inl (gw_at 814 (by decide +kernel) (by decide +kernel))⟩
theorem ml_X7_298 : Ml RX7 298 mX0_bear 1 := ⟨by decide, mcX0_bear, ini_RX0, by decide, by decide +kernel, Or.inl (gw_at 830 (by decide +kernel) (by decide +kernel))⟩
theorem ml_X7_301 : Ml RX7 301 mX0_perform 3 := ⟨by decide, mcX0_perform, ini_RX0, by decide, by decide +kernel, Or.inl (gw_at 838 (by decide +kernel) (by decide +kernel))⟩
theorem ml_X7_305 : Ml RX7 305 mX0_tracedBodies 0 := ⟨by decide, mcX0_tracedBodies, ini_RX0, by decide, by decide +kernel, Or.inl (gw_at 863 (by decide +kernel) (by decide +kernel))⟩
theorem ml_X7_317 : Ml RX7 317 mX6_becomeRow 2 := ⟨by decide, mcX6_becomeRow, ini_RX6, by decide, by decide +kernel, Or.inl (gw_at 876 (by decide +kernel) (by decide +kernel))⟩
theorem ml_X7_321 : Ml RX7 321 mX7_refusalOfPlace 2 := ⟨by decide, mcX7_refusalOfPlace, ini_RX7, by decide, by decide +kernel, Or.inl (gw_at 884 (by decide +kernel) (by decide +kernel))⟩
theorem ml_X7_324 : Ml RX7 324 mX6_narrowed 2 := ⟨by decide, mcX6_narrowed, ini_RX6, by decide, by decide +kernel, Or.inl (gw_at 888 (by decide +kernel) (by decide +kernel))⟩
theorem ml_X7_332 : Ml RX7 332 mX6_lacks 2 := ⟨by decide, mcX6_lacks, ini_RX6, by decide, by decide +kernel, Or.inl (gw_at 900 (by decide +kernel) (by decide +kernel))⟩
theorem ml_X7_338 : Ml RX7 338 mX0_isUnder 2 := ⟨by decide, mcX0_isUnder, ini_RX0, by decide, by decide +kernel, Or.inl (gw_at 908 (by decide +kernel) (by decide +kernel))⟩
theorem ml_X7_341 : Ml RX7 341 mX5_howManyGone 0 := ⟨by decide, mcX5_howManyGone, ini_RX5, by decide, by decide +kernel, Or.inl (gw_at 915 (by decide +kernel) (by decide +kernel))⟩
theorem ml_X0_34 : Ml RX0 34 mX7_outside 2 := ⟨by decide, mcX7_outside, ini_RX7, by decide, by decide +kernel, Or.inr ⟨_, nw_at (w := Cond.methodLinkNest RX0 34 (my mX7_outside) "SkinOfTeeth") 842 (by decide +kernel) (by decide +kernel)⟩⟩
theorem ml_X0_38 : Ml RX0 38 mX0_run 5 := ⟨by decide, mcX0_run, ini_RX0, by decide, by decide +kernel, Or.inl (gw_at 843 (by decide +kernel) (by decide +kernel))⟩
theorem ml_X0_45 : Ml RX0 45 mX0_rootWork 4 := ⟨by decide, mcX0_rootWork, ini_RX0, by decide, by decide +kernel, Or.inl (gw_at 851 (by decide +kernel) (by decide +kernel))⟩
theorem ml_X0_49 : Ml RX0 49 mX0_work 5 := ⟨by decide, mcX0_work, ini_RX0, by decide, by decide +kernel, Or.inl (gw_at 855 (by decide +kernel) (by decide +kernel))⟩
theorem ml_X1_26 : Ml RX1 26 mX1_dropOldest 0 := ⟨by decide, mcX1_dropOldest, ini_RX1, by decide, by decide +kernel, Or.inl (gw_at 414 (by decide +kernel) (by decide +kernel))⟩
theorem ml_X2_23 : Ml RX2 23 mX5_init 0 := ⟨by decide, mcX5_init, ini_RX5, by decide, by decide +kernel, Or.inr ⟨_, nw_at (w := Cond.methodLinkNest RX2 23 (my mX5_init) "SkinOfTeeth") 148 (by decide +kernel) (by decide +kernel)⟩⟩
theorem ml_X2_48 : Ml RX2 48 mX5_copyFrom 1 := ⟨by decide, mcX5_copyFrom, ini_RX5, by decide, by decide +kernel, Or.inl (gw_at 640 (by decide +kernel) (by decide +kernel))⟩
theorem ml_X2_61 : Ml RX2 61 mX2_speak 5 := ⟨by decide, mcX2_speak, ini_RX2, by decide, by decide +kernel, Or.inl (gw_at 645 (by decide +kernel) (by decide +kernel))⟩
theorem ml_X2_65 : Ml RX2 65 mX5_isGone 1 := ⟨by decide, mcX5_isGone, ini_RX5, by decide, by decide +kernel, Or.inl (gw_at 659 (by decide +kernel) (by decide +kernel))⟩
theorem ml_X2_69 : Ml RX2 69 mX7_isLie 3 := ⟨by decide, mcX7_isLie, ini_RX7, by decide, by decide +kernel, Or.inr ⟨_, nw_at (w := Cond.methodLinkNest RX2 69 (my mX7_isLie) "SkinOfTeeth") 649 (by decide +kernel) (by decide +kernel)⟩⟩
theorem ml_X2_73 : Ml RX2 73 mX5_lie 4 := ⟨by decide, mcX5_lie, ini_RX5, by decide, by decide +kernel, Or.inl (gw_at 652 (by decide +kernel) (by decide +kernel))⟩
theorem ml_X2_80 : Ml RX2 80 mX5_worthOf 1 := ⟨by decide, mcX5_worthOf, ini_RX5, by decide, by decide +kernel, Or.inl (gw_at 683 (by decide +kernel) (by decide +kernel))⟩
theorem ml_X2_84 : Ml RX2 84 mX2_beliefIn 1 := ⟨by decide, mcX2_beliefIn, ini_RX2, by decide, by decide +kernel, Or.inl (gw_at 692 (by decide +kernel) (by decide +kernel))⟩
theorem ml_X3_33 : Ml RX3 33 mX5_worthOf 1 := ⟨by decide, mcX5_worthOf, ini_RX5, by decide, by decide +kernel, Or.inl (gw_at 596 (by decide +kernel) (by decide +kernel))⟩
theorem ml_X3_37 : Ml RX3 37 mX5_isCapped 2 := ⟨by decide, mcX5_isCapped, ini_RX5, by decide, by decide +kernel, Or.inl (gw_at 597 (by decide +kernel) (by decide +kernel))⟩
theorem ml_X3_41 : Ml RX3 41 mX3_workedOut 0 := ⟨by decide, mcX3_workedOut, ini_RX3, by decide, by decide +kernel, Or.inl (gw_at 601 (by decide +kernel) (by decide +kernel))⟩
theorem ml_X3_57 : Ml RX3 57 mX3_push 1 := ⟨by decide, mcX3_push, ini_RX3, by decide, by decide +kernel, Or.inl (gw_at 605 (by decide +kernel) (by decide +kernel))⟩
theorem ml_X3_61 : Ml RX3 61 mX3_pop 0 := ⟨by decide, mcX3_pop, ini_RX3, by decide, by decide +kernel, Or.inl (gw_at 609 (by decide +kernel) (by decide +kernel))⟩
theorem ml_X3_64 : Ml RX3 64 mX3_together 3 := ⟨by decide, mcX3_together, ini_RX3, by decide, by decide +kernel, Or.inl (gw_at 613 (by decide +kernel) (by decide +kernel))⟩
theorem ml_X4_17 : Ml RX4 17 mX3_init 0 := ⟨by decide, mcX3_init, ini_RX3, by decide, by decide +kernel, Or.inr ⟨_, nw_at (w := Cond.methodLinkNest RX4 17 (my mX3_init) "SkinOfTeeth") 247 (by decide +kernel) (by decide +kernel)⟩⟩
theorem ml_X4_32 : Ml RX4 32 mX4_readLine 0 := ⟨by decide, mcX4_readLine, ini_RX4, by decide, by decide +kernel, Or.inl (gw_at 445 (by decide +kernel) (by decide +kernel))⟩
theorem ml_X4_36 : Ml RX4 36 mX4_next 0 := ⟨by decide, mcX4_next, ini_RX4, by decide, by decide +kernel, Or.inl (gw_at 473 (by decide +kernel) (by decide +kernel))⟩
theorem ml_X4_40 : Ml RX4 40 mX4_readAny 1 := ⟨by decide, mcX4_readAny, ini_RX4, by decide, by decide +kernel, Or.inl (gw_at 449 (by decide +kernel) (by decide +kernel))⟩
theorem ml_X4_44 : Ml RX4 44 mX3_add 2 := ⟨by decide, mcX3_add, ini_RX3, by decide, by decide +kernel, Or.inl (gw_at 484 (by decide +kernel) (by decide +kernel))⟩
theorem ml_X4_48 : Ml RX4 48 mX3_skipToHere 1 := ⟨by decide, mcX3_skipToHere, ini_RX3, by decide, by decide +kernel, Or.inl (gw_at 579 (by decide +kernel) (by decide +kernel))⟩
theorem ml_X4_52 : Ml RX4 52 mX4_readAll 1 := ⟨by decide, mcX4_readAll, ini_RX4, by decide, by decide +kernel, Or.inl (gw_at 453 (by decide +kernel) (by decide +kernel))⟩
theorem ml_X4_55 : Ml RX4 55 mX4_readCompared 1 := ⟨by decide, mcX4_readCompared, ini_RX4, by decide, by decide +kernel, Or.inl (gw_at 457 (by decide +kernel) (by decide +kernel))⟩
theorem ml_X4_58 : Ml RX4 58 mX4_readSum 1 := ⟨by decide, mcX4_readSum, ini_RX4, by decide, by decide +kernel, Or.inl (gw_at 461 (by decide +kernel) (by decide +kernel))⟩
theorem ml_X4_61 : Ml RX4 61 mX4_readProduct 1 := ⟨by decide, mcX4_readProduct, ini_RX4, by decide, by decide +kernel, Or.inl (gw_at 465 (by decide +kernel) (by decide +kernel))⟩
theorem ml_X4_64 : Ml RX4 64 mX4_readOperand 1 := ⟨by decide, mcX4_readOperand, ini_RX4, by decide, by decide +kernel, Or.inl (gw_at 469 (by decide +kernel) (by decide +kernel))⟩
theorem ml_X4_67 : Ml RX4 67 mX4_isDigit 1 := ⟨by decide, mcX4_isDigit, ini_RX4, by decide, by decide +kernel, Or.inl (gw_at 477 (by decide +kernel) (by decide +kernel))⟩
theorem ml_X4_70 : Ml RX4 70 mX4_readNumber 0 := ⟨by decide, mcX4_readNumber, ini_RX4, by decide, by decide +kernel, Or.inl (gw_at 480 (by decide +kernel) (by decide +kernel))⟩
theorem ml_X4_75 : Ml RX4 75 mJ0_indexOf_0f7a4 1 := ⟨by decide, mcJ0_indexOf_0f7a4, ini_RJ0, by decide, by decide +kernel, Or.inl (gw_at 489 (by decide +kernel) (by decide +kernel))⟩
theorem ml_X4_81 : Ml RX4 81 mX4_readOpened 2 := ⟨by decide, mcX4_readOpened, ini_RX4, by decide, by decide +kernel, Or.inl (gw_at 575 (by decide +kernel) (by decide +kernel))⟩
theorem ml_X5_34 : Ml RX5 34 mX5_flakesOf 1 := ⟨by decide, mcX5_flakesOf, ini_RX5, by decide, by decide +kernel, Or.inl (gw_at 400 (by decide +kernel) (by decide +kernel))⟩
theorem ml_X5_38 : Ml RX5 38 mJ6_bitCount_0f7a4 1 := ⟨by decide, mcJ6_bitCount_0f7a4, ini_RJ6, by decide, by decide +kernel, Or.inl (gw_at 404 (by decide +kernel) (by decide +kernel))⟩
theorem ml_X5_43 : Ml RX5 43 mX5_worthOf 1 := ⟨by decide, mcX5_worthOf, ini_RX5, by decide, by decide +kernel, Or.inl (gw_at 725 (by decide +kernel) (by decide +kernel))⟩
theorem ml_X5_46 : Ml RX5 46 mX5_isGone 1 := ⟨by decide, mcX5_isGone, ini_RX5, by decide, by decide +kernel, Or.inl (gw_at 919 (by decide +kernel) (by decide +kernel))⟩
theorem ml_X5_56 : Ml RX5 56 mX3_priceOf 4 := ⟨by decide, mcX3_priceOf, ini_RX3, by decide, by decide +kernel, Or.inl (gw_at 656 (by decide +kernel) (by decide +kernel))⟩
theorem ml_X5_62 : Ml RX5 62 mX5_isCapped 2 := ⟨by decide, mcX5_isCapped, ini_RX5, by decide, by decide +kernel, Or.inl (gw_at 657 (by decide +kernel) (by decide +kernel))⟩
theorem ml_L_9 : Ml RL 9 mX7_init 0 := ⟨by decide, mcX7_init, ini_RX7, by decide, by decide +kernel, Or.inl (gw_at 105 (by decide +kernel) (by decide +kernel))⟩
theorem ml_L_12 : Ml RL 12 mX8_init 0 := ⟨by decide, mcX8_init, ini_RX8, by decide, by decide +kernel, Or.inl (gw_at 922 (by decide +kernel) (by decide +kernel))⟩
theorem ml_L_13 : Ml RL 13 mX7_person 1 := ⟨by decide, mcX7_person, ini_RX7, by decide, by decide +kernel, Or.inl (gw_at 352 (by decide +kernel) (by decide +kernel))⟩
theorem ml_L_17 : Ml RL 17 mX8_person 1 := ⟨by decide, mcX8_person, ini_RX8, by decide, by decide +kernel, Or.inl (gw_at 1086 (by decide +kernel) (by decide +kernel))⟩
theorem ml_L_18 : Ml RL 18 mX7_people 3 := ⟨by decide, mcX7_people, ini_RX7, by decide, by decide +kernel, Or.inl (gw_at 363 (by decide +kernel) (by decide +kernel))⟩
theorem ml_L_22 : Ml RL 22 mX8_people 3 := ⟨by decide, mcX8_people, ini_RX8, by decide, by decide +kernel, Or.inl (gw_at 1093 (by decide +kernel) (by decide +kernel))⟩
theorem ml_L_23 : Ml RL 23 mX7_mend 3 := ⟨by decide, mcX7_mend, ini_RX7, by decide, by decide +kernel, Or.inl (gw_at 377 (by decide +kernel) (by decide +kernel))⟩
theorem ml_L_26 : Ml RL 26 mX8_mend 3 := ⟨by decide, mcX8_mend, ini_RX8, by decide, by decide +kernel, Or.inl (gw_at 1117 (by decide +kernel) (by decide +kernel))⟩
theorem ml_L_27 : Ml RL 27 mX7_of 2 := ⟨by decide, mcX7_of, ini_RX7, by decide, by decide +kernel, Or.inl (gw_at 425 (by decide +kernel) (by decide +kernel))⟩
theorem ml_L_31 : Ml RL 31 mX8_of 2 := ⟨by decide, mcX8_of, ini_RX8, by decide, by decide +kernel, Or.inl (gw_at 1143 (by decide +kernel) (by decide +kernel))⟩
theorem ml_L_32 : Ml RL 32 mX7_feed 1 := ⟨by decide, mcX7_feed, ini_RX7, by decide, by decide +kernel, Or.inl (gw_at 429 (by decide +kernel) (by decide +kernel))⟩
theorem ml_L_35 : Ml RL 35 mX8_feed 1 := ⟨by decide, mcX8_feed, ini_RX8, by decide, by decide +kernel, Or.inl (gw_at 1162 (by decide +kernel) (by decide +kernel))⟩
theorem ml_L_36 : Ml RL 36 mX7_law 0 := ⟨by decide, mcX7_law, ini_RX7, by decide, by decide +kernel, Or.inl (gw_at 437 (by decide +kernel) (by decide +kernel))⟩
theorem ml_L_40 : Ml RL 40 mX8_law 0 := ⟨by decide, mcX8_law, ini_RX8, by decide, by decide +kernel, Or.inl (gw_at 1166 (by decide +kernel) (by decide +kernel))⟩
theorem ml_L_41 : Ml RL 41 mX7_takes 2 := ⟨by decide, mcX7_takes, ini_RX7, by decide, by decide +kernel, Or.inl (gw_at 588 (by decide +kernel) (by decide +kernel))⟩
theorem ml_L_44 : Ml RL 44 mX8_takes 2 := ⟨by decide, mcX8_takes, ini_RX8, by decide, by decide +kernel, Or.inl (gw_at 1225 (by decide +kernel) (by decide +kernel))⟩
theorem ml_L_45 : Ml RL 45 mX7_trial 3 := ⟨by decide, mcX7_trial, ini_RX7, by decide, by decide +kernel, Or.inl (gw_at 618 (by decide +kernel) (by decide +kernel))⟩
theorem ml_L_48 : Ml RL 48 mX8_trial 3 := ⟨by decide, mcX8_trial, ini_RX8, by decide, by decide +kernel, Or.inl (gw_at 1244 (by decide +kernel) (by decide +kernel))⟩
theorem ml_L_49 : Ml RL 49 mX7_tooth 2 := ⟨by decide, mcX7_tooth, ini_RX7, by decide, by decide +kernel, Or.inl (gw_at 663 (by decide +kernel) (by decide +kernel))⟩
theorem ml_L_52 : Ml RL 52 mX8_tooth 2 := ⟨by decide, mcX8_tooth, ini_RX8, by decide, by decide +kernel, Or.inl (gw_at 1280 (by decide +kernel) (by decide +kernel))⟩
theorem ml_L_53 : Ml RL 53 mX7_gone 1 := ⟨by decide, mcX7_gone, ini_RX7, by decide, by decide +kernel, Or.inl (gw_at 671 (by decide +kernel) (by decide +kernel))⟩
theorem ml_L_56 : Ml RL 56 mX8_gone 1 := ⟨by decide, mcX8_gone, ini_RX8, by decide, by decide +kernel, Or.inl (gw_at 1284 (by decide +kernel) (by decide +kernel))⟩
theorem ml_L_57 : Ml RL 57 mX7_believed 2 := ⟨by decide, mcX7_believed, ini_RX7, by decide, by decide +kernel, Or.inl (gw_at 675 (by decide +kernel) (by decide +kernel))⟩
theorem ml_L_60 : Ml RL 60 mX8_believed 2 := ⟨by decide, mcX8_believed, ini_RX8, by decide, by decide +kernel, Or.inl (gw_at 1288 (by decide +kernel) (by decide +kernel))⟩
theorem ml_L_61 : Ml RL 61 mX7_told 2 := ⟨by decide, mcX7_told, ini_RX7, by decide, by decide +kernel, Or.inl (gw_at 684 (by decide +kernel) (by decide +kernel))⟩
theorem ml_L_64 : Ml RL 64 mX8_told 2 := ⟨by decide, mcX8_told, ini_RX8, by decide, by decide +kernel, Or.inl (gw_at 1296 (by decide +kernel) (by decide +kernel))⟩
theorem ml_L_65 : Ml RL 65 mX7_have 3 := ⟨by decide, mcX7_have, ini_RX7, by decide, by decide +kernel, Or.inl (gw_at 697 (by decide +kernel) (by decide +kernel))⟩
theorem ml_L_68 : Ml RL 68 mX8_have 3 := ⟨by decide, mcX8_have, ini_RX8, by decide, by decide +kernel, Or.inl (gw_at 1312 (by decide +kernel) (by decide +kernel))⟩
theorem ml_L_69 : Ml RL 69 mX7_left 2 := ⟨by decide, mcX7_left, ini_RX7, by decide, by decide +kernel, Or.inl (gw_at 710 (by decide +kernel) (by decide +kernel))⟩
theorem ml_L_72 : Ml RL 72 mX8_left 2 := ⟨by decide, mcX8_left, ini_RX8, by decide, by decide +kernel, Or.inl (gw_at 1319 (by decide +kernel) (by decide +kernel))⟩
theorem ml_L_73 : Ml RL 73 mX7_enough 2 := ⟨by decide, mcX7_enough, ini_RX7, by decide, by decide +kernel, Or.inl (gw_at 716 (by decide +kernel) (by decide +kernel))⟩
theorem ml_L_76 : Ml RL 76 mX8_enough 2 := ⟨by decide, mcX8_enough, ini_RX8, by decide, by decide +kernel, Or.inl (gw_at 1323 (by decide +kernel) (by decide +kernel))⟩
theorem ml_L_77 : Ml RL 77 mX7_jury 1 := ⟨by decide, mcX7_jury, ini_RX7, by decide, by decide +kernel, Or.inl (gw_at 726 (by decide +kernel) (by decide +kernel))⟩
theorem ml_L_80 : Ml RL 80 mX8_jury 1 := ⟨by decide, mcX8_jury, ini_RX8, by decide, by decide +kernel, Or.inl (gw_at 1327 (by decide +kernel) (by decide +kernel))⟩
theorem ml_L_81 : Ml RL 81 mX7_bribe 3 := ⟨by decide, mcX7_bribe, ini_RX7, by decide, by decide +kernel, Or.inl (gw_at 734 (by decide +kernel) (by decide +kernel))⟩
theorem ml_L_84 : Ml RL 84 mX8_bribe 3 := ⟨by decide, mcX8_bribe, ini_RX8, by decide, by decide +kernel, Or.inl (gw_at 1335 (by decide +kernel) (by decide +kernel))⟩
theorem ml_L_85 : Ml RL 85 mX7_liesFor 3 := ⟨by decide, mcX7_liesFor, ini_RX7, by decide, by decide +kernel, Or.inl (gw_at 742 (by decide +kernel) (by decide +kernel))⟩
theorem ml_L_88 : Ml RL 88 mX8_liesFor 3 := ⟨by decide, mcX8_liesFor, ini_RX8, by decide, by decide +kernel, Or.inl (gw_at 1339 (by decide +kernel) (by decide +kernel))⟩
theorem ml_L_89 : Ml RL 89 mX7_two 3 := ⟨by decide, mcX7_two, ini_RX7, by decide, by decide +kernel, Or.inl (gw_at 754 (by decide +kernel) (by decide +kernel))⟩
theorem ml_L_92 : Ml RL 92 mX8_two 3 := ⟨by decide, mcX8_two, ini_RX8, by decide, by decide +kernel, Or.inl (gw_at 1351 (by decide +kernel) (by decide +kernel))⟩
theorem ml_L_93 : Ml RL 93 mX7_others 1 := ⟨by decide, mcX7_others, ini_RX7, by decide, by decide +kernel, Or.inl (gw_at 758 (by decide +kernel) (by decide +kernel))⟩
theorem ml_L_96 : Ml RL 96 mX8_others 1 := ⟨by decide, mcX8_others, ini_RX8, by decide, by decide +kernel, Or.inl (gw_at 1355 (by decide +kernel) (by decide +kernel))⟩
theorem ml_L_97 : Ml RL 97 mX7_isSo 3 := ⟨by decide, mcX7_isSo, ini_RX7, by decide, by decide +kernel, Or.inl (gw_at 762 (by decide +kernel) (by decide +kernel))⟩
theorem ml_L_100 : Ml RL 100 mX8_isSo 3 := ⟨by decide, mcX8_isSo, ini_RX8, by decide, by decide +kernel, Or.inl (gw_at 1359 (by decide +kernel) (by decide +kernel))⟩
theorem ml_L_101 : Ml RL 101 mX7_drawn 3 := ⟨by decide, mcX7_drawn, ini_RX7, by decide, by decide +kernel, Or.inl (gw_at 770 (by decide +kernel) (by decide +kernel))⟩
theorem ml_L_104 : Ml RL 104 mX8_drawn 3 := ⟨by decide, mcX8_drawn, ini_RX8, by decide, by decide +kernel, Or.inl (gw_at 1363 (by decide +kernel) (by decide +kernel))⟩
theorem ml_L_105 : Ml RL 105 mX7_say 2 := ⟨by decide, mcX7_say, ini_RX7, by decide, by decide +kernel, Or.inl (gw_at 780 (by decide +kernel) (by decide +kernel))⟩
theorem ml_L_108 : Ml RL 108 mX8_say 2 := ⟨by decide, mcX8_say, ini_RX8, by decide, by decide +kernel, Or.inl (gw_at 1368 (by decide +kernel) (by decide +kernel))⟩
theorem ml_L_109 : Ml RL 109 mX7_lend 2 := ⟨by decide, mcX7_lend, ini_RX7, by decide, by decide +kernel, Or.inl (gw_at 784 (by decide +kernel) (by decide +kernel))⟩
theorem ml_L_112 : Ml RL 112 mX8_lend 2 := ⟨by decide, mcX8_lend, ini_RX8, by decide, by decide +kernel, Or.inl (gw_at 1372 (by decide +kernel) (by decide +kernel))⟩
theorem ml_L_113 : Ml RL 113 mX7_cap 2 := ⟨by decide, mcX7_cap, ini_RX7, by decide, by decide +kernel, Or.inl (gw_at 792 (by decide +kernel) (by decide +kernel))⟩
theorem ml_L_116 : Ml RL 116 mX8_cap 2 := ⟨by decide, mcX8_cap, ini_RX8, by decide, by decide +kernel, Or.inl (gw_at 1376 (by decide +kernel) (by decide +kernel))⟩
theorem ml_L_117 : Ml RL 117 mX7_year 0 := ⟨by decide, mcX7_year, ini_RX7, by decide, by decide +kernel, Or.inl (gw_at 797 (by decide +kernel) (by decide +kernel))⟩
theorem ml_L_120 : Ml RL 120 mX8_year 0 := ⟨by decide, mcX8_year, ini_RX8, by decide, by decide +kernel, Or.inl (gw_at 1380 (by decide +kernel) (by decide +kernel))⟩
theorem ml_L_121 : Ml RL 121 mX7_led 1 := ⟨by decide, mcX7_led, ini_RX7, by decide, by decide +kernel, Or.inl (gw_at 801 (by decide +kernel) (by decide +kernel))⟩
theorem ml_L_124 : Ml RL 124 mX8_led 1 := ⟨by decide, mcX8_led, ini_RX8, by decide, by decide +kernel, Or.inl (gw_at 1384 (by decide +kernel) (by decide +kernel))⟩
theorem ml_L_125 : Ml RL 125 mX7_image 0 := ⟨by decide, mcX7_image, ini_RX7, by decide, by decide +kernel, Or.inl (gw_at 805 (by decide +kernel) (by decide +kernel))⟩
theorem ml_L_128 : Ml RL 128 mX8_image 0 := ⟨by decide, mcX8_image, ini_RX8, by decide, by decide +kernel, Or.inl (gw_at 1388 (by decide +kernel) (by decide +kernel))⟩
theorem ml_L_129 : Ml RL 129 mX7_back 0 := ⟨by decide, mcX7_back, ini_RX7, by decide, by decide +kernel, Or.inl (gw_at 810 (by decide +kernel) (by decide +kernel))⟩
theorem ml_L_132 : Ml RL 132 mX8_back 0 := ⟨by decide, mcX8_back, ini_RX8, by decide, by decide +kernel, Or.inl (gw_at 1392 (by decide +kernel) (by decide +kernel))⟩
theorem ml_L_133 : Ml RL 133 mX7_undo 0 := ⟨by decide, mcX7_undo, ini_RX7, by decide, by decide +kernel, Or.inl (gw_at 818 (by decide +kernel) (by decide +kernel))⟩
theorem ml_L_136 : Ml RL 136 mX8_undo 0 := ⟨by decide, mcX8_undo, ini_RX8, by decide, by decide +kernel, Or.inl (gw_at 1105 (by decide +kernel) (by decide +kernel))⟩
theorem ml_L_137 : Ml RL 137 mX7_redo 0 := ⟨by decide, mcX7_redo, ini_RX7, by decide, by decide +kernel, Or.inl (gw_at 822 (by decide +kernel) (by decide +kernel))⟩
theorem ml_L_140 : Ml RL 140 mX8_redo 0 := ⟨by decide, mcX8_redo, ini_RX8, by decide, by decide +kernel, Or.inl (gw_at 1113 (by decide +kernel) (by decide +kernel))⟩
theorem ml_L_141 : Ml RL 141 mX7_body 1 := ⟨by decide, mcX7_body, ini_RX7, by decide, by decide +kernel, Or.inl (gw_at 826 (by decide +kernel) (by decide +kernel))⟩
theorem ml_L_144 : Ml RL 144 mX8_body 1 := ⟨by decide, mcX8_body, ini_RX8, by decide, by decide +kernel, Or.inl (gw_at 1400 (by decide +kernel) (by decide +kernel))⟩
theorem ml_L_145 : Ml RL 145 mX7_act 3 := ⟨by decide, mcX7_act, ini_RX7, by decide, by decide +kernel, Or.inl (gw_at 834 (by decide +kernel) (by decide +kernel))⟩
theorem ml_L_148 : Ml RL 148 mX8_act 3 := ⟨by decide, mcX8_act, ini_RX8, by decide, by decide +kernel, Or.inl (gw_at 1404 (by decide +kernel) (by decide +kernel))⟩
theorem ml_L_149 : Ml RL 149 mX7_trace 1 := ⟨by decide, mcX7_trace, ini_RX7, by decide, by decide +kernel, Or.inl (gw_at 859 (by decide +kernel) (by decide +kernel))⟩
theorem ml_L_152 : Ml RL 152 mX8_trace 1 := ⟨by decide, mcX8_trace, ini_RX8, by decide, by decide +kernel, Or.inl (gw_at 1396 (by decide +kernel) (by decide +kernel))⟩
theorem ml_L_153 : Ml RL 153 mX7_keep 2 := ⟨by decide, mcX7_keep, ini_RX7, by decide, by decide +kernel, Or.inl (gw_at 868 (by decide +kernel) (by decide +kernel))⟩
theorem ml_L_156 : Ml RL 156 mX8_keep 2 := ⟨by decide, mcX8_keep, ini_RX8, by decide, by decide +kernel, Or.inl (gw_at 1467 (by decide +kernel) (by decide +kernel))⟩
theorem ml_L_157 : Ml RL 157 mX7_row 3 := ⟨by decide, mcX7_row, ini_RX7, by decide, by decide +kernel, Or.inl (gw_at 872 (by decide +kernel) (by decide +kernel))⟩
theorem ml_L_160 : Ml RL 160 mX8_row 3 := ⟨by decide, mcX8_row, ini_RX8, by decide, by decide +kernel, Or.inl (gw_at 1471 (by decide +kernel) (by decide +kernel))⟩
theorem ml_L_163 : Ml RL 163 mX7_put 3 := ⟨by decide, mcX7_put, ini_RX7, by decide, by decide +kernel, Or.inl (gw_at 880 (by decide +kernel) (by decide +kernel))⟩
theorem ml_L_167 : Ml RL 167 mX8_put 3 := ⟨by decide, mcX8_put, ini_RX8, by decide, by decide +kernel, Or.inl (gw_at 1475 (by decide +kernel) (by decide +kernel))⟩
theorem ml_L_168 : Ml RL 168 mX7_element 2 := ⟨by decide, mcX7_element, ini_RX7, by decide, by decide +kernel, Or.inl (gw_at 891 (by decide +kernel) (by decide +kernel))⟩
theorem ml_L_172 : Ml RL 172 mX8_element 2 := ⟨by decide, mcX8_element, ini_RX8, by decide, by decide +kernel, Or.inl (gw_at 1483 (by decide +kernel) (by decide +kernel))⟩
theorem ml_L_173 : Ml RL 173 mX7_shift 5 := ⟨by decide, mcX7_shift, ini_RX7, by decide, by decide +kernel, Or.inl (gw_at 896 (by decide +kernel) (by decide +kernel))⟩
theorem ml_L_177 : Ml RL 177 mX8_shift 5 := ⟨by decide, mcX8_shift, ini_RX8, by decide, by decide +kernel, Or.inl (gw_at 1488 (by decide +kernel) (by decide +kernel))⟩
theorem ml_L_178 : Ml RL 178 mX7_taken 2 := ⟨by decide, mcX7_taken, ini_RX7, by decide, by decide +kernel, Or.inl (gw_at 904 (by decide +kernel) (by decide +kernel))⟩
theorem ml_L_181 : Ml RL 181 mX8_taken 2 := ⟨by decide, mcX8_taken, ini_RX8, by decide, by decide +kernel, Or.inl (gw_at 1492 (by decide +kernel) (by decide +kernel))⟩
theorem ml_L_182 : Ml RL 182 mX7_count 1 := ⟨by decide, mcX7_count, ini_RX7, by decide, by decide +kernel, Or.inl (gw_at 911 (by decide +kernel) (by decide +kernel))⟩
theorem ml_L_185 : Ml RL 185 mX8_count 1 := ⟨by decide, mcX8_count, ini_RX8, by decide, by decide +kernel, Or.inl (gw_at 1463 (by decide +kernel) (by decide +kernel))⟩
theorem ml_X8_128 : Ml RX8 128 mX8_in 3 := ⟨by decide, mcX8_in, ini_RX8, by decide, by decide +kernel, Or.inl (gw_at 1090 (by decide +kernel) (by decide +kernel))⟩
theorem ml_X8_132 : Ml RX8 132 mX8_isShelf 1 := ⟨by decide, mcX8_isShelf, ini_RX8, by decide, by decide +kernel, Or.inl (gw_at 1097 (by decide +kernel) (by decide +kernel))⟩
theorem ml_X8_138 : Ml RX8 138 mX8_isMouth 2 := ⟨by decide, mcX8_isMouth, ini_RX8, by decide, by decide +kernel, Or.inl (gw_at 1101 (by decide +kernel) (by decide +kernel))⟩
theorem ml_X8_142 : Ml RX8 142 mX8_valueAt 2 := ⟨by decide, mcX8_valueAt, ini_RX8, by decide, by decide +kernel, Or.inl (gw_at 1139 (by decide +kernel) (by decide +kernel))⟩
theorem ml_X8_152 : Ml RX8 152 mX8_lays 3 := ⟨by decide, mcX8_lays, ini_RX8, by decide, by decide +kernel, Or.inl (gw_at 1109 (by decide +kernel) (by decide +kernel))⟩
theorem ml_X8_156 : Ml RX8 156 mX8_isPerson 1 := ⟨by decide, mcX8_isPerson, ini_RX8, by decide, by decide +kernel, Or.inl (gw_at 1125 (by decide +kernel) (by decide +kernel))⟩
theorem ml_X8_159 : Ml RX8 159 mX8_isFact 1 := ⟨by decide, mcX8_isFact, ini_RX8, by decide, by decide +kernel, Or.inl (gw_at 1129 (by decide +kernel) (by decide +kernel))⟩
theorem ml_X8_162 : Ml RX8 162 mX8_isOne 2 := ⟨by decide, mcX8_isOne, ini_RX8, by decide, by decide +kernel, Or.inl (gw_at 1121 (by decide +kernel) (by decide +kernel))⟩
theorem ml_X8_165 : Ml RX8 165 mX8_mayBe 2 := ⟨by decide, mcX8_mayBe, ini_RX8, by decide, by decide +kernel, Or.inl (gw_at 1132 (by decide +kernel) (by decide +kernel))⟩
theorem ml_X8_168 : Ml RX8 168 mX8_changes 3 := ⟨by decide, mcX8_changes, ini_RX8, by decide, by decide +kernel, Or.inl (gw_at 1135 (by decide +kernel) (by decide +kernel))⟩
theorem ml_X8_172 : Ml RX8 172 mX8_beginMouths 0 := ⟨by decide, mcX8_beginMouths, ini_RX8, by decide, by decide +kernel, Or.inl (gw_at 1147 (by decide +kernel) (by decide +kernel))⟩
theorem ml_X8_175 : Ml RX8 175 mX8_worthOf 1 := ⟨by decide, mcX8_worthOf, ini_RX8, by decide, by decide +kernel, Or.inl (gw_at 1151 (by decide +kernel) (by decide +kernel))⟩
theorem ml_X8_194 : Ml RX8 194 mX8_wrong 0 := ⟨by decide, mcX8_wrong, ini_RX8, by decide, by decide +kernel, Or.inl (gw_at 1217 (by decide +kernel) (by decide +kernel))⟩
theorem ml_X8_197 : Ml RX8 197 mX8_look 0 := ⟨by decide, mcX8_look, ini_RX8, by decide, by decide +kernel, Or.inl (gw_at 1202 (by decide +kernel) (by decide +kernel))⟩
theorem ml_X8_201 : Ml RX8 201 mX8_addStep 2 := ⟨by decide, mcX8_addStep, ini_RX8, by decide, by decide +kernel, Or.inl (gw_at 1209 (by decide +kernel) (by decide +kernel))⟩
theorem ml_X8_205 : Ml RX8 205 mX8_nameOf 1 := ⟨by decide, mcX8_nameOf, ini_RX8, by decide, by decide +kernel, Or.inl (gw_at 1206 (by decide +kernel) (by decide +kernel))⟩
theorem ml_X8_208 : Ml RX8 208 mX8_opens 0 := ⟨by decide, mcX8_opens, ini_RX8, by decide, by decide +kernel, Or.inl (gw_at 1213 (by decide +kernel) (by decide +kernel))⟩
theorem ml_X8_212 : Ml RX8 212 mX8_operand 0 := ⟨by decide, mcX8_operand, ini_RX8, by decide, by decide +kernel, Or.inl (gw_at 1198 (by decide +kernel) (by decide +kernel))⟩
theorem ml_X8_215 : Ml RX8 215 mX8_either 0 := ⟨by decide, mcX8_either, ini_RX8, by decide, by decide +kernel, Or.inl (gw_at 1178 (by decide +kernel) (by decide +kernel))⟩
theorem ml_X8_218 : Ml RX8 218 mX8_figure 0 := ⟨by decide, mcX8_figure, ini_RX8, by decide, by decide +kernel, Or.inl (gw_at 1221 (by decide +kernel) (by decide +kernel))⟩
theorem ml_X8_221 : Ml RX8 221 mX8_product 0 := ⟨by decide, mcX8_product, ini_RX8, by decide, by decide +kernel, Or.inl (gw_at 1194 (by decide +kernel) (by decide +kernel))⟩
theorem ml_X8_224 : Ml RX8 224 mX8_sum 0 := ⟨by decide, mcX8_sum, ini_RX8, by decide, by decide +kernel, Or.inl (gw_at 1190 (by decide +kernel) (by decide +kernel))⟩
theorem ml_X8_227 : Ml RX8 227 mX8_compared 0 := ⟨by decide, mcX8_compared, ini_RX8, by decide, by decide +kernel, Or.inl (gw_at 1186 (by decide +kernel) (by decide +kernel))⟩
theorem ml_X8_230 : Ml RX8 230 mX8_both 0 := ⟨by decide, mcX8_both, ini_RX8, by decide, by decide +kernel, Or.inl (gw_at 1182 (by decide +kernel) (by decide +kernel))⟩
theorem ml_X8_233 : Ml RX8 233 mX8_line 0 := ⟨by decide, mcX8_line, ini_RX8, by decide, by decide +kernel, Or.inl (gw_at 1174 (by decide +kernel) (by decide +kernel))⟩
theorem ml_X8_236 : Ml RX8 236 mX8_twoOf 3 := ⟨by decide, mcX8_twoOf, ini_RX8, by decide, by decide +kernel, Or.inl (gw_at 1241 (by decide +kernel) (by decide +kernel))⟩
theorem ml_X8_239 : Ml RX8 239 mX8_worked 3 := ⟨by decide, mcX8_worked, ini_RX8, by decide, by decide +kernel, Or.inl (gw_at 1237 (by decide +kernel) (by decide +kernel))⟩
theorem ml_X8_242 : Ml RX8 242 mX8_readText 1 := ⟨by decide, mcX8_readText, ini_RX8, by decide, by decide +kernel, Or.inl (gw_at 1170 (by decide +kernel) (by decide +kernel))⟩
theorem ml_X8_249 : Ml RX8 249 mX8_flakesOf 1 := ⟨by decide, mcX8_flakesOf, ini_RX8, by decide, by decide +kernel, Or.inl (gw_at 1155 (by decide +kernel) (by decide +kernel))⟩
theorem ml_X8_252 : Ml RX8 252 mX8_bitsOf 1 := ⟨by decide, mcX8_bitsOf, ini_RX8, by decide, by decide +kernel, Or.inl (gw_at 1159 (by decide +kernel) (by decide +kernel))⟩
theorem ml_X8_255 : Ml RX8 255 mX8_gives 1 := ⟨by decide, mcX8_gives, ini_RX8, by decide, by decide +kernel, Or.inl (gw_at 1233 (by decide +kernel) (by decide +kernel))⟩
theorem ml_X8_258 : Ml RX8 258 mX8_takesBy 3 := ⟨by decide, mcX8_takesBy, ini_RX8, by decide, by decide +kernel, Or.inl (gw_at 1229 (by decide +kernel) (by decide +kernel))⟩
theorem ml_X8_261 : Ml RX8 261 mX8_lieOf 3 := ⟨by decide, mcX8_lieOf, ini_RX8, by decide, by decide +kernel, Or.inl (gw_at 1272 (by decide +kernel) (by decide +kernel))⟩
theorem ml_X8_267 : Ml RX8 267 mX8_seenAt 2 := ⟨by decide, mcX8_seenAt, ini_RX8, by decide, by decide +kernel, Or.inl (gw_at 1260 (by decide +kernel) (by decide +kernel))⟩
theorem ml_X8_276 : Ml RX8 276 mX8_sayOf 4 := ⟨by decide, mcX8_sayOf, ini_RX8, by decide, by decide +kernel, Or.inl (gw_at 1268 (by decide +kernel) (by decide +kernel))⟩
theorem ml_X8_280 : Ml RX8 280 mX8_isGone 1 := ⟨by decide, mcX8_isGone, ini_RX8, by decide, by decide +kernel, Or.inl (gw_at 1276 (by decide +kernel) (by decide +kernel))⟩
theorem ml_X8_283 : Ml RX8 283 mX8_rowFault 1 := ⟨by decide, mcX8_rowFault, ini_RX8, by decide, by decide +kernel, Or.inl (gw_at 1252 (by decide +kernel) (by decide +kernel))⟩
theorem ml_X8_286 : Ml RX8 286 mX8_layTrial 1 := ⟨by decide, mcX8_layTrial, ini_RX8, by decide, by decide +kernel, Or.inl (gw_at 1256 (by decide +kernel) (by decide +kernel))⟩
theorem ml_X8_290 : Ml RX8 290 mX8_goTrial 1 := ⟨by decide, mcX8_goTrial, ini_RX8, by decide, by decide +kernel, Or.inl (gw_at 1264 (by decide +kernel) (by decide +kernel))⟩
theorem ml_X8_293 : Ml RX8 293 mX8_layOr 1 := ⟨by decide, mcX8_layOr, ini_RX8, by decide, by decide +kernel, Or.inl (gw_at 1248 (by decide +kernel) (by decide +kernel))⟩
theorem ml_X8_296 : Ml RX8 296 mX8_believedNow 1 := ⟨by decide, mcX8_believedNow, ini_RX8, by decide, by decide +kernel, Or.inl (gw_at 1292 (by decide +kernel) (by decide +kernel))⟩
theorem ml_X8_299 : Ml RX8 299 mX8_honest 0 := ⟨by decide, mcX8_honest, ini_RX8, by decide, by decide +kernel, Or.inl (gw_at 1304 (by decide +kernel) (by decide +kernel))⟩
theorem ml_X8_302 : Ml RX8 302 mX8_isSpoken 1 := ⟨by decide, mcX8_isSpoken, ini_RX8, by decide, by decide +kernel, Or.inl (gw_at 1308 (by decide +kernel) (by decide +kernel))⟩
theorem ml_X8_305 : Ml RX8 305 mX8_toldBy 1 := ⟨by decide, mcX8_toldBy, ini_RX8, by decide, by decide +kernel, Or.inl (gw_at 1300 (by decide +kernel) (by decide +kernel))⟩
theorem ml_X8_308 : Ml RX8 308 mX8_areFact 1 := ⟨by decide, mcX8_areFact, ini_RX8, by decide, by decide +kernel, Or.inl (gw_at 1316 (by decide +kernel) (by decide +kernel))⟩
theorem ml_X8_311 : Ml RX8 311 mX8_isLesser 2 := ⟨by decide, mcX8_isLesser, ini_RX8, by decide, by decide +kernel, Or.inl (gw_at 1331 (by decide +kernel) (by decide +kernel))⟩
theorem ml_X8_314 : Ml RX8 314 mX8_isMirror 1 := ⟨by decide, mcX8_isMirror, ini_RX8, by decide, by decide +kernel, Or.inl (gw_at 1343 (by decide +kernel) (by decide +kernel))⟩
theorem ml_X8_317 : Ml RX8 317 mX8_isSeen 2 := ⟨by decide, mcX8_isSeen, ini_RX8, by decide, by decide +kernel, Or.inl (gw_at 1347 (by decide +kernel) (by decide +kernel))⟩
theorem ml_X8_333 : Ml RX8 333 mX8_ran 1 := ⟨by decide, mcX8_ran, ini_RX8, by decide, by decide +kernel, Or.inl (gw_at 1419 (by decide +kernel) (by decide +kernel))⟩
theorem ml_X8_336 : Ml RX8 336 mX8_plainBites 2 := ⟨by decide, mcX8_plainBites, ini_RX8, by decide, by decide +kernel, Or.inl (gw_at 1423 (by decide +kernel) (by decide +kernel))⟩
theorem ml_X8_339 : Ml RX8 339 mX8_isUnder 2 := ⟨by decide, mcX8_isUnder, ini_RX8, by decide, by decide +kernel, Or.inl (gw_at 1416 (by decide +kernel) (by decide +kernel))⟩
theorem ml_X8_342 : Ml RX8 342 mX8_mirrorBites 2 := ⟨by decide, mcX8_mirrorBites, ini_RX8, by decide, by decide +kernel, Or.inl (gw_at 1427 (by decide +kernel) (by decide +kernel))⟩
theorem ml_X8_345 : Ml RX8 345 mX8_biting 2 := ⟨by decide, mcX8_biting, ini_RX8, by decide, by decide +kernel, Or.inl (gw_at 1412 (by decide +kernel) (by decide +kernel))⟩
theorem ml_X8_348 : Ml RX8 348 mX8_plainLies 2 := ⟨by decide, mcX8_plainLies, ini_RX8, by decide, by decide +kernel, Or.inl (gw_at 1439 (by decide +kernel) (by decide +kernel))⟩
theorem ml_X8_351 : Ml RX8 351 mX8_stumpLies 2 := ⟨by decide, mcX8_stumpLies, ini_RX8, by decide, by decide +kernel, Or.inl (gw_at 1435 (by decide +kernel) (by decide +kernel))⟩
theorem ml_X8_354 : Ml RX8 354 mX8_grinning 2 := ⟨by decide, mcX8_grinning, ini_RX8, by decide, by decide +kernel, Or.inl (gw_at 1443 (by decide +kernel) (by decide +kernel))⟩
theorem ml_X8_357 : Ml RX8 357 mX8_plainGrins 2 := ⟨by decide, mcX8_plainGrins, ini_RX8, by decide, by decide +kernel, Or.inl (gw_at 1451 (by decide +kernel) (by decide +kernel))⟩
theorem ml_X8_360 : Ml RX8 360 mX8_capGrins 2 := ⟨by decide, mcX8_capGrins, ini_RX8, by decide, by decide +kernel, Or.inl (gw_at 1447 (by decide +kernel) (by decide +kernel))⟩
theorem ml_X8_363 : Ml RX8 363 mX8_lying 2 := ⟨by decide, mcX8_lying, ini_RX8, by decide, by decide +kernel, Or.inl (gw_at 1431 (by decide +kernel) (by decide +kernel))⟩
theorem ml_X8_366 : Ml RX8 366 mX8_plainTells 2 := ⟨by decide, mcX8_plainTells, ini_RX8, by decide, by decide +kernel, Or.inl (gw_at 1459 (by decide +kernel) (by decide +kernel))⟩
theorem ml_X8_369 : Ml RX8 369 mX8_isBody 1 := ⟨by decide, mcX8_isBody, ini_RX8, by decide, by decide +kernel, Or.inl (gw_at 1408 (by decide +kernel) (by decide +kernel))⟩
theorem ml_X8_372 : Ml RX8 372 mX8_telling 2 := ⟨by decide, mcX8_telling, ini_RX8, by decide, by decide +kernel, Or.inl (gw_at 1455 (by decide +kernel) (by decide +kernel))⟩
theorem ml_X8_375 : Ml RX8 375 mX8_whyNoPlace 2 := ⟨by decide, mcX8_whyNoPlace, ini_RX8, by decide, by decide +kernel, Or.inl (gw_at 1479 (by decide +kernel) (by decide +kernel))⟩
theorem ml_J0_335 : Ml RJ0 335 mJ0_coder_7d493 0 := ⟨by decide, mcJ0_coder_7d493, ini_RJ0, by decide, by decide +kernel, Or.inl (gw_at 507 (by decide +kernel) (by decide +kernel))⟩
theorem ml_J0_492 : Ml RJ0 492 mJ0_isLatin1_aae02 0 := ⟨by decide, mcJ0_isLatin1_aae02, ini_RJ0, by decide, by decide +kernel, Or.inl (gw_at 497 (by decide +kernel) (by decide +kernel))⟩
theorem ml_J0_505 : Ml RJ0 505 mJ0_length_8abf5 0 := ⟨by decide, mcJ0_length_8abf5, ini_RJ0, by decide, by decide +kernel, Or.inl (gw_at 503 (by decide +kernel) (by decide +kernel))⟩
theorem ml_J0_633 : Ml RJ0 633 mJ0_indexOf_7cf53 2 := ⟨by decide, mcJ0_indexOf_7cf53, ini_RJ0, by decide, by decide +kernel, Or.inl (gw_at 493 (by decide +kernel) (by decide +kernel))⟩
theorem ml_J0_637 : Ml RJ0 637 mJ1_indexOf_4cfef 4 := ⟨by decide, mcJ1_indexOf_4cfef, ini_RJ1, by decide, by decide +kernel, Or.inl (gw_at 511 (by decide +kernel) (by decide +kernel))⟩
theorem ml_J1_88 : Ml RJ1 88 mJ1_canEncode_9a6ad 1 := ⟨by decide, mcJ1_canEncode_9a6ad, ini_RJ1, by decide, by decide +kernel, Or.inl (gw_at 514 (by decide +kernel) (by decide +kernel))⟩
theorem ml_J1_95 : Ml RJ1 95 mJ1_indexOfChar_4cfef 4 := ⟨by decide, mcJ1_indexOfChar_4cfef, ini_RJ1, by decide, by decide +kernel, Or.inl (gw_at 523 (by decide +kernel) (by decide +kernel))⟩
theorem ac_n : Cond.native arraycopyName ∈ gwl := gw_at 420 (by decide +kernel) (by decide +kernel)
theorem ac_s : Cond.static arraycopyName ∈ gwl := gw_at 419 (by decide +kernel) (by decide +kernel)
theorem ac_i : Cond.initialized "java/lang/System" ∈ gwl := gw_at 96 (by decide +kernel) (by decide +kernel)
theorem ac_X7_267 : acW RX7 267 := ⟨gw_at 809 (by decide +kernel) (by decide +kernel), ac_n, ac_s, ac_i⟩
theorem ac_X1_32 : acW RX1 32 := ⟨gw_at 418 (by decide +kernel) (by decide +kernel), ac_n, ac_s, ac_i⟩
theorem ac_X5_28 : acW RX5 28 := ⟨gw_at 644 (by decide +kernel) (by decide +kernel), ac_n, ac_s, ac_i⟩
theorem mmin_s : Cond.static Lib.Math.min.name ∈ gwl := gw_at 521 (by decide +kernel) (by decide +kernel)
theorem mmin_c : Cond.code Lib.Math.min.name Lib.Math.min.code 2 (some .int) ∈ gwl := gw_at 522 (by decide +kernel) (by decide +kernel)
theorem mmin_X0_28 : Cond.methodLink RX0 28 Lib.Math.min.name ∈ gwl := gw_at 867 (by decide +kernel) (by decide +kernel)
theorem mmin_X3_45 : Cond.methodLink RX3 45 Lib.Math.min.name ∈ gwl := gw_at 616 (by decide +kernel) (by decide +kernel)
theorem mmin_X5_66 : Cond.methodLink RX5 66 Lib.Math.min.name ∈ gwl := gw_at 658 (by decide +kernel) (by decide +kernel)
theorem mmin_J1_38 : Cond.methodLink RJ1 38 Lib.Math.min.name ∈ gwl := gw_at 520 (by decide +kernel) (by decide +kernel)
theorem mmin_J2_183 : Cond.methodLink RJ2 183 Lib.Math.min.name ∈ gwl := gw_at 530 (by decide +kernel) (by decide +kernel)
theorem mmax_s : Cond.static Lib.Math.max.name ∈ gwl := gw_at 518 (by decide +kernel) (by decide +kernel)
theorem mmax_c : Cond.code Lib.Math.max.name Lib.Math.max.code 2 (some .int) ∈ gwl := gw_at 519 (by decide +kernel) (by decide +kernel)
theorem mmax_X3_51 : Cond.methodLink RX3 51 Lib.Math.max.name ∈ gwl := gw_at 617 (by decide +kernel) (by decide +kernel)
theorem mmax_J1_92 : Cond.methodLink RJ1 92 Lib.Math.max.name ∈ gwl := gw_at 517 (by decide +kernel) (by decide +kernel)
theorem mmax_J2_224 : Cond.methodLink RJ2 224 Lib.Math.max.name ∈ gwl := gw_at 529 (by decide +kernel) (by decide +kernel)
theorem math_i : Cond.initialized "java/lang/Math" ∈ gwl := gw_at 99 (by decide +kernel) (by decide +kernel)
theorem oi_i : Cond.instanceMethod objectInit ∈ gwl := gw_at 109 (by decide +kernel) (by decide +kernel)
theorem oi_c : Cond.code objectInit ⟨#[0xb1]⟩ 1 none ∈ gwl := gw_at 110 (by decide +kernel) (by decide +kernel)
theorem oi_X7_1 : Cond.methodLink RX7 1 objectInit ∈ gwl := gw_at 108 (by decide +kernel) (by decide +kernel)
theorem oi_X0_3 : Cond.methodLink RX0 3 objectInit ∈ gwl := gw_at 219 (by decide +kernel) (by decide +kernel)
theorem oi_X1_1 : Cond.methodLink RX1 1 objectInit ∈ gwl := gw_at 188 (by decide +kernel) (by decide +kernel)
theorem oi_X2_3 : Cond.methodLink RX2 3 objectInit ∈ gwl := gw_at 146 (by decide +kernel) (by decide +kernel)
theorem oi_X3_3 : Cond.methodLink RX3 3 objectInit ∈ gwl := gw_at 250 (by decide +kernel) (by decide +kernel)
theorem oi_X4_3 : Cond.methodLink RX4 3 objectInit ∈ gwl := gw_at 244 (by decide +kernel) (by decide +kernel)
theorem oi_X5_3 : Cond.methodLink RX5 3 objectInit ∈ gwl := gw_at 116 (by decide +kernel) (by decide +kernel)
theorem oi_X6_1 : Cond.methodLink RX6 1 objectInit ∈ gwl := gw_at 291 (by decide +kernel) (by decide +kernel)
theorem oi_X8_1 : Cond.methodLink RX8 1 objectInit ∈ gwl := gw_at 925 (by decide +kernel) (by decide +kernel)
theorem ct_X7_253 : Cond.constant RX7 253 1103515245 ∈ gwl := gw_at 774 (by decide +kernel) (by decide +kernel)
theorem ct_X8_320 : Cond.constant RX8 320 1103515245 ∈ gwl := gw_at 1367 (by decide +kernel) (by decide +kernel)
theorem ct_J6_265 : Cond.constant RJ6 265 1431655765 ∈ gwl := gw_at 407 (by decide +kernel) (by decide +kernel)
theorem ct_J6_266 : Cond.constant RJ6 266 858993459 ∈ gwl := gw_at 408 (by decide +kernel) (by decide +kernel)
theorem ct_J6_267 : Cond.constant RJ6 267 252645135 ∈ gwl := gw_at 409 (by decide +kernel) (by decide +kernel)
theorem cl_X7_330 : Cond.constantLong RX7 330 (-9223372036854775808) ∈ gwl := gw_at 895 (by decide +kernel) (by decide +kernel)
theorem cl_X2_44 : Cond.constantLong RX2 44 (10) ∈ gwl := gw_at 634 (by decide +kernel) (by decide +kernel)
theorem cl_X2_46 : Cond.constantLong RX2 46 (2) ∈ gwl := gw_at 635 (by decide +kernel) (by decide +kernel)
theorem cl_L_161 : Cond.constantLong RL 161 (4294967295) ∈ gwl := gw_at 1496 (by decide +kernel) (by decide +kernel)
theorem cl_X8_136 : Cond.constantLong RX8 136 (8) ∈ gwl := gw_at 1100 (by decide +kernel) (by decide +kernel)
theorem cl_X8_380 : Cond.constantLong RX8 380 (-9223372036854775808) ∈ gwl := gw_at 1487 (by decide +kernel) (by decide +kernel)
theorem ck_X7_7 : Cond.classLink RX7 7 RX5 ∈ gwl := gw_at 111 (by decide +kernel) (by decide +kernel)
theorem ck_X7_22 : Cond.classLink RX7 22 RX2 ∈ gwl := gw_at 141 (by decide +kernel) (by decide +kernel)
theorem ck_X7_29 : Cond.classLink RX7 29 RX1 ∈ gwl := gw_at 183 (by decide +kernel) (by decide +kernel)
theorem ck_X7_36 : Cond.classLink RX7 36 RX0 ∈ gwl := gw_at 214 (by decide +kernel) (by decide +kernel)
theorem ck_X7_43 : Cond.classLink RX7 43 RX6 ∈ gwl := gw_at 237 (by decide +kernel) (by decide +kernel)
theorem ck_X7_56 : Cond.classLink RX7 56 RX4 ∈ gwl := gw_at 239 (by decide +kernel) (by decide +kernel)
theorem ck_X7_63 : Cond.classLink RX7 63 RX3 ∈ gwl := gw_at 285 (by decide +kernel) (by decide +kernel)
theorem ck_X2_21 : Cond.classLink RX2 21 RX5 ∈ gwl := gw_at 147 (by decide +kernel) (by decide +kernel)
theorem ck_X4_15 : Cond.classLink RX4 15 RX3 ∈ gwl := gw_at 245 (by decide +kernel) (by decide +kernel)
theorem ck_L_7 : Cond.classLink RL 7 RX7 ∈ gwl := gw_at 103 (by decide +kernel) (by decide +kernel)
theorem ck_L_10 : Cond.classLink RL 10 RX8 ∈ gwl := gw_at 920 (by decide +kernel) (by decide +kernel)
theorem nst_0 : Cond.instantiable RX0 4 ∈ gwl := gw_at 215 (by decide +kernel) (by decide +kernel)
theorem nst_1 : Cond.instantiable RX1 6 ∈ gwl := gw_at 184 (by decide +kernel) (by decide +kernel)
theorem nst_2 : Cond.instantiable RX2 9 ∈ gwl := gw_at 142 (by decide +kernel) (by decide +kernel)
theorem nst_3 : Cond.instantiable RX3 6 ∈ gwl := gw_at 246 (by decide +kernel) (by decide +kernel)
theorem nst_4 : Cond.instantiable RX4 4 ∈ gwl := gw_at 240 (by decide +kernel) (by decide +kernel)
theorem nst_5 : Cond.instantiable RX5 5 ∈ gwl := gw_at 112 (by decide +kernel) (by decide +kernel)
theorem nst_6 : Cond.instantiable RX6 4 ∈ gwl := gw_at 287 (by decide +kernel) (by decide +kernel)
theorem nst_7 : Cond.instantiable RX7 13 ∈ gwl := gw_at 104 (by decide +kernel) (by decide +kernel)
theorem nst_8 : Cond.instantiable RX8 53 ∈ gwl := gw_at 921 (by decide +kernel) (by decide +kernel)
theorem arc_int : Cond.arrayClass .int ∈ gwl := gw_at 140 (by decide +kernel) (by decide +kernel)
theorem arc_byte : Cond.arrayClass .byte ∈ gwl := gw_at 587 (by decide +kernel) (by decide +kernel)
theorem arc_short : Cond.arrayClass .short ∈ gwl := gw_at 1085 (by decide +kernel) (by decide +kernel)
theorem arc_long : Cond.arrayClass .long ∈ gwl := gw_at 311 (by decide +kernel) (by decide +kernel)
theorem sf_X0_22 : Cond.fieldLink RX0 22 RX0 "ABOVE" "[I" ∈ gwl := gw_at 849 (by decide +kernel) (by decide +kernel)
theorem sf_X0_42 : Cond.fieldLink RX0 42 RX0 "OWN" "[I" ∈ gwl := gw_at 847 (by decide +kernel) (by decide +kernel)
theorem sf_J0_9 : Cond.fieldLink RJ0 9 "java/lang/String" "value" "[B" ∈ gwl := gw_at 1498 (by decide +kernel) (by decide +kernel)
theorem sf_J0_15 : Cond.fieldLink RJ0 15 "java/lang/String" "coder" "B" ∈ gwl := gw_at 1497 (by decide +kernel) (by decide +kernel)
theorem sf_J0_38 : Cond.fieldLink RJ0 38 "java/lang/String" "COMPACT_STRINGS" "Z" ∈ gwl := gw_at 501 (by decide +kernel) (by decide +kernel)
end
section
section T2
variable {g : Gt} {d : Nat} {M : Mt} {pc : Nat} {L : List (Option Value)} {S : List Value} {Q : Option Value → Tt → Prop} {t : Tt}
def imin (x y : Int32) : Int32 := if y < x then y else x
def imax (x y : Int32) : Int32 := if x < y then y else x
theorem t_min {idx : Nat} {x y : Int32} (hd : decode (mcc M) pc = .ok (.invokestatic idx, 3)) (hw : Cond.methodLink (my M).cls idx Lib.Math.min.name ∈ gwl) (hc : (S.map fun v => v.category).sum ≤ 8)
    (k : Rt g (d + 1) M (pc + 3) L (.int (imin x y) :: S) t Q) : Rt g (d + 1) M pc L (.int y :: .int x :: S) t Q := s_min hd hw mmin_s math_i mmin_c hc (by omega) k
theorem t_max {idx : Nat} {x y : Int32} (hd : decode (mcc M) pc = .ok (.invokestatic idx, 3)) (hw : Cond.methodLink (my M).cls idx Lib.Math.max.name ∈ gwl) (hc : (S.map fun v => v.category).sum ≤ 8)
    (k : Rt g (d + 1) M (pc + 3) L (.int (imax x y) :: S) t Q) : Rt g (d + 1) M pc L (.int y :: .int x :: S) t Q := s_max hd hw mmax_s math_i mmax_c hc (by omega) k
theorem t_nmI {x : Int32} (k : ∀ y : Int32, y = x → Rt g d M pc L (.int y :: S) t Q) : Rt g d M pc L (.int x :: S) t Q := k x rfl
theorem t_nmJ {x : Int64} (k : ∀ y : Int64, y = x → Rt g d M pc L (.long y :: S) t Q) : Rt g d M pc L (.long x :: S) t Q := k x rfl
def LC (a b : List (Option Value)) : Prop := ∀ (i : Nat) (v : Value), a[i]? = some (some v) → b[i]? = some (some v)
theorem lc_nil {b : List (Option Value)} : LC [] b := fun i v h => by simp at h
theorem lc_none {a b : List (Option Value)} {y : Option Value} (h : LC a b) : LC (none :: a) (y :: b) := by
  intro i v hi
  match i, hi with
  | 0, hi => simp at hi
  | i + 1, hi => simpa using h i v (by simpa using hi)
theorem lc_some {a b : List (Option Value)} {x : Option Value} (h : LC a b) : LC (x :: a) (x :: b) := by
  intro i v hi
  match i, hi with
  | 0, hi => simpa using hi
  | i + 1, hi => simpa using h i v (by simpa using hi)
theorem t_cmp_lt {x y : Int64} {off : Int} {tgt : Nat} (h1 : decode (mcc M) pc = .ok (.lcmp, 1)) (h2 : decode (mcc M) (pc + 1) = .ok (.ifCond .lt off, 3)) (ht : ((pc + 1 : Nat) : Int) + off = (tgt : Int)) (kt : x < y → Rt g d M tgt L S t Q) (kf : ¬ x < y → Rt g d M (pc + 4) L S t Q) : Rt g d M pc L (.long y :: .long x :: S) t Q :=
  s_lcmp h1 (s_if_lt h2 ht (fun c => kt ((lg_cmp_lt x y).mp c)) (fun c => kf (fun q => c ((lg_cmp_lt x y).mpr q))))
theorem t_cmp_ge {x y : Int64} {off : Int} {tgt : Nat} (h1 : decode (mcc M) pc = .ok (.lcmp, 1)) (h2 : decode (mcc M) (pc + 1) = .ok (.ifCond .ge off, 3)) (ht : ((pc + 1 : Nat) : Int) + off = (tgt : Int)) (kt : y ≤ x → Rt g d M tgt L S t Q) (kf : ¬ y ≤ x → Rt g d M (pc + 4) L S t Q) : Rt g d M pc L (.long y :: .long x :: S) t Q :=
  s_lcmp h1 (s_if_ge h2 ht (fun c => kt ((lg_cmp_ge x y).mp c)) (fun c => kf (fun q => c ((lg_cmp_ge x y).mpr q))))
theorem t_cmp_gt {x y : Int64} {off : Int} {tgt : Nat} (h1 : decode (mcc M) pc = .ok (.lcmp, 1)) (h2 : decode (mcc M) (pc + 1) = .ok (.ifCond .gt off, 3)) (ht : ((pc + 1 : Nat) : Int) + off = (tgt : Int)) (kt : y < x → Rt g d M tgt L S t Q) (kf : ¬ y < x → Rt g d M (pc + 4) L S t Q) : Rt g d M pc L (.long y :: .long x :: S) t Q :=
  s_lcmp h1 (s_if_gt h2 ht (fun c => kt ((lg_cmp_gt x y).mp c)) (fun c => kf (fun q => c ((lg_cmp_gt x y).mpr q))))
theorem t_cmp_le {x y : Int64} {off : Int} {tgt : Nat} (h1 : decode (mcc M) pc = .ok (.lcmp, 1)) (h2 : decode (mcc M) (pc + 1) = .ok (.ifCond .le off, 3)) (ht : ((pc + 1 : Nat) : Int) + off = (tgt : Int)) (kt : x ≤ y → Rt g d M tgt L S t Q) (kf : ¬ x ≤ y → Rt g d M (pc + 4) L S t Q) : Rt g d M pc L (.long y :: .long x :: S) t Q :=
  s_lcmp h1 (s_if_le h2 ht (fun c => kt ((lg_cmp_le x y).mp c)) (fun c => kf (fun q => c ((lg_cmp_le x y).mpr q))))
theorem t_cmp_eq {x y : Int64} {off : Int} {tgt : Nat} (h1 : decode (mcc M) pc = .ok (.lcmp, 1)) (h2 : decode (mcc M) (pc + 1) = .ok (.ifCond .eq off, 3)) (ht : ((pc + 1 : Nat) : Int) + off = (tgt : Int)) (kt : x = y → Rt g d M tgt L S t Q) (kf : ¬ x = y → Rt g d M (pc + 4) L S t Q) : Rt g d M pc L (.long y :: .long x :: S) t Q :=
  s_lcmp h1 (s_if_eq h2 ht (fun c => kt ((lg_cmp_eq x y).mp c)) (fun c => kf (fun q => c ((lg_cmp_eq x y).mpr q))))
theorem t_cmp_ne {x y : Int64} {off : Int} {tgt : Nat} (h1 : decode (mcc M) pc = .ok (.lcmp, 1)) (h2 : decode (mcc M) (pc + 1) = .ok (.ifCond .ne off, 3)) (ht : ((pc + 1 : Nat) : Int) + off = (tgt : Int)) (kt : ¬ x = y → Rt g d M tgt L S t Q) (kf : x = y → Rt g d M (pc + 4) L S t Q) : Rt g d M pc L (.long y :: .long x :: S) t Q :=
  s_lcmp h1 (s_if_ne h2 ht (fun c => kt (fun q => c ((lg_cmp_eq x y).mpr q))) (fun c => kf ((lg_cmp_eq x y).mp c)))
/-- a call of the names' text -/
theorem t_callStr {M' : Mt} {idx k : Nat} {As rest S' : List Value} {Lc : List (Option Value)} {Qc : Option Value → Tt → Prop} (hd : decode (mcc M) pc = .ok (.invokevirtual idx, 3)) (hm : Ml (my M).cls idx M' As.length) (hin : Cond.instanceMethod (my M') ∈ gwl) (hsel : Cond.selects (my M').cls (my M') (my M') ∈ gwl) (hc : (my M').cls = "java/lang/String")
    (hS : S' = As.reverse ++ .ref 1003 :: rest) (hw : (rest.map fun v => v.category).sum ≤ 8) (hla : (lg_sl ((Value.ref 1003 :: As).map (cv g))).length ≤ mml M') (hL : eL (.ref 1003 :: As) ++ List.replicate k none = Lc)
    (hR : Rt g d M' 0 Lc [] t Qc) (kk : ∀ rv t', Qc rv t' → Rt g (d + 1) M (pc + 3) L (rv.toList ++ rest) t' Q) : Rt g (d + 1) M pc L S' t Q := by
  subst hL
  subst hS
  intro p e R s m args below meth c H locs cells slots Q0 ls C E hl hr hk0
  obtain ⟨hp, hcode, hini, hml, hde, hlk⟩ := hm
  have hM := met_of hR hp (Nat.le_refl _) hla
  obtain ⟨r1, r2, r3, r4, r5⟩ := hr
  have b1 : cells + (93 - 93) ≤ R.cells := by omega
  have b2 : slots + slb 93 93 ≤ R.slots := r4
  have hfr : (rmM d 93 93).frames + 1 ≤ R.frames ∧ 8 + (mml M' + 11) + (rmM d 93 93).locals ≤ R.locals := ⟨r1, by show 8 + (mml M' + 11) + d * 64 ≤ R.locals; omega⟩
  have hrecv := vk_recv (i := 0) C.2.2.2.2.2.2.2.1.2.2.2.2.2.2.2.1 (by omega) E.2.1
  have hpre : PreV s H (my M').cls (gs g 3) (va_Pc ((Value.ref 1003 :: As).map (cv g)) (CX g 93 (up t))) (As.map (cv g)) :=
    ⟨blindCX, by rw [hc]; exact hrecv, fun U hU hW => ⟨by rw [cvS (i := 3)], CX.at C E hU hW⟩⟩
  have est : ((As.reverse ++ .ref 1003 :: rest).map (cv g)) = (As.map (cv g)).reverse ++ .ref (gs g 3) :: rest.map (cv g) := by rw [List.map_append, List.map_reverse, cvS (i := 3)]
  have hwr : 2 * (F0 m pc ls ((As.reverse ++ .ref 1003 :: rest).map (cv g))).monitorRoom + ((rest.map (cv g)).map fun v => v.category).sum ≤ 8 := by rw [rest_cat]; exact lv_room hw
  have run : va_Run p g.1 e R s m args below meth c H locs cells slots (93 - 93) (slb 93 93) (F0 m pc ls ((As.reverse ++ .ref 1003 :: rest).map (cv g))) (rest.map (cv g)) (Qm g 93 (QT Qc) (Value.ref (gs g 3) :: As.map (cv g)).toArray) (AA g) := by
    rcases hlk with h1 | ⟨host, h1⟩
    · exact va_runV (As := As.map (cv g)) (C := (my M').cls) ⟨C.1, C.2.1, C.2.2.1, C.2.2.2.1, C.2.2.2.2.1⟩ hM ⟨callB_of As.length C.2.2.2.2.1 (wsM_in hcode) rfl rfl rfl (C.2.2.2.2.1 _ hini) (C.2.2.2.2.1 _ h1) hde hfr, C.2.2.2.2.1 _ hin, C.2.2.2.2.1 _ hsel⟩ hpre rfl (by simp) hl.1 est hwr hd ⟨b1, b2⟩
    · exact va_runVN (As := As.map (cv g)) (C := (my M').cls) ⟨C.1, C.2.1, C.2.2.1, C.2.2.2.1, C.2.2.2.2.1⟩ hM ⟨va_cnB As.length C.2.2.2.2.1 (wsM_in hcode) rfl rfl rfl (C.2.2.2.2.2.2.2.1.2.2.2.2.1 _ h1) (C.2.2.2.2.1 _ hini) hde hfr, C.2.2.2.2.1 _ hin, C.2.2.2.2.1 _ hsel⟩ hpre rfl (by simp) hl.1 est hwr hd ⟨b1, b2⟩
  refine call_g run E.2.1 (fun rv st' tt H1 locs1 ht hvm hQ hCX hS1 => ?_)
  rw [aft]
  obtain ⟨t', rfl, hQ⟩ := hQ
  exact kk rv t' hQ p e R s m args below meth c H1 locs1 _ _ Q0 ls C ⟨by rw [← ht]; exact hCX.1, hS1, by rw [← ht]; exact hCX.2.1⟩ hl ⟨r1, r2, by omega, by have : slb 93 93 = 0 := Nat.sub_self _; omega, Nat.le_refl _⟩ (fun rv' st'' H'' locs'' cells'' slots'' pc'' ls'' hQ'' hE'' hc'' hs'' hrt'' => hk0 rv' st'' H'' locs'' cells'' slots'' pc'' ls'' hQ'' hE'' (by omega) (by have : slb 93 93 = 0 := Nat.sub_self _; omega) hrt'')
end T2
end
section
theorem dX2_summon_0 : decode cX2_summon 0 = .ok (.aload_n 0, 1) := by decide +kernel
theorem dX2_summon_1 : decode cX2_summon 1 = .ok (.iconst 0, 1) := by decide +kernel
theorem dX2_summon_2 : decode cX2_summon 2 = .ok (.putfield 31, 3) := by decide +kernel
theorem dX2_summon_5 : decode cX2_summon 5 = .ok (.iconst 0, 1) := by decide +kernel
theorem dX2_summon_6 : decode cX2_summon 6 = .ok (.istore_n 3, 1) := by decide +kernel
theorem dX2_summon_7 : decode cX2_summon 7 = .ok (.iload_n 3, 1) := by decide +kernel
theorem dX2_summon_8 : decode cX2_summon 8 = .ok (.iconst 4, 1) := by decide +kernel
theorem dX2_summon_9 : decode cX2_summon 9 = .ok (.iadd, 1) := by decide +kernel
theorem dX2_summon_10 : decode cX2_summon 10 = .ok (.aload_n 1, 1) := by decide +kernel
theorem dX2_summon_11 : decode cX2_summon 11 = .ok (.getfield 35, 3) := by decide +kernel
theorem dX2_summon_14 : decode cX2_summon 14 = .ok (.if_icmp .gt 195, 3) := by decide +kernel
theorem dX2_summon_17 : decode cX2_summon 17 = .ok (.aload_n 0, 1) := by decide +kernel
theorem dX2_summon_18 : decode cX2_summon 18 = .ok (.getfield 31, 3) := by decide +kernel
theorem dX2_summon_21 : decode cX2_summon 21 = .ok (.bipush 15, 2) := by decide +kernel
theorem dX2_summon_23 : decode cX2_summon 23 = .ok (.if_icmp .ge 186, 3) := by decide +kernel
theorem dX2_summon_26 : decode cX2_summon 26 = .ok (.aload_n 1, 1) := by decide +kernel
theorem dX2_summon_27 : decode cX2_summon 27 = .ok (.getfield 40, 3) := by decide +kernel
theorem dX2_summon_30 : decode cX2_summon 30 = .ok (.iload_n 3, 1) := by decide +kernel
theorem dX2_summon_31 : decode cX2_summon 31 = .ok (.laload, 1) := by decide +kernel
theorem dX2_summon_32 : decode cX2_summon 32 = .ok (.lstore 4, 2) := by decide +kernel
theorem dX2_summon_34 : decode cX2_summon 34 = .ok (.aload_n 1, 1) := by decide +kernel
theorem dX2_summon_35 : decode cX2_summon 35 = .ok (.getfield 40, 3) := by decide +kernel
theorem dX2_summon_38 : decode cX2_summon 38 = .ok (.iload_n 3, 1) := by decide +kernel
theorem dX2_summon_39 : decode cX2_summon 39 = .ok (.iconst 1, 1) := by decide +kernel
theorem dX2_summon_40 : decode cX2_summon 40 = .ok (.iadd, 1) := by decide +kernel
theorem dX2_summon_41 : decode cX2_summon 41 = .ok (.laload, 1) := by decide +kernel
theorem dX2_summon_42 : decode cX2_summon 42 = .ok (.lstore 6, 2) := by decide +kernel
theorem dX2_summon_44 : decode cX2_summon 44 = .ok (.aload_n 1, 1) := by decide +kernel
theorem dX2_summon_45 : decode cX2_summon 45 = .ok (.getfield 40, 3) := by decide +kernel
theorem dX2_summon_48 : decode cX2_summon 48 = .ok (.iload_n 3, 1) := by decide +kernel
theorem dX2_summon_49 : decode cX2_summon 49 = .ok (.iconst 2, 1) := by decide +kernel
theorem dX2_summon_50 : decode cX2_summon 50 = .ok (.iadd, 1) := by decide +kernel
theorem dX2_summon_51 : decode cX2_summon 51 = .ok (.laload, 1) := by decide +kernel
theorem dX2_summon_52 : decode cX2_summon 52 = .ok (.lstore 8, 2) := by decide +kernel
theorem dX2_summon_54 : decode cX2_summon 54 = .ok (.aload_n 1, 1) := by decide +kernel
theorem dX2_summon_55 : decode cX2_summon 55 = .ok (.getfield 40, 3) := by decide +kernel
theorem dX2_summon_58 : decode cX2_summon 58 = .ok (.iload_n 3, 1) := by decide +kernel
theorem dX2_summon_59 : decode cX2_summon 59 = .ok (.iconst 3, 1) := by decide +kernel
theorem dX2_summon_60 : decode cX2_summon 60 = .ok (.iadd, 1) := by decide +kernel
theorem dX2_summon_61 : decode cX2_summon 61 = .ok (.laload, 1) := by decide +kernel
theorem dX2_summon_62 : decode cX2_summon 62 = .ok (.lstore 10, 2) := by decide +kernel
theorem dX2_summon_64 : decode cX2_summon 64 = .ok (.lload 4, 2) := by decide +kernel
theorem dX2_summon_66 : decode cX2_summon 66 = .ok (.lconst 0, 1) := by decide +kernel
theorem dX2_summon_67 : decode cX2_summon 67 = .ok (.lcmp, 1) := by decide +kernel
theorem dX2_summon_68 : decode cX2_summon 68 = .ok (.ifCond .lt 15, 3) := by decide +kernel
theorem dX2_summon_71 : decode cX2_summon 71 = .ok (.lload 4, 2) := by decide +kernel
theorem dX2_summon_73 : decode cX2_summon 73 = .ok (.iload_n 2, 1) := by decide +kernel
theorem dX2_summon_74 : decode cX2_summon 74 = .ok (.i2l, 1) := by decide +kernel
theorem dX2_summon_75 : decode cX2_summon 75 = .ok (.lcmp, 1) := by decide +kernel
theorem dX2_summon_76 : decode cX2_summon 76 = .ok (.ifCond .ge 7, 3) := by decide +kernel
theorem dX2_summon_79 : decode cX2_summon 79 = .ok (.iconst 1, 1) := by decide +kernel
theorem dX2_summon_80 : decode cX2_summon 80 = .ok (.goto 4, 3) := by decide +kernel
theorem dX2_summon_83 : decode cX2_summon 83 = .ok (.iconst 0, 1) := by decide +kernel
theorem dX2_summon_84 : decode cX2_summon 84 = .ok (.istore 12, 2) := by decide +kernel
theorem dX2_summon_86 : decode cX2_summon 86 = .ok (.lload 6, 2) := by decide +kernel
theorem dX2_summon_88 : decode cX2_summon 88 = .ok (.lconst 0, 1) := by decide +kernel
theorem dX2_summon_89 : decode cX2_summon 89 = .ok (.lcmp, 1) := by decide +kernel
theorem dX2_summon_90 : decode cX2_summon 90 = .ok (.ifCond .lt 30, 3) := by decide +kernel
theorem dX2_summon_93 : decode cX2_summon 93 = .ok (.lload 6, 2) := by decide +kernel
theorem dX2_summon_95 : decode cX2_summon 95 = .ok (.ldc2_w 44, 3) := by decide +kernel
theorem dX2_summon_98 : decode cX2_summon 98 = .ok (.lcmp, 1) := by decide +kernel
theorem dX2_summon_99 : decode cX2_summon 99 = .ok (.ifCond .ge 21, 3) := by decide +kernel
theorem dX2_summon_102 : decode cX2_summon 102 = .ok (.lload 8, 2) := by decide +kernel
theorem dX2_summon_104 : decode cX2_summon 104 = .ok (.lconst 0, 1) := by decide +kernel
theorem dX2_summon_105 : decode cX2_summon 105 = .ok (.lcmp, 1) := by decide +kernel
theorem dX2_summon_106 : decode cX2_summon 106 = .ok (.ifCond .lt 14, 3) := by decide +kernel
theorem dX2_summon_109 : decode cX2_summon 109 = .ok (.lload 8, 2) := by decide +kernel
theorem dX2_summon_111 : decode cX2_summon 111 = .ok (.lconst 1, 1) := by decide +kernel
theorem dX2_summon_112 : decode cX2_summon 112 = .ok (.lcmp, 1) := by decide +kernel
theorem dX2_summon_113 : decode cX2_summon 113 = .ok (.ifCond .gt 7, 3) := by decide +kernel
theorem dX2_summon_116 : decode cX2_summon 116 = .ok (.iconst 1, 1) := by decide +kernel
theorem dX2_summon_117 : decode cX2_summon 117 = .ok (.goto 4, 3) := by decide +kernel
theorem dX2_summon_120 : decode cX2_summon 120 = .ok (.iconst 0, 1) := by decide +kernel
theorem dX2_summon_121 : decode cX2_summon 121 = .ok (.istore 13, 2) := by decide +kernel
theorem dX2_summon_123 : decode cX2_summon 123 = .ok (.iload 12, 2) := by decide +kernel
theorem dX2_summon_125 : decode cX2_summon 125 = .ok (.ifCond .eq 24, 3) := by decide +kernel
theorem dX2_summon_128 : decode cX2_summon 128 = .ok (.iload 13, 2) := by decide +kernel
theorem dX2_summon_130 : decode cX2_summon 130 = .ok (.ifCond .eq 19, 3) := by decide +kernel
theorem dX2_summon_133 : decode cX2_summon 133 = .ok (.lload 10, 2) := by decide +kernel
theorem dX2_summon_135 : decode cX2_summon 135 = .ok (.lconst 0, 1) := by decide +kernel
theorem dX2_summon_136 : decode cX2_summon 136 = .ok (.lcmp, 1) := by decide +kernel
theorem dX2_summon_137 : decode cX2_summon 137 = .ok (.ifCond .lt 12, 3) := by decide +kernel
theorem dX2_summon_140 : decode cX2_summon 140 = .ok (.lload 10, 2) := by decide +kernel
theorem dX2_summon_142 : decode cX2_summon 142 = .ok (.ldc2_w 44, 3) := by decide +kernel
theorem dX2_summon_145 : decode cX2_summon 145 = .ok (.lcmp, 1) := by decide +kernel
theorem dX2_summon_146 : decode cX2_summon 146 = .ok (.ifCond .lt 4, 3) := by decide +kernel
theorem dX2_summon_149 : decode cX2_summon 149 = .ok (.return_, 1) := by decide +kernel
theorem dX2_summon_150 : decode cX2_summon 150 = .ok (.aload_n 0, 1) := by decide +kernel
theorem dX2_summon_151 : decode cX2_summon 151 = .ok (.getfield 11, 3) := by decide +kernel
theorem dX2_summon_154 : decode cX2_summon 154 = .ok (.aload_n 0, 1) := by decide +kernel
theorem dX2_summon_155 : decode cX2_summon 155 = .ok (.getfield 31, 3) := by decide +kernel
theorem dX2_summon_158 : decode cX2_summon 158 = .ok (.lload 4, 2) := by decide +kernel
theorem dX2_summon_160 : decode cX2_summon 160 = .ok (.l2i, 1) := by decide +kernel
theorem dX2_summon_161 : decode cX2_summon 161 = .ok (.iastore, 1) := by decide +kernel
theorem dX2_summon_162 : decode cX2_summon 162 = .ok (.aload_n 0, 1) := by decide +kernel
theorem dX2_summon_163 : decode cX2_summon 163 = .ok (.getfield 15, 3) := by decide +kernel
theorem dX2_summon_166 : decode cX2_summon 166 = .ok (.aload_n 0, 1) := by decide +kernel
theorem dX2_summon_167 : decode cX2_summon 167 = .ok (.getfield 31, 3) := by decide +kernel
theorem dX2_summon_170 : decode cX2_summon 170 = .ok (.lload 6, 2) := by decide +kernel
theorem dX2_summon_172 : decode cX2_summon 172 = .ok (.ldc2_w 46, 3) := by decide +kernel
theorem dX2_summon_175 : decode cX2_summon 175 = .ok (.lmul, 1) := by decide +kernel
theorem dX2_summon_176 : decode cX2_summon 176 = .ok (.lload 8, 2) := by decide +kernel
theorem dX2_summon_178 : decode cX2_summon 178 = .ok (.ladd, 1) := by decide +kernel
theorem dX2_summon_179 : decode cX2_summon 179 = .ok (.l2i, 1) := by decide +kernel
theorem dX2_summon_180 : decode cX2_summon 180 = .ok (.iastore, 1) := by decide +kernel
theorem dX2_summon_181 : decode cX2_summon 181 = .ok (.aload_n 0, 1) := by decide +kernel
theorem dX2_summon_182 : decode cX2_summon 182 = .ok (.getfield 18, 3) := by decide +kernel
theorem dX2_summon_185 : decode cX2_summon 185 = .ok (.aload_n 0, 1) := by decide +kernel
theorem dX2_summon_186 : decode cX2_summon 186 = .ok (.getfield 31, 3) := by decide +kernel
theorem dX2_summon_189 : decode cX2_summon 189 = .ok (.lload 10, 2) := by decide +kernel
theorem dX2_summon_191 : decode cX2_summon 191 = .ok (.l2i, 1) := by decide +kernel
theorem dX2_summon_192 : decode cX2_summon 192 = .ok (.iastore, 1) := by decide +kernel
theorem dX2_summon_193 : decode cX2_summon 193 = .ok (.aload_n 0, 1) := by decide +kernel
theorem dX2_summon_194 : decode cX2_summon 194 = .ok (.dup, 1) := by decide +kernel
theorem dX2_summon_195 : decode cX2_summon 195 = .ok (.getfield 31, 3) := by decide +kernel
theorem dX2_summon_198 : decode cX2_summon 198 = .ok (.iconst 1, 1) := by decide +kernel
theorem dX2_summon_199 : decode cX2_summon 199 = .ok (.iadd, 1) := by decide +kernel
theorem dX2_summon_200 : decode cX2_summon 200 = .ok (.putfield 31, 3) := by decide +kernel
theorem dX2_summon_203 : decode cX2_summon 203 = .ok (.iinc 3 4, 3) := by decide +kernel
theorem dX2_summon_206 : decode cX2_summon 206 = .ok (.goto (-199), 3) := by decide +kernel
theorem dX2_summon_209 : decode cX2_summon 209 = .ok (.return_, 1) := by decide +kernel
theorem dX3_together_0 : decode cX3_together 0 = .ok (.iload_n 0, 1) := by decide +kernel
theorem dX3_together_1 : decode cX3_together 1 = .ok (.lookupswitch 188 #[(37, 176), (38, 105), (42, 160), (43, 152), (45, 156), (47, 164), (60, 119), (61, 130), (62, 141), (124, 91)], 91) := by decide +kernel
theorem dX3_together_92 : decode cX3_together 92 = .ok (.iload_n 1, 1) := by decide +kernel
theorem dX3_together_93 : decode cX3_together 93 = .ok (.ifCond .ne 7, 3) := by decide +kernel
theorem dX3_together_96 : decode cX3_together 96 = .ok (.iload_n 2, 1) := by decide +kernel
theorem dX3_together_97 : decode cX3_together 97 = .ok (.ifCond .eq 7, 3) := by decide +kernel
theorem dX3_together_100 : decode cX3_together 100 = .ok (.iconst 1, 1) := by decide +kernel
theorem dX3_together_101 : decode cX3_together 101 = .ok (.goto 4, 3) := by decide +kernel
theorem dX3_together_104 : decode cX3_together 104 = .ok (.iconst 0, 1) := by decide +kernel
theorem dX3_together_105 : decode cX3_together 105 = .ok (.ireturn, 1) := by decide +kernel
theorem dX3_together_106 : decode cX3_together 106 = .ok (.iload_n 1, 1) := by decide +kernel
theorem dX3_together_107 : decode cX3_together 107 = .ok (.ifCond .eq 11, 3) := by decide +kernel
theorem dX3_together_110 : decode cX3_together 110 = .ok (.iload_n 2, 1) := by decide +kernel
theorem dX3_together_111 : decode cX3_together 111 = .ok (.ifCond .eq 7, 3) := by decide +kernel
theorem dX3_together_114 : decode cX3_together 114 = .ok (.iconst 1, 1) := by decide +kernel
theorem dX3_together_115 : decode cX3_together 115 = .ok (.goto 4, 3) := by decide +kernel
theorem dX3_together_118 : decode cX3_together 118 = .ok (.iconst 0, 1) := by decide +kernel
theorem dX3_together_119 : decode cX3_together 119 = .ok (.ireturn, 1) := by decide +kernel
theorem dX3_together_120 : decode cX3_together 120 = .ok (.iload_n 1, 1) := by decide +kernel
theorem dX3_together_121 : decode cX3_together 121 = .ok (.iload_n 2, 1) := by decide +kernel
theorem dX3_together_122 : decode cX3_together 122 = .ok (.if_icmp .ge 7, 3) := by decide +kernel
theorem dX3_together_125 : decode cX3_together 125 = .ok (.iconst 1, 1) := by decide +kernel
theorem dX3_together_126 : decode cX3_together 126 = .ok (.goto 4, 3) := by decide +kernel
theorem dX3_together_129 : decode cX3_together 129 = .ok (.iconst 0, 1) := by decide +kernel
theorem dX3_together_130 : decode cX3_together 130 = .ok (.ireturn, 1) := by decide +kernel
theorem dX3_together_131 : decode cX3_together 131 = .ok (.iload_n 1, 1) := by decide +kernel
theorem dX3_together_132 : decode cX3_together 132 = .ok (.iload_n 2, 1) := by decide +kernel
theorem dX3_together_133 : decode cX3_together 133 = .ok (.if_icmp .ne 7, 3) := by decide +kernel
theorem dX3_together_136 : decode cX3_together 136 = .ok (.iconst 1, 1) := by decide +kernel
theorem dX3_together_137 : decode cX3_together 137 = .ok (.goto 4, 3) := by decide +kernel
theorem dX3_together_140 : decode cX3_together 140 = .ok (.iconst 0, 1) := by decide +kernel
theorem dX3_together_141 : decode cX3_together 141 = .ok (.ireturn, 1) := by decide +kernel
theorem dX3_together_142 : decode cX3_together 142 = .ok (.iload_n 1, 1) := by decide +kernel
theorem dX3_together_143 : decode cX3_together 143 = .ok (.iload_n 2, 1) := by decide +kernel
theorem dX3_together_144 : decode cX3_together 144 = .ok (.if_icmp .le 7, 3) := by decide +kernel
theorem dX3_together_147 : decode cX3_together 147 = .ok (.iconst 1, 1) := by decide +kernel
theorem dX3_together_148 : decode cX3_together 148 = .ok (.goto 4, 3) := by decide +kernel
theorem dX3_together_151 : decode cX3_together 151 = .ok (.iconst 0, 1) := by decide +kernel
theorem dX3_together_152 : decode cX3_together 152 = .ok (.ireturn, 1) := by decide +kernel
theorem dX3_together_153 : decode cX3_together 153 = .ok (.iload_n 1, 1) := by decide +kernel
theorem dX3_together_154 : decode cX3_together 154 = .ok (.iload_n 2, 1) := by decide +kernel
theorem dX3_together_155 : decode cX3_together 155 = .ok (.iadd, 1) := by decide +kernel
theorem dX3_together_156 : decode cX3_together 156 = .ok (.ireturn, 1) := by decide +kernel
theorem dX3_together_157 : decode cX3_together 157 = .ok (.iload_n 1, 1) := by decide +kernel
theorem dX3_together_158 : decode cX3_together 158 = .ok (.iload_n 2, 1) := by decide +kernel
theorem dX3_together_159 : decode cX3_together 159 = .ok (.isub, 1) := by decide +kernel
theorem dX3_together_160 : decode cX3_together 160 = .ok (.ireturn, 1) := by decide +kernel
theorem dX3_together_161 : decode cX3_together 161 = .ok (.iload_n 1, 1) := by decide +kernel
theorem dX3_together_162 : decode cX3_together 162 = .ok (.iload_n 2, 1) := by decide +kernel
theorem dX3_together_163 : decode cX3_together 163 = .ok (.imul, 1) := by decide +kernel
theorem dX3_together_164 : decode cX3_together 164 = .ok (.ireturn, 1) := by decide +kernel
theorem dX3_together_165 : decode cX3_together 165 = .ok (.iload_n 2, 1) := by decide +kernel
theorem dX3_together_166 : decode cX3_together 166 = .ok (.ifCond .ne 7, 3) := by decide +kernel
theorem dX3_together_169 : decode cX3_together 169 = .ok (.iconst 0, 1) := by decide +kernel
theorem dX3_together_170 : decode cX3_together 170 = .ok (.goto 6, 3) := by decide +kernel
theorem dX3_together_173 : decode cX3_together 173 = .ok (.iload_n 1, 1) := by decide +kernel
theorem dX3_together_174 : decode cX3_together 174 = .ok (.iload_n 2, 1) := by decide +kernel
theorem dX3_together_175 : decode cX3_together 175 = .ok (.idiv, 1) := by decide +kernel
theorem dX3_together_176 : decode cX3_together 176 = .ok (.ireturn, 1) := by decide +kernel
theorem dX3_together_177 : decode cX3_together 177 = .ok (.iload_n 2, 1) := by decide +kernel
theorem dX3_together_178 : decode cX3_together 178 = .ok (.ifCond .ne 7, 3) := by decide +kernel
theorem dX3_together_181 : decode cX3_together 181 = .ok (.iconst 0, 1) := by decide +kernel
theorem dX3_together_182 : decode cX3_together 182 = .ok (.goto 6, 3) := by decide +kernel
theorem dX3_together_185 : decode cX3_together 185 = .ok (.iload_n 1, 1) := by decide +kernel
theorem dX3_together_186 : decode cX3_together 186 = .ok (.iload_n 2, 1) := by decide +kernel
theorem dX3_together_187 : decode cX3_together 187 = .ok (.irem, 1) := by decide +kernel
theorem dX3_together_188 : decode cX3_together 188 = .ok (.ireturn, 1) := by decide +kernel
theorem dX3_together_189 : decode cX3_together 189 = .ok (.iconst 0, 1) := by decide +kernel
theorem dX3_together_190 : decode cX3_together 190 = .ok (.ireturn, 1) := by decide +kernel
theorem dX5_flakesOf_0 : decode cX5_flakesOf 0 = .ok (.iconst 0, 1) := by decide +kernel
theorem dX5_flakesOf_1 : decode cX5_flakesOf 1 = .ok (.istore_n 2, 1) := by decide +kernel
theorem dX5_flakesOf_2 : decode cX5_flakesOf 2 = .ok (.iconst 0, 1) := by decide +kernel
theorem dX5_flakesOf_3 : decode cX5_flakesOf 3 = .ok (.istore_n 3, 1) := by decide +kernel
theorem dX5_flakesOf_4 : decode cX5_flakesOf 4 = .ok (.iload_n 3, 1) := by decide +kernel
theorem dX5_flakesOf_5 : decode cX5_flakesOf 5 = .ok (.bipush 8, 2) := by decide +kernel
theorem dX5_flakesOf_7 : decode cX5_flakesOf 7 = .ok (.if_icmp .ge 23, 3) := by decide +kernel
theorem dX5_flakesOf_10 : decode cX5_flakesOf 10 = .ok (.iload_n 2, 1) := by decide +kernel
theorem dX5_flakesOf_11 : decode cX5_flakesOf 11 = .ok (.aload_n 0, 1) := by decide +kernel
theorem dX5_flakesOf_12 : decode cX5_flakesOf 12 = .ok (.getfield 15, 3) := by decide +kernel
theorem dX5_flakesOf_15 : decode cX5_flakesOf 15 = .ok (.iload_n 1, 1) := by decide +kernel
theorem dX5_flakesOf_16 : decode cX5_flakesOf 16 = .ok (.bipush 8, 2) := by decide +kernel
theorem dX5_flakesOf_18 : decode cX5_flakesOf 18 = .ok (.imul, 1) := by decide +kernel
theorem dX5_flakesOf_19 : decode cX5_flakesOf 19 = .ok (.iload_n 3, 1) := by decide +kernel
theorem dX5_flakesOf_20 : decode cX5_flakesOf 20 = .ok (.iadd, 1) := by decide +kernel
theorem dX5_flakesOf_21 : decode cX5_flakesOf 21 = .ok (.iaload, 1) := by decide +kernel
theorem dX5_flakesOf_22 : decode cX5_flakesOf 22 = .ok (.iadd, 1) := by decide +kernel
theorem dX5_flakesOf_23 : decode cX5_flakesOf 23 = .ok (.istore_n 2, 1) := by decide +kernel
theorem dX5_flakesOf_24 : decode cX5_flakesOf 24 = .ok (.iinc 3 1, 3) := by decide +kernel
theorem dX5_flakesOf_27 : decode cX5_flakesOf 27 = .ok (.goto (-23), 3) := by decide +kernel
theorem dX5_flakesOf_30 : decode cX5_flakesOf 30 = .ok (.iload_n 2, 1) := by decide +kernel
theorem dX5_flakesOf_31 : decode cX5_flakesOf 31 = .ok (.ireturn, 1) := by decide +kernel
theorem dX5_flakesOfAll_0 : decode cX5_flakesOfAll 0 = .ok (.iconst 0, 1) := by decide +kernel
theorem dX5_flakesOfAll_1 : decode cX5_flakesOfAll 1 = .ok (.istore_n 1, 1) := by decide +kernel
theorem dX5_flakesOfAll_2 : decode cX5_flakesOfAll 2 = .ok (.iconst 0, 1) := by decide +kernel
theorem dX5_flakesOfAll_3 : decode cX5_flakesOfAll 3 = .ok (.istore_n 2, 1) := by decide +kernel
theorem dX5_flakesOfAll_4 : decode cX5_flakesOfAll 4 = .ok (.iload_n 2, 1) := by decide +kernel
theorem dX5_flakesOfAll_5 : decode cX5_flakesOfAll 5 = .ok (.aload_n 0, 1) := by decide +kernel
theorem dX5_flakesOfAll_6 : decode cX5_flakesOfAll 6 = .ok (.getfield 25, 3) := by decide +kernel
theorem dX5_flakesOfAll_9 : decode cX5_flakesOfAll 9 = .ok (.if_icmp .ge 17, 3) := by decide +kernel
theorem dX5_flakesOfAll_12 : decode cX5_flakesOfAll 12 = .ok (.iload_n 1, 1) := by decide +kernel
theorem dX5_flakesOfAll_13 : decode cX5_flakesOfAll 13 = .ok (.aload_n 0, 1) := by decide +kernel
theorem dX5_flakesOfAll_14 : decode cX5_flakesOfAll 14 = .ok (.iload_n 2, 1) := by decide +kernel
theorem dX5_flakesOfAll_15 : decode cX5_flakesOfAll 15 = .ok (.invokevirtual 34, 3) := by decide +kernel
theorem dX5_flakesOfAll_18 : decode cX5_flakesOfAll 18 = .ok (.iadd, 1) := by decide +kernel
theorem dX5_flakesOfAll_19 : decode cX5_flakesOfAll 19 = .ok (.istore_n 1, 1) := by decide +kernel
theorem dX5_flakesOfAll_20 : decode cX5_flakesOfAll 20 = .ok (.iinc 2 1, 3) := by decide +kernel
theorem dX5_flakesOfAll_23 : decode cX5_flakesOfAll 23 = .ok (.goto (-19), 3) := by decide +kernel
theorem dX5_flakesOfAll_26 : decode cX5_flakesOfAll 26 = .ok (.iload_n 1, 1) := by decide +kernel
theorem dX5_flakesOfAll_27 : decode cX5_flakesOfAll 27 = .ok (.ireturn, 1) := by decide +kernel
theorem dX5_worthOf_0 : decode cX5_worthOf 0 = .ok (.aload_n 0, 1) := by decide +kernel
theorem dX5_worthOf_1 : decode cX5_worthOf 1 = .ok (.iload_n 1, 1) := by decide +kernel
theorem dX5_worthOf_2 : decode cX5_worthOf 2 = .ok (.invokevirtual 34, 3) := by decide +kernel
theorem dX5_worthOf_5 : decode cX5_worthOf 5 = .ok (.aload_n 0, 1) := by decide +kernel
theorem dX5_worthOf_6 : decode cX5_worthOf 6 = .ok (.getfield 9, 3) := by decide +kernel
theorem dX5_worthOf_9 : decode cX5_worthOf 9 = .ok (.aload_n 0, 1) := by decide +kernel
theorem dX5_worthOf_10 : decode cX5_worthOf 10 = .ok (.getfield 19, 3) := by decide +kernel
theorem dX5_worthOf_13 : decode cX5_worthOf 13 = .ok (.iload_n 1, 1) := by decide +kernel
theorem dX5_worthOf_14 : decode cX5_worthOf 14 = .ok (.iaload, 1) := by decide +kernel
theorem dX5_worthOf_15 : decode cX5_worthOf 15 = .ok (.invokestatic 38, 3) := by decide +kernel
theorem dX5_worthOf_18 : decode cX5_worthOf 18 = .ok (.imul, 1) := by decide +kernel
theorem dX5_worthOf_19 : decode cX5_worthOf 19 = .ok (.iadd, 1) := by decide +kernel
theorem dX5_worthOf_20 : decode cX5_worthOf 20 = .ok (.ireturn, 1) := by decide +kernel
theorem dX5_lie_0 : decode cX5_lie 0 = .ok (.aload_n 1, 1) := by decide +kernel
theorem dX5_lie_1 : decode cX5_lie 1 = .ok (.aload_n 0, 1) := by decide +kernel
theorem dX5_lie_2 : decode cX5_lie 2 = .ok (.iload_n 2, 1) := by decide +kernel
theorem dX5_lie_3 : decode cX5_lie 3 = .ok (.iload_n 3, 1) := by decide +kernel
theorem dX5_lie_4 : decode cX5_lie 4 = .ok (.iload 4, 2) := by decide +kernel
theorem dX5_lie_6 : decode cX5_lie 6 = .ok (.invokevirtual 56, 3) := by decide +kernel
theorem dX5_lie_9 : decode cX5_lie 9 = .ok (.istore 5, 2) := by decide +kernel
theorem dX5_lie_11 : decode cX5_lie 11 = .ok (.iconst 0, 1) := by decide +kernel
theorem dX5_lie_12 : decode cX5_lie 12 = .ok (.istore 6, 2) := by decide +kernel
theorem dX5_lie_14 : decode cX5_lie 14 = .ok (.iconst 0, 1) := by decide +kernel
theorem dX5_lie_15 : decode cX5_lie 15 = .ok (.istore 7, 2) := by decide +kernel
theorem dX5_lie_17 : decode cX5_lie 17 = .ok (.iload 7, 2) := by decide +kernel
theorem dX5_lie_19 : decode cX5_lie 19 = .ok (.bipush 8, 2) := by decide +kernel
theorem dX5_lie_21 : decode cX5_lie 21 = .ok (.if_icmp .ge 81, 3) := by decide +kernel
theorem dX5_lie_24 : decode cX5_lie 24 = .ok (.iload 6, 2) := by decide +kernel
theorem dX5_lie_26 : decode cX5_lie 26 = .ok (.iload 5, 2) := by decide +kernel
theorem dX5_lie_28 : decode cX5_lie 28 = .ok (.if_icmp .ge 74, 3) := by decide +kernel
theorem dX5_lie_31 : decode cX5_lie 31 = .ok (.iload 4, 2) := by decide +kernel
theorem dX5_lie_33 : decode cX5_lie 33 = .ok (.iload 7, 2) := by decide +kernel
theorem dX5_lie_35 : decode cX5_lie 35 = .ok (.iadd, 1) := by decide +kernel
theorem dX5_lie_36 : decode cX5_lie 36 = .ok (.bipush 8, 2) := by decide +kernel
theorem dX5_lie_38 : decode cX5_lie 38 = .ok (.irem, 1) := by decide +kernel
theorem dX5_lie_39 : decode cX5_lie 39 = .ok (.istore 8, 2) := by decide +kernel
theorem dX5_lie_41 : decode cX5_lie 41 = .ok (.aload_n 0, 1) := by decide +kernel
theorem dX5_lie_42 : decode cX5_lie 42 = .ok (.iload_n 2, 1) := by decide +kernel
theorem dX5_lie_43 : decode cX5_lie 43 = .ok (.iload 8, 2) := by decide +kernel
theorem dX5_lie_45 : decode cX5_lie 45 = .ok (.invokevirtual 62, 3) := by decide +kernel
theorem dX5_lie_48 : decode cX5_lie 48 = .ok (.ifCond .ne 48, 3) := by decide +kernel
theorem dX5_lie_51 : decode cX5_lie 51 = .ok (.iload_n 2, 1) := by decide +kernel
theorem dX5_lie_52 : decode cX5_lie 52 = .ok (.bipush 8, 2) := by decide +kernel
theorem dX5_lie_54 : decode cX5_lie 54 = .ok (.imul, 1) := by decide +kernel
theorem dX5_lie_55 : decode cX5_lie 55 = .ok (.iload 8, 2) := by decide +kernel
theorem dX5_lie_57 : decode cX5_lie 57 = .ok (.iadd, 1) := by decide +kernel
theorem dX5_lie_58 : decode cX5_lie 58 = .ok (.istore 9, 2) := by decide +kernel
theorem dX5_lie_60 : decode cX5_lie 60 = .ok (.iload 5, 2) := by decide +kernel
theorem dX5_lie_62 : decode cX5_lie 62 = .ok (.iload 6, 2) := by decide +kernel
theorem dX5_lie_64 : decode cX5_lie 64 = .ok (.isub, 1) := by decide +kernel
theorem dX5_lie_65 : decode cX5_lie 65 = .ok (.aload_n 0, 1) := by decide +kernel
theorem dX5_lie_66 : decode cX5_lie 66 = .ok (.getfield 15, 3) := by decide +kernel
theorem dX5_lie_69 : decode cX5_lie 69 = .ok (.iload 9, 2) := by decide +kernel
theorem dX5_lie_71 : decode cX5_lie 71 = .ok (.iaload, 1) := by decide +kernel
theorem dX5_lie_72 : decode cX5_lie 72 = .ok (.invokestatic 66, 3) := by decide +kernel
theorem dX5_lie_75 : decode cX5_lie 75 = .ok (.istore 10, 2) := by decide +kernel
theorem dX5_lie_77 : decode cX5_lie 77 = .ok (.aload_n 0, 1) := by decide +kernel
theorem dX5_lie_78 : decode cX5_lie 78 = .ok (.getfield 15, 3) := by decide +kernel
theorem dX5_lie_81 : decode cX5_lie 81 = .ok (.iload 9, 2) := by decide +kernel
theorem dX5_lie_83 : decode cX5_lie 83 = .ok (.dup2, 1) := by decide +kernel
theorem dX5_lie_84 : decode cX5_lie 84 = .ok (.iaload, 1) := by decide +kernel
theorem dX5_lie_85 : decode cX5_lie 85 = .ok (.iload 10, 2) := by decide +kernel
theorem dX5_lie_87 : decode cX5_lie 87 = .ok (.isub, 1) := by decide +kernel
theorem dX5_lie_88 : decode cX5_lie 88 = .ok (.iastore, 1) := by decide +kernel
theorem dX5_lie_89 : decode cX5_lie 89 = .ok (.iload 6, 2) := by decide +kernel
theorem dX5_lie_91 : decode cX5_lie 91 = .ok (.iload 10, 2) := by decide +kernel
theorem dX5_lie_93 : decode cX5_lie 93 = .ok (.iadd, 1) := by decide +kernel
theorem dX5_lie_94 : decode cX5_lie 94 = .ok (.istore 6, 2) := by decide +kernel
theorem dX5_lie_96 : decode cX5_lie 96 = .ok (.iinc 7 1, 3) := by decide +kernel
theorem dX5_lie_99 : decode cX5_lie 99 = .ok (.goto (-82), 3) := by decide +kernel
theorem dX5_lie_102 : decode cX5_lie 102 = .ok (.aload_n 0, 1) := by decide +kernel
theorem dX5_lie_103 : decode cX5_lie 103 = .ok (.getfield 22, 3) := by decide +kernel
theorem dX5_lie_106 : decode cX5_lie 106 = .ok (.iload_n 2, 1) := by decide +kernel
theorem dX5_lie_107 : decode cX5_lie 107 = .ok (.dup2, 1) := by decide +kernel
theorem dX5_lie_108 : decode cX5_lie 108 = .ok (.iaload, 1) := by decide +kernel
theorem dX5_lie_109 : decode cX5_lie 109 = .ok (.iconst 1, 1) := by decide +kernel
theorem dX5_lie_110 : decode cX5_lie 110 = .ok (.iadd, 1) := by decide +kernel
theorem dX5_lie_111 : decode cX5_lie 111 = .ok (.iastore, 1) := by decide +kernel
theorem dX5_lie_112 : decode cX5_lie 112 = .ok (.iload 6, 2) := by decide +kernel
theorem dX5_lie_114 : decode cX5_lie 114 = .ok (.ireturn, 1) := by decide +kernel
theorem dX6_narrowed_0 : decode cX6_narrowed 0 = .ok (.iload_n 0, 1) := by decide +kernel
theorem dX6_narrowed_1 : decode cX6_narrowed 1 = .ok (.tableswitch 47 0 3 #[31, 36, 41, 45], 31) := by decide +kernel
theorem dX6_narrowed_32 : decode cX6_narrowed 32 = .ok (.lload_n 1, 1) := by decide +kernel
theorem dX6_narrowed_33 : decode cX6_narrowed 33 = .ok (.l2i, 1) := by decide +kernel
theorem dX6_narrowed_34 : decode cX6_narrowed 34 = .ok (.i2b, 1) := by decide +kernel
theorem dX6_narrowed_35 : decode cX6_narrowed 35 = .ok (.i2l, 1) := by decide +kernel
theorem dX6_narrowed_36 : decode cX6_narrowed 36 = .ok (.lreturn, 1) := by decide +kernel
theorem dX6_narrowed_37 : decode cX6_narrowed 37 = .ok (.lload_n 1, 1) := by decide +kernel
theorem dX6_narrowed_38 : decode cX6_narrowed 38 = .ok (.l2i, 1) := by decide +kernel
theorem dX6_narrowed_39 : decode cX6_narrowed 39 = .ok (.i2s, 1) := by decide +kernel
theorem dX6_narrowed_40 : decode cX6_narrowed 40 = .ok (.i2l, 1) := by decide +kernel
theorem dX6_narrowed_41 : decode cX6_narrowed 41 = .ok (.lreturn, 1) := by decide +kernel
theorem dX6_narrowed_42 : decode cX6_narrowed 42 = .ok (.lload_n 1, 1) := by decide +kernel
theorem dX6_narrowed_43 : decode cX6_narrowed 43 = .ok (.l2i, 1) := by decide +kernel
theorem dX6_narrowed_44 : decode cX6_narrowed 44 = .ok (.i2l, 1) := by decide +kernel
theorem dX6_narrowed_45 : decode cX6_narrowed 45 = .ok (.lreturn, 1) := by decide +kernel
theorem dX6_narrowed_46 : decode cX6_narrowed 46 = .ok (.lload_n 1, 1) := by decide +kernel
theorem dX6_narrowed_47 : decode cX6_narrowed 47 = .ok (.lreturn, 1) := by decide +kernel
theorem dX6_narrowed_48 : decode cX6_narrowed 48 = .ok (.lload_n 1, 1) := by decide +kernel
theorem dX6_narrowed_49 : decode cX6_narrowed 49 = .ok (.lconst 0, 1) := by decide +kernel
theorem dX6_narrowed_50 : decode cX6_narrowed 50 = .ok (.lcmp, 1) := by decide +kernel
theorem dX6_narrowed_51 : decode cX6_narrowed 51 = .ok (.ifCond .eq 7, 3) := by decide +kernel
theorem dX6_narrowed_54 : decode cX6_narrowed 54 = .ok (.lconst 1, 1) := by decide +kernel
theorem dX6_narrowed_55 : decode cX6_narrowed 55 = .ok (.goto 4, 3) := by decide +kernel
theorem dX6_narrowed_58 : decode cX6_narrowed 58 = .ok (.lconst 0, 1) := by decide +kernel
theorem dX6_narrowed_59 : decode cX6_narrowed 59 = .ok (.lreturn, 1) := by decide +kernel
theorem dX7_person_0 : decode cX7_person 0 = .ok (.iload_n 1, 1) := by decide +kernel
theorem dX7_person_1 : decode cX7_person 1 = .ok (.bipush 9, 2) := by decide +kernel
theorem dX7_person_3 : decode cX7_person 3 = .ok (.invokestatic 71, 3) := by decide +kernel
theorem dX7_person_6 : decode cX7_person 6 = .ok (.ifCond .eq 5, 3) := by decide +kernel
theorem dX7_person_9 : decode cX7_person 9 = .ok (.iconst (-1), 1) := by decide +kernel
theorem dX7_person_10 : decode cX7_person 10 = .ok (.ireturn, 1) := by decide +kernel
theorem dX7_person_11 : decode cX7_person 11 = .ok (.aload_n 0, 1) := by decide +kernel
theorem dX7_person_12 : decode cX7_person 12 = .ok (.getfield 10, 3) := by decide +kernel
theorem dX7_person_15 : decode cX7_person 15 = .ok (.getfield 75, 3) := by decide +kernel
theorem dX7_person_18 : decode cX7_person 18 = .ok (.bipush 7, 2) := by decide +kernel
theorem dX7_person_20 : decode cX7_person 20 = .ok (.if_icmp .lt 6, 3) := by decide +kernel
theorem dX7_person_23 : decode cX7_person 23 = .ok (.bipush (-3), 2) := by decide +kernel
theorem dX7_person_25 : decode cX7_person 25 = .ok (.ireturn, 1) := by decide +kernel
theorem dX7_person_26 : decode cX7_person 26 = .ok (.aload_n 0, 1) := by decide +kernel
theorem dX7_person_27 : decode cX7_person 27 = .ok (.getfield 10, 3) := by decide +kernel
theorem dX7_person_30 : decode cX7_person 30 = .ok (.iconst 0, 1) := by decide +kernel
theorem dX7_person_31 : decode cX7_person 31 = .ok (.invokevirtual 79, 3) := by decide +kernel
theorem dX7_person_34 : decode cX7_person 34 = .ok (.istore_n 2, 1) := by decide +kernel
theorem dX7_person_35 : decode cX7_person 35 = .ok (.iconst 0, 1) := by decide +kernel
theorem dX7_person_36 : decode cX7_person 36 = .ok (.istore_n 3, 1) := by decide +kernel
theorem dX7_person_37 : decode cX7_person 37 = .ok (.iload_n 3, 1) := by decide +kernel
theorem dX7_person_38 : decode cX7_person 38 = .ok (.bipush 8, 2) := by decide +kernel
theorem dX7_person_40 : decode cX7_person 40 = .ok (.if_icmp .ge 24, 3) := by decide +kernel
theorem dX7_person_43 : decode cX7_person 43 = .ok (.aload_n 0, 1) := by decide +kernel
theorem dX7_person_44 : decode cX7_person 44 = .ok (.getfield 10, 3) := by decide +kernel
theorem dX7_person_47 : decode cX7_person 47 = .ok (.getfield 83, 3) := by decide +kernel
theorem dX7_person_50 : decode cX7_person 50 = .ok (.iload_n 2, 1) := by decide +kernel
theorem dX7_person_51 : decode cX7_person 51 = .ok (.bipush 8, 2) := by decide +kernel
theorem dX7_person_53 : decode cX7_person 53 = .ok (.imul, 1) := by decide +kernel
theorem dX7_person_54 : decode cX7_person 54 = .ok (.iload_n 3, 1) := by decide +kernel
theorem dX7_person_55 : decode cX7_person 55 = .ok (.iadd, 1) := by decide +kernel
theorem dX7_person_56 : decode cX7_person 56 = .ok (.iload_n 1, 1) := by decide +kernel
theorem dX7_person_57 : decode cX7_person 57 = .ok (.iastore, 1) := by decide +kernel
theorem dX7_person_58 : decode cX7_person 58 = .ok (.iinc 3 1, 3) := by decide +kernel
theorem dX7_person_61 : decode cX7_person 61 = .ok (.goto (-24), 3) := by decide +kernel
theorem dX7_person_64 : decode cX7_person 64 = .ok (.iload_n 2, 1) := by decide +kernel
theorem dX7_person_65 : decode cX7_person 65 = .ok (.ireturn, 1) := by decide +kernel
theorem dX7_numberNow_0 : decode cX7_numberNow 0 = .ok (.iload_n 2, 1) := by decide +kernel
theorem dX7_numberNow_1 : decode cX7_numberNow 1 = .ok (.tableswitch 81 8 12 #[35, 45, 54, 62, 71], 35) := by decide +kernel
theorem dX7_numberNow_36 : decode cX7_numberNow 36 = .ok (.aload_n 0, 1) := by decide +kernel
theorem dX7_numberNow_37 : decode cX7_numberNow 37 = .ok (.getfield 10, 3) := by decide +kernel
theorem dX7_numberNow_40 : decode cX7_numberNow 40 = .ok (.getfield 129, 3) := by decide +kernel
theorem dX7_numberNow_43 : decode cX7_numberNow 43 = .ok (.iload_n 1, 1) := by decide +kernel
theorem dX7_numberNow_44 : decode cX7_numberNow 44 = .ok (.iaload, 1) := by decide +kernel
theorem dX7_numberNow_45 : decode cX7_numberNow 45 = .ok (.ireturn, 1) := by decide +kernel
theorem dX7_numberNow_46 : decode cX7_numberNow 46 = .ok (.aload_n 0, 1) := by decide +kernel
theorem dX7_numberNow_47 : decode cX7_numberNow 47 = .ok (.getfield 132, 3) := by decide +kernel
theorem dX7_numberNow_50 : decode cX7_numberNow 50 = .ok (.iload_n 1, 1) := by decide +kernel
theorem dX7_numberNow_51 : decode cX7_numberNow 51 = .ok (.ishr, 1) := by decide +kernel
theorem dX7_numberNow_52 : decode cX7_numberNow 52 = .ok (.iconst 1, 1) := by decide +kernel
theorem dX7_numberNow_53 : decode cX7_numberNow 53 = .ok (.iand, 1) := by decide +kernel
theorem dX7_numberNow_54 : decode cX7_numberNow 54 = .ok (.ireturn, 1) := by decide +kernel
theorem dX7_numberNow_55 : decode cX7_numberNow 55 = .ok (.aload_n 0, 1) := by decide +kernel
theorem dX7_numberNow_56 : decode cX7_numberNow 56 = .ok (.getfield 10, 3) := by decide +kernel
theorem dX7_numberNow_59 : decode cX7_numberNow 59 = .ok (.getfield 135, 3) := by decide +kernel
theorem dX7_numberNow_62 : decode cX7_numberNow 62 = .ok (.ireturn, 1) := by decide +kernel
theorem dX7_numberNow_63 : decode cX7_numberNow 63 = .ok (.aload_n 0, 1) := by decide +kernel
theorem dX7_numberNow_64 : decode cX7_numberNow 64 = .ok (.getfield 10, 3) := by decide +kernel
theorem dX7_numberNow_67 : decode cX7_numberNow 67 = .ok (.iload_n 1, 1) := by decide +kernel
theorem dX7_numberNow_68 : decode cX7_numberNow 68 = .ok (.invokevirtual 138, 3) := by decide +kernel
theorem dX7_numberNow_71 : decode cX7_numberNow 71 = .ok (.ireturn, 1) := by decide +kernel
theorem dX7_numberNow_72 : decode cX7_numberNow 72 = .ok (.aload_n 0, 1) := by decide +kernel
theorem dX7_numberNow_73 : decode cX7_numberNow 73 = .ok (.getfield 10, 3) := by decide +kernel
theorem dX7_numberNow_76 : decode cX7_numberNow 76 = .ok (.getfield 141, 3) := by decide +kernel
theorem dX7_numberNow_79 : decode cX7_numberNow 79 = .ok (.iload_n 1, 1) := by decide +kernel
theorem dX7_numberNow_80 : decode cX7_numberNow 80 = .ok (.iaload, 1) := by decide +kernel
theorem dX7_numberNow_81 : decode cX7_numberNow 81 = .ok (.ireturn, 1) := by decide +kernel
theorem dX7_numberNow_82 : decode cX7_numberNow 82 = .ok (.aload_n 0, 1) := by decide +kernel
theorem dX7_numberNow_83 : decode cX7_numberNow 83 = .ok (.getfield 10, 3) := by decide +kernel
theorem dX7_numberNow_86 : decode cX7_numberNow 86 = .ok (.getfield 83, 3) := by decide +kernel
theorem dX7_numberNow_89 : decode cX7_numberNow 89 = .ok (.iload_n 1, 1) := by decide +kernel
theorem dX7_numberNow_90 : decode cX7_numberNow 90 = .ok (.bipush 8, 2) := by decide +kernel
theorem dX7_numberNow_92 : decode cX7_numberNow 92 = .ok (.imul, 1) := by decide +kernel
theorem dX7_numberNow_93 : decode cX7_numberNow 93 = .ok (.iload_n 2, 1) := by decide +kernel
theorem dX7_numberNow_94 : decode cX7_numberNow 94 = .ok (.iadd, 1) := by decide +kernel
theorem dX7_numberNow_95 : decode cX7_numberNow 95 = .ok (.iaload, 1) := by decide +kernel
theorem dX7_numberNow_96 : decode cX7_numberNow 96 = .ok (.ireturn, 1) := by decide +kernel
theorem dX7_law_0 : decode cX7_law 0 = .ok (.aload_n 0, 1) := by decide +kernel
theorem dX7_law_1 : decode cX7_law 1 = .ok (.getfield 59, 3) := by decide +kernel
theorem dX7_law_4 : decode cX7_law 4 = .ok (.invokevirtual 147, 3) := by decide +kernel
theorem dX7_law_7 : decode cX7_law 7 = .ok (.istore_n 1, 1) := by decide +kernel
theorem dX7_law_8 : decode cX7_law 8 = .ok (.aload_n 0, 1) := by decide +kernel
theorem dX7_law_9 : decode cX7_law 9 = .ok (.getfield 59, 3) := by decide +kernel
theorem dX7_law_12 : decode cX7_law 12 = .ok (.iconst 0, 1) := by decide +kernel
theorem dX7_law_13 : decode cX7_law 13 = .ok (.putfield 151, 3) := by decide +kernel
theorem dX7_law_16 : decode cX7_law 16 = .ok (.iload_n 1, 1) := by decide +kernel
theorem dX7_law_17 : decode cX7_law 17 = .ok (.ifCond .lt 8, 3) := by decide +kernel
theorem dX7_law_20 : decode cX7_law 20 = .ok (.bipush (-100), 2) := by decide +kernel
theorem dX7_law_22 : decode cX7_law 22 = .ok (.iload_n 1, 1) := by decide +kernel
theorem dX7_law_23 : decode cX7_law 23 = .ok (.isub, 1) := by decide +kernel
theorem dX7_law_24 : decode cX7_law 24 = .ok (.ireturn, 1) := by decide +kernel
theorem dX7_law_25 : decode cX7_law 25 = .ok (.aload_n 0, 1) := by decide +kernel
theorem dX7_law_26 : decode cX7_law 26 = .ok (.aload_n 0, 1) := by decide +kernel
theorem dX7_law_27 : decode cX7_law 27 = .ok (.getfield 59, 3) := by decide +kernel
theorem dX7_law_30 : decode cX7_law 30 = .ok (.aload_n 0, 1) := by decide +kernel
theorem dX7_law_31 : decode cX7_law 31 = .ok (.getfield 66, 3) := by decide +kernel
theorem dX7_law_34 : decode cX7_law 34 = .ok (.invokevirtual 154, 3) := by decide +kernel
theorem dX7_law_37 : decode cX7_law 37 = .ok (.putfield 66, 3) := by decide +kernel
theorem dX7_law_40 : decode cX7_law 40 = .ok (.iconst 1, 1) := by decide +kernel
theorem dX7_law_41 : decode cX7_law 41 = .ok (.ireturn, 1) := by decide +kernel
theorem dX7_drawn_0 : decode cX7_drawn 0 = .ok (.iload_n 2, 1) := by decide +kernel
theorem dX7_drawn_1 : decode cX7_drawn 1 = .ok (.bipush 100, 2) := by decide +kernel
theorem dX7_drawn_3 : decode cX7_drawn 3 = .ok (.idiv, 1) := by decide +kernel
theorem dX7_drawn_4 : decode cX7_drawn 4 = .ok (.istore 4, 2) := by decide +kernel
theorem dX7_drawn_6 : decode cX7_drawn 6 = .ok (.iload_n 2, 1) := by decide +kernel
theorem dX7_drawn_7 : decode cX7_drawn 7 = .ok (.bipush 100, 2) := by decide +kernel
theorem dX7_drawn_9 : decode cX7_drawn 9 = .ok (.irem, 1) := by decide +kernel
theorem dX7_drawn_10 : decode cX7_drawn 10 = .ok (.istore 5, 2) := by decide +kernel
theorem dX7_drawn_12 : decode cX7_drawn 12 = .ok (.iload 4, 2) := by decide +kernel
theorem dX7_drawn_14 : decode cX7_drawn 14 = .ok (.iconst 1, 1) := by decide +kernel
theorem dX7_drawn_15 : decode cX7_drawn 15 = .ok (.if_icmp .lt 31, 3) := by decide +kernel
theorem dX7_drawn_18 : decode cX7_drawn 18 = .ok (.iload 4, 2) := by decide +kernel
theorem dX7_drawn_20 : decode cX7_drawn 20 = .ok (.bipush 30, 2) := by decide +kernel
theorem dX7_drawn_22 : decode cX7_drawn 22 = .ok (.if_icmp .gt 24, 3) := by decide +kernel
theorem dX7_drawn_25 : decode cX7_drawn 25 = .ok (.iload 5, 2) := by decide +kernel
theorem dX7_drawn_27 : decode cX7_drawn 27 = .ok (.iconst 1, 1) := by decide +kernel
theorem dX7_drawn_28 : decode cX7_drawn 28 = .ok (.if_icmp .lt 18, 3) := by decide +kernel
theorem dX7_drawn_31 : decode cX7_drawn 31 = .ok (.iload 5, 2) := by decide +kernel
theorem dX7_drawn_33 : decode cX7_drawn 33 = .ok (.bipush 60, 2) := by decide +kernel
theorem dX7_drawn_35 : decode cX7_drawn 35 = .ok (.if_icmp .gt 11, 3) := by decide +kernel
theorem dX7_drawn_38 : decode cX7_drawn 38 = .ok (.iload_n 3, 1) := by decide +kernel
theorem dX7_drawn_39 : decode cX7_drawn 39 = .ok (.iconst 1, 1) := by decide +kernel
theorem dX7_drawn_40 : decode cX7_drawn 40 = .ok (.invokestatic 71, 3) := by decide +kernel
theorem dX7_drawn_43 : decode cX7_drawn 43 = .ok (.ifCond .eq 5, 3) := by decide +kernel
theorem dX7_drawn_46 : decode cX7_drawn 46 = .ok (.iconst (-1), 1) := by decide +kernel
theorem dX7_drawn_47 : decode cX7_drawn 47 = .ok (.ireturn, 1) := by decide +kernel
theorem dX7_drawn_48 : decode cX7_drawn 48 = .ok (.aload_n 0, 1) := by decide +kernel
theorem dX7_drawn_49 : decode cX7_drawn 49 = .ok (.getfield 10, 3) := by decide +kernel
theorem dX7_drawn_52 : decode cX7_drawn 52 = .ok (.getfield 75, 3) := by decide +kernel
theorem dX7_drawn_55 : decode cX7_drawn 55 = .ok (.iconst 1, 1) := by decide +kernel
theorem dX7_drawn_56 : decode cX7_drawn 56 = .ok (.if_icmp .ge 5, 3) := by decide +kernel
theorem dX7_drawn_59 : decode cX7_drawn 59 = .ok (.iconst 0, 1) := by decide +kernel
theorem dX7_drawn_60 : decode cX7_drawn 60 = .ok (.ireturn, 1) := by decide +kernel
theorem dX7_drawn_61 : decode cX7_drawn 61 = .ok (.iload_n 1, 1) := by decide +kernel
theorem dX7_drawn_62 : decode cX7_drawn 62 = .ok (.istore 6, 2) := by decide +kernel
theorem dX7_drawn_64 : decode cX7_drawn 64 = .ok (.iconst 0, 1) := by decide +kernel
theorem dX7_drawn_65 : decode cX7_drawn 65 = .ok (.istore 7, 2) := by decide +kernel
theorem dX7_drawn_67 : decode cX7_drawn 67 = .ok (.iconst 0, 1) := by decide +kernel
theorem dX7_drawn_68 : decode cX7_drawn 68 = .ok (.istore 8, 2) := by decide +kernel
theorem dX7_drawn_70 : decode cX7_drawn 70 = .ok (.iconst 0, 1) := by decide +kernel
theorem dX7_drawn_71 : decode cX7_drawn 71 = .ok (.istore 9, 2) := by decide +kernel
theorem dX7_drawn_73 : decode cX7_drawn 73 = .ok (.iload 9, 2) := by decide +kernel
theorem dX7_drawn_75 : decode cX7_drawn 75 = .ok (.iload 4, 2) := by decide +kernel
theorem dX7_drawn_77 : decode cX7_drawn 77 = .ok (.if_icmp .ge 125, 3) := by decide +kernel
theorem dX7_drawn_80 : decode cX7_drawn 80 = .ok (.aload_n 0, 1) := by decide +kernel
theorem dX7_drawn_81 : decode cX7_drawn 81 = .ok (.getfield 16, 3) := by decide +kernel
theorem dX7_drawn_84 : decode cX7_drawn 84 = .ok (.aload_n 0, 1) := by decide +kernel
theorem dX7_drawn_85 : decode cX7_drawn 85 = .ok (.getfield 10, 3) := by decide +kernel
theorem dX7_drawn_88 : decode cX7_drawn 88 = .ok (.invokevirtual 203, 3) := by decide +kernel
theorem dX7_drawn_91 : decode cX7_drawn 91 = .ok (.iconst 0, 1) := by decide +kernel
theorem dX7_drawn_92 : decode cX7_drawn 92 = .ok (.istore 10, 2) := by decide +kernel
theorem dX7_drawn_94 : decode cX7_drawn 94 = .ok (.iload 10, 2) := by decide +kernel
theorem dX7_drawn_96 : decode cX7_drawn 96 = .ok (.iload 5, 2) := by decide +kernel
theorem dX7_drawn_98 : decode cX7_drawn 98 = .ok (.if_icmp .ge 86, 3) := by decide +kernel
theorem dX7_drawn_101 : decode cX7_drawn 101 = .ok (.iload 6, 2) := by decide +kernel
theorem dX7_drawn_103 : decode cX7_drawn 103 = .ok (.ldc 253, 2) := by decide +kernel
theorem dX7_drawn_105 : decode cX7_drawn 105 = .ok (.imul, 1) := by decide +kernel
theorem dX7_drawn_106 : decode cX7_drawn 106 = .ok (.sipush 12345, 3) := by decide +kernel
theorem dX7_drawn_109 : decode cX7_drawn 109 = .ok (.iadd, 1) := by decide +kernel
theorem dX7_drawn_110 : decode cX7_drawn 110 = .ok (.istore 6, 2) := by decide +kernel
theorem dX7_drawn_112 : decode cX7_drawn 112 = .ok (.iload 6, 2) := by decide +kernel
theorem dX7_drawn_114 : decode cX7_drawn 114 = .ok (.bipush 12, 2) := by decide +kernel
theorem dX7_drawn_116 : decode cX7_drawn 116 = .ok (.iushr, 1) := by decide +kernel
theorem dX7_drawn_117 : decode cX7_drawn 117 = .ok (.bipush 10, 2) := by decide +kernel
theorem dX7_drawn_119 : decode cX7_drawn 119 = .ok (.irem, 1) := by decide +kernel
theorem dX7_drawn_120 : decode cX7_drawn 120 = .ok (.istore 11, 2) := by decide +kernel
theorem dX7_drawn_122 : decode cX7_drawn 122 = .ok (.aload_n 0, 1) := by decide +kernel
theorem dX7_drawn_123 : decode cX7_drawn 123 = .ok (.getfield 132, 3) := by decide +kernel
theorem dX7_drawn_126 : decode cX7_drawn 126 = .ok (.iload 11, 2) := by decide +kernel
theorem dX7_drawn_128 : decode cX7_drawn 128 = .ok (.iload 6, 2) := by decide +kernel
theorem dX7_drawn_130 : decode cX7_drawn 130 = .ok (.bipush 18, 2) := by decide +kernel
theorem dX7_drawn_132 : decode cX7_drawn 132 = .ok (.iushr, 1) := by decide +kernel
theorem dX7_drawn_133 : decode cX7_drawn 133 = .ok (.iconst 2, 1) := by decide +kernel
theorem dX7_drawn_134 : decode cX7_drawn 134 = .ok (.irem, 1) := by decide +kernel
theorem dX7_drawn_135 : decode cX7_drawn 135 = .ok (.invokestatic 254, 3) := by decide +kernel
theorem dX7_drawn_138 : decode cX7_drawn 138 = .ok (.ifCond .eq 40, 3) := by decide +kernel
theorem dX7_drawn_141 : decode cX7_drawn 141 = .ok (.aload_n 0, 1) := by decide +kernel
theorem dX7_drawn_142 : decode cX7_drawn 142 = .ok (.getfield 16, 3) := by decide +kernel
theorem dX7_drawn_145 : decode cX7_drawn 145 = .ok (.aload_n 0, 1) := by decide +kernel
theorem dX7_drawn_146 : decode cX7_drawn 146 = .ok (.getfield 66, 3) := by decide +kernel
theorem dX7_drawn_149 : decode cX7_drawn 149 = .ok (.iload 6, 2) := by decide +kernel
theorem dX7_drawn_151 : decode cX7_drawn 151 = .ok (.iconst 4, 1) := by decide +kernel
theorem dX7_drawn_152 : decode cX7_drawn 152 = .ok (.iushr, 1) := by decide +kernel
theorem dX7_drawn_153 : decode cX7_drawn 153 = .ok (.aload_n 0, 1) := by decide +kernel
theorem dX7_drawn_154 : decode cX7_drawn 154 = .ok (.getfield 10, 3) := by decide +kernel
theorem dX7_drawn_157 : decode cX7_drawn 157 = .ok (.getfield 75, 3) := by decide +kernel
theorem dX7_drawn_160 : decode cX7_drawn 160 = .ok (.irem, 1) := by decide +kernel
theorem dX7_drawn_161 : decode cX7_drawn 161 = .ok (.iload 11, 2) := by decide +kernel
theorem dX7_drawn_163 : decode cX7_drawn 163 = .ok (.iload 6, 2) := by decide +kernel
theorem dX7_drawn_165 : decode cX7_drawn 165 = .ok (.bipush 22, 2) := by decide +kernel
theorem dX7_drawn_167 : decode cX7_drawn 167 = .ok (.iushr, 1) := by decide +kernel
theorem dX7_drawn_168 : decode cX7_drawn 168 = .ok (.bipush 10, 2) := by decide +kernel
theorem dX7_drawn_170 : decode cX7_drawn 170 = .ok (.irem, 1) := by decide +kernel
theorem dX7_drawn_171 : decode cX7_drawn 171 = .ok (.invokevirtual 217, 3) := by decide +kernel
theorem dX7_drawn_174 : decode cX7_drawn 174 = .ok (.pop, 1) := by decide +kernel
theorem dX7_drawn_175 : decode cX7_drawn 175 = .ok (.iinc 7 1, 3) := by decide +kernel
theorem dX7_drawn_178 : decode cX7_drawn 178 = .ok (.iinc 10 1, 3) := by decide +kernel
theorem dX7_drawn_181 : decode cX7_drawn 181 = .ok (.goto (-87), 3) := by decide +kernel
theorem dX7_drawn_184 : decode cX7_drawn 184 = .ok (.iload 8, 2) := by decide +kernel
theorem dX7_drawn_186 : decode cX7_drawn 186 = .ok (.aload_n 0, 1) := by decide +kernel
theorem dX7_drawn_187 : decode cX7_drawn 187 = .ok (.getfield 16, 3) := by decide +kernel
theorem dX7_drawn_190 : decode cX7_drawn 190 = .ok (.invokevirtual 258, 3) := by decide +kernel
theorem dX7_drawn_193 : decode cX7_drawn 193 = .ok (.iadd, 1) := by decide +kernel
theorem dX7_drawn_194 : decode cX7_drawn 194 = .ok (.istore 8, 2) := by decide +kernel
theorem dX7_drawn_196 : decode cX7_drawn 196 = .ok (.iinc 9 1, 3) := by decide +kernel
theorem dX7_drawn_199 : decode cX7_drawn 199 = .ok (.goto (-126), 3) := by decide +kernel
theorem dX7_drawn_202 : decode cX7_drawn 202 = .ok (.iload_n 3, 1) := by decide +kernel
theorem dX7_drawn_203 : decode cX7_drawn 203 = .ok (.ifCond .ne 8, 3) := by decide +kernel
theorem dX7_drawn_206 : decode cX7_drawn 206 = .ok (.iload 7, 2) := by decide +kernel
theorem dX7_drawn_208 : decode cX7_drawn 208 = .ok (.goto 5, 3) := by decide +kernel
theorem dX7_drawn_211 : decode cX7_drawn 211 = .ok (.iload 8, 2) := by decide +kernel
theorem dX7_drawn_213 : decode cX7_drawn 213 = .ok (.ireturn, 1) := by decide +kernel
theorem dX7_keep_0 : decode cX7_keep 0 = .ok (.iload_n 1, 1) := by decide +kernel
theorem dX7_keep_1 : decode cX7_keep 1 = .ok (.invokestatic 86, 3) := by decide +kernel
theorem dX7_keep_4 : decode cX7_keep 4 = .ok (.ifCond .ne 19, 3) := by decide +kernel
theorem dX7_keep_7 : decode cX7_keep 7 = .ok (.iload_n 2, 1) := by decide +kernel
theorem dX7_keep_8 : decode cX7_keep 8 = .ok (.iconst (-1), 1) := by decide +kernel
theorem dX7_keep_9 : decode cX7_keep 9 = .ok (.if_icmp .lt 14, 3) := by decide +kernel
theorem dX7_keep_12 : decode cX7_keep 12 = .ok (.iload_n 2, 1) := by decide +kernel
theorem dX7_keep_13 : decode cX7_keep 13 = .ok (.aload_n 0, 1) := by decide +kernel
theorem dX7_keep_14 : decode cX7_keep 14 = .ok (.getfield 39, 3) := by decide +kernel
theorem dX7_keep_17 : decode cX7_keep 17 = .ok (.getfield 311, 3) := by decide +kernel
theorem dX7_keep_20 : decode cX7_keep 20 = .ok (.if_icmp .lt 5, 3) := by decide +kernel
theorem dX7_keep_23 : decode cX7_keep 23 = .ok (.iconst (-1), 1) := by decide +kernel
theorem dX7_keep_24 : decode cX7_keep 24 = .ok (.ireturn, 1) := by decide +kernel
theorem dX7_keep_25 : decode cX7_keep 25 = .ok (.aload_n 0, 1) := by decide +kernel
theorem dX7_keep_26 : decode cX7_keep 26 = .ok (.getfield 45, 3) := by decide +kernel
theorem dX7_keep_29 : decode cX7_keep 29 = .ok (.iload_n 1, 1) := by decide +kernel
theorem dX7_keep_30 : decode cX7_keep 30 = .ok (.aaload, 1) := by decide +kernel
theorem dX7_keep_31 : decode cX7_keep 31 = .ok (.iload_n 2, 1) := by decide +kernel
theorem dX7_keep_32 : decode cX7_keep 32 = .ok (.iconst (-1), 1) := by decide +kernel
theorem dX7_keep_33 : decode cX7_keep 33 = .ok (.if_icmp .ne 8, 3) := by decide +kernel
theorem dX7_keep_36 : decode cX7_keep 36 = .ok (.bipush (-2), 2) := by decide +kernel
theorem dX7_keep_38 : decode cX7_keep 38 = .ok (.goto 4, 3) := by decide +kernel
theorem dX7_keep_41 : decode cX7_keep 41 = .ok (.iconst (-1), 1) := by decide +kernel
theorem dX7_keep_42 : decode cX7_keep 42 = .ok (.putfield 90, 3) := by decide +kernel
theorem dX7_keep_45 : decode cX7_keep 45 = .ok (.aload_n 0, 1) := by decide +kernel
theorem dX7_keep_46 : decode cX7_keep 46 = .ok (.getfield 45, 3) := by decide +kernel
theorem dX7_keep_49 : decode cX7_keep 49 = .ok (.iload_n 1, 1) := by decide +kernel
theorem dX7_keep_50 : decode cX7_keep 50 = .ok (.aaload, 1) := by decide +kernel
theorem dX7_keep_51 : decode cX7_keep 51 = .ok (.iload_n 2, 1) := by decide +kernel
theorem dX7_keep_52 : decode cX7_keep 52 = .ok (.putfield 314, 3) := by decide +kernel
theorem dX7_keep_55 : decode cX7_keep 55 = .ok (.iconst 1, 1) := by decide +kernel
theorem dX7_keep_56 : decode cX7_keep 56 = .ok (.ireturn, 1) := by decide +kernel
theorem dX7_shift_0 : decode cX7_shift 0 = .ok (.iload_n 1, 1) := by decide +kernel
theorem dX7_shift_1 : decode cX7_shift 1 = .ok (.invokestatic 86, 3) := by decide +kernel
theorem dX7_shift_4 : decode cX7_shift 4 = .ok (.ifCond .ne 10, 3) := by decide +kernel
theorem dX7_shift_7 : decode cX7_shift 7 = .ok (.iload_n 3, 1) := by decide +kernel
theorem dX7_shift_8 : decode cX7_shift 8 = .ok (.invokestatic 86, 3) := by decide +kernel
theorem dX7_shift_11 : decode cX7_shift 11 = .ok (.ifCond .eq 5, 3) := by decide +kernel
theorem dX7_shift_14 : decode cX7_shift 14 = .ok (.iconst (-1), 1) := by decide +kernel
theorem dX7_shift_15 : decode cX7_shift 15 = .ok (.ireturn, 1) := by decide +kernel
theorem dX7_shift_16 : decode cX7_shift 16 = .ok (.aload_n 0, 1) := by decide +kernel
theorem dX7_shift_17 : decode cX7_shift 17 = .ok (.getfield 45, 3) := by decide +kernel
theorem dX7_shift_20 : decode cX7_shift 20 = .ok (.iload_n 1, 1) := by decide +kernel
theorem dX7_shift_21 : decode cX7_shift 21 = .ok (.aaload, 1) := by decide +kernel
theorem dX7_shift_22 : decode cX7_shift 22 = .ok (.astore 6, 2) := by decide +kernel
theorem dX7_shift_24 : decode cX7_shift 24 = .ok (.aload_n 0, 1) := by decide +kernel
theorem dX7_shift_25 : decode cX7_shift 25 = .ok (.getfield 45, 3) := by decide +kernel
theorem dX7_shift_28 : decode cX7_shift 28 = .ok (.iload_n 3, 1) := by decide +kernel
theorem dX7_shift_29 : decode cX7_shift 29 = .ok (.aaload, 1) := by decide +kernel
theorem dX7_shift_30 : decode cX7_shift 30 = .ok (.astore 7, 2) := by decide +kernel
theorem dX7_shift_32 : decode cX7_shift 32 = .ok (.aload 6, 2) := by decide +kernel
theorem dX7_shift_34 : decode cX7_shift 34 = .ok (.getfield 90, 3) := by decide +kernel
theorem dX7_shift_37 : decode cX7_shift 37 = .ok (.bipush (-2), 2) := by decide +kernel
theorem dX7_shift_39 : decode cX7_shift 39 = .ok (.if_icmp .eq 13, 3) := by decide +kernel
theorem dX7_shift_42 : decode cX7_shift 42 = .ok (.aload 7, 2) := by decide +kernel
theorem dX7_shift_44 : decode cX7_shift 44 = .ok (.getfield 90, 3) := by decide +kernel
theorem dX7_shift_47 : decode cX7_shift 47 = .ok (.bipush (-2), 2) := by decide +kernel
theorem dX7_shift_49 : decode cX7_shift 49 = .ok (.if_icmp .ne 6, 3) := by decide +kernel
theorem dX7_shift_52 : decode cX7_shift 52 = .ok (.bipush (-11), 2) := by decide +kernel
theorem dX7_shift_54 : decode cX7_shift 54 = .ok (.ireturn, 1) := by decide +kernel
theorem dX7_shift_55 : decode cX7_shift 55 = .ok (.aload 6, 2) := by decide +kernel
theorem dX7_shift_57 : decode cX7_shift 57 = .ok (.getfield 90, 3) := by decide +kernel
theorem dX7_shift_60 : decode cX7_shift 60 = .ok (.iconst (-1), 1) := by decide +kernel
theorem dX7_shift_61 : decode cX7_shift 61 = .ok (.if_icmp .eq 16, 3) := by decide +kernel
theorem dX7_shift_64 : decode cX7_shift 64 = .ok (.aload 6, 2) := by decide +kernel
theorem dX7_shift_66 : decode cX7_shift 66 = .ok (.getfield 90, 3) := by decide +kernel
theorem dX7_shift_69 : decode cX7_shift 69 = .ok (.aload 7, 2) := by decide +kernel
theorem dX7_shift_71 : decode cX7_shift 71 = .ok (.getfield 90, 3) := by decide +kernel
theorem dX7_shift_74 : decode cX7_shift 74 = .ok (.if_icmp .eq 6, 3) := by decide +kernel
theorem dX7_shift_77 : decode cX7_shift 77 = .ok (.bipush (-12), 2) := by decide +kernel
theorem dX7_shift_79 : decode cX7_shift 79 = .ok (.ireturn, 1) := by decide +kernel
theorem dX7_shift_80 : decode cX7_shift 80 = .ok (.aload 6, 2) := by decide +kernel
theorem dX7_shift_82 : decode cX7_shift 82 = .ok (.iload_n 2, 1) := by decide +kernel
theorem dX7_shift_83 : decode cX7_shift 83 = .ok (.iload 5, 2) := by decide +kernel
theorem dX7_shift_85 : decode cX7_shift 85 = .ok (.invokevirtual 332, 3) := by decide +kernel
theorem dX7_shift_88 : decode cX7_shift 88 = .ok (.ifCond .ne 15, 3) := by decide +kernel
theorem dX7_shift_91 : decode cX7_shift 91 = .ok (.aload 7, 2) := by decide +kernel
theorem dX7_shift_93 : decode cX7_shift 93 = .ok (.iload 4, 2) := by decide +kernel
theorem dX7_shift_95 : decode cX7_shift 95 = .ok (.iload 5, 2) := by decide +kernel
theorem dX7_shift_97 : decode cX7_shift 97 = .ok (.invokevirtual 332, 3) := by decide +kernel
theorem dX7_shift_100 : decode cX7_shift 100 = .ok (.ifCond .eq 6, 3) := by decide +kernel
theorem dX7_shift_103 : decode cX7_shift 103 = .ok (.bipush (-13), 2) := by decide +kernel
theorem dX7_shift_105 : decode cX7_shift 105 = .ok (.ireturn, 1) := by decide +kernel
theorem dX7_shift_106 : decode cX7_shift 106 = .ok (.aload 6, 2) := by decide +kernel
theorem dX7_shift_108 : decode cX7_shift 108 = .ok (.getfield 104, 3) := by decide +kernel
theorem dX7_shift_111 : decode cX7_shift 111 = .ok (.iload_n 2, 1) := by decide +kernel
theorem dX7_shift_112 : decode cX7_shift 112 = .ok (.aload 7, 2) := by decide +kernel
theorem dX7_shift_114 : decode cX7_shift 114 = .ok (.getfield 104, 3) := by decide +kernel
theorem dX7_shift_117 : decode cX7_shift 117 = .ok (.iload 4, 2) := by decide +kernel
theorem dX7_shift_119 : decode cX7_shift 119 = .ok (.iload 5, 2) := by decide +kernel
theorem dX7_shift_121 : decode cX7_shift 121 = .ok (.invokestatic 267, 3) := by decide +kernel
theorem dX7_shift_124 : decode cX7_shift 124 = .ok (.iload 5, 2) := by decide +kernel
theorem dX7_shift_126 : decode cX7_shift 126 = .ok (.ireturn, 1) := by decide +kernel
theorem dX7_count_0 : decode cX7_count 0 = .ok (.iload_n 1, 1) := by decide +kernel
theorem dX7_count_1 : decode cX7_count 1 = .ok (.tableswitch 87 0 5 #[39, 47, 55, 63, 71, 79], 39) := by decide +kernel
theorem dX7_count_40 : decode cX7_count 40 = .ok (.aload_n 0, 1) := by decide +kernel
theorem dX7_count_41 : decode cX7_count 41 = .ok (.getfield 10, 3) := by decide +kernel
theorem dX7_count_44 : decode cX7_count 44 = .ok (.getfield 75, 3) := by decide +kernel
theorem dX7_count_47 : decode cX7_count 47 = .ok (.ireturn, 1) := by decide +kernel
theorem dX7_count_48 : decode cX7_count 48 = .ok (.aload_n 0, 1) := by decide +kernel
theorem dX7_count_49 : decode cX7_count 49 = .ok (.getfield 10, 3) := by decide +kernel
theorem dX7_count_52 : decode cX7_count 52 = .ok (.invokevirtual 341, 3) := by decide +kernel
theorem dX7_count_55 : decode cX7_count 55 = .ok (.ireturn, 1) := by decide +kernel
theorem dX7_count_56 : decode cX7_count 56 = .ok (.aload_n 0, 1) := by decide +kernel
theorem dX7_count_57 : decode cX7_count 57 = .ok (.getfield 59, 3) := by decide +kernel
theorem dX7_count_60 : decode cX7_count 60 = .ok (.getfield 151, 3) := by decide +kernel
theorem dX7_count_63 : decode cX7_count 63 = .ok (.ireturn, 1) := by decide +kernel
theorem dX7_count_64 : decode cX7_count 64 = .ok (.aload_n 0, 1) := by decide +kernel
theorem dX7_count_65 : decode cX7_count 65 = .ok (.getfield 32, 3) := by decide +kernel
theorem dX7_count_68 : decode cX7_count 68 = .ok (.getfield 280, 3) := by decide +kernel
theorem dX7_count_71 : decode cX7_count 71 = .ok (.ireturn, 1) := by decide +kernel
theorem dX7_count_72 : decode cX7_count 72 = .ok (.aload_n 0, 1) := by decide +kernel
theorem dX7_count_73 : decode cX7_count 73 = .ok (.getfield 39, 3) := by decide +kernel
theorem dX7_count_76 : decode cX7_count 76 = .ok (.getfield 311, 3) := by decide +kernel
theorem dX7_count_79 : decode cX7_count 79 = .ok (.ireturn, 1) := by decide +kernel
theorem dX7_count_80 : decode cX7_count 80 = .ok (.aload_n 0, 1) := by decide +kernel
theorem dX7_count_81 : decode cX7_count 81 = .ok (.getfield 39, 3) := by decide +kernel
theorem dX7_count_84 : decode cX7_count 84 = .ok (.getfield 344, 3) := by decide +kernel
theorem dX7_count_87 : decode cX7_count 87 = .ok (.ireturn, 1) := by decide +kernel
theorem dX7_count_88 : decode cX7_count 88 = .ok (.iconst (-1), 1) := by decide +kernel
theorem dX7_count_89 : decode cX7_count 89 = .ok (.ireturn, 1) := by decide +kernel
theorem dJ0_length_8abf5_0 : decode cJ0_length_8abf5 0 = .ok (.aload_n 0, 1) := by decide +kernel
theorem dJ0_length_8abf5_1 : decode cJ0_length_8abf5 1 = .ok (.getfield 9, 3) := by decide +kernel
theorem dJ0_length_8abf5_4 : decode cJ0_length_8abf5 4 = .ok (.arraylength, 1) := by decide +kernel
theorem dJ0_length_8abf5_5 : decode cJ0_length_8abf5 5 = .ok (.aload_n 0, 1) := by decide +kernel
theorem dJ0_length_8abf5_6 : decode cJ0_length_8abf5 6 = .ok (.invokevirtual 335, 3) := by decide +kernel
theorem dJ0_length_8abf5_9 : decode cJ0_length_8abf5 9 = .ok (.ishr, 1) := by decide +kernel
theorem dJ0_length_8abf5_10 : decode cJ0_length_8abf5 10 = .ok (.ireturn, 1) := by decide +kernel
theorem dJ0_indexOf_0f7a4_0 : decode cJ0_indexOf_0f7a4 0 = .ok (.aload_n 0, 1) := by decide +kernel
theorem dJ0_indexOf_0f7a4_1 : decode cJ0_indexOf_0f7a4 1 = .ok (.iload_n 1, 1) := by decide +kernel
theorem dJ0_indexOf_0f7a4_2 : decode cJ0_indexOf_0f7a4 2 = .ok (.iconst 0, 1) := by decide +kernel
theorem dJ0_indexOf_0f7a4_3 : decode cJ0_indexOf_0f7a4 3 = .ok (.invokevirtual 633, 3) := by decide +kernel
theorem dJ0_indexOf_0f7a4_6 : decode cJ0_indexOf_0f7a4 6 = .ok (.ireturn, 1) := by decide +kernel
theorem dJ0_indexOf_7cf53_0 : decode cJ0_indexOf_7cf53 0 = .ok (.aload_n 0, 1) := by decide +kernel
theorem dJ0_indexOf_7cf53_1 : decode cJ0_indexOf_7cf53 1 = .ok (.invokevirtual 492, 3) := by decide +kernel
theorem dJ0_indexOf_7cf53_4 : decode cJ0_indexOf_7cf53 4 = .ok (.ifCond .eq 19, 3) := by decide +kernel
theorem dJ0_indexOf_7cf53_7 : decode cJ0_indexOf_7cf53 7 = .ok (.aload_n 0, 1) := by decide +kernel
theorem dJ0_indexOf_7cf53_8 : decode cJ0_indexOf_7cf53 8 = .ok (.getfield 9, 3) := by decide +kernel
theorem dJ0_indexOf_7cf53_11 : decode cJ0_indexOf_7cf53 11 = .ok (.iload_n 1, 1) := by decide +kernel
theorem dJ0_indexOf_7cf53_12 : decode cJ0_indexOf_7cf53 12 = .ok (.iload_n 2, 1) := by decide +kernel
theorem dJ0_indexOf_7cf53_13 : decode cJ0_indexOf_7cf53 13 = .ok (.aload_n 0, 1) := by decide +kernel
theorem dJ0_indexOf_7cf53_14 : decode cJ0_indexOf_7cf53 14 = .ok (.invokevirtual 505, 3) := by decide +kernel
theorem dJ0_indexOf_7cf53_17 : decode cJ0_indexOf_7cf53 17 = .ok (.invokestatic 637, 3) := by decide +kernel
theorem dJ0_indexOf_7cf53_20 : decode cJ0_indexOf_7cf53 20 = .ok (.goto 16, 3) := by decide +kernel
theorem dJ0_indexOf_7cf53_23 : decode cJ0_indexOf_7cf53 23 = .ok (.aload_n 0, 1) := by decide +kernel
theorem dJ0_indexOf_7cf53_24 : decode cJ0_indexOf_7cf53 24 = .ok (.getfield 9, 3) := by decide +kernel
theorem dJ0_indexOf_7cf53_27 : decode cJ0_indexOf_7cf53 27 = .ok (.iload_n 1, 1) := by decide +kernel
theorem dJ0_indexOf_7cf53_28 : decode cJ0_indexOf_7cf53 28 = .ok (.iload_n 2, 1) := by decide +kernel
theorem dJ0_indexOf_7cf53_29 : decode cJ0_indexOf_7cf53 29 = .ok (.aload_n 0, 1) := by decide +kernel
theorem dJ0_indexOf_7cf53_30 : decode cJ0_indexOf_7cf53 30 = .ok (.invokevirtual 505, 3) := by decide +kernel
theorem dJ0_indexOf_7cf53_33 : decode cJ0_indexOf_7cf53 33 = .ok (.invokestatic 640, 3) := by decide +kernel
theorem dJ0_indexOf_7cf53_36 : decode cJ0_indexOf_7cf53 36 = .ok (.ireturn, 1) := by decide +kernel
theorem dJ0_coder_7d493_0 : decode cJ0_coder_7d493 0 = .ok (.getstatic 38, 3) := by decide +kernel
theorem dJ0_coder_7d493_3 : decode cJ0_coder_7d493 3 = .ok (.ifCond .eq 10, 3) := by decide +kernel
theorem dJ0_coder_7d493_6 : decode cJ0_coder_7d493 6 = .ok (.aload_n 0, 1) := by decide +kernel
theorem dJ0_coder_7d493_7 : decode cJ0_coder_7d493 7 = .ok (.getfield 15, 3) := by decide +kernel
theorem dJ0_coder_7d493_10 : decode cJ0_coder_7d493 10 = .ok (.goto 4, 3) := by decide +kernel
theorem dJ0_coder_7d493_13 : decode cJ0_coder_7d493 13 = .ok (.iconst 1, 1) := by decide +kernel
theorem dJ0_coder_7d493_14 : decode cJ0_coder_7d493 14 = .ok (.ireturn, 1) := by decide +kernel
theorem dJ0_isLatin1_aae02_0 : decode cJ0_isLatin1_aae02 0 = .ok (.getstatic 38, 3) := by decide +kernel
theorem dJ0_isLatin1_aae02_3 : decode cJ0_isLatin1_aae02 3 = .ok (.ifCond .eq 14, 3) := by decide +kernel
theorem dJ0_isLatin1_aae02_6 : decode cJ0_isLatin1_aae02 6 = .ok (.aload_n 0, 1) := by decide +kernel
theorem dJ0_isLatin1_aae02_7 : decode cJ0_isLatin1_aae02 7 = .ok (.getfield 15, 3) := by decide +kernel
theorem dJ0_isLatin1_aae02_10 : decode cJ0_isLatin1_aae02 10 = .ok (.ifCond .ne 7, 3) := by decide +kernel
theorem dJ0_isLatin1_aae02_13 : decode cJ0_isLatin1_aae02 13 = .ok (.iconst 1, 1) := by decide +kernel
theorem dJ0_isLatin1_aae02_14 : decode cJ0_isLatin1_aae02 14 = .ok (.goto 4, 3) := by decide +kernel
theorem dJ0_isLatin1_aae02_17 : decode cJ0_isLatin1_aae02 17 = .ok (.iconst 0, 1) := by decide +kernel
theorem dJ0_isLatin1_aae02_18 : decode cJ0_isLatin1_aae02 18 = .ok (.ireturn, 1) := by decide +kernel
theorem dJ1_canEncode_9a6ad_0 : decode cJ1_canEncode_9a6ad 0 = .ok (.iload_n 0, 1) := by decide +kernel
theorem dJ1_canEncode_9a6ad_1 : decode cJ1_canEncode_9a6ad 1 = .ok (.ifCond .lt 14, 3) := by decide +kernel
theorem dJ1_canEncode_9a6ad_4 : decode cJ1_canEncode_9a6ad 4 = .ok (.iload_n 0, 1) := by decide +kernel
theorem dJ1_canEncode_9a6ad_5 : decode cJ1_canEncode_9a6ad 5 = .ok (.sipush 255, 3) := by decide +kernel
theorem dJ1_canEncode_9a6ad_8 : decode cJ1_canEncode_9a6ad 8 = .ok (.if_icmp .gt 7, 3) := by decide +kernel
theorem dJ1_canEncode_9a6ad_11 : decode cJ1_canEncode_9a6ad 11 = .ok (.iconst 1, 1) := by decide +kernel
theorem dJ1_canEncode_9a6ad_12 : decode cJ1_canEncode_9a6ad 12 = .ok (.goto 4, 3) := by decide +kernel
theorem dJ1_canEncode_9a6ad_15 : decode cJ1_canEncode_9a6ad 15 = .ok (.iconst 0, 1) := by decide +kernel
theorem dJ1_canEncode_9a6ad_16 : decode cJ1_canEncode_9a6ad 16 = .ok (.ireturn, 1) := by decide +kernel
theorem dJ1_indexOf_4cfef_0 : decode cJ1_indexOf_4cfef 0 = .ok (.iload_n 1, 1) := by decide +kernel
theorem dJ1_indexOf_4cfef_1 : decode cJ1_indexOf_4cfef 1 = .ok (.invokestatic 88, 3) := by decide +kernel
theorem dJ1_indexOf_4cfef_4 : decode cJ1_indexOf_4cfef 4 = .ok (.ifCond .ne 5, 3) := by decide +kernel
theorem dJ1_indexOf_4cfef_7 : decode cJ1_indexOf_4cfef 7 = .ok (.iconst (-1), 1) := by decide +kernel
theorem dJ1_indexOf_4cfef_8 : decode cJ1_indexOf_4cfef 8 = .ok (.ireturn, 1) := by decide +kernel
theorem dJ1_indexOf_4cfef_9 : decode cJ1_indexOf_4cfef 9 = .ok (.iload_n 2, 1) := by decide +kernel
theorem dJ1_indexOf_4cfef_10 : decode cJ1_indexOf_4cfef 10 = .ok (.iconst 0, 1) := by decide +kernel
theorem dJ1_indexOf_4cfef_11 : decode cJ1_indexOf_4cfef 11 = .ok (.invokestatic 92, 3) := by decide +kernel
theorem dJ1_indexOf_4cfef_14 : decode cJ1_indexOf_4cfef 14 = .ok (.istore_n 2, 1) := by decide +kernel
theorem dJ1_indexOf_4cfef_15 : decode cJ1_indexOf_4cfef 15 = .ok (.iload_n 3, 1) := by decide +kernel
theorem dJ1_indexOf_4cfef_16 : decode cJ1_indexOf_4cfef 16 = .ok (.aload_n 0, 1) := by decide +kernel
theorem dJ1_indexOf_4cfef_17 : decode cJ1_indexOf_4cfef 17 = .ok (.arraylength, 1) := by decide +kernel
theorem dJ1_indexOf_4cfef_18 : decode cJ1_indexOf_4cfef 18 = .ok (.invokestatic 38, 3) := by decide +kernel
theorem dJ1_indexOf_4cfef_21 : decode cJ1_indexOf_4cfef 21 = .ok (.istore_n 3, 1) := by decide +kernel
theorem dJ1_indexOf_4cfef_22 : decode cJ1_indexOf_4cfef 22 = .ok (.iload_n 2, 1) := by decide +kernel
theorem dJ1_indexOf_4cfef_23 : decode cJ1_indexOf_4cfef 23 = .ok (.iload_n 3, 1) := by decide +kernel
theorem dJ1_indexOf_4cfef_24 : decode cJ1_indexOf_4cfef 24 = .ok (.if_icmp .lt 5, 3) := by decide +kernel
theorem dJ1_indexOf_4cfef_27 : decode cJ1_indexOf_4cfef 27 = .ok (.iconst (-1), 1) := by decide +kernel
theorem dJ1_indexOf_4cfef_28 : decode cJ1_indexOf_4cfef 28 = .ok (.ireturn, 1) := by decide +kernel
theorem dJ1_indexOf_4cfef_29 : decode cJ1_indexOf_4cfef 29 = .ok (.aload_n 0, 1) := by decide +kernel
theorem dJ1_indexOf_4cfef_30 : decode cJ1_indexOf_4cfef 30 = .ok (.iload_n 1, 1) := by decide +kernel
theorem dJ1_indexOf_4cfef_31 : decode cJ1_indexOf_4cfef 31 = .ok (.iload_n 2, 1) := by decide +kernel
theorem dJ1_indexOf_4cfef_32 : decode cJ1_indexOf_4cfef 32 = .ok (.iload_n 3, 1) := by decide +kernel
theorem dJ1_indexOf_4cfef_33 : decode cJ1_indexOf_4cfef 33 = .ok (.invokestatic 95, 3) := by decide +kernel
theorem dJ1_indexOf_4cfef_36 : decode cJ1_indexOf_4cfef 36 = .ok (.ireturn, 1) := by decide +kernel
theorem dJ1_indexOfChar_4cfef_0 : decode cJ1_indexOfChar_4cfef 0 = .ok (.iload_n 1, 1) := by decide +kernel
theorem dJ1_indexOfChar_4cfef_1 : decode cJ1_indexOfChar_4cfef 1 = .ok (.i2b, 1) := by decide +kernel
theorem dJ1_indexOfChar_4cfef_2 : decode cJ1_indexOfChar_4cfef 2 = .ok (.istore 4, 2) := by decide +kernel
theorem dJ1_indexOfChar_4cfef_4 : decode cJ1_indexOfChar_4cfef 4 = .ok (.iload_n 2, 1) := by decide +kernel
theorem dJ1_indexOfChar_4cfef_5 : decode cJ1_indexOfChar_4cfef 5 = .ok (.istore 5, 2) := by decide +kernel
theorem dJ1_indexOfChar_4cfef_7 : decode cJ1_indexOfChar_4cfef 7 = .ok (.iload 5, 2) := by decide +kernel
theorem dJ1_indexOfChar_4cfef_9 : decode cJ1_indexOfChar_4cfef 9 = .ok (.iload_n 3, 1) := by decide +kernel
theorem dJ1_indexOfChar_4cfef_10 : decode cJ1_indexOfChar_4cfef 10 = .ok (.if_icmp .ge 21, 3) := by decide +kernel
theorem dJ1_indexOfChar_4cfef_13 : decode cJ1_indexOfChar_4cfef 13 = .ok (.aload_n 0, 1) := by decide +kernel
theorem dJ1_indexOfChar_4cfef_14 : decode cJ1_indexOfChar_4cfef 14 = .ok (.iload 5, 2) := by decide +kernel
theorem dJ1_indexOfChar_4cfef_16 : decode cJ1_indexOfChar_4cfef 16 = .ok (.baload, 1) := by decide +kernel
theorem dJ1_indexOfChar_4cfef_17 : decode cJ1_indexOfChar_4cfef 17 = .ok (.iload 4, 2) := by decide +kernel
theorem dJ1_indexOfChar_4cfef_19 : decode cJ1_indexOfChar_4cfef 19 = .ok (.if_icmp .ne 6, 3) := by decide +kernel
theorem dJ1_indexOfChar_4cfef_22 : decode cJ1_indexOfChar_4cfef 22 = .ok (.iload 5, 2) := by decide +kernel
theorem dJ1_indexOfChar_4cfef_24 : decode cJ1_indexOfChar_4cfef 24 = .ok (.ireturn, 1) := by decide +kernel
theorem dJ1_indexOfChar_4cfef_25 : decode cJ1_indexOfChar_4cfef 25 = .ok (.iinc 5 1, 3) := by decide +kernel
theorem dJ1_indexOfChar_4cfef_28 : decode cJ1_indexOfChar_4cfef 28 = .ok (.goto (-21), 3) := by decide +kernel
theorem dJ1_indexOfChar_4cfef_31 : decode cJ1_indexOfChar_4cfef 31 = .ok (.iconst (-1), 1) := by decide +kernel
theorem dJ1_indexOfChar_4cfef_32 : decode cJ1_indexOfChar_4cfef 32 = .ok (.ireturn, 1) := by decide +kernel
end
section
theorem bX2_summon_0 {g : Gt} {d : Nat} {t : Tt} {Q : Option Value → Tt → Prop} {o0 : Nat} (ho0 : isSh o0) {p1 : Int32} (h : Rt g d mX2_summon 7 [some (.ref 13), some (.ref o0), some (.int p1), some (.int 0), none, none, none, none, none, none, none, none, none, none] [] (pI t 13 0 0) Q) : Rt g d mX2_summon 0 [some (.ref 13), some (.ref o0), some (.int p1), none, none, none, none, none, none, none, none, none, none, none] [] t Q := by
  refine s_aload_n dX2_summon_0 rfl rfl ?_
  refine s_iconst (v := 0) dX2_summon_1 (by decide) ?_
  refine t_putI dX2_summon_2 fl_X2_31 rfl (by decide) rfl rfl rfl rfl ?_
  refine s_iconst (v := 0) dX2_summon_5 (by decide) ?_
  refine s_istore_n dX2_summon_6 rfl (by decide) rfl (L9 := [some (.ref 13), some (.ref o0), some (.int p1), some (.int 0), none, none, none, none, none, none, none, none, none, none]) rfl ?_
  exact h
theorem bX2_summon_7 {g : Gt} {d : Nat} {t : Tt} {Q : Option Value → Tt → Prop} {o0 : Nat} (ho0 : isSh o0) {x2 : Int32} {x3 : Int32} (h : ((t.1 o0 1) < (x3 + 4) → Q none t) ∧ (¬ (t.1 o0 1) < (x3 + 4) → (15 ≤ (t.1 13 0) → Q none t) ∧ (¬ 15 ≤ (t.1 13 0) → vp_in x3 60 ∧ (∀ z4 : Int64, z4 = (t.2.1 (o0 + 1) x3.toNatClampNeg) → vp_in (x3 + 1) 60 ∧ (∀ z6 : Int64, z6 = (t.2.1 (o0 + 1) (x3 + 1).toNatClampNeg) → vp_in (x3 + 2) 60 ∧ (∀ z8 : Int64, z8 = (t.2.1 (o0 + 1) (x3 + 2).toNatClampNeg) → vp_in (x3 + 3) 60 ∧ (∀ z10 : Int64, z10 = (t.2.1 (o0 + 1) (x3 + 3).toNatClampNeg) → (z4 < 0 → Rt g d mX2_summon 83 [some (.ref 13), some (.ref o0), some (.int x2), some (.int x3), some (.long z4), none, some (.long z6), none, some (.long z8), none, some (.long z10), none, none, none] [] t Q) ∧ (¬ z4 < 0 → ((x2.toInt64) ≤ z4 → Rt g d mX2_summon 83 [some (.ref 13), some (.ref o0), some (.int x2), some (.int x3), some (.long z4), none, some (.long z6), none, some (.long z8), none, some (.long z10), none, none, none] [] t Q) ∧ (¬ (x2.toInt64) ≤ z4 → Rt g d mX2_summon 84 [some (.ref 13), some (.ref o0), some (.int x2), some (.int x3), some (.long z4), none, some (.long z6), none, some (.long z8), none, some (.long z10), none, none, none] [.int 1] t Q))))))))) : Rt g d mX2_summon 7 [some (.ref 13), some (.ref o0), some (.int x2), some (.int x3), none, none, none, none, none, none, none, none, none, none] [] t Q := by
  refine s_iload_n dX2_summon_7 rfl rfl ?_
  refine s_iconst (v := 4) dX2_summon_8 (by decide) ?_
  refine s_iadd dX2_summon_9 ?_
  refine s_aload_n dX2_summon_10 rfl rfl ?_
  refine t_getI dX2_summon_11 fl_X2_35 (isSh_k ho0) (isSh_z ho0) rfl ?_
  refine s_icmp_gt (tgt := 209) dX2_summon_14 (by decide) (fun c1 => ?_) (fun c1 => ?_)
  · replace h := h.1 c1
    exact t_vret dX2_summon_209 rfl h
  · replace h := h.2 c1
    refine s_aload_n dX2_summon_17 rfl rfl ?_
    refine t_getI dX2_summon_18 fl_X2_31 rfl (by decide) rfl ?_
    refine s_bipush (v := 15) dX2_summon_21 (by decide) ?_
    refine s_icmp_ge (tgt := 209) dX2_summon_23 (by decide) (fun c2 => ?_) (fun c2 => ?_)
    · replace h := h.1 c2
      exact t_vret dX2_summon_209 rfl h
    · replace h := h.2 c2
      refine s_aload_n dX2_summon_26 rfl rfl ?_
      refine t_getR dX2_summon_27 fl_X2_40 (isSh_k ho0) (isSh_z ho0) rfl (isSh_r3 _ ho0) ?_
      refine s_iload_n dX2_summon_30 rfl rfl ?_
      obtain ⟨g3, h⟩ := h
      refine t_lald dX2_summon_31 (isSh_k3 ho0) (isSh_z3 ho0) g3 ?_
      refine t_nmJ (fun z4 ez4 => ?_)
      replace h := h z4 ez4
      refine s_lstore dX2_summon_32 (by decide) rfl (L9 := [some (.ref 13), some (.ref o0), some (.int x2), some (.int x3), some (.long z4), none, none, none, none, none, none, none, none, none]) rfl ?_
      refine s_aload_n dX2_summon_34 rfl rfl ?_
      refine t_getR dX2_summon_35 fl_X2_40 (isSh_k ho0) (isSh_z ho0) rfl (isSh_r3 _ ho0) ?_
      refine s_iload_n dX2_summon_38 rfl rfl ?_
      refine s_iconst (v := 1) dX2_summon_39 (by decide) ?_
      refine s_iadd dX2_summon_40 ?_
      obtain ⟨g5, h⟩ := h
      refine t_lald dX2_summon_41 (isSh_k3 ho0) (isSh_z3 ho0) g5 ?_
      refine t_nmJ (fun z6 ez6 => ?_)
      replace h := h z6 ez6
      refine s_lstore dX2_summon_42 (by decide) rfl (L9 := [some (.ref 13), some (.ref o0), some (.int x2), some (.int x3), some (.long z4), none, some (.long z6), none, none, none, none, none, none, none]) rfl ?_
      refine s_aload_n dX2_summon_44 rfl rfl ?_
      refine t_getR dX2_summon_45 fl_X2_40 (isSh_k ho0) (isSh_z ho0) rfl (isSh_r3 _ ho0) ?_
      refine s_iload_n dX2_summon_48 rfl rfl ?_
      refine s_iconst (v := 2) dX2_summon_49 (by decide) ?_
      refine s_iadd dX2_summon_50 ?_
      obtain ⟨g7, h⟩ := h
      refine t_lald dX2_summon_51 (isSh_k3 ho0) (isSh_z3 ho0) g7 ?_
      refine t_nmJ (fun z8 ez8 => ?_)
      replace h := h z8 ez8
      refine s_lstore dX2_summon_52 (by decide) rfl (L9 := [some (.ref 13), some (.ref o0), some (.int x2), some (.int x3), some (.long z4), none, some (.long z6), none, some (.long z8), none, none, none, none, none]) rfl ?_
      refine s_aload_n dX2_summon_54 rfl rfl ?_
      refine t_getR dX2_summon_55 fl_X2_40 (isSh_k ho0) (isSh_z ho0) rfl (isSh_r3 _ ho0) ?_
      refine s_iload_n dX2_summon_58 rfl rfl ?_
      refine s_iconst (v := 3) dX2_summon_59 (by decide) ?_
      refine s_iadd dX2_summon_60 ?_
      obtain ⟨g9, h⟩ := h
      refine t_lald dX2_summon_61 (isSh_k3 ho0) (isSh_z3 ho0) g9 ?_
      refine t_nmJ (fun z10 ez10 => ?_)
      replace h := h z10 ez10
      refine s_lstore dX2_summon_62 (by decide) rfl (L9 := [some (.ref 13), some (.ref o0), some (.int x2), some (.int x3), some (.long z4), none, some (.long z6), none, some (.long z8), none, some (.long z10), none, none, none]) rfl ?_
      refine s_lload dX2_summon_64 rfl ?_
      refine s_lconst (v := 0) dX2_summon_66 rfl ?_
      refine t_cmp_lt (tgt := 83) dX2_summon_67 dX2_summon_68 (by decide) (fun c11 => ?_) (fun c11 => ?_)
      · replace h := h.1 c11
        exact h
      · replace h := h.2 c11
        refine s_lload dX2_summon_71 rfl ?_
        refine s_iload_n dX2_summon_73 rfl rfl ?_
        refine s_i2l dX2_summon_74 ?_
        refine t_cmp_ge (tgt := 83) dX2_summon_75 dX2_summon_76 (by decide) (fun c12 => ?_) (fun c12 => ?_)
        · replace h := h.1 c12
          exact h
        · replace h := h.2 c12
          refine s_iconst (v := 1) dX2_summon_79 (by decide) ?_
          refine s_goto (tgt := 84) dX2_summon_80 (by decide) ?_
          exact h
theorem bX2_summon_83 {g : Gt} {d : Nat} {t : Tt} {Q : Option Value → Tt → Prop} {o0 : Nat} (ho0 : isSh o0) {x2 : Int32} {x3 : Int32} {x4 : Int64} {x6 : Int64} {x8 : Int64} {x10 : Int64} (h : Rt g d mX2_summon 84 [some (.ref 13), some (.ref o0), some (.int x2), some (.int x3), some (.long x4), none, some (.long x6), none, some (.long x8), none, some (.long x10), none, none, none] [.int 0] t Q) : Rt g d mX2_summon 83 [some (.ref 13), some (.ref o0), some (.int x2), some (.int x3), some (.long x4), none, some (.long x6), none, some (.long x8), none, some (.long x10), none, none, none] [] t Q := by
  refine s_iconst (v := 0) dX2_summon_83 (by decide) ?_
  exact h
theorem bX2_summon_84 {g : Gt} {d : Nat} {t : Tt} {Q : Option Value → Tt → Prop} {o0 : Nat} (ho0 : isSh o0) {x2 : Int32} {x3 : Int32} {x4 : Int64} {x6 : Int64} {x8 : Int64} {x10 : Int64} {s0 : Int32} (h : (x6 < 0 → Rt g d mX2_summon 120 [some (.ref 13), some (.ref o0), some (.int x2), some (.int x3), some (.long x4), none, some (.long x6), none, some (.long x8), none, some (.long x10), none, some (.int s0), none] [] t Q) ∧ (¬ x6 < 0 → (10 ≤ x6 → Rt g d mX2_summon 120 [some (.ref 13), some (.ref o0), some (.int x2), some (.int x3), some (.long x4), none, some (.long x6), none, some (.long x8), none, some (.long x10), none, some (.int s0), none] [] t Q) ∧ (¬ 10 ≤ x6 → (x8 < 0 → Rt g d mX2_summon 120 [some (.ref 13), some (.ref o0), some (.int x2), some (.int x3), some (.long x4), none, some (.long x6), none, some (.long x8), none, some (.long x10), none, some (.int s0), none] [] t Q) ∧ (¬ x8 < 0 → (1 < x8 → Rt g d mX2_summon 120 [some (.ref 13), some (.ref o0), some (.int x2), some (.int x3), some (.long x4), none, some (.long x6), none, some (.long x8), none, some (.long x10), none, some (.int s0), none] [] t Q) ∧ (¬ 1 < x8 → Rt g d mX2_summon 121 [some (.ref 13), some (.ref o0), some (.int x2), some (.int x3), some (.long x4), none, some (.long x6), none, some (.long x8), none, some (.long x10), none, some (.int s0), none] [.int 1] t Q))))) : Rt g d mX2_summon 84 [some (.ref 13), some (.ref o0), some (.int x2), some (.int x3), some (.long x4), none, some (.long x6), none, some (.long x8), none, some (.long x10), none, none, none] [.int s0] t Q := by
  refine s_istore dX2_summon_84 (by decide) rfl (L9 := [some (.ref 13), some (.ref o0), some (.int x2), some (.int x3), some (.long x4), none, some (.long x6), none, some (.long x8), none, some (.long x10), none, some (.int s0), none]) rfl ?_
  refine s_lload dX2_summon_86 rfl ?_
  refine s_lconst (v := 0) dX2_summon_88 rfl ?_
  refine t_cmp_lt (tgt := 120) dX2_summon_89 dX2_summon_90 (by decide) (fun c1 => ?_) (fun c1 => ?_)
  · replace h := h.1 c1
    exact h
  · replace h := h.2 c1
    refine s_lload dX2_summon_93 rfl ?_
    refine s_ldc2 (v := 10) dX2_summon_95 cl_X2_44 ?_
    refine t_cmp_ge (tgt := 120) dX2_summon_98 dX2_summon_99 (by decide) (fun c2 => ?_) (fun c2 => ?_)
    · replace h := h.1 c2
      exact h
    · replace h := h.2 c2
      refine s_lload dX2_summon_102 rfl ?_
      refine s_lconst (v := 0) dX2_summon_104 rfl ?_
      refine t_cmp_lt (tgt := 120) dX2_summon_105 dX2_summon_106 (by decide) (fun c3 => ?_) (fun c3 => ?_)
      · replace h := h.1 c3
        exact h
      · replace h := h.2 c3
        refine s_lload dX2_summon_109 rfl ?_
        refine s_lconst (v := 1) dX2_summon_111 rfl ?_
        refine t_cmp_gt (tgt := 120) dX2_summon_112 dX2_summon_113 (by decide) (fun c4 => ?_) (fun c4 => ?_)
        · replace h := h.1 c4
          exact h
        · replace h := h.2 c4
          refine s_iconst (v := 1) dX2_summon_116 (by decide) ?_
          refine s_goto (tgt := 121) dX2_summon_117 (by decide) ?_
          exact h
theorem bX2_summon_120 {g : Gt} {d : Nat} {t : Tt} {Q : Option Value → Tt → Prop} {o0 : Nat} (ho0 : isSh o0) {x2 : Int32} {x3 : Int32} {x4 : Int64} {x6 : Int64} {x8 : Int64} {x10 : Int64} {x12 : Int32} (h : Rt g d mX2_summon 121 [some (.ref 13), some (.ref o0), some (.int x2), some (.int x3), some (.long x4), none, some (.long x6), none, some (.long x8), none, some (.long x10), none, some (.int x12), none] [.int 0] t Q) : Rt g d mX2_summon 120 [some (.ref 13), some (.ref o0), some (.int x2), some (.int x3), some (.long x4), none, some (.long x6), none, some (.long x8), none, some (.long x10), none, some (.int x12), none] [] t Q := by
  refine s_iconst (v := 0) dX2_summon_120 (by decide) ?_
  exact h
theorem bX2_summon_121 {g : Gt} {d : Nat} {t : Tt} {Q : Option Value → Tt → Prop} {o0 : Nat} (ho0 : isSh o0) {x2 : Int32} {x3 : Int32} {x4 : Int64} {x6 : Int64} {x8 : Int64} {x10 : Int64} {x12 : Int32} {s0 : Int32} (h : (x12 = 0 → Q none t) ∧ (¬ x12 = 0 → (s0 = 0 → Q none t) ∧ (¬ s0 = 0 → (x10 < 0 → Q none t) ∧ (¬ x10 < 0 → (x10 < 10 → vp_in (t.1 13 0) 15 ∧ (vp_in ((pI t 14 (t.1 13 0).toNatClampNeg (x4.toInt32)).1 13 0) 15 ∧ (vp_in ((pI (pI t 14 (t.1 13 0).toNatClampNeg (x4.toInt32)) 15 ((pI t 14 (t.1 13 0).toNatClampNeg (x4.toInt32)).1 13 0).toNatClampNeg (((x6 * 2) + x8).toInt32)).1 13 0) 15 ∧ Rt g d mX2_summon 7 [some (.ref 13), some (.ref o0), some (.int x2), some (.int (x3 + 4)), none, none, none, none, none, none, none, none, none, none] [] (pI (pI (pI (pI t 14 (t.1 13 0).toNatClampNeg (x4.toInt32)) 15 ((pI t 14 (t.1 13 0).toNatClampNeg (x4.toInt32)).1 13 0).toNatClampNeg (((x6 * 2) + x8).toInt32)) 16 ((pI (pI t 14 (t.1 13 0).toNatClampNeg (x4.toInt32)) 15 ((pI t 14 (t.1 13 0).toNatClampNeg (x4.toInt32)).1 13 0).toNatClampNeg (((x6 * 2) + x8).toInt32)).1 13 0).toNatClampNeg (x10.toInt32)) 13 0 (((pI (pI (pI t 14 (t.1 13 0).toNatClampNeg (x4.toInt32)) 15 ((pI t 14 (t.1 13 0).toNatClampNeg (x4.toInt32)).1 13 0).toNatClampNeg (((x6 * 2) + x8).toInt32)) 16 ((pI (pI t 14 (t.1 13 0).toNatClampNeg (x4.toInt32)) 15 ((pI t 14 (t.1 13 0).toNatClampNeg (x4.toInt32)).1 13 0).toNatClampNeg (((x6 * 2) + x8).toInt32)).1 13 0).toNatClampNeg (x10.toInt32)).1 13 0) + 1)) Q))) ∧ (¬ x10 < 10 → Q none t))))) : Rt g d mX2_summon 121 [some (.ref 13), some (.ref o0), some (.int x2), some (.int x3), some (.long x4), none, some (.long x6), none, some (.long x8), none, some (.long x10), none, some (.int x12), none] [.int s0] t Q := by
  refine s_istore dX2_summon_121 (by decide) rfl (L9 := [some (.ref 13), some (.ref o0), some (.int x2), some (.int x3), some (.long x4), none, some (.long x6), none, some (.long x8), none, some (.long x10), none, some (.int x12), some (.int s0)]) rfl ?_
  refine s_iload dX2_summon_123 rfl ?_
  refine s_if_eq (tgt := 149) dX2_summon_125 (by decide) (fun c1 => ?_) (fun c1 => ?_)
  · replace h := h.1 c1
    exact t_vret dX2_summon_149 rfl h
  · replace h := h.2 c1
    refine s_iload dX2_summon_128 rfl ?_
    refine s_if_eq (tgt := 149) dX2_summon_130 (by decide) (fun c2 => ?_) (fun c2 => ?_)
    · replace h := h.1 c2
      exact t_vret dX2_summon_149 rfl h
    · replace h := h.2 c2
      refine s_lload dX2_summon_133 rfl ?_
      refine s_lconst (v := 0) dX2_summon_135 rfl ?_
      refine t_cmp_lt (tgt := 149) dX2_summon_136 dX2_summon_137 (by decide) (fun c3 => ?_) (fun c3 => ?_)
      · replace h := h.1 c3
        exact t_vret dX2_summon_149 rfl h
      · replace h := h.2 c3
        refine s_lload dX2_summon_140 rfl ?_
        refine s_ldc2 (v := 10) dX2_summon_142 cl_X2_44 ?_
        refine t_cmp_lt (tgt := 150) dX2_summon_145 dX2_summon_146 (by decide) (fun c4 => ?_) (fun c4 => ?_)
        · replace h := h.1 c4
          refine s_aload_n dX2_summon_150 rfl rfl ?_
          refine t_getR (o' := 14) dX2_summon_151 fl_X2_11 rfl (by decide) rfl rfl ?_
          refine s_aload_n dX2_summon_154 rfl rfl ?_
          refine t_getI dX2_summon_155 fl_X2_31 rfl (by decide) rfl ?_
          refine s_lload dX2_summon_158 rfl ?_
          refine s_l2i dX2_summon_160 ?_
          obtain ⟨g5, h⟩ := h
          refine t_iast dX2_summon_161 rfl (by decide) g5 ?_
          refine s_aload_n dX2_summon_162 rfl rfl ?_
          refine t_getR (o' := 15) dX2_summon_163 fl_X2_15 rfl (by decide) rfl rfl ?_
          refine s_aload_n dX2_summon_166 rfl rfl ?_
          refine t_getI dX2_summon_167 fl_X2_31 rfl (by decide) rfl ?_
          refine s_lload dX2_summon_170 rfl ?_
          refine s_ldc2 (v := 2) dX2_summon_172 cl_X2_46 ?_
          refine s_lmul dX2_summon_175 ?_
          refine s_lload dX2_summon_176 rfl ?_
          refine s_ladd dX2_summon_178 ?_
          refine s_l2i dX2_summon_179 ?_
          obtain ⟨g6, h⟩ := h
          refine t_iast dX2_summon_180 rfl (by decide) g6 ?_
          refine s_aload_n dX2_summon_181 rfl rfl ?_
          refine t_getR (o' := 16) dX2_summon_182 fl_X2_18 rfl (by decide) rfl rfl ?_
          refine s_aload_n dX2_summon_185 rfl rfl ?_
          refine t_getI dX2_summon_186 fl_X2_31 rfl (by decide) rfl ?_
          refine s_lload dX2_summon_189 rfl ?_
          refine s_l2i dX2_summon_191 ?_
          obtain ⟨g7, h⟩ := h
          refine t_iast dX2_summon_192 rfl (by decide) g7 ?_
          refine s_aload_n dX2_summon_193 rfl rfl ?_
          refine s_dup dX2_summon_194 rfl ?_
          refine t_getI dX2_summon_195 fl_X2_31 rfl (by decide) rfl ?_
          refine s_iconst (v := 1) dX2_summon_198 (by decide) ?_
          refine s_iadd dX2_summon_199 ?_
          refine t_putI dX2_summon_200 fl_X2_31 rfl (by decide) rfl rfl rfl rfl ?_
          refine s_iinc (w := x3 + 4) dX2_summon_203 rfl (by rfl) (by decide) rfl (L9 := [some (.ref 13), some (.ref o0), some (.int x2), some (.int (x3 + 4)), some (.long x4), none, some (.long x6), none, some (.long x8), none, some (.long x10), none, some (.int x12), some (.int s0)]) rfl ?_
          refine s_goto (tgt := 7) dX2_summon_206 (by decide) ?_
          exact Rt.lc h (lc_some (lc_some (lc_some (lc_some (lc_none (lc_none (lc_none (lc_none (lc_none (lc_none (lc_none (lc_none (lc_none (lc_none lc_nil))))))))))))))
        · replace h := h.2 c4
          exact t_vret dX2_summon_149 rfl h
theorem bX3_together_0 {g : Gt} {d : Nat} {t : Tt} {Q : Option Value → Tt → Prop} {p0 : Int32} {p1 : Int32} {p2 : Int32} (h : (p0 = 37 → (¬ p2 = 0 → ¬ p2 = 0 ∧ Q (some (.int (jr p1 p2))) t) ∧ (p2 = 0 → Q (some (.int 0)) t)) ∧ (¬ p0 = 37 → (p0 = 38 → (p1 = 0 → Q (some (.int 0)) t) ∧ (¬ p1 = 0 → (p2 = 0 → Q (some (.int 0)) t) ∧ (¬ p2 = 0 → Q (some (.int 1)) t))) ∧ (¬ p0 = 38 → (p0 = 42 → Q (some (.int (p1 * p2))) t) ∧ (¬ p0 = 42 → (p0 = 43 → Q (some (.int (p1 + p2))) t) ∧ (¬ p0 = 43 → (p0 = 45 → Q (some (.int (p1 - p2))) t) ∧ (¬ p0 = 45 → (p0 = 47 → (¬ p2 = 0 → ¬ p2 = 0 ∧ Q (some (.int (p1 / p2))) t) ∧ (p2 = 0 → Q (some (.int 0)) t)) ∧ (¬ p0 = 47 → (p0 = 60 → (p2 ≤ p1 → Q (some (.int 0)) t) ∧ (¬ p2 ≤ p1 → Q (some (.int 1)) t)) ∧ (¬ p0 = 60 → (p0 = 61 → (¬ p1 = p2 → Q (some (.int 0)) t) ∧ (p1 = p2 → Q (some (.int 1)) t)) ∧ (¬ p0 = 61 → (p0 = 62 → (p1 ≤ p2 → Q (some (.int 0)) t) ∧ (¬ p1 ≤ p2 → Q (some (.int 1)) t)) ∧ (¬ p0 = 62 → (p0 = 124 → (¬ p1 = 0 → Rt g d mX3_together 100 [none, none, none] [] t Q) ∧ (p1 = 0 → (p2 = 0 → Q (some (.int 0)) t) ∧ (¬ p2 = 0 → Rt g d mX3_together 100 [none, none, none] [] t Q))) ∧ (¬ p0 = 124 → Q (some (.int 0)) t))))))))))) : Rt g d mX3_together 0 [some (.int p0), some (.int p1), some (.int p2)] [] t Q := by
  refine s_iload_n dX3_together_0 rfl rfl ?_
  by_cases c1 : p0 = 37
  · replace h := h.1 c1
    refine s_lsw (off := 176) (tgt := 177) dX3_together_1 (by decide) (by rw [c1]; rfl) (by decide) ?_
    refine s_iload_n dX3_together_177 rfl rfl ?_
    refine s_if_ne (tgt := 185) dX3_together_178 (by decide) (fun c2 => ?_) (fun c2 => ?_)
    · replace h := h.1 c2
      refine s_iload_n dX3_together_185 rfl rfl ?_
      refine s_iload_n dX3_together_186 rfl rfl ?_
      obtain ⟨g3, h⟩ := h
      refine s_irem dX3_together_187 g3 ?_
      exact t_iret dX3_together_188 (NR_i rfl _) h
    · replace h := h.2 c2
      refine s_iconst (v := 0) dX3_together_181 (by decide) ?_
      refine s_goto (tgt := 188) dX3_together_182 (by decide) ?_
      exact t_iret dX3_together_188 (NR_i rfl _) h
  · replace h := h.2 c1
    by_cases c4 : p0 = 38
    · replace h := h.1 c4
      refine s_lsw (off := 105) (tgt := 106) dX3_together_1 (by decide) (by rw [c4]; rfl) (by decide) ?_
      refine s_iload_n dX3_together_106 rfl rfl ?_
      refine s_if_eq (tgt := 118) dX3_together_107 (by decide) (fun c5 => ?_) (fun c5 => ?_)
      · replace h := h.1 c5
        refine s_iconst (v := 0) dX3_together_118 (by decide) ?_
        exact t_iret dX3_together_119 (NR_i rfl _) h
      · replace h := h.2 c5
        refine s_iload_n dX3_together_110 rfl rfl ?_
        refine s_if_eq (tgt := 118) dX3_together_111 (by decide) (fun c6 => ?_) (fun c6 => ?_)
        · replace h := h.1 c6
          refine s_iconst (v := 0) dX3_together_118 (by decide) ?_
          exact t_iret dX3_together_119 (NR_i rfl _) h
        · replace h := h.2 c6
          refine s_iconst (v := 1) dX3_together_114 (by decide) ?_
          refine s_goto (tgt := 119) dX3_together_115 (by decide) ?_
          exact t_iret dX3_together_119 (NR_i rfl _) h
    · replace h := h.2 c4
      by_cases c7 : p0 = 42
      · replace h := h.1 c7
        refine s_lsw (off := 160) (tgt := 161) dX3_together_1 (by decide) (by rw [c7]; rfl) (by decide) ?_
        refine s_iload_n dX3_together_161 rfl rfl ?_
        refine s_iload_n dX3_together_162 rfl rfl ?_
        refine s_imul dX3_together_163 ?_
        exact t_iret dX3_together_164 (NR_i rfl _) h
      · replace h := h.2 c7
        by_cases c8 : p0 = 43
        · replace h := h.1 c8
          refine s_lsw (off := 152) (tgt := 153) dX3_together_1 (by decide) (by rw [c8]; rfl) (by decide) ?_
          refine s_iload_n dX3_together_153 rfl rfl ?_
          refine s_iload_n dX3_together_154 rfl rfl ?_
          refine s_iadd dX3_together_155 ?_
          exact t_iret dX3_together_156 (NR_i rfl _) h
        · replace h := h.2 c8
          by_cases c9 : p0 = 45
          · replace h := h.1 c9
            refine s_lsw (off := 156) (tgt := 157) dX3_together_1 (by decide) (by rw [c9]; rfl) (by decide) ?_
            refine s_iload_n dX3_together_157 rfl rfl ?_
            refine s_iload_n dX3_together_158 rfl rfl ?_
            refine s_isub dX3_together_159 ?_
            exact t_iret dX3_together_160 (NR_i rfl _) h
          · replace h := h.2 c9
            by_cases c10 : p0 = 47
            · replace h := h.1 c10
              refine s_lsw (off := 164) (tgt := 165) dX3_together_1 (by decide) (by rw [c10]; rfl) (by decide) ?_
              refine s_iload_n dX3_together_165 rfl rfl ?_
              refine s_if_ne (tgt := 173) dX3_together_166 (by decide) (fun c11 => ?_) (fun c11 => ?_)
              · replace h := h.1 c11
                refine s_iload_n dX3_together_173 rfl rfl ?_
                refine s_iload_n dX3_together_174 rfl rfl ?_
                obtain ⟨g12, h⟩ := h
                refine s_idiv dX3_together_175 g12 ?_
                exact t_iret dX3_together_176 (NR_i rfl _) h
              · replace h := h.2 c11
                refine s_iconst (v := 0) dX3_together_169 (by decide) ?_
                refine s_goto (tgt := 176) dX3_together_170 (by decide) ?_
                exact t_iret dX3_together_176 (NR_i rfl _) h
            · replace h := h.2 c10
              by_cases c13 : p0 = 60
              · replace h := h.1 c13
                refine s_lsw (off := 119) (tgt := 120) dX3_together_1 (by decide) (by rw [c13]; rfl) (by decide) ?_
                refine s_iload_n dX3_together_120 rfl rfl ?_
                refine s_iload_n dX3_together_121 rfl rfl ?_
                refine s_icmp_ge (tgt := 129) dX3_together_122 (by decide) (fun c14 => ?_) (fun c14 => ?_)
                · replace h := h.1 c14
                  refine s_iconst (v := 0) dX3_together_129 (by decide) ?_
                  exact t_iret dX3_together_130 (NR_i rfl _) h
                · replace h := h.2 c14
                  refine s_iconst (v := 1) dX3_together_125 (by decide) ?_
                  refine s_goto (tgt := 130) dX3_together_126 (by decide) ?_
                  exact t_iret dX3_together_130 (NR_i rfl _) h
              · replace h := h.2 c13
                by_cases c15 : p0 = 61
                · replace h := h.1 c15
                  refine s_lsw (off := 130) (tgt := 131) dX3_together_1 (by decide) (by rw [c15]; rfl) (by decide) ?_
                  refine s_iload_n dX3_together_131 rfl rfl ?_
                  refine s_iload_n dX3_together_132 rfl rfl ?_
                  refine s_icmp_ne (tgt := 140) dX3_together_133 (by decide) (fun c16 => ?_) (fun c16 => ?_)
                  · replace h := h.1 c16
                    refine s_iconst (v := 0) dX3_together_140 (by decide) ?_
                    exact t_iret dX3_together_141 (NR_i rfl _) h
                  · replace h := h.2 c16
                    refine s_iconst (v := 1) dX3_together_136 (by decide) ?_
                    refine s_goto (tgt := 141) dX3_together_137 (by decide) ?_
                    exact t_iret dX3_together_141 (NR_i rfl _) h
                · replace h := h.2 c15
                  by_cases c17 : p0 = 62
                  · replace h := h.1 c17
                    refine s_lsw (off := 141) (tgt := 142) dX3_together_1 (by decide) (by rw [c17]; rfl) (by decide) ?_
                    refine s_iload_n dX3_together_142 rfl rfl ?_
                    refine s_iload_n dX3_together_143 rfl rfl ?_
                    refine s_icmp_le (tgt := 151) dX3_together_144 (by decide) (fun c18 => ?_) (fun c18 => ?_)
                    · replace h := h.1 c18
                      refine s_iconst (v := 0) dX3_together_151 (by decide) ?_
                      exact t_iret dX3_together_152 (NR_i rfl _) h
                    · replace h := h.2 c18
                      refine s_iconst (v := 1) dX3_together_147 (by decide) ?_
                      refine s_goto (tgt := 152) dX3_together_148 (by decide) ?_
                      exact t_iret dX3_together_152 (NR_i rfl _) h
                  · replace h := h.2 c17
                    by_cases c19 : p0 = 124
                    · replace h := h.1 c19
                      refine s_lsw (off := 91) (tgt := 92) dX3_together_1 (by decide) (by rw [c19]; rfl) (by decide) ?_
                      refine s_iload_n dX3_together_92 rfl rfl ?_
                      refine s_if_ne (tgt := 100) dX3_together_93 (by decide) (fun c20 => ?_) (fun c20 => ?_)
                      · replace h := h.1 c20
                        exact Rt.lc h (lc_none (lc_none (lc_none lc_nil)))
                      · replace h := h.2 c20
                        refine s_iload_n dX3_together_96 rfl rfl ?_
                        refine s_if_eq (tgt := 104) dX3_together_97 (by decide) (fun c21 => ?_) (fun c21 => ?_)
                        · replace h := h.1 c21
                          refine s_iconst (v := 0) dX3_together_104 (by decide) ?_
                          exact t_iret dX3_together_105 (NR_i rfl _) h
                        · replace h := h.2 c21
                          exact Rt.lc h (lc_none (lc_none (lc_none lc_nil)))
                    · replace h := h.2 c19
                      refine s_lsw (off := 188) (tgt := 189) dX3_together_1 (by decide) ((lv_osw c1 rfl).trans ((lv_osw c4 rfl).trans ((lv_osw c7 rfl).trans ((lv_osw c8 rfl).trans ((lv_osw c9 rfl).trans ((lv_osw c10 rfl).trans ((lv_osw c13 rfl).trans ((lv_osw c15 rfl).trans ((lv_osw c17 rfl).trans ((lv_osw c19 rfl).trans rfl)))))))))) (by decide) ?_
                      refine s_iconst (v := 0) dX3_together_189 (by decide) ?_
                      exact t_iret dX3_together_190 (NR_i rfl _) h
theorem bX3_together_100 {g : Gt} {d : Nat} {t : Tt} {Q : Option Value → Tt → Prop} (h : Q (some (.int 1)) t) : Rt g d mX3_together 100 [none, none, none] [] t Q := by
  refine s_iconst (v := 1) dX3_together_100 (by decide) ?_
  refine s_goto (tgt := 105) dX3_together_101 (by decide) ?_
  exact t_iret dX3_together_105 (NR_i rfl _) h
theorem bX5_flakesOf_0 {g : Gt} {d : Nat} {t : Tt} {Q : Option Value → Tt → Prop} {o : Nat} (ho : isMo o) {p0 : Int32} (h : Rt g d mX5_flakesOf 4 [some (.ref o), some (.int p0), some (.int 0), some (.int 0)] [] t Q) : Rt g d mX5_flakesOf 0 [some (.ref o), some (.int p0), none, none] [] t Q := by
  refine s_iconst (v := 0) dX5_flakesOf_0 (by decide) ?_
  refine s_istore_n dX5_flakesOf_1 rfl (by decide) rfl (L9 := [some (.ref o), some (.int p0), some (.int 0), none]) rfl ?_
  refine s_iconst (v := 0) dX5_flakesOf_2 (by decide) ?_
  refine s_istore_n dX5_flakesOf_3 rfl (by decide) rfl (L9 := [some (.ref o), some (.int p0), some (.int 0), some (.int 0)]) rfl ?_
  exact h
theorem bX5_flakesOf_4 {g : Gt} {d : Nat} {t : Tt} {Q : Option Value → Tt → Prop} {o : Nat} (ho : isMo o) {x1 : Int32} {x2 : Int32} {x3 : Int32} (h : (8 ≤ x3 → Q (some (.int x2)) t) ∧ (¬ 8 ≤ x3 → vp_in ((x1 * 8) + x3) 56 ∧ (∀ z3 : Int32, z3 = (x2 + (t.1 (o + 1) ((x1 * 8) + x3).toNatClampNeg)) → Rt g d mX5_flakesOf 4 [some (.ref o), some (.int x1), some (.int z3), some (.int (x3 + 1))] [] t Q))) : Rt g d mX5_flakesOf 4 [some (.ref o), some (.int x1), some (.int x2), some (.int x3)] [] t Q := by
  refine s_iload_n dX5_flakesOf_4 rfl rfl ?_
  refine s_bipush (v := 8) dX5_flakesOf_5 (by decide) ?_
  refine s_icmp_ge (tgt := 30) dX5_flakesOf_7 (by decide) (fun c1 => ?_) (fun c1 => ?_)
  · replace h := h.1 c1
    refine s_iload_n dX5_flakesOf_30 rfl rfl ?_
    exact t_iret dX5_flakesOf_31 (NR_i rfl _) h
  · replace h := h.2 c1
    refine s_iload_n dX5_flakesOf_10 rfl rfl ?_
    refine s_aload_n dX5_flakesOf_11 rfl rfl ?_
    refine t_getR dX5_flakesOf_12 fl_X5_15 (isMo_k ho) (isMo_z ho) rfl (isMo_r2 _ ho) ?_
    refine s_iload_n dX5_flakesOf_15 rfl rfl ?_
    refine s_bipush (v := 8) dX5_flakesOf_16 (by decide) ?_
    refine s_imul dX5_flakesOf_18 ?_
    refine s_iload_n dX5_flakesOf_19 rfl rfl ?_
    refine s_iadd dX5_flakesOf_20 ?_
    obtain ⟨g2, h⟩ := h
    refine t_iald dX5_flakesOf_21 (isMo_k2 ho) (isMo_z2 ho) g2 ?_
    refine s_iadd dX5_flakesOf_22 ?_
    refine t_nmI (fun z3 ez3 => ?_)
    replace h := h z3 ez3
    refine s_istore_n dX5_flakesOf_23 rfl (by decide) rfl (L9 := [some (.ref o), some (.int x1), some (.int z3), some (.int x3)]) rfl ?_
    refine s_iinc (w := x3 + 1) dX5_flakesOf_24 rfl (by rfl) (by decide) rfl (L9 := [some (.ref o), some (.int x1), some (.int z3), some (.int (x3 + 1))]) rfl ?_
    refine s_goto (tgt := 4) dX5_flakesOf_27 (by decide) ?_
    exact h
theorem bX5_worthOf_0 {g : Gt} {d : Nat} {t : Tt} {Q : Option Value → Tt → Prop} {o : Nat} (ho : isMo o) {p0 : Int32} (h : Rt g d mX5_flakesOf 0 [some (.ref o), some (.int p0), none, none] [] t (QI (fun v2 t1 => vp_in p0 7 ∧ Rt g d mJ6_bitCount_0f7a4 0 [some (.int (t1.1 (o + 2) p0.toNatClampNeg))] [] t1 (QI (fun v5 t4 => Q (some (.int (v2 + ((t1.1 o 1) * v5)))) t4))))) : Rt g (d + 1) mX5_worthOf 0 [some (.ref o), some (.int p0)] [] t Q := by
  refine s_aload_n dX5_worthOf_0 rfl rfl ?_
  refine s_iload_n dX5_worthOf_1 rfl rfl ?_
  refine t_callV (M' := mX5_flakesOf) (k := 2) (As := [.int p0]) (rest := []) dX5_worthOf_2 ml_X5_34 miX5_flakesOf msX5_flakesOf (isMo_k ho) (isMo_z ho) rfl rfl (Nat.le_of_ble_eq_true rfl) (Nat.le_of_ble_eq_true rfl) rfl h (fun rv t1 q => ?_)
  obtain ⟨v2, rfl, h⟩ := q
  show Rt g (d + 1) mX5_worthOf 5 [some (.ref o), some (.int p0)] [.int v2] t1 Q
  refine s_aload_n dX5_worthOf_5 rfl rfl ?_
  refine t_getI dX5_worthOf_6 fl_X5_9 (isMo_k ho) (isMo_z ho) rfl ?_
  refine s_aload_n dX5_worthOf_9 rfl rfl ?_
  refine t_getR dX5_worthOf_10 fl_X5_19 (isMo_k ho) (isMo_z ho) rfl (isMo_r3 _ ho) ?_
  refine s_iload_n dX5_worthOf_13 rfl rfl ?_
  obtain ⟨g3, h⟩ := h
  refine t_iald dX5_worthOf_14 (isMo_k3 ho) (isMo_z3 ho) g3 ?_
  refine t_callS (M' := mJ6_bitCount_0f7a4) (k := 0) (As := [.int (t1.1 (o + 2) p0.toNatClampNeg)]) (rest := [.int (t1.1 o 1), .int v2]) dX5_worthOf_15 ml_X5_38 mstJ6_bitCount_0f7a4 rfl (Nat.le_of_ble_eq_true rfl) (Nat.le_of_ble_eq_true rfl) rfl h (fun rv t4 q => ?_)
  obtain ⟨v5, rfl, h⟩ := q
  show Rt g (d + 1) mX5_worthOf 18 [some (.ref o), some (.int p0)] [.int v5, .int (t1.1 o 1), .int v2] t4 Q
  refine s_imul dX5_worthOf_18 ?_
  refine s_iadd dX5_worthOf_19 ?_
  exact t_iret dX5_worthOf_20 (NR_i rfl _) h
theorem bX5_lie_0 {g : Gt} {d : Nat} {t : Tt} {Q : Option Value → Tt → Prop} {o : Nat} (ho : isMo o) {o0 : Nat} (ho0 : isLw o0) {p1 : Int32} {p2 : Int32} {p3 : Int32} (h : Rt g d mX3_priceOf 0 [some (.ref o0), some (.ref o), some (.int p1), some (.int p2), some (.int p3), none] [] t (QI (fun v2 t1 => Rt g (d + 1) mX5_lie 17 [some (.ref o), none, some (.int p1), none, some (.int p3), some (.int v2), some (.int 0), some (.int 0), none, none, none] [] t1 Q))) : Rt g (d + 1) mX5_lie 0 [some (.ref o), some (.ref o0), some (.int p1), some (.int p2), some (.int p3), none, none, none, none, none, none] [] t Q := by
  refine s_aload_n dX5_lie_0 rfl rfl ?_
  refine s_aload_n dX5_lie_1 rfl rfl ?_
  refine s_iload_n dX5_lie_2 rfl rfl ?_
  refine s_iload_n dX5_lie_3 rfl rfl ?_
  refine s_iload dX5_lie_4 rfl ?_
  refine t_callV (M' := mX3_priceOf) (k := 1) (As := [.ref o, .int p1, .int p2, .int p3]) (rest := []) dX5_lie_6 ml_X5_56 miX3_priceOf msX3_priceOf (isLw_k ho0) (isLw_z ho0) rfl rfl (Nat.le_of_ble_eq_true rfl) (Nat.le_of_ble_eq_true rfl) rfl h (fun rv t1 q => ?_)
  obtain ⟨v2, rfl, h⟩ := q
  show Rt g (d + 1) mX5_lie 9 [some (.ref o), some (.ref o0), some (.int p1), some (.int p2), some (.int p3), none, none, none, none, none, none] [.int v2] t1 Q
  refine s_istore dX5_lie_9 (by decide) rfl (L9 := [some (.ref o), some (.ref o0), some (.int p1), some (.int p2), some (.int p3), some (.int v2), none, none, none, none, none]) rfl ?_
  refine s_iconst (v := 0) dX5_lie_11 (by decide) ?_
  refine s_istore dX5_lie_12 (by decide) rfl (L9 := [some (.ref o), some (.ref o0), some (.int p1), some (.int p2), some (.int p3), some (.int v2), some (.int 0), none, none, none, none]) rfl ?_
  refine s_iconst (v := 0) dX5_lie_14 (by decide) ?_
  refine s_istore dX5_lie_15 (by decide) rfl (L9 := [some (.ref o), some (.ref o0), some (.int p1), some (.int p2), some (.int p3), some (.int v2), some (.int 0), some (.int 0), none, none, none]) rfl ?_
  exact Rt.lc h (lc_some (lc_none (lc_some (lc_none (lc_some (lc_some (lc_some (lc_some (lc_none (lc_none (lc_none lc_nil)))))))))))
theorem bX5_lie_17 {g : Gt} {d : Nat} {t : Tt} {Q : Option Value → Tt → Prop} {o : Nat} (ho : isMo o) {x2 : Int32} {x4 : Int32} {x5 : Int32} {x6 : Int32} {x7 : Int32} (h : (8 ≤ x7 → Rt g (d + 1) mX5_lie 102 [some (.ref o), none, some (.int x2), none, none, none, some (.int x6), none, none, none, none] [] t Q) ∧ (¬ 8 ≤ x7 → (x5 ≤ x6 → Rt g (d + 1) mX5_lie 102 [some (.ref o), none, some (.int x2), none, none, none, some (.int x6), none, none, none, none] [] t Q) ∧ (¬ x5 ≤ x6 → ∀ z3 : Int32, z3 = (jr (x4 + x7) 8) → Rt g d mX5_isCapped 0 [some (.ref o), some (.int x2), some (.int z3)] [] t (QI (fun v5 t4 => (¬ v5 = 0 → Rt g (d + 1) mX5_lie 96 [some (.ref o), none, some (.int x2), none, some (.int x4), some (.int x5), some (.int x6), some (.int x7), none, none, none] [] t4 Q) ∧ (v5 = 0 → ∀ z7 : Int32, z7 = ((x2 * 8) + z3) → vp_in z7 56 ∧ (∀ z9 : Int32, z9 = (imin (x5 - x6) (t4.1 (o + 1) z7.toNatClampNeg)) → vp_in z7 56 ∧ (vp_in z7 56 ∧ (∀ z12 : Int32, z12 = (x6 + z9) → Rt g (d + 1) mX5_lie 96 [some (.ref o), none, some (.int x2), none, some (.int x4), some (.int x5), some (.int z12), some (.int x7), none, none, none] [] (pI t4 (o + 1) z7.toNatClampNeg ((t4.1 (o + 1) z7.toNatClampNeg) - z9)) Q))))))))) : Rt g (d + 1) mX5_lie 17 [some (.ref o), none, some (.int x2), none, some (.int x4), some (.int x5), some (.int x6), some (.int x7), none, none, none] [] t Q := by
  refine s_iload dX5_lie_17 rfl ?_
  refine s_bipush (v := 8) dX5_lie_19 (by decide) ?_
  refine s_icmp_ge (tgt := 102) dX5_lie_21 (by decide) (fun c1 => ?_) (fun c1 => ?_)
  · replace h := h.1 c1
    exact Rt.lc h (lc_some (lc_none (lc_some (lc_none (lc_none (lc_none (lc_some (lc_none (lc_none (lc_none (lc_none lc_nil)))))))))))
  · replace h := h.2 c1
    refine s_iload dX5_lie_24 rfl ?_
    refine s_iload dX5_lie_26 rfl ?_
    refine s_icmp_ge (tgt := 102) dX5_lie_28 (by decide) (fun c2 => ?_) (fun c2 => ?_)
    · replace h := h.1 c2
      exact Rt.lc h (lc_some (lc_none (lc_some (lc_none (lc_none (lc_none (lc_some (lc_none (lc_none (lc_none (lc_none lc_nil)))))))))))
    · replace h := h.2 c2
      refine s_iload dX5_lie_31 rfl ?_
      refine s_iload dX5_lie_33 rfl ?_
      refine s_iadd dX5_lie_35 ?_
      refine s_bipush (v := 8) dX5_lie_36 (by decide) ?_
      refine s_irem dX5_lie_38 (by decide) ?_
      refine t_nmI (fun z3 ez3 => ?_)
      replace h := h z3 ez3
      refine s_istore dX5_lie_39 (by decide) rfl (L9 := [some (.ref o), none, some (.int x2), none, some (.int x4), some (.int x5), some (.int x6), some (.int x7), some (.int z3), none, none]) rfl ?_
      refine s_aload_n dX5_lie_41 rfl rfl ?_
      refine s_iload_n dX5_lie_42 rfl rfl ?_
      refine s_iload dX5_lie_43 rfl ?_
      refine t_callV (M' := mX5_isCapped) (k := 0) (As := [.int x2, .int z3]) (rest := []) dX5_lie_45 ml_X5_62 miX5_isCapped msX5_isCapped (isMo_k ho) (isMo_z ho) rfl rfl (Nat.le_of_ble_eq_true rfl) (Nat.le_of_ble_eq_true rfl) rfl h (fun rv t4 q => ?_)
      obtain ⟨v5, rfl, h⟩ := q
      show Rt g (d + 1) mX5_lie 48 [some (.ref o), none, some (.int x2), none, some (.int x4), some (.int x5), some (.int x6), some (.int x7), some (.int z3), none, none] [.int v5] t4 Q
      refine s_if_ne (tgt := 96) dX5_lie_48 (by decide) (fun c6 => ?_) (fun c6 => ?_)
      · replace h := h.1 c6
        exact Rt.lc h (lc_some (lc_none (lc_some (lc_none (lc_some (lc_some (lc_some (lc_some (lc_none (lc_none (lc_none lc_nil)))))))))))
      · replace h := h.2 c6
        refine s_iload_n dX5_lie_51 rfl rfl ?_
        refine s_bipush (v := 8) dX5_lie_52 (by decide) ?_
        refine s_imul dX5_lie_54 ?_
        refine s_iload dX5_lie_55 rfl ?_
        refine s_iadd dX5_lie_57 ?_
        refine t_nmI (fun z7 ez7 => ?_)
        replace h := h z7 ez7
        refine s_istore dX5_lie_58 (by decide) rfl (L9 := [some (.ref o), none, some (.int x2), none, some (.int x4), some (.int x5), some (.int x6), some (.int x7), some (.int z3), some (.int z7), none]) rfl ?_
        refine s_iload dX5_lie_60 rfl ?_
        refine s_iload dX5_lie_62 rfl ?_
        refine s_isub dX5_lie_64 ?_
        refine s_aload_n dX5_lie_65 rfl rfl ?_
        refine t_getR dX5_lie_66 fl_X5_15 (isMo_k ho) (isMo_z ho) rfl (isMo_r2 _ ho) ?_
        refine s_iload dX5_lie_69 rfl ?_
        obtain ⟨g8, h⟩ := h
        refine t_iald dX5_lie_71 (isMo_k2 ho) (isMo_z2 ho) g8 ?_
        refine t_min dX5_lie_72 mmin_X5_66 (Nat.le_of_ble_eq_true rfl) ?_
        refine t_nmI (fun z9 ez9 => ?_)
        replace h := h z9 ez9
        refine s_istore dX5_lie_75 (by decide) rfl (L9 := [some (.ref o), none, some (.int x2), none, some (.int x4), some (.int x5), some (.int x6), some (.int x7), some (.int z3), some (.int z7), some (.int z9)]) rfl ?_
        refine s_aload_n dX5_lie_77 rfl rfl ?_
        refine t_getR dX5_lie_78 fl_X5_15 (isMo_k ho) (isMo_z ho) rfl (isMo_r2 _ ho) ?_
        refine s_iload dX5_lie_81 rfl ?_
        refine s_dup2 dX5_lie_83 rfl rfl ?_
        obtain ⟨g10, h⟩ := h
        refine t_iald dX5_lie_84 (isMo_k2 ho) (isMo_z2 ho) g10 ?_
        refine s_iload dX5_lie_85 rfl ?_
        refine s_isub dX5_lie_87 ?_
        obtain ⟨g11, h⟩ := h
        refine t_iast dX5_lie_88 (isMo_k2 ho) (isMo_z2 ho) g11 ?_
        refine s_iload dX5_lie_89 rfl ?_
        refine s_iload dX5_lie_91 rfl ?_
        refine s_iadd dX5_lie_93 ?_
        refine t_nmI (fun z12 ez12 => ?_)
        replace h := h z12 ez12
        refine s_istore dX5_lie_94 (by decide) rfl (L9 := [some (.ref o), none, some (.int x2), none, some (.int x4), some (.int x5), some (.int z12), some (.int x7), some (.int z3), some (.int z7), some (.int z9)]) rfl ?_
        exact Rt.lc h (lc_some (lc_none (lc_some (lc_none (lc_some (lc_some (lc_some (lc_some (lc_none (lc_none (lc_none lc_nil)))))))))))
theorem bX5_lie_102 {g : Gt} {d : Nat} {t : Tt} {Q : Option Value → Tt → Prop} {o : Nat} (ho : isMo o) {x2 : Int32} {x6 : Int32} (h : vp_in x2 7 ∧ (vp_in x2 7 ∧ Q (some (.int x6)) (pI t (o + 3) x2.toNatClampNeg ((t.1 (o + 3) x2.toNatClampNeg) + 1)))) : Rt g (d + 1) mX5_lie 102 [some (.ref o), none, some (.int x2), none, none, none, some (.int x6), none, none, none, none] [] t Q := by
  refine s_aload_n dX5_lie_102 rfl rfl ?_
  refine t_getR dX5_lie_103 fl_X5_22 (isMo_k ho) (isMo_z ho) rfl (isMo_r4 _ ho) ?_
  refine s_iload_n dX5_lie_106 rfl rfl ?_
  refine s_dup2 dX5_lie_107 rfl rfl ?_
  obtain ⟨g1, h⟩ := h
  refine t_iald dX5_lie_108 (isMo_k4 ho) (isMo_z4 ho) g1 ?_
  refine s_iconst (v := 1) dX5_lie_109 (by decide) ?_
  refine s_iadd dX5_lie_110 ?_
  obtain ⟨g2, h⟩ := h
  refine t_iast dX5_lie_111 (isMo_k4 ho) (isMo_z4 ho) g2 ?_
  refine s_iload dX5_lie_112 rfl ?_
  exact t_iret dX5_lie_114 (NR_i rfl _) h
theorem bX5_lie_96 {g : Gt} {d : Nat} {t : Tt} {Q : Option Value → Tt → Prop} {o : Nat} (ho : isMo o) {x2 : Int32} {x4 : Int32} {x5 : Int32} {x6 : Int32} {x7 : Int32} (h : Rt g (d + 1) mX5_lie 17 [some (.ref o), none, some (.int x2), none, some (.int x4), some (.int x5), some (.int x6), some (.int (x7 + 1)), none, none, none] [] t Q) : Rt g (d + 1) mX5_lie 96 [some (.ref o), none, some (.int x2), none, some (.int x4), some (.int x5), some (.int x6), some (.int x7), none, none, none] [] t Q := by
  refine s_iinc (w := x7 + 1) dX5_lie_96 rfl (by rfl) (by decide) rfl (L9 := [some (.ref o), none, some (.int x2), none, some (.int x4), some (.int x5), some (.int x6), some (.int (x7 + 1)), none, none, none]) rfl ?_
  refine s_goto (tgt := 17) dX5_lie_99 (by decide) ?_
  exact h
theorem bX6_narrowed_0 {g : Gt} {d : Nat} {t : Tt} {Q : Option Value → Tt → Prop} {p0 : Int32} {p1 : Int64} (h : (p0 = 0 → Q (some (.long (((p1.toInt32).toInt8.toInt32).toInt64))) t) ∧ (¬ p0 = 0 → (p0 = 1 → Q (some (.long (((p1.toInt32).toInt16.toInt32).toInt64))) t) ∧ (¬ p0 = 1 → (p0 = 2 → Q (some (.long ((p1.toInt32).toInt64))) t) ∧ (¬ p0 = 2 → (p0 = 3 → Q (some (.long p1)) t) ∧ (¬ p0 = 3 → (p1 = 0 → Q (some (.long 0)) t) ∧ (¬ p1 = 0 → Q (some (.long 1)) t)))))) : Rt g d mX6_narrowed 0 [some (.int p0), some (.long p1), none] [] t Q := by
  refine s_iload_n dX6_narrowed_0 rfl rfl ?_
  by_cases c1 : p0 = 0
  · replace h := h.1 c1
    refine s_tin (off := 31) (tgt := 32) dX6_narrowed_1 (by rw [c1]; decide) (by rw [c1]; decide) (by rw [c1]; rfl) (by decide) ?_
    refine s_lload_n dX6_narrowed_32 rfl rfl ?_
    refine s_l2i dX6_narrowed_33 ?_
    refine s_i2b dX6_narrowed_34 ?_
    refine s_i2l dX6_narrowed_35 ?_
    exact t_lret dX6_narrowed_36 rfl h
  · replace h := h.2 c1
    by_cases c2 : p0 = 1
    · replace h := h.1 c2
      refine s_tin (off := 36) (tgt := 37) dX6_narrowed_1 (by rw [c2]; decide) (by rw [c2]; decide) (by rw [c2]; rfl) (by decide) ?_
      refine s_lload_n dX6_narrowed_37 rfl rfl ?_
      refine s_l2i dX6_narrowed_38 ?_
      refine s_i2s dX6_narrowed_39 ?_
      refine s_i2l dX6_narrowed_40 ?_
      exact t_lret dX6_narrowed_41 rfl h
    · replace h := h.2 c2
      by_cases c3 : p0 = 2
      · replace h := h.1 c3
        refine s_tin (off := 41) (tgt := 42) dX6_narrowed_1 (by rw [c3]; decide) (by rw [c3]; decide) (by rw [c3]; rfl) (by decide) ?_
        refine s_lload_n dX6_narrowed_42 rfl rfl ?_
        refine s_l2i dX6_narrowed_43 ?_
        refine s_i2l dX6_narrowed_44 ?_
        exact t_lret dX6_narrowed_45 rfl h
      · replace h := h.2 c3
        by_cases c4 : p0 = 3
        · replace h := h.1 c4
          refine s_tin (off := 45) (tgt := 46) dX6_narrowed_1 (by rw [c4]; decide) (by rw [c4]; decide) (by rw [c4]; rfl) (by decide) ?_
          refine s_lload_n dX6_narrowed_46 rfl rfl ?_
          exact t_lret dX6_narrowed_47 rfl h
        · replace h := h.2 c4
          refine s_tout (tgt := 48) dX6_narrowed_1 (by have q0 := lv_neT c1 (a := 0) rfl; have q1 := lv_neT c2 (a := 1) rfl; have q2 := lv_neT c3 (a := 2) rfl; have q3 := lv_neT c4 (a := 3) rfl; omega) (by decide) ?_
          refine s_lload_n dX6_narrowed_48 rfl rfl ?_
          refine s_lconst (v := 0) dX6_narrowed_49 rfl ?_
          refine t_cmp_eq (tgt := 58) dX6_narrowed_50 dX6_narrowed_51 (by decide) (fun c5 => ?_) (fun c5 => ?_)
          · replace h := h.1 c5
            refine s_lconst (v := 0) dX6_narrowed_58 rfl ?_
            exact t_lret dX6_narrowed_59 rfl h
          · replace h := h.2 c5
            refine s_lconst (v := 1) dX6_narrowed_54 rfl ?_
            refine s_goto (tgt := 59) dX6_narrowed_55 (by decide) ?_
            exact t_lret dX6_narrowed_59 rfl h
theorem bX7_person_0 {g : Gt} {d : Nat} {t : Tt} {Q : Option Value → Tt → Prop} {p0 : Int32} (h : Rt g d mX7_outside 0 [some (.int p0), some (.int 9)] [] t (QI (fun v2 t1 => (v2 = 0 → ((t1.1 1 0) < 7 → Rt g d mX5_newcomer 0 [some (.ref 1), some (.int 0), none] [] t1 (QI (fun v6 t5 => Rt g (d + 1) mX7_person 37 [some (.ref 0), some (.int p0), some (.int v6), some (.int 0)] [] t5 Q))) ∧ (¬ (t1.1 1 0) < 7 → Q (some (.int (-3))) t1)) ∧ (¬ v2 = 0 → Q (some (.int (-1))) t1)))) : Rt g (d + 1) mX7_person 0 [some (.ref 0), some (.int p0), none, none] [] t Q := by
  refine s_iload_n dX7_person_0 rfl rfl ?_
  refine s_bipush (v := 9) dX7_person_1 (by decide) ?_
  refine t_callS (M' := mX7_outside) (k := 0) (As := [.int p0, .int 9]) (rest := []) dX7_person_3 ml_X7_71 mstX7_outside rfl (Nat.le_of_ble_eq_true rfl) (Nat.le_of_ble_eq_true rfl) rfl h (fun rv t1 q => ?_)
  obtain ⟨v2, rfl, h⟩ := q
  show Rt g (d + 1) mX7_person 6 [some (.ref 0), some (.int p0), none, none] [.int v2] t1 Q
  refine s_if_eq (tgt := 11) dX7_person_6 (by decide) (fun c3 => ?_) (fun c3 => ?_)
  · replace h := h.1 c3
    refine s_aload_n dX7_person_11 rfl rfl ?_
    refine t_getR (o' := 1) dX7_person_12 fl_X7_10 rfl (by decide) rfl rfl ?_
    refine t_getI dX7_person_15 fl_X7_75 rfl (by decide) rfl ?_
    refine s_bipush (v := 7) dX7_person_18 (by decide) ?_
    refine s_icmp_lt (tgt := 26) dX7_person_20 (by decide) (fun c4 => ?_) (fun c4 => ?_)
    · replace h := h.1 c4
      refine s_aload_n dX7_person_26 rfl rfl ?_
      refine t_getR (o' := 1) dX7_person_27 fl_X7_10 rfl (by decide) rfl rfl ?_
      refine s_iconst (v := 0) dX7_person_30 (by decide) ?_
      refine t_callV (M' := mX5_newcomer) (k := 1) (As := [.int 0]) (rest := []) dX7_person_31 ml_X7_79 miX5_newcomer msX5_newcomer rfl (by decide) rfl rfl (Nat.le_of_ble_eq_true rfl) (Nat.le_of_ble_eq_true rfl) rfl h (fun rv t5 q => ?_)
      obtain ⟨v6, rfl, h⟩ := q
      show Rt g (d + 1) mX7_person 34 [some (.ref 0), some (.int p0), none, none] [.int v6] t5 Q
      refine s_istore_n dX7_person_34 rfl (by decide) rfl (L9 := [some (.ref 0), some (.int p0), some (.int v6), none]) rfl ?_
      refine s_iconst (v := 0) dX7_person_35 (by decide) ?_
      refine s_istore_n dX7_person_36 rfl (by decide) rfl (L9 := [some (.ref 0), some (.int p0), some (.int v6), some (.int 0)]) rfl ?_
      exact h
    · replace h := h.2 c4
      refine s_bipush (v := (-3)) dX7_person_23 (by decide) ?_
      exact t_iret dX7_person_25 (NR_i rfl _) h
  · replace h := h.2 c3
    refine s_iconst (v := (-1)) dX7_person_9 (by decide) ?_
    exact t_iret dX7_person_10 (NR_i rfl _) h
theorem bX7_person_37 {g : Gt} {d : Nat} {t : Tt} {Q : Option Value → Tt → Prop} {x1 : Int32} {x2 : Int32} {x3 : Int32} (h : (8 ≤ x3 → Q (some (.int x2)) t) ∧ (¬ 8 ≤ x3 → vp_in ((x2 * 8) + x3) 56 ∧ Rt g (d + 1) mX7_person 37 [some (.ref 0), some (.int x1), some (.int x2), some (.int (x3 + 1))] [] (pI t 2 ((x2 * 8) + x3).toNatClampNeg x1) Q)) : Rt g (d + 1) mX7_person 37 [some (.ref 0), some (.int x1), some (.int x2), some (.int x3)] [] t Q := by
  refine s_iload_n dX7_person_37 rfl rfl ?_
  refine s_bipush (v := 8) dX7_person_38 (by decide) ?_
  refine s_icmp_ge (tgt := 64) dX7_person_40 (by decide) (fun c1 => ?_) (fun c1 => ?_)
  · replace h := h.1 c1
    refine s_iload_n dX7_person_64 rfl rfl ?_
    exact t_iret dX7_person_65 (NR_i rfl _) h
  · replace h := h.2 c1
    refine s_aload_n dX7_person_43 rfl rfl ?_
    refine t_getR (o' := 1) dX7_person_44 fl_X7_10 rfl (by decide) rfl rfl ?_
    refine t_getR (o' := 2) dX7_person_47 fl_X7_83 rfl (by decide) rfl rfl ?_
    refine s_iload_n dX7_person_50 rfl rfl ?_
    refine s_bipush (v := 8) dX7_person_51 (by decide) ?_
    refine s_imul dX7_person_53 ?_
    refine s_iload_n dX7_person_54 rfl rfl ?_
    refine s_iadd dX7_person_55 ?_
    refine s_iload_n dX7_person_56 rfl rfl ?_
    obtain ⟨g2, h⟩ := h
    refine t_iast dX7_person_57 rfl (by decide) g2 ?_
    refine s_iinc (w := x3 + 1) dX7_person_58 rfl (by rfl) (by decide) rfl (L9 := [some (.ref 0), some (.int x1), some (.int x2), some (.int (x3 + 1))]) rfl ?_
    refine s_goto (tgt := 37) dX7_person_61 (by decide) ?_
    exact h
theorem bX7_numberNow_0 {g : Gt} {d : Nat} {t : Tt} {Q : Option Value → Tt → Prop} {p0 : Int32} {p1 : Int32} (h : (p1 = 8 → vp_in p0 7 ∧ Q (some (.int (t.1 3 p0.toNatClampNeg))) t) ∧ (¬ p1 = 8 → (p1 = 9 → Q (some (.int ((jsr (t.1 0 11) p0) &&& 1))) t) ∧ (¬ p1 = 9 → (p1 = 10 → Q (some (.int (t.1 1 1))) t) ∧ (¬ p1 = 10 → (p1 = 11 → Rt g d mX5_worthOf 0 [some (.ref 1), some (.int p0)] [] t (QI (fun v7 t6 => Q (some (.int v7)) t6))) ∧ (¬ p1 = 11 → (p1 = 12 → vp_in p0 7 ∧ Q (some (.int (t.1 4 p0.toNatClampNeg))) t) ∧ (¬ p1 = 12 → vp_in ((p0 * 8) + p1) 56 ∧ Q (some (.int (t.1 2 ((p0 * 8) + p1).toNatClampNeg))) t)))))) : Rt g (d + 1) mX7_numberNow 0 [some (.ref 0), some (.int p0), some (.int p1)] [] t Q := by
  refine s_iload_n dX7_numberNow_0 rfl rfl ?_
  by_cases c1 : p1 = 8
  · replace h := h.1 c1
    refine s_tin (off := 35) (tgt := 36) dX7_numberNow_1 (by rw [c1]; decide) (by rw [c1]; decide) (by rw [c1]; rfl) (by decide) ?_
    refine s_aload_n dX7_numberNow_36 rfl rfl ?_
    refine t_getR (o' := 1) dX7_numberNow_37 fl_X7_10 rfl (by decide) rfl rfl ?_
    refine t_getR (o' := 3) dX7_numberNow_40 fl_X7_129 rfl (by decide) rfl rfl ?_
    refine s_iload_n dX7_numberNow_43 rfl rfl ?_
    obtain ⟨g2, h⟩ := h
    refine t_iald dX7_numberNow_44 rfl (by decide) g2 ?_
    exact t_iret dX7_numberNow_45 (NR_i rfl _) h
  · replace h := h.2 c1
    by_cases c3 : p1 = 9
    · replace h := h.1 c3
      refine s_tin (off := 45) (tgt := 46) dX7_numberNow_1 (by rw [c3]; decide) (by rw [c3]; decide) (by rw [c3]; rfl) (by decide) ?_
      refine s_aload_n dX7_numberNow_46 rfl rfl ?_
      refine t_getI dX7_numberNow_47 fl_X7_132 rfl (by decide) rfl ?_
      refine s_iload_n dX7_numberNow_50 rfl rfl ?_
      refine s_ishr dX7_numberNow_51 ?_
      refine s_iconst (v := 1) dX7_numberNow_52 (by decide) ?_
      refine s_iand dX7_numberNow_53 ?_
      exact t_iret dX7_numberNow_54 (NR_i rfl _) h
    · replace h := h.2 c3
      by_cases c4 : p1 = 10
      · replace h := h.1 c4
        refine s_tin (off := 54) (tgt := 55) dX7_numberNow_1 (by rw [c4]; decide) (by rw [c4]; decide) (by rw [c4]; rfl) (by decide) ?_
        refine s_aload_n dX7_numberNow_55 rfl rfl ?_
        refine t_getR (o' := 1) dX7_numberNow_56 fl_X7_10 rfl (by decide) rfl rfl ?_
        refine t_getI dX7_numberNow_59 fl_X7_135 rfl (by decide) rfl ?_
        exact t_iret dX7_numberNow_62 (NR_i rfl _) h
      · replace h := h.2 c4
        by_cases c5 : p1 = 11
        · replace h := h.1 c5
          refine s_tin (off := 62) (tgt := 63) dX7_numberNow_1 (by rw [c5]; decide) (by rw [c5]; decide) (by rw [c5]; rfl) (by decide) ?_
          refine s_aload_n dX7_numberNow_63 rfl rfl ?_
          refine t_getR (o' := 1) dX7_numberNow_64 fl_X7_10 rfl (by decide) rfl rfl ?_
          refine s_iload_n dX7_numberNow_67 rfl rfl ?_
          refine t_callV (M' := mX5_worthOf) (k := 0) (As := [.int p0]) (rest := []) dX7_numberNow_68 ml_X7_138 miX5_worthOf msX5_worthOf rfl (by decide) rfl rfl (Nat.le_of_ble_eq_true rfl) (Nat.le_of_ble_eq_true rfl) rfl h (fun rv t6 q => ?_)
          obtain ⟨v7, rfl, h⟩ := q
          show Rt g (d + 1) mX7_numberNow 71 [some (.ref 0), some (.int p0), some (.int p1)] [.int v7] t6 Q
          exact t_iret dX7_numberNow_71 (NR_i rfl _) h
        · replace h := h.2 c5
          by_cases c8 : p1 = 12
          · replace h := h.1 c8
            refine s_tin (off := 71) (tgt := 72) dX7_numberNow_1 (by rw [c8]; decide) (by rw [c8]; decide) (by rw [c8]; rfl) (by decide) ?_
            refine s_aload_n dX7_numberNow_72 rfl rfl ?_
            refine t_getR (o' := 1) dX7_numberNow_73 fl_X7_10 rfl (by decide) rfl rfl ?_
            refine t_getR (o' := 4) dX7_numberNow_76 fl_X7_141 rfl (by decide) rfl rfl ?_
            refine s_iload_n dX7_numberNow_79 rfl rfl ?_
            obtain ⟨g9, h⟩ := h
            refine t_iald dX7_numberNow_80 rfl (by decide) g9 ?_
            exact t_iret dX7_numberNow_81 (NR_i rfl _) h
          · replace h := h.2 c8
            refine s_tout (tgt := 82) dX7_numberNow_1 (by have q0 := lv_neT c1 (a := 8) rfl; have q1 := lv_neT c3 (a := 9) rfl; have q2 := lv_neT c4 (a := 10) rfl; have q3 := lv_neT c5 (a := 11) rfl; have q4 := lv_neT c8 (a := 12) rfl; omega) (by decide) ?_
            refine s_aload_n dX7_numberNow_82 rfl rfl ?_
            refine t_getR (o' := 1) dX7_numberNow_83 fl_X7_10 rfl (by decide) rfl rfl ?_
            refine t_getR (o' := 2) dX7_numberNow_86 fl_X7_83 rfl (by decide) rfl rfl ?_
            refine s_iload_n dX7_numberNow_89 rfl rfl ?_
            refine s_bipush (v := 8) dX7_numberNow_90 (by decide) ?_
            refine s_imul dX7_numberNow_92 ?_
            refine s_iload_n dX7_numberNow_93 rfl rfl ?_
            refine s_iadd dX7_numberNow_94 ?_
            obtain ⟨g10, h⟩ := h
            refine t_iald dX7_numberNow_95 rfl (by decide) g10 ?_
            exact t_iret dX7_numberNow_96 (NR_i rfl _) h
theorem bX7_law_0 {g : Gt} {d : Nat} {t : Tt} {Q : Option Value → Tt → Prop} (h : Rt g d mX4_read 0 [some (.ref 33), none, none] [] t (QI (fun v2 t1 => (v2 < 0 → isLw t1.2.2.1 ∧ Rt g d mX4_exchangeFor 0 [some (.ref 33), some (.ref t1.2.2.1), none] [] (pI t1 33 1 0) (QR (fun v6 t5 => Q (some (.int 1)) (t5.1, t5.2.1, v6, t5.2.2.2)))) ∧ (¬ v2 < 0 → Q (some (.int ((-100) - v2))) (pI t1 33 1 0))))) : Rt g (d + 1) mX7_law 0 [some (.ref 0), none] [] t Q := by
  refine s_aload_n dX7_law_0 rfl rfl ?_
  refine t_getR (o' := 33) dX7_law_1 fl_X7_59 rfl (by decide) rfl rfl ?_
  refine t_callV (M' := mX4_read) (k := 2) (As := []) (rest := []) dX7_law_4 ml_X7_147 miX4_read msX4_read rfl (by decide) rfl rfl (Nat.le_of_ble_eq_true rfl) (Nat.le_of_ble_eq_true rfl) rfl h (fun rv t1 q => ?_)
  obtain ⟨v2, rfl, h⟩ := q
  show Rt g (d + 1) mX7_law 7 [some (.ref 0), none] [.int v2] t1 Q
  refine s_istore_n dX7_law_7 rfl (by decide) rfl (L9 := [some (.ref 0), some (.int v2)]) rfl ?_
  refine s_aload_n dX7_law_8 rfl rfl ?_
  refine t_getR (o' := 33) dX7_law_9 fl_X7_59 rfl (by decide) rfl rfl ?_
  refine s_iconst (v := 0) dX7_law_12 (by decide) ?_
  refine t_putI dX7_law_13 fl_X7_151 rfl (by decide) rfl rfl rfl rfl ?_
  refine s_iload_n dX7_law_16 rfl rfl ?_
  refine s_if_lt (tgt := 25) dX7_law_17 (by decide) (fun c3 => ?_) (fun c3 => ?_)
  · replace h := h.1 c3
    refine s_aload_n dX7_law_25 rfl rfl ?_
    refine s_aload_n dX7_law_26 rfl rfl ?_
    refine t_getR (o' := 33) dX7_law_27 fl_X7_59 rfl (by decide) rfl rfl ?_
    refine s_aload_n dX7_law_30 rfl rfl ?_
    obtain ⟨g4, h⟩ := h
    refine t_getR dX7_law_31 fl_X7_66 rfl (by decide) rfl rfl ?_
    refine t_callV (M' := mX4_exchangeFor) (k := 1) (As := [.ref t1.2.2.1]) (rest := [.ref 0]) dX7_law_34 ml_X7_154 miX4_exchangeFor msX4_exchangeFor rfl (by decide) rfl rfl (Nat.le_of_ble_eq_true rfl) (Nat.le_of_ble_eq_true rfl) rfl h (fun rv t5 q => ?_)
    obtain ⟨v6, rfl, h⟩ := q
    show Rt g (d + 1) mX7_law 37 [some (.ref 0), some (.int v2)] [.ref v6, .ref 0] t5 Q
    refine t_putRul dX7_law_37 fl_X7_66 ?_
    refine s_iconst (v := 1) dX7_law_40 (by decide) ?_
    exact t_iret dX7_law_41 (NR_i rfl _) h
  · replace h := h.2 c3
    refine s_bipush (v := (-100)) dX7_law_20 (by decide) ?_
    refine s_iload_n dX7_law_22 rfl rfl ?_
    refine s_isub dX7_law_23 ?_
    exact t_iret dX7_law_24 (NR_i rfl _) h
theorem bX7_drawn_0 {g : Gt} {d : Nat} {t : Tt} {Q : Option Value → Tt → Prop} {p0 : Int32} {p1 : Int32} {p2 : Int32} (h : ∀ z1 : Int32, z1 = (p1 / 100) → ∀ z2 : Int32, z2 = (jr p1 100) → (z1 < 1 → Q (some (.int (-1))) t) ∧ (¬ z1 < 1 → (30 < z1 → Q (some (.int (-1))) t) ∧ (¬ 30 < z1 → (z2 < 1 → Q (some (.int (-1))) t) ∧ (¬ z2 < 1 → (60 < z2 → Q (some (.int (-1))) t) ∧ (¬ 60 < z2 → Rt g d mX7_outside 0 [some (.int p2), some (.int 1)] [] t (QI (fun v8 t7 => (v8 = 0 → (1 ≤ (t7.1 1 0) → Rt g (d + 1) mX7_drawn 73 [some (.ref 0), none, none, some (.int p2), some (.int z1), some (.int z2), some (.int p0), some (.int 0), some (.int 0), some (.int 0), none, none] [] t7 Q) ∧ (¬ 1 ≤ (t7.1 1 0) → Q (some (.int 0)) t7)) ∧ (¬ v8 = 0 → Q (some (.int (-1))) t7)))))))) : Rt g (d + 1) mX7_drawn 0 [some (.ref 0), some (.int p0), some (.int p1), some (.int p2), none, none, none, none, none, none, none, none] [] t Q := by
  refine s_iload_n dX7_drawn_0 rfl rfl ?_
  refine s_bipush (v := 100) dX7_drawn_1 (by decide) ?_
  refine s_idiv dX7_drawn_3 (by decide) ?_
  refine t_nmI (fun z1 ez1 => ?_)
  replace h := h z1 ez1
  refine s_istore dX7_drawn_4 (by decide) rfl (L9 := [some (.ref 0), some (.int p0), some (.int p1), some (.int p2), some (.int z1), none, none, none, none, none, none, none]) rfl ?_
  refine s_iload_n dX7_drawn_6 rfl rfl ?_
  refine s_bipush (v := 100) dX7_drawn_7 (by decide) ?_
  refine s_irem dX7_drawn_9 (by decide) ?_
  refine t_nmI (fun z2 ez2 => ?_)
  replace h := h z2 ez2
  refine s_istore dX7_drawn_10 (by decide) rfl (L9 := [some (.ref 0), some (.int p0), some (.int p1), some (.int p2), some (.int z1), some (.int z2), none, none, none, none, none, none]) rfl ?_
  refine s_iload dX7_drawn_12 rfl ?_
  refine s_iconst (v := 1) dX7_drawn_14 (by decide) ?_
  refine s_icmp_lt (tgt := 46) dX7_drawn_15 (by decide) (fun c3 => ?_) (fun c3 => ?_)
  · replace h := h.1 c3
    refine s_iconst (v := (-1)) dX7_drawn_46 (by decide) ?_
    exact t_iret dX7_drawn_47 (NR_i rfl _) h
  · replace h := h.2 c3
    refine s_iload dX7_drawn_18 rfl ?_
    refine s_bipush (v := 30) dX7_drawn_20 (by decide) ?_
    refine s_icmp_gt (tgt := 46) dX7_drawn_22 (by decide) (fun c4 => ?_) (fun c4 => ?_)
    · replace h := h.1 c4
      refine s_iconst (v := (-1)) dX7_drawn_46 (by decide) ?_
      exact t_iret dX7_drawn_47 (NR_i rfl _) h
    · replace h := h.2 c4
      refine s_iload dX7_drawn_25 rfl ?_
      refine s_iconst (v := 1) dX7_drawn_27 (by decide) ?_
      refine s_icmp_lt (tgt := 46) dX7_drawn_28 (by decide) (fun c5 => ?_) (fun c5 => ?_)
      · replace h := h.1 c5
        refine s_iconst (v := (-1)) dX7_drawn_46 (by decide) ?_
        exact t_iret dX7_drawn_47 (NR_i rfl _) h
      · replace h := h.2 c5
        refine s_iload dX7_drawn_31 rfl ?_
        refine s_bipush (v := 60) dX7_drawn_33 (by decide) ?_
        refine s_icmp_gt (tgt := 46) dX7_drawn_35 (by decide) (fun c6 => ?_) (fun c6 => ?_)
        · replace h := h.1 c6
          refine s_iconst (v := (-1)) dX7_drawn_46 (by decide) ?_
          exact t_iret dX7_drawn_47 (NR_i rfl _) h
        · replace h := h.2 c6
          refine s_iload_n dX7_drawn_38 rfl rfl ?_
          refine s_iconst (v := 1) dX7_drawn_39 (by decide) ?_
          refine t_callS (M' := mX7_outside) (k := 0) (As := [.int p2, .int 1]) (rest := []) dX7_drawn_40 ml_X7_71 mstX7_outside rfl (Nat.le_of_ble_eq_true rfl) (Nat.le_of_ble_eq_true rfl) rfl h (fun rv t7 q => ?_)
          obtain ⟨v8, rfl, h⟩ := q
          show Rt g (d + 1) mX7_drawn 43 [some (.ref 0), some (.int p0), some (.int p1), some (.int p2), some (.int z1), some (.int z2), none, none, none, none, none, none] [.int v8] t7 Q
          refine s_if_eq (tgt := 48) dX7_drawn_43 (by decide) (fun c9 => ?_) (fun c9 => ?_)
          · replace h := h.1 c9
            refine s_aload_n dX7_drawn_48 rfl rfl ?_
            refine t_getR (o' := 1) dX7_drawn_49 fl_X7_10 rfl (by decide) rfl rfl ?_
            refine t_getI dX7_drawn_52 fl_X7_75 rfl (by decide) rfl ?_
            refine s_iconst (v := 1) dX7_drawn_55 (by decide) ?_
            refine s_icmp_ge (tgt := 61) dX7_drawn_56 (by decide) (fun c10 => ?_) (fun c10 => ?_)
            · replace h := h.1 c10
              refine s_iload_n dX7_drawn_61 rfl rfl ?_
              refine s_istore dX7_drawn_62 (by decide) rfl (L9 := [some (.ref 0), some (.int p0), some (.int p1), some (.int p2), some (.int z1), some (.int z2), some (.int p0), none, none, none, none, none]) rfl ?_
              refine s_iconst (v := 0) dX7_drawn_64 (by decide) ?_
              refine s_istore dX7_drawn_65 (by decide) rfl (L9 := [some (.ref 0), some (.int p0), some (.int p1), some (.int p2), some (.int z1), some (.int z2), some (.int p0), some (.int 0), none, none, none, none]) rfl ?_
              refine s_iconst (v := 0) dX7_drawn_67 (by decide) ?_
              refine s_istore dX7_drawn_68 (by decide) rfl (L9 := [some (.ref 0), some (.int p0), some (.int p1), some (.int p2), some (.int z1), some (.int z2), some (.int p0), some (.int 0), some (.int 0), none, none, none]) rfl ?_
              refine s_iconst (v := 0) dX7_drawn_70 (by decide) ?_
              refine s_istore dX7_drawn_71 (by decide) rfl (L9 := [some (.ref 0), some (.int p0), some (.int p1), some (.int p2), some (.int z1), some (.int z2), some (.int p0), some (.int 0), some (.int 0), some (.int 0), none, none]) rfl ?_
              exact Rt.lc h (lc_some (lc_none (lc_none (lc_some (lc_some (lc_some (lc_some (lc_some (lc_some (lc_some (lc_none (lc_none lc_nil))))))))))))
            · replace h := h.2 c10
              refine s_iconst (v := 0) dX7_drawn_59 (by decide) ?_
              exact t_iret dX7_drawn_60 (NR_i rfl _) h
          · replace h := h.2 c9
            refine s_iconst (v := (-1)) dX7_drawn_46 (by decide) ?_
            exact t_iret dX7_drawn_47 (NR_i rfl _) h
theorem bX7_drawn_73 {g : Gt} {d : Nat} {t : Tt} {Q : Option Value → Tt → Prop} {x3 : Int32} {x4 : Int32} {x5 : Int32} {x6 : Int32} {x7 : Int32} {x8 : Int32} {x9 : Int32} (h : (x4 ≤ x9 → (¬ x3 = 0 → Q (some (.int x8)) t) ∧ (x3 = 0 → Q (some (.int x7)) t)) ∧ (¬ x4 ≤ x9 → Rt g d mX5_copyFrom 0 [some (.ref 5), some (.ref 1)] [] t (QV (fun t3 => Rt g (d + 1) mX7_drawn 94 [some (.ref 0), none, none, some (.int x3), some (.int x4), some (.int x5), some (.int x6), some (.int x7), some (.int x8), some (.int x9), some (.int 0), none] [] t3 Q)))) : Rt g (d + 1) mX7_drawn 73 [some (.ref 0), none, none, some (.int x3), some (.int x4), some (.int x5), some (.int x6), some (.int x7), some (.int x8), some (.int x9), none, none] [] t Q := by
  refine s_iload dX7_drawn_73 rfl ?_
  refine s_iload dX7_drawn_75 rfl ?_
  refine s_icmp_ge (tgt := 202) dX7_drawn_77 (by decide) (fun c1 => ?_) (fun c1 => ?_)
  · replace h := h.1 c1
    refine s_iload_n dX7_drawn_202 rfl rfl ?_
    refine s_if_ne (tgt := 211) dX7_drawn_203 (by decide) (fun c2 => ?_) (fun c2 => ?_)
    · replace h := h.1 c2
      refine s_iload dX7_drawn_211 rfl ?_
      exact t_iret dX7_drawn_213 (NR_i rfl _) h
    · replace h := h.2 c2
      refine s_iload dX7_drawn_206 rfl ?_
      refine s_goto (tgt := 213) dX7_drawn_208 (by decide) ?_
      exact t_iret dX7_drawn_213 (NR_i rfl _) h
  · replace h := h.2 c1
    refine s_aload_n dX7_drawn_80 rfl rfl ?_
    refine t_getR (o' := 5) dX7_drawn_81 fl_X7_16 rfl (by decide) rfl rfl ?_
    refine s_aload_n dX7_drawn_84 rfl rfl ?_
    refine t_getR (o' := 1) dX7_drawn_85 fl_X7_10 rfl (by decide) rfl rfl ?_
    refine t_callV (M' := mX5_copyFrom) (k := 0) (As := [.ref 1]) (rest := []) dX7_drawn_88 ml_X7_203 miX5_copyFrom msX5_copyFrom rfl (by decide) rfl rfl (Nat.le_of_ble_eq_true rfl) (Nat.le_of_ble_eq_true rfl) rfl h (fun rv t3 q => ?_)
    obtain ⟨rfl, h⟩ := q
    show Rt g (d + 1) mX7_drawn 91 [some (.ref 0), none, none, some (.int x3), some (.int x4), some (.int x5), some (.int x6), some (.int x7), some (.int x8), some (.int x9), none, none] [] t3 Q
    refine s_iconst (v := 0) dX7_drawn_91 (by decide) ?_
    refine s_istore dX7_drawn_92 (by decide) rfl (L9 := [some (.ref 0), none, none, some (.int x3), some (.int x4), some (.int x5), some (.int x6), some (.int x7), some (.int x8), some (.int x9), some (.int 0), none]) rfl ?_
    exact h
theorem bX7_drawn_94 {g : Gt} {d : Nat} {t : Tt} {Q : Option Value → Tt → Prop} {x3 : Int32} {x4 : Int32} {x5 : Int32} {x6 : Int32} {x7 : Int32} {x8 : Int32} {x9 : Int32} {x10 : Int32} (h : (x5 ≤ x10 → Rt g d mX5_flakesOfAll 0 [some (.ref 5), none, none] [] t (QI (fun v3 t2 => ∀ z4 : Int32, z4 = (x8 + v3) → Rt g (d + 1) mX7_drawn 73 [some (.ref 0), none, none, some (.int x3), some (.int x4), some (.int x5), some (.int x6), some (.int x7), some (.int z4), some (.int (x9 + 1)), none, none] [] t2 Q))) ∧ (¬ x5 ≤ x10 → ∀ z5 : Int32, z5 = ((x6 * 1103515245) + 12345) → ∀ z6 : Int32, z6 = (jr (jus z5 12) 10) → Rt g d mX7_isLie 0 [some (.int (t.1 0 11)), some (.int z6), some (.int (jr (jus z5 18) 2))] [] t (QI (fun v8 t7 => (v8 = 0 → Rt g (d + 1) mX7_drawn 178 [some (.ref 0), none, none, some (.int x3), some (.int x4), some (.int x5), some (.int z5), some (.int x7), some (.int x8), some (.int x9), some (.int x10), none] [] t7 Q) ∧ (¬ v8 = 0 → isLw t7.2.2.1 ∧ (¬ (t7.1 1 0) = 0 ∧ Rt g d mX5_lie 0 [some (.ref 5), some (.ref t7.2.2.1), some (.int (jr (jus z5 4) (t7.1 1 0))), some (.int z6), some (.int (jr (jus z5 22) 10)), none, none, none, none, none, none] [] t7 (QI (fun v13 t12 => Rt g (d + 1) mX7_drawn 178 [some (.ref 0), none, none, some (.int x3), some (.int x4), some (.int x5), some (.int z5), some (.int (x7 + 1)), some (.int x8), some (.int x9), some (.int x10), none] [] t12 Q)))))))) : Rt g (d + 1) mX7_drawn 94 [some (.ref 0), none, none, some (.int x3), some (.int x4), some (.int x5), some (.int x6), some (.int x7), some (.int x8), some (.int x9), some (.int x10), none] [] t Q := by
  refine s_iload dX7_drawn_94 rfl ?_
  refine s_iload dX7_drawn_96 rfl ?_
  refine s_icmp_ge (tgt := 184) dX7_drawn_98 (by decide) (fun c1 => ?_) (fun c1 => ?_)
  · replace h := h.1 c1
    refine s_iload dX7_drawn_184 rfl ?_
    refine s_aload_n dX7_drawn_186 rfl rfl ?_
    refine t_getR (o' := 5) dX7_drawn_187 fl_X7_16 rfl (by decide) rfl rfl ?_
    refine t_callV (M' := mX5_flakesOfAll) (k := 2) (As := []) (rest := [.int x8]) dX7_drawn_190 ml_X7_258 miX5_flakesOfAll msX5_flakesOfAll rfl (by decide) rfl rfl (Nat.le_of_ble_eq_true rfl) (Nat.le_of_ble_eq_true rfl) rfl h (fun rv t2 q => ?_)
    obtain ⟨v3, rfl, h⟩ := q
    show Rt g (d + 1) mX7_drawn 193 [some (.ref 0), none, none, some (.int x3), some (.int x4), some (.int x5), some (.int x6), some (.int x7), some (.int x8), some (.int x9), some (.int x10), none] [.int v3, .int x8] t2 Q
    refine s_iadd dX7_drawn_193 ?_
    refine t_nmI (fun z4 ez4 => ?_)
    replace h := h z4 ez4
    refine s_istore dX7_drawn_194 (by decide) rfl (L9 := [some (.ref 0), none, none, some (.int x3), some (.int x4), some (.int x5), some (.int x6), some (.int x7), some (.int z4), some (.int x9), some (.int x10), none]) rfl ?_
    refine s_iinc (w := x9 + 1) dX7_drawn_196 rfl (by rfl) (by decide) rfl (L9 := [some (.ref 0), none, none, some (.int x3), some (.int x4), some (.int x5), some (.int x6), some (.int x7), some (.int z4), some (.int (x9 + 1)), some (.int x10), none]) rfl ?_
    refine s_goto (tgt := 73) dX7_drawn_199 (by decide) ?_
    exact Rt.lc h (lc_some (lc_none (lc_none (lc_some (lc_some (lc_some (lc_some (lc_some (lc_some (lc_some (lc_none (lc_none lc_nil))))))))))))
  · replace h := h.2 c1
    refine s_iload dX7_drawn_101 rfl ?_
    refine s_ldc (v := 1103515245) dX7_drawn_103 ct_X7_253 ?_
    refine s_imul dX7_drawn_105 ?_
    refine s_sipush (v := 12345) dX7_drawn_106 (by decide) ?_
    refine s_iadd dX7_drawn_109 ?_
    refine t_nmI (fun z5 ez5 => ?_)
    replace h := h z5 ez5
    refine s_istore dX7_drawn_110 (by decide) rfl (L9 := [some (.ref 0), none, none, some (.int x3), some (.int x4), some (.int x5), some (.int z5), some (.int x7), some (.int x8), some (.int x9), some (.int x10), none]) rfl ?_
    refine s_iload dX7_drawn_112 rfl ?_
    refine s_bipush (v := 12) dX7_drawn_114 (by decide) ?_
    refine s_iushr dX7_drawn_116 ?_
    refine s_bipush (v := 10) dX7_drawn_117 (by decide) ?_
    refine s_irem dX7_drawn_119 (by decide) ?_
    refine t_nmI (fun z6 ez6 => ?_)
    replace h := h z6 ez6
    refine s_istore dX7_drawn_120 (by decide) rfl (L9 := [some (.ref 0), none, none, some (.int x3), some (.int x4), some (.int x5), some (.int z5), some (.int x7), some (.int x8), some (.int x9), some (.int x10), some (.int z6)]) rfl ?_
    refine s_aload_n dX7_drawn_122 rfl rfl ?_
    refine t_getI dX7_drawn_123 fl_X7_132 rfl (by decide) rfl ?_
    refine s_iload dX7_drawn_126 rfl ?_
    refine s_iload dX7_drawn_128 rfl ?_
    refine s_bipush (v := 18) dX7_drawn_130 (by decide) ?_
    refine s_iushr dX7_drawn_132 ?_
    refine s_iconst (v := 2) dX7_drawn_133 (by decide) ?_
    refine s_irem dX7_drawn_134 (by decide) ?_
    refine t_callS (M' := mX7_isLie) (k := 0) (As := [.int (t.1 0 11), .int z6, .int (jr (jus z5 18) 2)]) (rest := []) dX7_drawn_135 ml_X7_254 mstX7_isLie rfl (Nat.le_of_ble_eq_true rfl) (Nat.le_of_ble_eq_true rfl) rfl h (fun rv t7 q => ?_)
    obtain ⟨v8, rfl, h⟩ := q
    show Rt g (d + 1) mX7_drawn 138 [some (.ref 0), none, none, some (.int x3), some (.int x4), some (.int x5), some (.int z5), some (.int x7), some (.int x8), some (.int x9), some (.int x10), some (.int z6)] [.int v8] t7 Q
    refine s_if_eq (tgt := 178) dX7_drawn_138 (by decide) (fun c9 => ?_) (fun c9 => ?_)
    · replace h := h.1 c9
      exact Rt.lc h (lc_some (lc_none (lc_none (lc_some (lc_some (lc_some (lc_some (lc_some (lc_some (lc_some (lc_some (lc_none lc_nil))))))))))))
    · replace h := h.2 c9
      refine s_aload_n dX7_drawn_141 rfl rfl ?_
      refine t_getR (o' := 5) dX7_drawn_142 fl_X7_16 rfl (by decide) rfl rfl ?_
      refine s_aload_n dX7_drawn_145 rfl rfl ?_
      obtain ⟨g10, h⟩ := h
      refine t_getR dX7_drawn_146 fl_X7_66 rfl (by decide) rfl rfl ?_
      refine s_iload dX7_drawn_149 rfl ?_
      refine s_iconst (v := 4) dX7_drawn_151 (by decide) ?_
      refine s_iushr dX7_drawn_152 ?_
      refine s_aload_n dX7_drawn_153 rfl rfl ?_
      refine t_getR (o' := 1) dX7_drawn_154 fl_X7_10 rfl (by decide) rfl rfl ?_
      refine t_getI dX7_drawn_157 fl_X7_75 rfl (by decide) rfl ?_
      obtain ⟨g11, h⟩ := h
      refine s_irem dX7_drawn_160 g11 ?_
      refine s_iload dX7_drawn_161 rfl ?_
      refine s_iload dX7_drawn_163 rfl ?_
      refine s_bipush (v := 22) dX7_drawn_165 (by decide) ?_
      refine s_iushr dX7_drawn_167 ?_
      refine s_bipush (v := 10) dX7_drawn_168 (by decide) ?_
      refine s_irem dX7_drawn_170 (by decide) ?_
      refine t_callV (M' := mX5_lie) (k := 6) (As := [.ref t7.2.2.1, .int (jr (jus z5 4) (t7.1 1 0)), .int z6, .int (jr (jus z5 22) 10)]) (rest := []) dX7_drawn_171 ml_X7_217 miX5_lie msX5_lie rfl (by decide) rfl rfl (Nat.le_of_ble_eq_true rfl) (Nat.le_of_ble_eq_true rfl) rfl h (fun rv t12 q => ?_)
      obtain ⟨v13, rfl, h⟩ := q
      show Rt g (d + 1) mX7_drawn 174 [some (.ref 0), none, none, some (.int x3), some (.int x4), some (.int x5), some (.int z5), some (.int x7), some (.int x8), some (.int x9), some (.int x10), some (.int z6)] [.int v13] t12 Q
      refine s_pop dX7_drawn_174 rfl ?_
      refine s_iinc (w := x7 + 1) dX7_drawn_175 rfl (by rfl) (by decide) rfl (L9 := [some (.ref 0), none, none, some (.int x3), some (.int x4), some (.int x5), some (.int z5), some (.int (x7 + 1)), some (.int x8), some (.int x9), some (.int x10), some (.int z6)]) rfl ?_
      exact Rt.lc h (lc_some (lc_none (lc_none (lc_some (lc_some (lc_some (lc_some (lc_some (lc_some (lc_some (lc_some (lc_none lc_nil))))))))))))
theorem bX7_drawn_178 {g : Gt} {d : Nat} {t : Tt} {Q : Option Value → Tt → Prop} {x3 : Int32} {x4 : Int32} {x5 : Int32} {x6 : Int32} {x7 : Int32} {x8 : Int32} {x9 : Int32} {x10 : Int32} (h : Rt g (d + 1) mX7_drawn 94 [some (.ref 0), none, none, some (.int x3), some (.int x4), some (.int x5), some (.int x6), some (.int x7), some (.int x8), some (.int x9), some (.int (x10 + 1)), none] [] t Q) : Rt g (d + 1) mX7_drawn 178 [some (.ref 0), none, none, some (.int x3), some (.int x4), some (.int x5), some (.int x6), some (.int x7), some (.int x8), some (.int x9), some (.int x10), none] [] t Q := by
  refine s_iinc (w := x10 + 1) dX7_drawn_178 rfl (by rfl) (by decide) rfl (L9 := [some (.ref 0), none, none, some (.int x3), some (.int x4), some (.int x5), some (.int x6), some (.int x7), some (.int x8), some (.int x9), some (.int (x10 + 1)), none]) rfl ?_
  refine s_goto (tgt := 94) dX7_drawn_181 (by decide) ?_
  exact h
theorem bX7_keep_0 {g : Gt} {d : Nat} {t : Tt} {Q : Option Value → Tt → Prop} {p0 : Int32} {p1 : Int32} (h : Rt g d mX7_noShelf 0 [some (.int p0)] [] t (QI (fun v2 t1 => (¬ v2 = 0 → Q (some (.int (-1))) t1) ∧ (v2 = 0 → (p1 < (-1) → Q (some (.int (-1))) t1) ∧ (¬ p1 < (-1) → (p1 < (t1.1 27 0) → vp_in p0 6 ∧ ((¬ p1 = (-1) → Rt g (d + 1) mX7_keep 42 [some (.ref 0), some (.int p0), some (.int p1)] [.int (-1), .ref (45 + 2 * p0.toNatClampNeg)] t1 Q) ∧ (p1 = (-1) → Rt g (d + 1) mX7_keep 42 [some (.ref 0), some (.int p0), some (.int p1)] [.int (-2), .ref (45 + 2 * p0.toNatClampNeg)] t1 Q))) ∧ (¬ p1 < (t1.1 27 0) → Q (some (.int (-1))) t1)))))) : Rt g (d + 1) mX7_keep 0 [some (.ref 0), some (.int p0), some (.int p1)] [] t Q := by
  refine s_iload_n dX7_keep_0 rfl rfl ?_
  refine t_callS (M' := mX7_noShelf) (k := 0) (As := [.int p0]) (rest := []) dX7_keep_1 ml_X7_86 mstX7_noShelf rfl (Nat.le_of_ble_eq_true rfl) (Nat.le_of_ble_eq_true rfl) rfl h (fun rv t1 q => ?_)
  obtain ⟨v2, rfl, h⟩ := q
  show Rt g (d + 1) mX7_keep 4 [some (.ref 0), some (.int p0), some (.int p1)] [.int v2] t1 Q
  refine s_if_ne (tgt := 23) dX7_keep_4 (by decide) (fun c3 => ?_) (fun c3 => ?_)
  · replace h := h.1 c3
    refine s_iconst (v := (-1)) dX7_keep_23 (by decide) ?_
    exact t_iret dX7_keep_24 (NR_i rfl _) h
  · replace h := h.2 c3
    refine s_iload_n dX7_keep_7 rfl rfl ?_
    refine s_iconst (v := (-1)) dX7_keep_8 (by decide) ?_
    refine s_icmp_lt (tgt := 23) dX7_keep_9 (by decide) (fun c4 => ?_) (fun c4 => ?_)
    · replace h := h.1 c4
      refine s_iconst (v := (-1)) dX7_keep_23 (by decide) ?_
      exact t_iret dX7_keep_24 (NR_i rfl _) h
    · replace h := h.2 c4
      refine s_iload_n dX7_keep_12 rfl rfl ?_
      refine s_aload_n dX7_keep_13 rfl rfl ?_
      refine t_getR (o' := 27) dX7_keep_14 fl_X7_39 rfl (by decide) rfl rfl ?_
      refine t_getI dX7_keep_17 fl_X7_311 rfl (by decide) rfl ?_
      refine s_icmp_lt (tgt := 25) dX7_keep_20 (by decide) (fun c5 => ?_) (fun c5 => ?_)
      · replace h := h.1 c5
        refine s_aload_n dX7_keep_25 rfl rfl ?_
        refine t_getR (o' := 30) dX7_keep_26 fl_X7_45 rfl (by decide) rfl rfl ?_
        refine s_iload_n dX7_keep_29 rfl rfl ?_
        obtain ⟨g6, h⟩ := h
        refine t_aald dX7_keep_30 g6 rfl ?_
        refine s_iload_n dX7_keep_31 rfl rfl ?_
        refine s_iconst (v := (-1)) dX7_keep_32 (by decide) ?_
        refine s_icmp_ne (tgt := 41) dX7_keep_33 (by decide) (fun c7 => ?_) (fun c7 => ?_)
        · replace h := h.1 c7
          refine s_iconst (v := (-1)) dX7_keep_41 (by decide) ?_
          exact h
        · replace h := h.2 c7
          refine s_bipush (v := (-2)) dX7_keep_36 (by decide) ?_
          refine s_goto (tgt := 42) dX7_keep_38 (by decide) ?_
          exact h
      · replace h := h.2 c5
        refine s_iconst (v := (-1)) dX7_keep_23 (by decide) ?_
        exact t_iret dX7_keep_24 (NR_i rfl _) h
theorem bX7_keep_42 {g : Gt} {d : Nat} {t : Tt} {Q : Option Value → Tt → Prop} {x1 : Int32} {x2 : Int32} {s0 : Int32} {(45 + 2 * p0.toNatClampNeg) : Nat} ((isSh_of g6) : isSh (45 + 2 * p0.toNatClampNeg)) (h : vp_in x1 6 ∧ Q (some (.int 1)) (pI (pI t (45 + 2 * p0.toNatClampNeg) 0 s0) (45 + 2 * x1.toNatClampNeg) 2 x2)) : Rt g (d + 1) mX7_keep 42 [some (.ref 0), some (.int x1), some (.int x2)] [.int s0, .ref (45 + 2 * p0.toNatClampNeg)] t Q := by
  refine t_putI dX7_keep_42 fl_X7_90 (isSh_k (isSh_of g6)) (isSh_z (isSh_of g6)) rfl rfl rfl rfl ?_
  refine s_aload_n dX7_keep_45 rfl rfl ?_
  refine t_getR (o' := 30) dX7_keep_46 fl_X7_45 rfl (by decide) rfl rfl ?_
  refine s_iload_n dX7_keep_49 rfl rfl ?_
  obtain ⟨g1, h⟩ := h
  refine t_aald dX7_keep_50 g1 rfl ?_
  refine s_iload_n dX7_keep_51 rfl rfl ?_
  refine t_putI dX7_keep_52 fl_X7_314 (isSh_k (isSh_of g1)) (isSh_z (isSh_of g1)) rfl rfl rfl rfl ?_
  refine s_iconst (v := 1) dX7_keep_55 (by decide) ?_
  exact t_iret dX7_keep_56 (NR_i rfl _) h
theorem bX7_shift_0 {g : Gt} {d : Nat} {t : Tt} {Q : Option Value → Tt → Prop} {p0 : Int32} {p1 : Int32} {p2 : Int32} {p3 : Int32} {p4 : Int32} (h : Rt g d mX7_noShelf 0 [some (.int p0)] [] t (QI (fun v2 t1 => (¬ v2 = 0 → Q (some (.int (-1))) t1) ∧ (v2 = 0 → Rt g d mX7_noShelf 0 [some (.int p2)] [] t1 (QI (fun v5 t4 => (v5 = 0 → vp_in p0 6 ∧ (vp_in p2 6 ∧ (((t4.1 (45 + 2 * p0.toNatClampNeg) 0) = (-2) → Q (some (.int (-11))) t4) ∧ (¬ (t4.1 (45 + 2 * p0.toNatClampNeg) 0) = (-2) → (¬ (t4.1 (45 + 2 * p2.toNatClampNeg) 0) = (-2) → ((t4.1 (45 + 2 * p0.toNatClampNeg) 0) = (-1) → Q (some (.int (-12))) t4) ∧ (¬ (t4.1 (45 + 2 * p0.toNatClampNeg) 0) = (-1) → ((t4.1 (45 + 2 * p0.toNatClampNeg) 0) = (t4.1 (45 + 2 * p2.toNatClampNeg) 0) → Rt g d mX6_lacks 0 [some (.ref (45 + 2 * p0.toNatClampNeg)), some (.int p1), some (.int p4)] [] t4 (QI (fun v14 t13 => (¬ v14 = 0 → Q (some (.int (-13))) t13) ∧ (v14 = 0 → Rt g d mX6_lacks 0 [some (.ref (45 + 2 * p2.toNatClampNeg)), some (.int p3), some (.int p4)] [] t13 (QI (fun v17 t16 => (v17 = 0 → ¬ p1 < 0 ∧ (¬ p3 < 0 ∧ (¬ p4 < 0 ∧ (p1.toNatClampNeg + p4.toNatClampNeg ≤ 60 ∧ (p3.toNatClampNeg + p4.toNatClampNeg ≤ 60 ∧ Q (some (.int p4)) (cJ t16 ((45 + 2 * p0.toNatClampNeg) + 1) ((45 + 2 * p2.toNatClampNeg) + 1) p1.toNatClampNeg p3.toNatClampNeg p4.toNatClampNeg)))))) ∧ (¬ v17 = 0 → Q (some (.int (-13))) t16))))))) ∧ (¬ (t4.1 (45 + 2 * p0.toNatClampNeg) 0) = (t4.1 (45 + 2 * p2.toNatClampNeg) 0) → Q (some (.int (-12))) t4))) ∧ ((t4.1 (45 + 2 * p2.toNatClampNeg) 0) = (-2) → Q (some (.int (-11))) t4))))) ∧ (¬ v5 = 0 → Q (some (.int (-1))) t4))))))) : Rt g (d + 1) mX7_shift 0 [some (.ref 0), some (.int p0), some (.int p1), some (.int p2), some (.int p3), some (.int p4), none, none] [] t Q := by
  refine s_iload_n dX7_shift_0 rfl rfl ?_
  refine t_callS (M' := mX7_noShelf) (k := 0) (As := [.int p0]) (rest := []) dX7_shift_1 ml_X7_86 mstX7_noShelf rfl (Nat.le_of_ble_eq_true rfl) (Nat.le_of_ble_eq_true rfl) rfl h (fun rv t1 q => ?_)
  obtain ⟨v2, rfl, h⟩ := q
  show Rt g (d + 1) mX7_shift 4 [some (.ref 0), some (.int p0), some (.int p1), some (.int p2), some (.int p3), some (.int p4), none, none] [.int v2] t1 Q
  refine s_if_ne (tgt := 14) dX7_shift_4 (by decide) (fun c3 => ?_) (fun c3 => ?_)
  · replace h := h.1 c3
    refine s_iconst (v := (-1)) dX7_shift_14 (by decide) ?_
    exact t_iret dX7_shift_15 (NR_i rfl _) h
  · replace h := h.2 c3
    refine s_iload_n dX7_shift_7 rfl rfl ?_
    refine t_callS (M' := mX7_noShelf) (k := 0) (As := [.int p2]) (rest := []) dX7_shift_8 ml_X7_86 mstX7_noShelf rfl (Nat.le_of_ble_eq_true rfl) (Nat.le_of_ble_eq_true rfl) rfl h (fun rv t4 q => ?_)
    obtain ⟨v5, rfl, h⟩ := q
    show Rt g (d + 1) mX7_shift 11 [some (.ref 0), some (.int p0), some (.int p1), some (.int p2), some (.int p3), some (.int p4), none, none] [.int v5] t4 Q
    refine s_if_eq (tgt := 16) dX7_shift_11 (by decide) (fun c6 => ?_) (fun c6 => ?_)
    · replace h := h.1 c6
      refine s_aload_n dX7_shift_16 rfl rfl ?_
      refine t_getR (o' := 30) dX7_shift_17 fl_X7_45 rfl (by decide) rfl rfl ?_
      refine s_iload_n dX7_shift_20 rfl rfl ?_
      obtain ⟨g7, h⟩ := h
      refine t_aald dX7_shift_21 g7 rfl ?_
      refine s_astore dX7_shift_22 (by decide) rfl (L9 := [some (.ref 0), some (.int p0), some (.int p1), some (.int p2), some (.int p3), some (.int p4), some (.ref (45 + 2 * p0.toNatClampNeg)), none]) rfl ?_
      refine s_aload_n dX7_shift_24 rfl rfl ?_
      refine t_getR (o' := 30) dX7_shift_25 fl_X7_45 rfl (by decide) rfl rfl ?_
      refine s_iload_n dX7_shift_28 rfl rfl ?_
      obtain ⟨g8, h⟩ := h
      refine t_aald dX7_shift_29 g8 rfl ?_
      refine s_astore dX7_shift_30 (by decide) rfl (L9 := [some (.ref 0), some (.int p0), some (.int p1), some (.int p2), some (.int p3), some (.int p4), some (.ref (45 + 2 * p0.toNatClampNeg)), some (.ref (45 + 2 * p2.toNatClampNeg))]) rfl ?_
      refine s_aload dX7_shift_32 rfl ?_
      refine t_getI dX7_shift_34 fl_X7_90 (isSh_k (isSh_of g7)) (isSh_z (isSh_of g7)) rfl ?_
      refine s_bipush (v := (-2)) dX7_shift_37 (by decide) ?_
      refine s_icmp_eq (tgt := 52) dX7_shift_39 (by decide) (fun c9 => ?_) (fun c9 => ?_)
      · replace h := h.1 c9
        refine s_bipush (v := (-11)) dX7_shift_52 (by decide) ?_
        exact t_iret dX7_shift_54 (NR_i rfl _) h
      · replace h := h.2 c9
        refine s_aload dX7_shift_42 rfl ?_
        refine t_getI dX7_shift_44 fl_X7_90 (isSh_k (isSh_of g8)) (isSh_z (isSh_of g8)) rfl ?_
        refine s_bipush (v := (-2)) dX7_shift_47 (by decide) ?_
        refine s_icmp_ne (tgt := 55) dX7_shift_49 (by decide) (fun c10 => ?_) (fun c10 => ?_)
        · replace h := h.1 c10
          refine s_aload dX7_shift_55 rfl ?_
          refine t_getI dX7_shift_57 fl_X7_90 (isSh_k (isSh_of g7)) (isSh_z (isSh_of g7)) rfl ?_
          refine s_iconst (v := (-1)) dX7_shift_60 (by decide) ?_
          refine s_icmp_eq (tgt := 77) dX7_shift_61 (by decide) (fun c11 => ?_) (fun c11 => ?_)
          · replace h := h.1 c11
            refine s_bipush (v := (-12)) dX7_shift_77 (by decide) ?_
            exact t_iret dX7_shift_79 (NR_i rfl _) h
          · replace h := h.2 c11
            refine s_aload dX7_shift_64 rfl ?_
            refine t_getI dX7_shift_66 fl_X7_90 (isSh_k (isSh_of g7)) (isSh_z (isSh_of g7)) rfl ?_
            refine s_aload dX7_shift_69 rfl ?_
            refine t_getI dX7_shift_71 fl_X7_90 (isSh_k (isSh_of g8)) (isSh_z (isSh_of g8)) rfl ?_
            refine s_icmp_eq (tgt := 80) dX7_shift_74 (by decide) (fun c12 => ?_) (fun c12 => ?_)
            · replace h := h.1 c12
              refine s_aload dX7_shift_80 rfl ?_
              refine s_iload_n dX7_shift_82 rfl rfl ?_
              refine s_iload dX7_shift_83 rfl ?_
              refine t_callV (M' := mX6_lacks) (k := 0) (As := [.int p1, .int p4]) (rest := []) dX7_shift_85 ml_X7_332 miX6_lacks msX6_lacks (isSh_k (isSh_of g7)) (isSh_z (isSh_of g7)) rfl rfl (Nat.le_of_ble_eq_true rfl) (Nat.le_of_ble_eq_true rfl) rfl h (fun rv t13 q => ?_)
              obtain ⟨v14, rfl, h⟩ := q
              show Rt g (d + 1) mX7_shift 88 [some (.ref 0), some (.int p0), some (.int p1), some (.int p2), some (.int p3), some (.int p4), some (.ref (45 + 2 * p0.toNatClampNeg)), some (.ref (45 + 2 * p2.toNatClampNeg))] [.int v14] t13 Q
              refine s_if_ne (tgt := 103) dX7_shift_88 (by decide) (fun c15 => ?_) (fun c15 => ?_)
              · replace h := h.1 c15
                refine s_bipush (v := (-13)) dX7_shift_103 (by decide) ?_
                exact t_iret dX7_shift_105 (NR_i rfl _) h
              · replace h := h.2 c15
                refine s_aload dX7_shift_91 rfl ?_
                refine s_iload dX7_shift_93 rfl ?_
                refine s_iload dX7_shift_95 rfl ?_
                refine t_callV (M' := mX6_lacks) (k := 0) (As := [.int p3, .int p4]) (rest := []) dX7_shift_97 ml_X7_332 miX6_lacks msX6_lacks (isSh_k (isSh_of g8)) (isSh_z (isSh_of g8)) rfl rfl (Nat.le_of_ble_eq_true rfl) (Nat.le_of_ble_eq_true rfl) rfl h (fun rv t16 q => ?_)
                obtain ⟨v17, rfl, h⟩ := q
                show Rt g (d + 1) mX7_shift 100 [some (.ref 0), some (.int p0), some (.int p1), some (.int p2), some (.int p3), some (.int p4), some (.ref (45 + 2 * p0.toNatClampNeg)), some (.ref (45 + 2 * p2.toNatClampNeg))] [.int v17] t16 Q
                refine s_if_eq (tgt := 106) dX7_shift_100 (by decide) (fun c18 => ?_) (fun c18 => ?_)
                · replace h := h.1 c18
                  refine s_aload dX7_shift_106 rfl ?_
                  refine t_getR dX7_shift_108 fl_X7_104 (isSh_k (isSh_of g7)) (isSh_z (isSh_of g7)) rfl (isSh_r3 _ (isSh_of g7)) ?_
                  refine s_iload_n dX7_shift_111 rfl rfl ?_
                  refine s_aload dX7_shift_112 rfl ?_
                  refine t_getR dX7_shift_114 fl_X7_104 (isSh_k (isSh_of g8)) (isSh_z (isSh_of g8)) rfl (isSh_r3 _ (isSh_of g8)) ?_
                  refine s_iload dX7_shift_117 rfl ?_
                  refine s_iload dX7_shift_119 rfl ?_
                  obtain ⟨g19, h⟩ := h
                  obtain ⟨g20, h⟩ := h
                  obtain ⟨g21, h⟩ := h
                  obtain ⟨g22, h⟩ := h
                  obtain ⟨g23, h⟩ := h
                  refine t_cpyJ dX7_shift_121 ac_X7_267 (isSh_k3 (isSh_of g7)) (isSh_z3 (isSh_of g7)) (isSh_k3 (isSh_of g8)) (isSh_z3 (isSh_of g8)) g19 g20 g21 g22 g23 (Nat.le_of_ble_eq_true rfl) ?_
                  refine s_iload dX7_shift_124 rfl ?_
                  exact t_iret dX7_shift_126 (NR_i rfl _) h
                · replace h := h.2 c18
                  refine s_bipush (v := (-13)) dX7_shift_103 (by decide) ?_
                  exact t_iret dX7_shift_105 (NR_i rfl _) h
            · replace h := h.2 c12
              refine s_bipush (v := (-12)) dX7_shift_77 (by decide) ?_
              exact t_iret dX7_shift_79 (NR_i rfl _) h
        · replace h := h.2 c10
          refine s_bipush (v := (-11)) dX7_shift_52 (by decide) ?_
          exact t_iret dX7_shift_54 (NR_i rfl _) h
    · replace h := h.2 c6
      refine s_iconst (v := (-1)) dX7_shift_14 (by decide) ?_
      exact t_iret dX7_shift_15 (NR_i rfl _) h
theorem bX7_count_0 {g : Gt} {d : Nat} {t : Tt} {Q : Option Value → Tt → Prop} {p0 : Int32} (h : (p0 = 0 → Q (some (.int (t.1 1 0))) t) ∧ (¬ p0 = 0 → (p0 = 1 → Rt g d mX5_howManyGone 0 [some (.ref 1), none, none] [] t (QI (fun v4 t3 => Q (some (.int v4)) t3))) ∧ (¬ p0 = 1 → (p0 = 2 → Q (some (.int (t.1 33 1))) t) ∧ (¬ p0 = 2 → (p0 = 3 → Q (some (.int (t.1 22 0))) t) ∧ (¬ p0 = 3 → (p0 = 4 → Q (some (.int (t.1 27 0))) t) ∧ (¬ p0 = 4 → (p0 = 5 → Q (some (.int (t.1 27 2))) t) ∧ (¬ p0 = 5 → Q (some (.int (-1))) t))))))) : Rt g (d + 1) mX7_count 0 [some (.ref 0), some (.int p0)] [] t Q := by
  refine s_iload_n dX7_count_0 rfl rfl ?_
  by_cases c1 : p0 = 0
  · replace h := h.1 c1
    refine s_tin (off := 39) (tgt := 40) dX7_count_1 (by rw [c1]; decide) (by rw [c1]; decide) (by rw [c1]; rfl) (by decide) ?_
    refine s_aload_n dX7_count_40 rfl rfl ?_
    refine t_getR (o' := 1) dX7_count_41 fl_X7_10 rfl (by decide) rfl rfl ?_
    refine t_getI dX7_count_44 fl_X7_75 rfl (by decide) rfl ?_
    exact t_iret dX7_count_47 (NR_i rfl _) h
  · replace h := h.2 c1
    by_cases c2 : p0 = 1
    · replace h := h.1 c2
      refine s_tin (off := 47) (tgt := 48) dX7_count_1 (by rw [c2]; decide) (by rw [c2]; decide) (by rw [c2]; rfl) (by decide) ?_
      refine s_aload_n dX7_count_48 rfl rfl ?_
      refine t_getR (o' := 1) dX7_count_49 fl_X7_10 rfl (by decide) rfl rfl ?_
      refine t_callV (M' := mX5_howManyGone) (k := 2) (As := []) (rest := []) dX7_count_52 ml_X7_341 miX5_howManyGone msX5_howManyGone rfl (by decide) rfl rfl (Nat.le_of_ble_eq_true rfl) (Nat.le_of_ble_eq_true rfl) rfl h (fun rv t3 q => ?_)
      obtain ⟨v4, rfl, h⟩ := q
      show Rt g (d + 1) mX7_count 55 [some (.ref 0), some (.int p0)] [.int v4] t3 Q
      exact t_iret dX7_count_55 (NR_i rfl _) h
    · replace h := h.2 c2
      by_cases c5 : p0 = 2
      · replace h := h.1 c5
        refine s_tin (off := 55) (tgt := 56) dX7_count_1 (by rw [c5]; decide) (by rw [c5]; decide) (by rw [c5]; rfl) (by decide) ?_
        refine s_aload_n dX7_count_56 rfl rfl ?_
        refine t_getR (o' := 33) dX7_count_57 fl_X7_59 rfl (by decide) rfl rfl ?_
        refine t_getI dX7_count_60 fl_X7_151 rfl (by decide) rfl ?_
        exact t_iret dX7_count_63 (NR_i rfl _) h
      · replace h := h.2 c5
        by_cases c6 : p0 = 3
        · replace h := h.1 c6
          refine s_tin (off := 63) (tgt := 64) dX7_count_1 (by rw [c6]; decide) (by rw [c6]; decide) (by rw [c6]; rfl) (by decide) ?_
          refine s_aload_n dX7_count_64 rfl rfl ?_
          refine t_getR (o' := 22) dX7_count_65 fl_X7_32 rfl (by decide) rfl rfl ?_
          refine t_getI dX7_count_68 fl_X7_280 rfl (by decide) rfl ?_
          exact t_iret dX7_count_71 (NR_i rfl _) h
        · replace h := h.2 c6
          by_cases c7 : p0 = 4
          · replace h := h.1 c7
            refine s_tin (off := 71) (tgt := 72) dX7_count_1 (by rw [c7]; decide) (by rw [c7]; decide) (by rw [c7]; rfl) (by decide) ?_
            refine s_aload_n dX7_count_72 rfl rfl ?_
            refine t_getR (o' := 27) dX7_count_73 fl_X7_39 rfl (by decide) rfl rfl ?_
            refine t_getI dX7_count_76 fl_X7_311 rfl (by decide) rfl ?_
            exact t_iret dX7_count_79 (NR_i rfl _) h
          · replace h := h.2 c7
            by_cases c8 : p0 = 5
            · replace h := h.1 c8
              refine s_tin (off := 79) (tgt := 80) dX7_count_1 (by rw [c8]; decide) (by rw [c8]; decide) (by rw [c8]; rfl) (by decide) ?_
              refine s_aload_n dX7_count_80 rfl rfl ?_
              refine t_getR (o' := 27) dX7_count_81 fl_X7_39 rfl (by decide) rfl rfl ?_
              refine t_getI dX7_count_84 fl_X7_344 rfl (by decide) rfl ?_
              exact t_iret dX7_count_87 (NR_i rfl _) h
            · replace h := h.2 c8
              refine s_tout (tgt := 88) dX7_count_1 (by have q0 := lv_neT c1 (a := 0) rfl; have q1 := lv_neT c2 (a := 1) rfl; have q2 := lv_neT c5 (a := 2) rfl; have q3 := lv_neT c6 (a := 3) rfl; have q4 := lv_neT c7 (a := 4) rfl; have q5 := lv_neT c8 (a := 5) rfl; omega) (by decide) ?_
              refine s_iconst (v := (-1)) dX7_count_88 (by decide) ?_
              exact t_iret dX7_count_89 (NR_i rfl _) h
theorem bJ0_length_8abf5_0 {g : Gt} {d : Nat} {t : Tt} {Q : Option Value → Tt → Prop} (h : Rt g d mJ0_coder_7d493 0 [some (.ref 1003)] [] t (QI (fun v2 t1 => Q (some (.int (jsr 6 v2))) t1))) : Rt g (d + 1) mJ0_length_8abf5 0 [some (.ref 1003)] [] t Q := by
  refine s_aload_n dJ0_length_8abf5_0 rfl rfl ?_
  refine s_strV dJ0_length_8abf5_1 sf_J0_9 ?_
  refine s_tabNl dJ0_length_8abf5_4 ?_
  refine s_aload_n dJ0_length_8abf5_5 rfl rfl ?_
  refine t_callStr (M' := mJ0_coder_7d493) (k := 0) (As := []) (rest := [.int 6]) dJ0_length_8abf5_6 ml_J0_335 miJ0_coder_7d493 msJ0_coder_7d493 rfl rfl (Nat.le_of_ble_eq_true rfl) (Nat.le_of_ble_eq_true rfl) rfl h (fun rv t1 q => ?_)
  obtain ⟨v2, rfl, h⟩ := q
  show Rt g (d + 1) mJ0_length_8abf5 9 [some (.ref 1003)] [.int v2, .int 6] t1 Q
  refine s_ishr dJ0_length_8abf5_9 ?_
  exact t_iret dJ0_length_8abf5_10 (NR_i rfl _) h
theorem bJ0_indexOf_0f7a4_0 {g : Gt} {d : Nat} {t : Tt} {Q : Option Value → Tt → Prop} {p0 : Int32} (h : Rt g d mJ0_indexOf_7cf53 0 [some (.ref 1003), some (.int p0), some (.int 0)] [] t (QI (fun v2 t1 => Q (some (.int v2)) t1))) : Rt g (d + 1) mJ0_indexOf_0f7a4 0 [some (.ref 1003), some (.int p0)] [] t Q := by
  refine s_aload_n dJ0_indexOf_0f7a4_0 rfl rfl ?_
  refine s_iload_n dJ0_indexOf_0f7a4_1 rfl rfl ?_
  refine s_iconst (v := 0) dJ0_indexOf_0f7a4_2 (by decide) ?_
  refine t_callStr (M' := mJ0_indexOf_7cf53) (k := 0) (As := [.int p0, .int 0]) (rest := []) dJ0_indexOf_0f7a4_3 ml_J0_633 miJ0_indexOf_7cf53 msJ0_indexOf_7cf53 rfl rfl (Nat.le_of_ble_eq_true rfl) (Nat.le_of_ble_eq_true rfl) rfl h (fun rv t1 q => ?_)
  obtain ⟨v2, rfl, h⟩ := q
  show Rt g (d + 1) mJ0_indexOf_0f7a4 6 [some (.ref 1003), some (.int p0)] [.int v2] t1 Q
  exact t_iret dJ0_indexOf_0f7a4_6 (NR_i rfl _) h
theorem bJ0_indexOf_7cf53_0 {g : Gt} {d : Nat} {t : Tt} {Q : Option Value → Tt → Prop} {p0 : Int32} {p1 : Int32} (h : Rt g d mJ0_isLatin1_aae02 0 [some (.ref 1003)] [] t (QI (fun v2 t1 => (v2 = 0 → Rt g d mJ0_length_8abf5 0 [some (.ref 1003)] [] t1 (QI (fun v5 t4 => False))) ∧ (¬ v2 = 0 → Rt g d mJ0_length_8abf5 0 [some (.ref 1003)] [] t1 (QI (fun v7 t6 => Rt g d mJ1_indexOf_4cfef 0 [some (.ref 1004), some (.int p0), some (.int p1), some (.int v7)] [] t6 (QI (fun v9 t8 => Q (some (.int v9)) t8)))))))) : Rt g (d + 1) mJ0_indexOf_7cf53 0 [some (.ref 1003), some (.int p0), some (.int p1)] [] t Q := by
  refine s_aload_n dJ0_indexOf_7cf53_0 rfl rfl ?_
  refine t_callStr (M' := mJ0_isLatin1_aae02) (k := 0) (As := []) (rest := []) dJ0_indexOf_7cf53_1 ml_J0_492 miJ0_isLatin1_aae02 msJ0_isLatin1_aae02 rfl rfl (Nat.le_of_ble_eq_true rfl) (Nat.le_of_ble_eq_true rfl) rfl h (fun rv t1 q => ?_)
  obtain ⟨v2, rfl, h⟩ := q
  show Rt g (d + 1) mJ0_indexOf_7cf53 4 [some (.ref 1003), some (.int p0), some (.int p1)] [.int v2] t1 Q
  refine s_if_eq (tgt := 23) dJ0_indexOf_7cf53_4 (by decide) (fun c3 => ?_) (fun c3 => ?_)
  · replace h := h.1 c3
    refine s_aload_n dJ0_indexOf_7cf53_23 rfl rfl ?_
    refine s_strV dJ0_indexOf_7cf53_24 sf_J0_9 ?_
    refine s_iload_n dJ0_indexOf_7cf53_27 rfl rfl ?_
    refine s_iload_n dJ0_indexOf_7cf53_28 rfl rfl ?_
    refine s_aload_n dJ0_indexOf_7cf53_29 rfl rfl ?_
    refine t_callStr (M' := mJ0_length_8abf5) (k := 0) (As := []) (rest := [.int p1, .int p0, .ref 1004]) dJ0_indexOf_7cf53_30 ml_J0_505 miJ0_length_8abf5 msJ0_length_8abf5 rfl rfl (Nat.le_of_ble_eq_true rfl) (Nat.le_of_ble_eq_true rfl) rfl h (fun rv t4 q => ?_)
    obtain ⟨v5, rfl, h⟩ := q
    show Rt g (d + 1) mJ0_indexOf_7cf53 33 [some (.ref 1003), some (.int p0), some (.int p1)] [.int v5, .int p1, .int p0, .ref 1004] t4 Q
    exact h.elim
  · replace h := h.2 c3
    refine s_aload_n dJ0_indexOf_7cf53_7 rfl rfl ?_
    refine s_strV dJ0_indexOf_7cf53_8 sf_J0_9 ?_
    refine s_iload_n dJ0_indexOf_7cf53_11 rfl rfl ?_
    refine s_iload_n dJ0_indexOf_7cf53_12 rfl rfl ?_
    refine s_aload_n dJ0_indexOf_7cf53_13 rfl rfl ?_
    refine t_callStr (M' := mJ0_length_8abf5) (k := 0) (As := []) (rest := [.int p1, .int p0, .ref 1004]) dJ0_indexOf_7cf53_14 ml_J0_505 miJ0_length_8abf5 msJ0_length_8abf5 rfl rfl (Nat.le_of_ble_eq_true rfl) (Nat.le_of_ble_eq_true rfl) rfl h (fun rv t6 q => ?_)
    obtain ⟨v7, rfl, h⟩ := q
    show Rt g (d + 1) mJ0_indexOf_7cf53 17 [some (.ref 1003), some (.int p0), some (.int p1)] [.int v7, .int p1, .int p0, .ref 1004] t6 Q
    refine t_callS (M' := mJ1_indexOf_4cfef) (k := 0) (As := [.ref 1004, .int p0, .int p1, .int v7]) (rest := []) dJ0_indexOf_7cf53_17 ml_J0_637 mstJ1_indexOf_4cfef rfl (Nat.le_of_ble_eq_true rfl) (Nat.le_of_ble_eq_true rfl) rfl h (fun rv t8 q => ?_)
    obtain ⟨v9, rfl, h⟩ := q
    show Rt g (d + 1) mJ0_indexOf_7cf53 20 [some (.ref 1003), some (.int p0), some (.int p1)] [.int v9] t8 Q
    refine s_goto (tgt := 36) dJ0_indexOf_7cf53_20 (by decide) ?_
    exact t_iret dJ0_indexOf_7cf53_36 (NR_i rfl _) h
theorem bJ0_coder_7d493_0 {g : Gt} {d : Nat} {t : Tt} {Q : Option Value → Tt → Prop} (h : (1 = 0 → Q (some (.int 1)) t) ∧ (¬ 1 = 0 → Q (some (.int 0)) t)) : Rt g d mJ0_coder_7d493 0 [some (.ref 1003)] [] t Q := by
  refine s_gsC dJ0_coder_7d493_0 sf_J0_38 ?_
  refine s_if_eq (tgt := 13) dJ0_coder_7d493_3 (by decide) (fun c1 => ?_) (fun c1 => ?_)
  · replace h := h.1 c1
    refine s_iconst (v := 1) dJ0_coder_7d493_13 (by decide) ?_
    exact t_iret dJ0_coder_7d493_14 ⟨.byte, rfl, rfl⟩ h
  · replace h := h.2 c1
    refine s_aload_n dJ0_coder_7d493_6 rfl rfl ?_
    refine s_strC dJ0_coder_7d493_7 sf_J0_15 ?_
    refine s_goto (tgt := 14) dJ0_coder_7d493_10 (by decide) ?_
    exact t_iret dJ0_coder_7d493_14 ⟨.byte, rfl, rfl⟩ h
theorem bJ0_isLatin1_aae02_0 {g : Gt} {d : Nat} {t : Tt} {Q : Option Value → Tt → Prop} (h : (1 = 0 → Q (some (.int 0)) t) ∧ (¬ 1 = 0 → (¬ 0 = 0 → Q (some (.int 0)) t) ∧ (0 = 0 → Q (some (.int 1)) t))) : Rt g d mJ0_isLatin1_aae02 0 [some (.ref 1003)] [] t Q := by
  refine s_gsC dJ0_isLatin1_aae02_0 sf_J0_38 ?_
  refine s_if_eq (tgt := 17) dJ0_isLatin1_aae02_3 (by decide) (fun c1 => ?_) (fun c1 => ?_)
  · replace h := h.1 c1
    refine s_iconst (v := 0) dJ0_isLatin1_aae02_17 (by decide) ?_
    exact t_iret dJ0_isLatin1_aae02_18 (NR_z rfl (Or.inl rfl)) h
  · replace h := h.2 c1
    refine s_aload_n dJ0_isLatin1_aae02_6 rfl rfl ?_
    refine s_strC dJ0_isLatin1_aae02_7 sf_J0_15 ?_
    refine s_if_ne (tgt := 17) dJ0_isLatin1_aae02_10 (by decide) (fun c2 => ?_) (fun c2 => ?_)
    · replace h := h.1 c2
      refine s_iconst (v := 0) dJ0_isLatin1_aae02_17 (by decide) ?_
      exact t_iret dJ0_isLatin1_aae02_18 (NR_z rfl (Or.inl rfl)) h
    · replace h := h.2 c2
      refine s_iconst (v := 1) dJ0_isLatin1_aae02_13 (by decide) ?_
      refine s_goto (tgt := 18) dJ0_isLatin1_aae02_14 (by decide) ?_
      exact t_iret dJ0_isLatin1_aae02_18 (NR_z rfl (Or.inr rfl)) h
theorem bJ1_canEncode_9a6ad_0 {g : Gt} {d : Nat} {t : Tt} {Q : Option Value → Tt → Prop} {p0 : Int32} (h : (p0 < 0 → Q (some (.int 0)) t) ∧ (¬ p0 < 0 → (255 < p0 → Q (some (.int 0)) t) ∧ (¬ 255 < p0 → Q (some (.int 1)) t))) : Rt g d mJ1_canEncode_9a6ad 0 [some (.int p0)] [] t Q := by
  refine s_iload_n dJ1_canEncode_9a6ad_0 rfl rfl ?_
  refine s_if_lt (tgt := 15) dJ1_canEncode_9a6ad_1 (by decide) (fun c1 => ?_) (fun c1 => ?_)
  · replace h := h.1 c1
    refine s_iconst (v := 0) dJ1_canEncode_9a6ad_15 (by decide) ?_
    exact t_iret dJ1_canEncode_9a6ad_16 (NR_z rfl (Or.inl rfl)) h
  · replace h := h.2 c1
    refine s_iload_n dJ1_canEncode_9a6ad_4 rfl rfl ?_
    refine s_sipush (v := 255) dJ1_canEncode_9a6ad_5 (by decide) ?_
    refine s_icmp_gt (tgt := 15) dJ1_canEncode_9a6ad_8 (by decide) (fun c2 => ?_) (fun c2 => ?_)
    · replace h := h.1 c2
      refine s_iconst (v := 0) dJ1_canEncode_9a6ad_15 (by decide) ?_
      exact t_iret dJ1_canEncode_9a6ad_16 (NR_z rfl (Or.inl rfl)) h
    · replace h := h.2 c2
      refine s_iconst (v := 1) dJ1_canEncode_9a6ad_11 (by decide) ?_
      refine s_goto (tgt := 16) dJ1_canEncode_9a6ad_12 (by decide) ?_
      exact t_iret dJ1_canEncode_9a6ad_16 (NR_z rfl (Or.inr rfl)) h
theorem bJ1_indexOf_4cfef_0 {g : Gt} {d : Nat} {t : Tt} {Q : Option Value → Tt → Prop} {p1 : Int32} {p2 : Int32} {p3 : Int32} (h : Rt g d mJ1_canEncode_9a6ad 0 [some (.int p1)] [] t (QI (fun v2 t1 => (¬ v2 = 0 → ∀ z4 : Int32, z4 = (imax p2 0) → ∀ z5 : Int32, z5 = (imin p3 6) → (z4 < z5 → Rt g d mJ1_indexOfChar_4cfef 0 [some (.ref 1004), some (.int p1), some (.int z4), some (.int z5), none, none] [] t1 (QI (fun v8 t7 => Q (some (.int v8)) t7))) ∧ (¬ z4 < z5 → Q (some (.int (-1))) t1)) ∧ (v2 = 0 → Q (some (.int (-1))) t1)))) : Rt g (d + 1) mJ1_indexOf_4cfef 0 [some (.ref 1004), some (.int p1), some (.int p2), some (.int p3)] [] t Q := by
  refine s_iload_n dJ1_indexOf_4cfef_0 rfl rfl ?_
  refine t_callS (M' := mJ1_canEncode_9a6ad) (k := 0) (As := [.int p1]) (rest := []) dJ1_indexOf_4cfef_1 ml_J1_88 mstJ1_canEncode_9a6ad rfl (Nat.le_of_ble_eq_true rfl) (Nat.le_of_ble_eq_true rfl) rfl h (fun rv t1 q => ?_)
  obtain ⟨v2, rfl, h⟩ := q
  show Rt g (d + 1) mJ1_indexOf_4cfef 4 [some (.ref 1004), some (.int p1), some (.int p2), some (.int p3)] [.int v2] t1 Q
  refine s_if_ne (tgt := 9) dJ1_indexOf_4cfef_4 (by decide) (fun c3 => ?_) (fun c3 => ?_)
  · replace h := h.1 c3
    refine s_iload_n dJ1_indexOf_4cfef_9 rfl rfl ?_
    refine s_iconst (v := 0) dJ1_indexOf_4cfef_10 (by decide) ?_
    refine t_max dJ1_indexOf_4cfef_11 mmax_J1_92 (Nat.le_of_ble_eq_true rfl) ?_
    refine t_nmI (fun z4 ez4 => ?_)
    replace h := h z4 ez4
    refine s_istore_n dJ1_indexOf_4cfef_14 rfl (by decide) rfl (L9 := [some (.ref 1004), some (.int p1), some (.int z4), some (.int p3)]) rfl ?_
    refine s_iload_n dJ1_indexOf_4cfef_15 rfl rfl ?_
    refine s_aload_n dJ1_indexOf_4cfef_16 rfl rfl ?_
    refine s_tabNl dJ1_indexOf_4cfef_17 ?_
    refine t_min dJ1_indexOf_4cfef_18 mmin_J1_38 (Nat.le_of_ble_eq_true rfl) ?_
    refine t_nmI (fun z5 ez5 => ?_)
    replace h := h z5 ez5
    refine s_istore_n dJ1_indexOf_4cfef_21 rfl (by decide) rfl (L9 := [some (.ref 1004), some (.int p1), some (.int z4), some (.int z5)]) rfl ?_
    refine s_iload_n dJ1_indexOf_4cfef_22 rfl rfl ?_
    refine s_iload_n dJ1_indexOf_4cfef_23 rfl rfl ?_
    refine s_icmp_lt (tgt := 29) dJ1_indexOf_4cfef_24 (by decide) (fun c6 => ?_) (fun c6 => ?_)
    · replace h := h.1 c6
      refine s_aload_n dJ1_indexOf_4cfef_29 rfl rfl ?_
      refine s_iload_n dJ1_indexOf_4cfef_30 rfl rfl ?_
      refine s_iload_n dJ1_indexOf_4cfef_31 rfl rfl ?_
      refine s_iload_n dJ1_indexOf_4cfef_32 rfl rfl ?_
      refine t_callS (M' := mJ1_indexOfChar_4cfef) (k := 2) (As := [.ref 1004, .int p1, .int z4, .int z5]) (rest := []) dJ1_indexOf_4cfef_33 ml_J1_95 mstJ1_indexOfChar_4cfef rfl (Nat.le_of_ble_eq_true rfl) (Nat.le_of_ble_eq_true rfl) rfl h (fun rv t7 q => ?_)
      obtain ⟨v8, rfl, h⟩ := q
      show Rt g (d + 1) mJ1_indexOf_4cfef 36 [some (.ref 1004), some (.int p1), some (.int z4), some (.int z5)] [.int v8] t7 Q
      exact t_iret dJ1_indexOf_4cfef_36 (NR_i rfl _) h
    · replace h := h.2 c6
      refine s_iconst (v := (-1)) dJ1_indexOf_4cfef_27 (by decide) ?_
      exact t_iret dJ1_indexOf_4cfef_28 (NR_i rfl _) h
  · replace h := h.2 c3
    refine s_iconst (v := (-1)) dJ1_indexOf_4cfef_7 (by decide) ?_
    exact t_iret dJ1_indexOf_4cfef_8 (NR_i rfl _) h
theorem bJ1_indexOfChar_4cfef_0 {g : Gt} {d : Nat} {t : Tt} {Q : Option Value → Tt → Prop} {p1 : Int32} {p2 : Int32} {p3 : Int32} (h : ∀ z1 : Int32, z1 = (p1.toInt8.toInt32) → Rt g d mJ1_indexOfChar_4cfef 7 [some (.ref 1004), none, none, some (.int p3), some (.int z1), some (.int p2)] [] t Q) : Rt g d mJ1_indexOfChar_4cfef 0 [some (.ref 1004), some (.int p1), some (.int p2), some (.int p3), none, none] [] t Q := by
  refine s_iload_n dJ1_indexOfChar_4cfef_0 rfl rfl ?_
  refine s_i2b dJ1_indexOfChar_4cfef_1 ?_
  refine t_nmI (fun z1 ez1 => ?_)
  replace h := h z1 ez1
  refine s_istore dJ1_indexOfChar_4cfef_2 (by decide) rfl (L9 := [some (.ref 1004), some (.int p1), some (.int p2), some (.int p3), some (.int z1), none]) rfl ?_
  refine s_iload_n dJ1_indexOfChar_4cfef_4 rfl rfl ?_
  refine s_istore dJ1_indexOfChar_4cfef_5 (by decide) rfl (L9 := [some (.ref 1004), some (.int p1), some (.int p2), some (.int p3), some (.int z1), some (.int p2)]) rfl ?_
  exact Rt.lc h (lc_some (lc_none (lc_none (lc_some (lc_some (lc_some lc_nil))))))
theorem bJ1_indexOfChar_4cfef_7 {g : Gt} {d : Nat} {t : Tt} {Q : Option Value → Tt → Prop} {x3 : Int32} {x4 : Int32} {x5 : Int32} (h : (x3 ≤ x5 → Q (some (.int (-1))) t) ∧ (¬ x3 ≤ x5 → vp_in x5 6 ∧ ((¬ (tabN x5.toNatClampNeg) = x4 → Rt g d mJ1_indexOfChar_4cfef 7 [some (.ref 1004), none, none, some (.int x3), some (.int x4), some (.int (x5 + 1))] [] t Q) ∧ ((tabN x5.toNatClampNeg) = x4 → Q (some (.int x5)) t)))) : Rt g d mJ1_indexOfChar_4cfef 7 [some (.ref 1004), none, none, some (.int x3), some (.int x4), some (.int x5)] [] t Q := by
  refine s_iload dJ1_indexOfChar_4cfef_7 rfl ?_
  refine s_iload_n dJ1_indexOfChar_4cfef_9 rfl rfl ?_
  refine s_icmp_ge (tgt := 31) dJ1_indexOfChar_4cfef_10 (by decide) (fun c1 => ?_) (fun c1 => ?_)
  · replace h := h.1 c1
    refine s_iconst (v := (-1)) dJ1_indexOfChar_4cfef_31 (by decide) ?_
    exact t_iret dJ1_indexOfChar_4cfef_32 (NR_i rfl _) h
  · replace h := h.2 c1
    refine s_aload_n dJ1_indexOfChar_4cfef_13 rfl rfl ?_
    refine s_iload dJ1_indexOfChar_4cfef_14 rfl ?_
    obtain ⟨g2, h⟩ := h
    refine s_tabN dJ1_indexOfChar_4cfef_16 g2 ?_
    refine s_iload dJ1_indexOfChar_4cfef_17 rfl ?_
    refine s_icmp_ne (tgt := 25) dJ1_indexOfChar_4cfef_19 (by decide) (fun c3 => ?_) (fun c3 => ?_)
    · replace h := h.1 c3
      refine s_iinc (w := x5 + 1) dJ1_indexOfChar_4cfef_25 rfl (by rfl) (by decide) rfl (L9 := [some (.ref 1004), none, none, some (.int x3), some (.int x4), some (.int (x5 + 1))]) rfl ?_
      refine s_goto (tgt := 7) dJ1_indexOfChar_4cfef_28 (by decide) ?_
      exact h
    · replace h := h.2 c3
      refine s_iload dJ1_indexOfChar_4cfef_22 rfl ?_
      exact t_iret dJ1_indexOfChar_4cfef_24 (NR_i rfl _) h
end
