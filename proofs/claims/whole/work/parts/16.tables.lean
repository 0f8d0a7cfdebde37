-- ===== PART A: goes FIRST, ahead of the names: the tables' words, and 'selects' of the private methods out of them =====
/-- a private method of a class that the tables say can be made, by its rows of tables_1 -/
def lw_okq (q : MethodName × Nat) : Prop := (q.1.cls ≠ "java/lang/invoke/MethodHandle" ∧ q.1.cls ≠ "java/lang/invoke/VarHandle") ∧ Cond.instantiable q.1.cls q.2 ∈ tables_1 ∧ Cond.privateMethod q.1 ∈ tables_1 ∧ Cond.instanceMethod q.1 ∈ tables_1
theorem lw_p0 : lw_okq (⟨"AcrossOnFoot$River", "readCell", "(I)Z"⟩, 5) := ⟨⟨by decide +kernel, by decide +kernel⟩, List.mem_of_getElem? (i := 45) (by decide +kernel), List.mem_of_getElem? (i := 349) (by decide +kernel), List.mem_of_getElem? (i := 350) (by decide +kernel)⟩
theorem lw_p1 : lw_okq (⟨"AcrossOnFoot$River", "readMeasure", "(I)Z"⟩, 5) := ⟨⟨by decide +kernel, by decide +kernel⟩, List.mem_of_getElem? (i := 45) (by decide +kernel), List.mem_of_getElem? (i := 353) (by decide +kernel), List.mem_of_getElem? (i := 354) (by decide +kernel)⟩
theorem lw_p2 : lw_okq (⟨"AcrossOnFoot$River", "readBed", "(I)Z"⟩, 5) := ⟨⟨by decide +kernel, by decide +kernel⟩, List.mem_of_getElem? (i := 45) (by decide +kernel), List.mem_of_getElem? (i := 377) (by decide +kernel), List.mem_of_getElem? (i := 378) (by decide +kernel)⟩
theorem lw_p3 : lw_okq (⟨"AcrossOnFoot$River", "readBelow", "(I)Z"⟩, 5) := ⟨⟨by decide +kernel, by decide +kernel⟩, List.mem_of_getElem? (i := 45) (by decide +kernel), List.mem_of_getElem? (i := 381) (by decide +kernel), List.mem_of_getElem? (i := 382) (by decide +kernel)⟩
theorem lw_p4 : lw_okq (⟨"AcrossOnFoot$Laws", "worth", "(II)I"⟩, 9) := ⟨⟨by decide +kernel, by decide +kernel⟩, List.mem_of_getElem? (i := 69) (by decide +kernel), List.mem_of_getElem? (i := 437) (by decide +kernel), List.mem_of_getElem? (i := 438) (by decide +kernel)⟩
theorem lw_p5 : lw_okq (⟨"AcrossOnFoot$Laws", "pop", "()I"⟩, 9) := ⟨⟨by decide +kernel, by decide +kernel⟩, List.mem_of_getElem? (i := 69) (by decide +kernel), List.mem_of_getElem? (i := 441) (by decide +kernel), List.mem_of_getElem? (i := 442) (by decide +kernel)⟩
theorem lw_p6 : lw_okq (⟨"AcrossOnFoot$Laws", "work", "(II)V"⟩, 9) := ⟨⟨by decide +kernel, by decide +kernel⟩, List.mem_of_getElem? (i := 69) (by decide +kernel), List.mem_of_getElem? (i := 445) (by decide +kernel), List.mem_of_getElem? (i := 446) (by decide +kernel)⟩
theorem lw_p7 : lw_okq (⟨"AcrossOnFoot$Laws", "push", "(I)V"⟩, 9) := ⟨⟨by decide +kernel, by decide +kernel⟩, List.mem_of_getElem? (i := 69) (by decide +kernel), List.mem_of_getElem? (i := 449) (by decide +kernel), List.mem_of_getElem? (i := 450) (by decide +kernel)⟩
theorem lw_p8 : lw_okq (⟨"AcrossOnFoot$Changes", "record", "(III)V"⟩, 7) := ⟨⟨by decide +kernel, by decide +kernel⟩, List.mem_of_getElem? (i := 195) (by decide +kernel), List.mem_of_getElem? (i := 498) (by decide +kernel), List.mem_of_getElem? (i := 499) (by decide +kernel)⟩
theorem lw_p9 : lw_okq (⟨"AcrossOnFoot$Changes", "dropOldest", "()V"⟩, 7) := ⟨⟨by decide +kernel, by decide +kernel⟩, List.mem_of_getElem? (i := 195) (by decide +kernel), List.mem_of_getElem? (i := 502) (by decide +kernel), List.mem_of_getElem? (i := 503) (by decide +kernel)⟩
theorem lw_p10 : lw_okq (⟨"AcrossOnFoot$Changes", "write", "(II)V"⟩, 7) := ⟨⟨by decide +kernel, by decide +kernel⟩, List.mem_of_getElem? (i := 195) (by decide +kernel), List.mem_of_getElem? (i := 509) (by decide +kernel), List.mem_of_getElem? (i := 510) (by decide +kernel)⟩
theorem lw_p11 : lw_okq (⟨"AcrossOnFoot$LawReader", "readLine", "()Z"⟩, 3) := ⟨⟨by decide +kernel, by decide +kernel⟩, List.mem_of_getElem? (i := 77) (by decide +kernel), List.mem_of_getElem? (i := 534) (by decide +kernel), List.mem_of_getElem? (i := 535) (by decide +kernel)⟩
theorem lw_p12 : lw_okq (⟨"AcrossOnFoot$LawReader", "readChain", "(II)Z"⟩, 3) := ⟨⟨by decide +kernel, by decide +kernel⟩, List.mem_of_getElem? (i := 77) (by decide +kernel), List.mem_of_getElem? (i := 538) (by decide +kernel), List.mem_of_getElem? (i := 539) (by decide +kernel)⟩
theorem lw_p13 : lw_okq (⟨"AcrossOnFoot$LawReader", "readPart", "(II)Z"⟩, 3) := ⟨⟨by decide +kernel, by decide +kernel⟩, List.mem_of_getElem? (i := 77) (by decide +kernel), List.mem_of_getElem? (i := 542) (by decide +kernel), List.mem_of_getElem? (i := 543) (by decide +kernel)⟩
theorem lw_p14 : lw_okq (⟨"AcrossOnFoot$LawReader", "readOperand", "(I)Z"⟩, 3) := ⟨⟨by decide +kernel, by decide +kernel⟩, List.mem_of_getElem? (i := 77) (by decide +kernel), List.mem_of_getElem? (i := 546) (by decide +kernel), List.mem_of_getElem? (i := 547) (by decide +kernel)⟩
theorem lw_p15 : lw_okq (⟨"AcrossOnFoot$LawReader", "readNumber", "()V"⟩, 3) := ⟨⟨by decide +kernel, by decide +kernel⟩, List.mem_of_getElem? (i := 77) (by decide +kernel), List.mem_of_getElem? (i := 554) (by decide +kernel), List.mem_of_getElem? (i := 555) (by decide +kernel)⟩
def lw_privs_1 : List (MethodName × Nat) := [(⟨"AcrossOnFoot$River", "readCell", "(I)Z"⟩, 5), (⟨"AcrossOnFoot$River", "readMeasure", "(I)Z"⟩, 5), (⟨"AcrossOnFoot$River", "readBed", "(I)Z"⟩, 5), (⟨"AcrossOnFoot$River", "readBelow", "(I)Z"⟩, 5), (⟨"AcrossOnFoot$Laws", "worth", "(II)I"⟩, 9), (⟨"AcrossOnFoot$Laws", "pop", "()I"⟩, 9), (⟨"AcrossOnFoot$Laws", "work", "(II)V"⟩, 9), (⟨"AcrossOnFoot$Laws", "push", "(I)V"⟩, 9), (⟨"AcrossOnFoot$Changes", "record", "(III)V"⟩, 7), (⟨"AcrossOnFoot$Changes", "dropOldest", "()V"⟩, 7), (⟨"AcrossOnFoot$Changes", "write", "(II)V"⟩, 7), (⟨"AcrossOnFoot$LawReader", "readLine", "()Z"⟩, 3), (⟨"AcrossOnFoot$LawReader", "readChain", "(II)Z"⟩, 3), (⟨"AcrossOnFoot$LawReader", "readPart", "(II)Z"⟩, 3), (⟨"AcrossOnFoot$LawReader", "readOperand", "(I)Z"⟩, 3), (⟨"AcrossOnFoot$LawReader", "readNumber", "()V"⟩, 3)]
theorem lw_r1 : ∀ q ∈ lw_privs_1, lw_okq q := List.forall_mem_cons.mpr ⟨lw_p0, List.forall_mem_cons.mpr ⟨lw_p1, List.forall_mem_cons.mpr ⟨lw_p2, List.forall_mem_cons.mpr ⟨lw_p3, List.forall_mem_cons.mpr ⟨lw_p4, List.forall_mem_cons.mpr ⟨lw_p5, List.forall_mem_cons.mpr ⟨lw_p6, List.forall_mem_cons.mpr ⟨lw_p7, List.forall_mem_cons.mpr ⟨lw_p8, List.forall_mem_cons.mpr ⟨lw_p9, List.forall_mem_cons.mpr ⟨lw_p10, List.forall_mem_cons.mpr ⟨lw_p11, List.forall_mem_cons.mpr ⟨lw_p12, List.forall_mem_cons.mpr ⟨lw_p13, List.forall_mem_cons.mpr ⟨lw_p14, List.forall_mem_cons.mpr ⟨lw_p15, fun _ h => absurd h List.not_mem_nil⟩⟩⟩⟩⟩⟩⟩⟩⟩⟩⟩⟩⟩⟩⟩⟩
theorem lw_p16 : lw_okq (⟨"AcrossOnFoot$LawReader", "make", "(I)V"⟩, 3) := ⟨⟨by decide +kernel, by decide +kernel⟩, List.mem_of_getElem? (i := 77) (by decide +kernel), List.mem_of_getElem? (i := 559) (by decide +kernel), List.mem_of_getElem? (i := 560) (by decide +kernel)⟩
theorem lw_p17 : lw_okq (⟨"AcrossOnFoot$LawReader", "readSigned", "(II)Z"⟩, 3) := ⟨⟨by decide +kernel, by decide +kernel⟩, List.mem_of_getElem? (i := 77) (by decide +kernel), List.mem_of_getElem? (i := 565) (by decide +kernel), List.mem_of_getElem? (i := 566) (by decide +kernel)⟩
theorem lw_p18 : lw_okq (⟨"AcrossOnFoot", "isPlaceAndHour", "(I)Z"⟩, 10) := ⟨⟨by decide +kernel, by decide +kernel⟩, List.mem_of_getElem? (i := 18) (by decide +kernel), List.mem_of_getElem? (i := 636) (by decide +kernel), List.mem_of_getElem? (i := 637) (by decide +kernel)⟩
theorem lw_p19 : lw_okq (⟨"AcrossOnFoot", "takesGroup", "(I)Z"⟩, 10) := ⟨⟨by decide +kernel, by decide +kernel⟩, List.mem_of_getElem? (i := 18) (by decide +kernel), List.mem_of_getElem? (i := 640) (by decide +kernel), List.mem_of_getElem? (i := 641) (by decide +kernel)⟩
theorem lw_p20 : lw_okq (⟨"AcrossOnFoot$Party", "turnAround", "(II)V"⟩, 7) := ⟨⟨by decide +kernel, by decide +kernel⟩, List.mem_of_getElem? (i := 141) (by decide +kernel), List.mem_of_getElem? (i := 654) (by decide +kernel), List.mem_of_getElem? (i := 655) (by decide +kernel)⟩
theorem lw_p21 : lw_okq (⟨"AcrossOnFoot$Party", "swap", "(II)V"⟩, 7) := ⟨⟨by decide +kernel, by decide +kernel⟩, List.mem_of_getElem? (i := 141) (by decide +kernel), List.mem_of_getElem? (i := 658) (by decide +kernel), List.mem_of_getElem? (i := 659) (by decide +kernel)⟩
theorem lw_p22 : lw_okq (⟨"AcrossOnFoot", "isRankAndCell", "(II)Z"⟩, 10) := ⟨⟨by decide +kernel, by decide +kernel⟩, List.mem_of_getElem? (i := 18) (by decide +kernel), List.mem_of_getElem? (i := 662) (by decide +kernel), List.mem_of_getElem? (i := 663) (by decide +kernel)⟩
theorem lw_p23 : lw_okq (⟨"AcrossOnFoot$Party", "holdAlike", "(III)I"⟩, 7) := ⟨⟨by decide +kernel, by decide +kernel⟩, List.mem_of_getElem? (i := 141) (by decide +kernel), List.mem_of_getElem? (i := 677) (by decide +kernel), List.mem_of_getElem? (i := 678) (by decide +kernel)⟩
theorem lw_p24 : lw_okq (⟨"AcrossOnFoot$Party", "holdInForm", "(II)I"⟩, 7) := ⟨⟨by decide +kernel, by decide +kernel⟩, List.mem_of_getElem? (i := 141) (by decide +kernel), List.mem_of_getElem? (i := 684) (by decide +kernel), List.mem_of_getElem? (i := 685) (by decide +kernel)⟩
theorem lw_p25 : lw_okq (⟨"AcrossOnFoot$Party", "leeOf", "(I)I"⟩, 7) := ⟨⟨by decide +kernel, by decide +kernel⟩, List.mem_of_getElem? (i := 141) (by decide +kernel), List.mem_of_getElem? (i := 688) (by decide +kernel), List.mem_of_getElem? (i := 689) (by decide +kernel)⟩
theorem lw_p26 : lw_okq (⟨"AcrossOnFoot$Party", "isRank", "(I)Z"⟩, 7) := ⟨⟨by decide +kernel, by decide +kernel⟩, List.mem_of_getElem? (i := 141) (by decide +kernel), List.mem_of_getElem? (i := 698) (by decide +kernel), List.mem_of_getElem? (i := 699) (by decide +kernel)⟩
theorem lw_p27 : lw_okq (⟨"AcrossOnFoot$Crossing", "prefer", "(II)V"⟩, 5) := ⟨⟨by decide +kernel, by decide +kernel⟩, List.mem_of_getElem? (i := 171) (by decide +kernel), List.mem_of_getElem? (i := 754) (by decide +kernel), List.mem_of_getElem? (i := 755) (by decide +kernel)⟩
theorem lw_p28 : lw_okq (⟨"AcrossOnFoot$Crossing", "seekBestAt", "(II)V"⟩, 5) := ⟨⟨by decide +kernel, by decide +kernel⟩, List.mem_of_getElem? (i := 171) (by decide +kernel), List.mem_of_getElem? (i := 774) (by decide +kernel), List.mem_of_getElem? (i := 775) (by decide +kernel)⟩
theorem lw_p29 : lw_okq (⟨"AcrossOnFoot$Party", "pullOf", "(II)I"⟩, 7) := ⟨⟨by decide +kernel, by decide +kernel⟩, List.mem_of_getElem? (i := 141) (by decide +kernel), List.mem_of_getElem? (i := 858) (by decide +kernel), List.mem_of_getElem? (i := 859) (by decide +kernel)⟩
theorem lw_p30 : lw_okq (⟨"AcrossOnFoot", "addNotches", "(III)I"⟩, 10) := ⟨⟨by decide +kernel, by decide +kernel⟩, List.mem_of_getElem? (i := 18) (by decide +kernel), List.mem_of_getElem? (i := 907) (by decide +kernel), List.mem_of_getElem? (i := 908) (by decide +kernel)⟩
theorem lw_p31 : lw_okq (⟨"AcrossOnFoot$Bodies", "call", "(IIII)I"⟩, 5) := ⟨⟨by decide +kernel, by decide +kernel⟩, List.mem_of_getElem? (i := 242) (by decide +kernel), List.mem_of_getElem? (i := 991) (by decide +kernel), List.mem_of_getElem? (i := 992) (by decide +kernel)⟩
def lw_privs_2 : List (MethodName × Nat) := [(⟨"AcrossOnFoot$LawReader", "make", "(I)V"⟩, 3), (⟨"AcrossOnFoot$LawReader", "readSigned", "(II)Z"⟩, 3), (⟨"AcrossOnFoot", "isPlaceAndHour", "(I)Z"⟩, 10), (⟨"AcrossOnFoot", "takesGroup", "(I)Z"⟩, 10), (⟨"AcrossOnFoot$Party", "turnAround", "(II)V"⟩, 7), (⟨"AcrossOnFoot$Party", "swap", "(II)V"⟩, 7), (⟨"AcrossOnFoot", "isRankAndCell", "(II)Z"⟩, 10), (⟨"AcrossOnFoot$Party", "holdAlike", "(III)I"⟩, 7), (⟨"AcrossOnFoot$Party", "holdInForm", "(II)I"⟩, 7), (⟨"AcrossOnFoot$Party", "leeOf", "(I)I"⟩, 7), (⟨"AcrossOnFoot$Party", "isRank", "(I)Z"⟩, 7), (⟨"AcrossOnFoot$Crossing", "prefer", "(II)V"⟩, 5), (⟨"AcrossOnFoot$Crossing", "seekBestAt", "(II)V"⟩, 5), (⟨"AcrossOnFoot$Party", "pullOf", "(II)I"⟩, 7), (⟨"AcrossOnFoot", "addNotches", "(III)I"⟩, 10), (⟨"AcrossOnFoot$Bodies", "call", "(IIII)I"⟩, 5)]
theorem lw_r2 : ∀ q ∈ lw_privs_2, lw_okq q := List.forall_mem_cons.mpr ⟨lw_p16, List.forall_mem_cons.mpr ⟨lw_p17, List.forall_mem_cons.mpr ⟨lw_p18, List.forall_mem_cons.mpr ⟨lw_p19, List.forall_mem_cons.mpr ⟨lw_p20, List.forall_mem_cons.mpr ⟨lw_p21, List.forall_mem_cons.mpr ⟨lw_p22, List.forall_mem_cons.mpr ⟨lw_p23, List.forall_mem_cons.mpr ⟨lw_p24, List.forall_mem_cons.mpr ⟨lw_p25, List.forall_mem_cons.mpr ⟨lw_p26, List.forall_mem_cons.mpr ⟨lw_p27, List.forall_mem_cons.mpr ⟨lw_p28, List.forall_mem_cons.mpr ⟨lw_p29, List.forall_mem_cons.mpr ⟨lw_p30, List.forall_mem_cons.mpr ⟨lw_p31, fun _ h => absurd h List.not_mem_nil⟩⟩⟩⟩⟩⟩⟩⟩⟩⟩⟩⟩⟩⟩⟩⟩
theorem lw_p32 : lw_okq (⟨"AcrossOnFoot$Bodies", "note", "(I)V"⟩, 5) := ⟨⟨by decide +kernel, by decide +kernel⟩, List.mem_of_getElem? (i := 242) (by decide +kernel), List.mem_of_getElem? (i := 1003) (by decide +kernel), List.mem_of_getElem? (i := 1004) (by decide +kernel)⟩
theorem lw_p33 : lw_okq (⟨"AcrossOnFoot$Bodies", "run", "(IIII)I"⟩, 5) := ⟨⟨by decide +kernel, by decide +kernel⟩, List.mem_of_getElem? (i := 242) (by decide +kernel), List.mem_of_getElem? (i := 1007) (by decide +kernel), List.mem_of_getElem? (i := 1008) (by decide +kernel)⟩
theorem lw_p34 : lw_okq (⟨"AcrossOnFootModel", "readCell", "(I)V"⟩, 48) := ⟨⟨by decide +kernel, by decide +kernel⟩, List.mem_of_getElem? (i := 1091) (by decide +kernel), List.mem_of_getElem? (i := 1254) (by decide +kernel), List.mem_of_getElem? (i := 1255) (by decide +kernel)⟩
theorem lw_p35 : lw_okq (⟨"AcrossOnFootModel", "readNumber", "()I"⟩, 48) := ⟨⟨by decide +kernel, by decide +kernel⟩, List.mem_of_getElem? (i := 1091) (by decide +kernel), List.mem_of_getElem? (i := 1258) (by decide +kernel), List.mem_of_getElem? (i := 1259) (by decide +kernel)⟩
theorem lw_p36 : lw_okq (⟨"AcrossOnFootModel", "takes", "(I)V"⟩, 48) := ⟨⟨by decide +kernel, by decide +kernel⟩, List.mem_of_getElem? (i := 1091) (by decide +kernel), List.mem_of_getElem? (i := 1262) (by decide +kernel), List.mem_of_getElem? (i := 1263) (by decide +kernel)⟩
theorem lw_p37 : lw_okq (⟨"AcrossOnFootModel", "isHere", "(I)Z"⟩, 48) := ⟨⟨by decide +kernel, by decide +kernel⟩, List.mem_of_getElem? (i := 1091) (by decide +kernel), List.mem_of_getElem? (i := 1266) (by decide +kernel), List.mem_of_getElem? (i := 1267) (by decide +kernel)⟩
theorem lw_p38 : lw_okq (⟨"AcrossOnFootModel", "digit", "()I"⟩, 48) := ⟨⟨by decide +kernel, by decide +kernel⟩, List.mem_of_getElem? (i := 1091) (by decide +kernel), List.mem_of_getElem? (i := 1270) (by decide +kernel), List.mem_of_getElem? (i := 1271) (by decide +kernel)⟩
theorem lw_p39 : lw_okq (⟨"AcrossOnFootModel", "lays", "(III)V"⟩, 48) := ⟨⟨by decide +kernel, by decide +kernel⟩, List.mem_of_getElem? (i := 1091) (by decide +kernel), List.mem_of_getElem? (i := 1278) (by decide +kernel), List.mem_of_getElem? (i := 1279) (by decide +kernel)⟩
theorem lw_p40 : lw_okq (⟨"AcrossOnFootModel", "isCell", "(II)Z"⟩, 48) := ⟨⟨by decide +kernel, by decide +kernel⟩, List.mem_of_getElem? (i := 1091) (by decide +kernel), List.mem_of_getElem? (i := 1290) (by decide +kernel), List.mem_of_getElem? (i := 1291) (by decide +kernel)⟩
theorem lw_p41 : lw_okq (⟨"AcrossOnFootModel", "isPlace", "(I)Z"⟩, 48) := ⟨⟨by decide +kernel, by decide +kernel⟩, List.mem_of_getElem? (i := 1091) (by decide +kernel), List.mem_of_getElem? (i := 1294) (by decide +kernel), List.mem_of_getElem? (i := 1295) (by decide +kernel)⟩
theorem lw_p42 : lw_okq (⟨"AcrossOnFootModel", "changes", "(III)I"⟩, 48) := ⟨⟨by decide +kernel, by decide +kernel⟩, List.mem_of_getElem? (i := 1091) (by decide +kernel), List.mem_of_getElem? (i := 1298) (by decide +kernel), List.mem_of_getElem? (i := 1299) (by decide +kernel)⟩
theorem lw_p43 : lw_okq (⟨"AcrossOnFootModel", "valueAt", "(II)I"⟩, 48) := ⟨⟨by decide +kernel, by decide +kernel⟩, List.mem_of_getElem? (i := 1091) (by decide +kernel), List.mem_of_getElem? (i := 1302) (by decide +kernel), List.mem_of_getElem? (i := 1303) (by decide +kernel)⟩
theorem lw_p44 : lw_okq (⟨"AcrossOnFootModel", "readText", "(I)I"⟩, 48) := ⟨⟨by decide +kernel, by decide +kernel⟩, List.mem_of_getElem? (i := 1091) (by decide +kernel), List.mem_of_getElem? (i := 1310) (by decide +kernel), List.mem_of_getElem? (i := 1311) (by decide +kernel)⟩
theorem lw_p45 : lw_okq (⟨"AcrossOnFootModel", "readLine", "()V"⟩, 48) := ⟨⟨by decide +kernel, by decide +kernel⟩, List.mem_of_getElem? (i := 1091) (by decide +kernel), List.mem_of_getElem? (i := 1314) (by decide +kernel), List.mem_of_getElem? (i := 1315) (by decide +kernel)⟩
theorem lw_p46 : lw_okq (⟨"AcrossOnFootModel", "either", "()V"⟩, 48) := ⟨⟨by decide +kernel, by decide +kernel⟩, List.mem_of_getElem? (i := 1091) (by decide +kernel), List.mem_of_getElem? (i := 1318) (by decide +kernel), List.mem_of_getElem? (i := 1319) (by decide +kernel)⟩
theorem lw_p47 : lw_okq (⟨"AcrossOnFootModel", "both", "()V"⟩, 48) := ⟨⟨by decide +kernel, by decide +kernel⟩, List.mem_of_getElem? (i := 1091) (by decide +kernel), List.mem_of_getElem? (i := 1322) (by decide +kernel), List.mem_of_getElem? (i := 1323) (by decide +kernel)⟩
def lw_privs_3 : List (MethodName × Nat) := [(⟨"AcrossOnFoot$Bodies", "note", "(I)V"⟩, 5), (⟨"AcrossOnFoot$Bodies", "run", "(IIII)I"⟩, 5), (⟨"AcrossOnFootModel", "readCell", "(I)V"⟩, 48), (⟨"AcrossOnFootModel", "readNumber", "()I"⟩, 48), (⟨"AcrossOnFootModel", "takes", "(I)V"⟩, 48), (⟨"AcrossOnFootModel", "isHere", "(I)Z"⟩, 48), (⟨"AcrossOnFootModel", "digit", "()I"⟩, 48), (⟨"AcrossOnFootModel", "lays", "(III)V"⟩, 48), (⟨"AcrossOnFootModel", "isCell", "(II)Z"⟩, 48), (⟨"AcrossOnFootModel", "isPlace", "(I)Z"⟩, 48), (⟨"AcrossOnFootModel", "changes", "(III)I"⟩, 48), (⟨"AcrossOnFootModel", "valueAt", "(II)I"⟩, 48), (⟨"AcrossOnFootModel", "readText", "(I)I"⟩, 48), (⟨"AcrossOnFootModel", "readLine", "()V"⟩, 48), (⟨"AcrossOnFootModel", "either", "()V"⟩, 48), (⟨"AcrossOnFootModel", "both", "()V"⟩, 48)]
theorem lw_r3 : ∀ q ∈ lw_privs_3, lw_okq q := List.forall_mem_cons.mpr ⟨lw_p32, List.forall_mem_cons.mpr ⟨lw_p33, List.forall_mem_cons.mpr ⟨lw_p34, List.forall_mem_cons.mpr ⟨lw_p35, List.forall_mem_cons.mpr ⟨lw_p36, List.forall_mem_cons.mpr ⟨lw_p37, List.forall_mem_cons.mpr ⟨lw_p38, List.forall_mem_cons.mpr ⟨lw_p39, List.forall_mem_cons.mpr ⟨lw_p40, List.forall_mem_cons.mpr ⟨lw_p41, List.forall_mem_cons.mpr ⟨lw_p42, List.forall_mem_cons.mpr ⟨lw_p43, List.forall_mem_cons.mpr ⟨lw_p44, List.forall_mem_cons.mpr ⟨lw_p45, List.forall_mem_cons.mpr ⟨lw_p46, List.forall_mem_cons.mpr ⟨lw_p47, fun _ h => absurd h List.not_mem_nil⟩⟩⟩⟩⟩⟩⟩⟩⟩⟩⟩⟩⟩⟩⟩⟩
theorem lw_p48 : lw_okq (⟨"AcrossOnFootModel", "compared", "()V"⟩, 48) := ⟨⟨by decide +kernel, by decide +kernel⟩, List.mem_of_getElem? (i := 1091) (by decide +kernel), List.mem_of_getElem? (i := 1326) (by decide +kernel), List.mem_of_getElem? (i := 1327) (by decide +kernel)⟩
theorem lw_p49 : lw_okq (⟨"AcrossOnFootModel", "sum", "()V"⟩, 48) := ⟨⟨by decide +kernel, by decide +kernel⟩, List.mem_of_getElem? (i := 1091) (by decide +kernel), List.mem_of_getElem? (i := 1330) (by decide +kernel), List.mem_of_getElem? (i := 1331) (by decide +kernel)⟩
theorem lw_p50 : lw_okq (⟨"AcrossOnFootModel", "product", "()V"⟩, 48) := ⟨⟨by decide +kernel, by decide +kernel⟩, List.mem_of_getElem? (i := 1091) (by decide +kernel), List.mem_of_getElem? (i := 1334) (by decide +kernel), List.mem_of_getElem? (i := 1335) (by decide +kernel)⟩
theorem lw_p51 : lw_okq (⟨"AcrossOnFootModel", "operand", "()V"⟩, 48) := ⟨⟨by decide +kernel, by decide +kernel⟩, List.mem_of_getElem? (i := 1091) (by decide +kernel), List.mem_of_getElem? (i := 1338) (by decide +kernel), List.mem_of_getElem? (i := 1339) (by decide +kernel)⟩
theorem lw_p52 : lw_okq (⟨"AcrossOnFootModel", "look", "()I"⟩, 48) := ⟨⟨by decide +kernel, by decide +kernel⟩, List.mem_of_getElem? (i := 1091) (by decide +kernel), List.mem_of_getElem? (i := 1342) (by decide +kernel), List.mem_of_getElem? (i := 1343) (by decide +kernel)⟩
theorem lw_p53 : lw_okq (⟨"AcrossOnFootModel", "addStep", "(II)V"⟩, 48) := ⟨⟨by decide +kernel, by decide +kernel⟩, List.mem_of_getElem? (i := 1091) (by decide +kernel), List.mem_of_getElem? (i := 1349) (by decide +kernel), List.mem_of_getElem? (i := 1350) (by decide +kernel)⟩
theorem lw_p54 : lw_okq (⟨"AcrossOnFootModel", "opens", "()Z"⟩, 48) := ⟨⟨by decide +kernel, by decide +kernel⟩, List.mem_of_getElem? (i := 1091) (by decide +kernel), List.mem_of_getElem? (i := 1353) (by decide +kernel), List.mem_of_getElem? (i := 1354) (by decide +kernel)⟩
theorem lw_p55 : lw_okq (⟨"AcrossOnFootModel", "wrong", "()V"⟩, 48) := ⟨⟨by decide +kernel, by decide +kernel⟩, List.mem_of_getElem? (i := 1091) (by decide +kernel), List.mem_of_getElem? (i := 1357) (by decide +kernel), List.mem_of_getElem? (i := 1358) (by decide +kernel)⟩
theorem lw_p56 : lw_okq (⟨"AcrossOnFootModel", "figure", "()V"⟩, 48) := ⟨⟨by decide +kernel, by decide +kernel⟩, List.mem_of_getElem? (i := 1091) (by decide +kernel), List.mem_of_getElem? (i := 1361) (by decide +kernel), List.mem_of_getElem? (i := 1362) (by decide +kernel)⟩
theorem lw_p57 : lw_okq (⟨"AcrossOnFootModel", "isLaw", "(I)Z"⟩, 48) := ⟨⟨by decide +kernel, by decide +kernel⟩, List.mem_of_getElem? (i := 1091) (by decide +kernel), List.mem_of_getElem? (i := 1369) (by decide +kernel), List.mem_of_getElem? (i := 1370) (by decide +kernel)⟩
theorem lw_p58 : lw_okq (⟨"AcrossOnFootModel", "riseBy", "(II)I"⟩, 48) := ⟨⟨by decide +kernel, by decide +kernel⟩, List.mem_of_getElem? (i := 1091) (by decide +kernel), List.mem_of_getElem? (i := 1384) (by decide +kernel), List.mem_of_getElem? (i := 1385) (by decide +kernel)⟩
theorem lw_p59 : lw_okq (⟨"AcrossOnFootModel", "gives", "(I)I"⟩, 48) := ⟨⟨by decide +kernel, by decide +kernel⟩, List.mem_of_getElem? (i := 1091) (by decide +kernel), List.mem_of_getElem? (i := 1388) (by decide +kernel), List.mem_of_getElem? (i := 1389) (by decide +kernel)⟩
theorem lw_p60 : lw_okq (⟨"AcrossOnFootModel", "worked", "(III)I"⟩, 48) := ⟨⟨by decide +kernel, by decide +kernel⟩, List.mem_of_getElem? (i := 1091) (by decide +kernel), List.mem_of_getElem? (i := 1392) (by decide +kernel), List.mem_of_getElem? (i := 1393) (by decide +kernel)⟩
theorem lw_p61 : lw_okq (⟨"AcrossOnFootModel", "depthAt", "(III)I"⟩, 48) := ⟨⟨by decide +kernel, by decide +kernel⟩, List.mem_of_getElem? (i := 1091) (by decide +kernel), List.mem_of_getElem? (i := 1407) (by decide +kernel), List.mem_of_getElem? (i := 1408) (by decide +kernel)⟩
theorem lw_p62 : lw_okq (⟨"AcrossOnFootModel", "paceAt", "(III)I"⟩, 48) := ⟨⟨by decide +kernel, by decide +kernel⟩, List.mem_of_getElem? (i := 1091) (by decide +kernel), List.mem_of_getElem? (i := 1411) (by decide +kernel), List.mem_of_getElem? (i := 1412) (by decide +kernel)⟩
theorem lw_p63 : lw_okq (⟨"AcrossOnFootModel", "isPerson", "(I)Z"⟩, 48) := ⟨⟨by decide +kernel, by decide +kernel⟩, List.mem_of_getElem? (i := 1091) (by decide +kernel), List.mem_of_getElem? (i := 1423) (by decide +kernel), List.mem_of_getElem? (i := 1424) (by decide +kernel)⟩
def lw_privs_4 : List (MethodName × Nat) := [(⟨"AcrossOnFootModel", "compared", "()V"⟩, 48), (⟨"AcrossOnFootModel", "sum", "()V"⟩, 48), (⟨"AcrossOnFootModel", "product", "()V"⟩, 48), (⟨"AcrossOnFootModel", "operand", "()V"⟩, 48), (⟨"AcrossOnFootModel", "look", "()I"⟩, 48), (⟨"AcrossOnFootModel", "addStep", "(II)V"⟩, 48), (⟨"AcrossOnFootModel", "opens", "()Z"⟩, 48), (⟨"AcrossOnFootModel", "wrong", "()V"⟩, 48), (⟨"AcrossOnFootModel", "figure", "()V"⟩, 48), (⟨"AcrossOnFootModel", "isLaw", "(I)Z"⟩, 48), (⟨"AcrossOnFootModel", "riseBy", "(II)I"⟩, 48), (⟨"AcrossOnFootModel", "gives", "(I)I"⟩, 48), (⟨"AcrossOnFootModel", "worked", "(III)I"⟩, 48), (⟨"AcrossOnFootModel", "depthAt", "(III)I"⟩, 48), (⟨"AcrossOnFootModel", "paceAt", "(III)I"⟩, 48), (⟨"AcrossOnFootModel", "isPerson", "(I)Z"⟩, 48)]
theorem lw_r4 : ∀ q ∈ lw_privs_4, lw_okq q := List.forall_mem_cons.mpr ⟨lw_p48, List.forall_mem_cons.mpr ⟨lw_p49, List.forall_mem_cons.mpr ⟨lw_p50, List.forall_mem_cons.mpr ⟨lw_p51, List.forall_mem_cons.mpr ⟨lw_p52, List.forall_mem_cons.mpr ⟨lw_p53, List.forall_mem_cons.mpr ⟨lw_p54, List.forall_mem_cons.mpr ⟨lw_p55, List.forall_mem_cons.mpr ⟨lw_p56, List.forall_mem_cons.mpr ⟨lw_p57, List.forall_mem_cons.mpr ⟨lw_p58, List.forall_mem_cons.mpr ⟨lw_p59, List.forall_mem_cons.mpr ⟨lw_p60, List.forall_mem_cons.mpr ⟨lw_p61, List.forall_mem_cons.mpr ⟨lw_p62, List.forall_mem_cons.mpr ⟨lw_p63, fun _ h => absurd h List.not_mem_nil⟩⟩⟩⟩⟩⟩⟩⟩⟩⟩⟩⟩⟩⟩⟩⟩
theorem lw_p64 : lw_okq (⟨"AcrossOnFootModel", "isAt", "(I)Z"⟩, 48) := ⟨⟨by decide +kernel, by decide +kernel⟩, List.mem_of_getElem? (i := 1091) (by decide +kernel), List.mem_of_getElem? (i := 1435) (by decide +kernel), List.mem_of_getElem? (i := 1436) (by decide +kernel)⟩
theorem lw_p65 : lw_okq (⟨"AcrossOnFootModel", "areSo", "(I)Z"⟩, 48) := ⟨⟨by decide +kernel, by decide +kernel⟩, List.mem_of_getElem? (i := 1091) (by decide +kernel), List.mem_of_getElem? (i := 1439) (by decide +kernel), List.mem_of_getElem? (i := 1440) (by decide +kernel)⟩
theorem lw_p66 : lw_okq (⟨"AcrossOnFootModel", "isGroup", "(I)Z"⟩, 48) := ⟨⟨by decide +kernel, by decide +kernel⟩, List.mem_of_getElem? (i := 1091) (by decide +kernel), List.mem_of_getElem? (i := 1443) (by decide +kernel), List.mem_of_getElem? (i := 1444) (by decide +kernel)⟩
theorem lw_p67 : lw_okq (⟨"AcrossOnFootModel", "marginIn", "(IIIII)I"⟩, 48) := ⟨⟨by decide +kernel, by decide +kernel⟩, List.mem_of_getElem? (i := 1091) (by decide +kernel), List.mem_of_getElem? (i := 1447) (by decide +kernel), List.mem_of_getElem? (i := 1448) (by decide +kernel)⟩
theorem lw_p68 : lw_okq (⟨"AcrossOnFootModel", "holdOf", "(IIII)I"⟩, 48) := ⟨⟨by decide +kernel, by decide +kernel⟩, List.mem_of_getElem? (i := 1091) (by decide +kernel), List.mem_of_getElem? (i := 1451) (by decide +kernel), List.mem_of_getElem? (i := 1452) (by decide +kernel)⟩
theorem lw_p69 : lw_okq (⟨"AcrossOnFootModel", "plainHold", "(III)I"⟩, 48) := ⟨⟨by decide +kernel, by decide +kernel⟩, List.mem_of_getElem? (i := 1091) (by decide +kernel), List.mem_of_getElem? (i := 1455) (by decide +kernel), List.mem_of_getElem? (i := 1456) (by decide +kernel)⟩
theorem lw_p70 : lw_okq (⟨"AcrossOnFootModel", "sunk", "(II)I"⟩, 48) := ⟨⟨by decide +kernel, by decide +kernel⟩, List.mem_of_getElem? (i := 1091) (by decide +kernel), List.mem_of_getElem? (i := 1459) (by decide +kernel), List.mem_of_getElem? (i := 1460) (by decide +kernel)⟩
theorem lw_p71 : lw_okq (⟨"AcrossOnFootModel", "pushOf", "(IIII)I"⟩, 48) := ⟨⟨by decide +kernel, by decide +kernel⟩, List.mem_of_getElem? (i := 1091) (by decide +kernel), List.mem_of_getElem? (i := 1466) (by decide +kernel), List.mem_of_getElem? (i := 1467) (by decide +kernel)⟩
theorem lw_p72 : lw_okq (⟨"AcrossOnFootModel", "isOver", "(III)Z"⟩, 48) := ⟨⟨by decide +kernel, by decide +kernel⟩, List.mem_of_getElem? (i := 1091) (by decide +kernel), List.mem_of_getElem? (i := 1474) (by decide +kernel), List.mem_of_getElem? (i := 1475) (by decide +kernel)⟩
theorem lw_p73 : lw_okq (⟨"AcrossOnFootModel", "allStand", "(IIII)Z"⟩, 48) := ⟨⟨by decide +kernel, by decide +kernel⟩, List.mem_of_getElem? (i := 1091) (by decide +kernel), List.mem_of_getElem? (i := 1478) (by decide +kernel), List.mem_of_getElem? (i := 1479) (by decide +kernel)⟩
theorem lw_p74 : lw_okq (⟨"AcrossOnFootModel", "leastOf", "(III)I"⟩, 48) := ⟨⟨by decide +kernel, by decide +kernel⟩, List.mem_of_getElem? (i := 1091) (by decide +kernel), List.mem_of_getElem? (i := 1482) (by decide +kernel), List.mem_of_getElem? (i := 1483) (by decide +kernel)⟩
theorem lw_p75 : lw_okq (⟨"AcrossOnFootModel", "isOne", "(II)Z"⟩, 48) := ⟨⟨by decide +kernel, by decide +kernel⟩, List.mem_of_getElem? (i := 1091) (by decide +kernel), List.mem_of_getElem? (i := 1490) (by decide +kernel), List.mem_of_getElem? (i := 1491) (by decide +kernel)⟩
theorem lw_p76 : lw_okq (⟨"AcrossOnFootModel", "lineOf", "(II)I"⟩, 48) := ⟨⟨by decide +kernel, by decide +kernel⟩, List.mem_of_getElem? (i := 1091) (by decide +kernel), List.mem_of_getElem? (i := 1525) (by decide +kernel), List.mem_of_getElem? (i := 1526) (by decide +kernel)⟩
theorem lw_p77 : lw_okq (⟨"AcrossOnFootModel", "isNotch", "(II)Z"⟩, 48) := ⟨⟨by decide +kernel, by decide +kernel⟩, List.mem_of_getElem? (i := 1091) (by decide +kernel), List.mem_of_getElem? (i := 1548) (by decide +kernel), List.mem_of_getElem? (i := 1549) (by decide +kernel)⟩
theorem lw_p78 : lw_okq (⟨"AcrossOnFootModel", "addNotch", "(II)V"⟩, 48) := ⟨⟨by decide +kernel, by decide +kernel⟩, List.mem_of_getElem? (i := 1091) (by decide +kernel), List.mem_of_getElem? (i := 1552) (by decide +kernel), List.mem_of_getElem? (i := 1553) (by decide +kernel)⟩
theorem lw_p79 : lw_okq (⟨"AcrossOnFootModel", "offOf", "(I)I"⟩, 48) := ⟨⟨by decide +kernel, by decide +kernel⟩, List.mem_of_getElem? (i := 1091) (by decide +kernel), List.mem_of_getElem? (i := 1567) (by decide +kernel), List.mem_of_getElem? (i := 1568) (by decide +kernel)⟩
def lw_privs_5 : List (MethodName × Nat) := [(⟨"AcrossOnFootModel", "isAt", "(I)Z"⟩, 48), (⟨"AcrossOnFootModel", "areSo", "(I)Z"⟩, 48), (⟨"AcrossOnFootModel", "isGroup", "(I)Z"⟩, 48), (⟨"AcrossOnFootModel", "marginIn", "(IIIII)I"⟩, 48), (⟨"AcrossOnFootModel", "holdOf", "(IIII)I"⟩, 48), (⟨"AcrossOnFootModel", "plainHold", "(III)I"⟩, 48), (⟨"AcrossOnFootModel", "sunk", "(II)I"⟩, 48), (⟨"AcrossOnFootModel", "pushOf", "(IIII)I"⟩, 48), (⟨"AcrossOnFootModel", "isOver", "(III)Z"⟩, 48), (⟨"AcrossOnFootModel", "allStand", "(IIII)Z"⟩, 48), (⟨"AcrossOnFootModel", "leastOf", "(III)I"⟩, 48), (⟨"AcrossOnFootModel", "isOne", "(II)Z"⟩, 48), (⟨"AcrossOnFootModel", "lineOf", "(II)I"⟩, 48), (⟨"AcrossOnFootModel", "isNotch", "(II)Z"⟩, 48), (⟨"AcrossOnFootModel", "addNotch", "(II)V"⟩, 48), (⟨"AcrossOnFootModel", "offOf", "(I)I"⟩, 48)]
theorem lw_r5 : ∀ q ∈ lw_privs_5, lw_okq q := List.forall_mem_cons.mpr ⟨lw_p64, List.forall_mem_cons.mpr ⟨lw_p65, List.forall_mem_cons.mpr ⟨lw_p66, List.forall_mem_cons.mpr ⟨lw_p67, List.forall_mem_cons.mpr ⟨lw_p68, List.forall_mem_cons.mpr ⟨lw_p69, List.forall_mem_cons.mpr ⟨lw_p70, List.forall_mem_cons.mpr ⟨lw_p71, List.forall_mem_cons.mpr ⟨lw_p72, List.forall_mem_cons.mpr ⟨lw_p73, List.forall_mem_cons.mpr ⟨lw_p74, List.forall_mem_cons.mpr ⟨lw_p75, List.forall_mem_cons.mpr ⟨lw_p76, List.forall_mem_cons.mpr ⟨lw_p77, List.forall_mem_cons.mpr ⟨lw_p78, List.forall_mem_cons.mpr ⟨lw_p79, fun _ h => absurd h List.not_mem_nil⟩⟩⟩⟩⟩⟩⟩⟩⟩⟩⟩⟩⟩⟩⟩⟩
theorem lw_p80 : lw_okq (⟨"AcrossOnFootModel", "isBody", "(I)Z"⟩, 48) := ⟨⟨by decide +kernel, by decide +kernel⟩, List.mem_of_getElem? (i := 1091) (by decide +kernel), List.mem_of_getElem? (i := 1587) (by decide +kernel), List.mem_of_getElem? (i := 1588) (by decide +kernel)⟩
theorem lw_p81 : lw_okq (⟨"AcrossOnFootModel", "standing", "(II)I"⟩, 48) := ⟨⟨by decide +kernel, by decide +kernel⟩, List.mem_of_getElem? (i := 1091) (by decide +kernel), List.mem_of_getElem? (i := 1591) (by decide +kernel), List.mem_of_getElem? (i := 1592) (by decide +kernel)⟩
theorem lw_p82 : lw_okq (⟨"AcrossOnFootModel", "ran", "(I)V"⟩, 48) := ⟨⟨by decide +kernel, by decide +kernel⟩, List.mem_of_getElem? (i := 1091) (by decide +kernel), List.mem_of_getElem? (i := 1598) (by decide +kernel), List.mem_of_getElem? (i := 1599) (by decide +kernel)⟩
theorem lw_p83 : lw_okq (⟨"AcrossOnFootModel", "plainStands", "(II)I"⟩, 48) := ⟨⟨by decide +kernel, by decide +kernel⟩, List.mem_of_getElem? (i := 1091) (by decide +kernel), List.mem_of_getElem? (i := 1602) (by decide +kernel), List.mem_of_getElem? (i := 1603) (by decide +kernel)⟩
theorem lw_p84 : lw_okq (⟨"AcrossOnFootModel", "packedStands", "(II)I"⟩, 48) := ⟨⟨by decide +kernel, by decide +kernel⟩, List.mem_of_getElem? (i := 1091) (by decide +kernel), List.mem_of_getElem? (i := 1606) (by decide +kernel), List.mem_of_getElem? (i := 1607) (by decide +kernel)⟩
theorem lw_p85 : lw_okq (⟨"AcrossOnFootModel", "steps", "(II)I"⟩, 48) := ⟨⟨by decide +kernel, by decide +kernel⟩, List.mem_of_getElem? (i := 1091) (by decide +kernel), List.mem_of_getElem? (i := 1610) (by decide +kernel), List.mem_of_getElem? (i := 1611) (by decide +kernel)⟩
theorem lw_p86 : lw_okq (⟨"AcrossOnFootModel", "rowedSteps", "(II)I"⟩, 48) := ⟨⟨by decide +kernel, by decide +kernel⟩, List.mem_of_getElem? (i := 1091) (by decide +kernel), List.mem_of_getElem? (i := 1614) (by decide +kernel), List.mem_of_getElem? (i := 1615) (by decide +kernel)⟩
theorem lw_p87 : lw_okq (⟨"AcrossOnFootModel", "plainSteps", "(II)I"⟩, 48) := ⟨⟨by decide +kernel, by decide +kernel⟩, List.mem_of_getElem? (i := 1091) (by decide +kernel), List.mem_of_getElem? (i := 1618) (by decide +kernel), List.mem_of_getElem? (i := 1619) (by decide +kernel)⟩
theorem lw_p88 : lw_okq (⟨"AcrossOnFootModel", "sweeps", "(II)I"⟩, 48) := ⟨⟨by decide +kernel, by decide +kernel⟩, List.mem_of_getElem? (i := 1091) (by decide +kernel), List.mem_of_getElem? (i := 1622) (by decide +kernel), List.mem_of_getElem? (i := 1623) (by decide +kernel)⟩
theorem lw_p89 : lw_okq (⟨"AcrossOnFootModel", "plainSweeps", "(II)I"⟩, 48) := ⟨⟨by decide +kernel, by decide +kernel⟩, List.mem_of_getElem? (i := 1091) (by decide +kernel), List.mem_of_getElem? (i := 1626) (by decide +kernel), List.mem_of_getElem? (i := 1627) (by decide +kernel)⟩
theorem lw_p90 : lw_okq (⟨"AcrossOnFootModel", "sinks", "(II)I"⟩, 48) := ⟨⟨by decide +kernel, by decide +kernel⟩, List.mem_of_getElem? (i := 1091) (by decide +kernel), List.mem_of_getElem? (i := 1630) (by decide +kernel), List.mem_of_getElem? (i := 1631) (by decide +kernel)⟩
theorem lw_p91 : lw_okq (⟨"AcrossOnFootModel", "linedSinks", "(II)I"⟩, 48) := ⟨⟨by decide +kernel, by decide +kernel⟩, List.mem_of_getElem? (i := 1091) (by decide +kernel), List.mem_of_getElem? (i := 1634) (by decide +kernel), List.mem_of_getElem? (i := 1635) (by decide +kernel)⟩
theorem lw_p92 : lw_okq (⟨"AcrossOnFootModel", "plainSinks", "(II)I"⟩, 48) := ⟨⟨by decide +kernel, by decide +kernel⟩, List.mem_of_getElem? (i := 1091) (by decide +kernel), List.mem_of_getElem? (i := 1638) (by decide +kernel), List.mem_of_getElem? (i := 1639) (by decide +kernel)⟩
theorem lw_p93 : lw_okq (⟨"AcrossOnFootModel", "whyNoPlace", "(II)I"⟩, 48) := ⟨⟨by decide +kernel, by decide +kernel⟩, List.mem_of_getElem? (i := 1091) (by decide +kernel), List.mem_of_getElem? (i := 1658) (by decide +kernel), List.mem_of_getElem? (i := 1659) (by decide +kernel)⟩
def lw_privs_6 : List (MethodName × Nat) := [(⟨"AcrossOnFootModel", "isBody", "(I)Z"⟩, 48), (⟨"AcrossOnFootModel", "standing", "(II)I"⟩, 48), (⟨"AcrossOnFootModel", "ran", "(I)V"⟩, 48), (⟨"AcrossOnFootModel", "plainStands", "(II)I"⟩, 48), (⟨"AcrossOnFootModel", "packedStands", "(II)I"⟩, 48), (⟨"AcrossOnFootModel", "steps", "(II)I"⟩, 48), (⟨"AcrossOnFootModel", "rowedSteps", "(II)I"⟩, 48), (⟨"AcrossOnFootModel", "plainSteps", "(II)I"⟩, 48), (⟨"AcrossOnFootModel", "sweeps", "(II)I"⟩, 48), (⟨"AcrossOnFootModel", "plainSweeps", "(II)I"⟩, 48), (⟨"AcrossOnFootModel", "sinks", "(II)I"⟩, 48), (⟨"AcrossOnFootModel", "linedSinks", "(II)I"⟩, 48), (⟨"AcrossOnFootModel", "plainSinks", "(II)I"⟩, 48), (⟨"AcrossOnFootModel", "whyNoPlace", "(II)I"⟩, 48)]
theorem lw_r6 : ∀ q ∈ lw_privs_6, lw_okq q := List.forall_mem_cons.mpr ⟨lw_p80, List.forall_mem_cons.mpr ⟨lw_p81, List.forall_mem_cons.mpr ⟨lw_p82, List.forall_mem_cons.mpr ⟨lw_p83, List.forall_mem_cons.mpr ⟨lw_p84, List.forall_mem_cons.mpr ⟨lw_p85, List.forall_mem_cons.mpr ⟨lw_p86, List.forall_mem_cons.mpr ⟨lw_p87, List.forall_mem_cons.mpr ⟨lw_p88, List.forall_mem_cons.mpr ⟨lw_p89, List.forall_mem_cons.mpr ⟨lw_p90, List.forall_mem_cons.mpr ⟨lw_p91, List.forall_mem_cons.mpr ⟨lw_p92, List.forall_mem_cons.mpr ⟨lw_p93, fun _ h => absurd h List.not_mem_nil⟩⟩⟩⟩⟩⟩⟩⟩⟩⟩⟩⟩⟩⟩
def lw_privs : List (MethodName × Nat) := lw_privs_1 ++ (lw_privs_2 ++ (lw_privs_3 ++ (lw_privs_4 ++ (lw_privs_5 ++ (lw_privs_6)))))
def lw_tbl : List Cond := k2_sels lw_privs ++ tables_1
theorem lw_privs_ok : ∀ q ∈ lw_privs, lw_okq q := by
  show ∀ q ∈ lw_privs_1 ++ (lw_privs_2 ++ (lw_privs_3 ++ (lw_privs_4 ++ (lw_privs_5 ++ (lw_privs_6))))), lw_okq q
  exact List.forall_mem_append.mpr ⟨lw_r1, List.forall_mem_append.mpr ⟨lw_r2, List.forall_mem_append.mpr ⟨lw_r3, List.forall_mem_append.mpr ⟨lw_r4, List.forall_mem_append.mpr ⟨lw_r5, lw_r6⟩⟩⟩⟩⟩

/-! every word is among the tables -/
theorem zmemL {big ws : List Cond} (ps : List Nat) (h : ps.map (fun i => big[i]?) = ws.map some) : ∀ w ∈ ws, w ∈ big := fun w hw => by
  have h1 : some w ∈ ps.map (fun i => big[i]?) := by rw [h]; exact List.mem_map_of_mem hw
  obtain ⟨i, -, hi⟩ := List.mem_map.mp h1
  exact List.mem_of_getElem? hi
theorem zor {a b : List Cond} {P : Cond → Prop} (h1 : ∀ w ∈ a, P w) (h2 : ∀ w ∈ b, P w) : ∀ w ∈ a ++ b, P w := fun w h => (List.mem_append.mp h).elim (h1 w) (h2 w)
set_option maxRecDepth 20000 in
theorem inX_0 : ∀ w ∈ waX_0, w ∈ lw_tbl := zmemL [339, 340, 117, 118, 137, 341, 342, 1058, 1179, 1094, 1091, 1057, 105, 1062, 343, 1079] (by decide +kernel)
set_option maxRecDepth 20000 in
theorem inX_1 : ∀ w ∈ waX_1, w ∈ lw_tbl := zmemL [1066, 1067, 1060, 1061, 1083, 1076, 1077, 1078, 1111, 345, 1112, 559, 109, 560, 1116, 1117] (by decide +kernel)
set_option maxRecDepth 20000 in
theorem inX_2 : ∀ w ∈ waX_2, w ∈ lw_tbl := zmemL [1109, 1110, 1075, 347, 1080, 1081, 1082, 1084, 1086, 31, 1087, 1092, 1088, 1089, 1090, 1096] (by decide +kernel)
set_option maxRecDepth 20000 in
theorem inX_3 : ∀ w ∈ waX_3, w ∈ lw_tbl := zmemL [1098, 32, 1099, 1100, 1102, 33, 1103, 292, 293, 296, 297, 298, 294, 295, 585, 586] (by decide +kernel)
set_option maxRecDepth 20000 in
theorem inX_4 : ∀ w ∈ waX_4, w ∈ lw_tbl := zmemL [512, 513, 97, 514, 145, 587, 588, 589, 100, 590, 225, 591, 593, 8, 103, 594] (by decide +kernel)
set_option maxRecDepth 20000 in
theorem inX_5 : ∀ w ∈ waX_5, w ∈ lw_tbl := zmemL [299, 301, 595, 597, 9, 598, 599, 601, 600, 110, 602, 604, 10, 605, 606, 463] (by decide +kernel)
set_option maxRecDepth 20000 in
theorem inX_6 : ∀ w ∈ waX_6, w ∈ lw_tbl := zmemL [464, 465, 607, 608, 609, 610, 1043, 1051, 268, 269, 270, 271, 272, 762, 763, 571] (by decide +kernel)
set_option maxRecDepth 20000 in
theorem inX_7 : ∀ w ∈ waX_7, w ∈ lw_tbl := zmemL [572, 573, 568, 508, 509, 510, 439, 440, 441, 511, 764, 565, 566, 567, 569, 562] (by decide +kernel)
set_option maxRecDepth 20000 in
theorem inX_8 : ∀ w ∈ waX_8, w ∈ lw_tbl := zmemL [563, 765, 766, 767, 768, 101, 769, 245, 242, 241, 240, 243, 775, 244, 770, 772] (by decide +kernel)
set_option maxRecDepth 20000 in
theorem inX_9 : ∀ w ∈ waX_9, w ∈ lw_tbl := zmemL [23, 773, 774, 722, 723, 724, 553, 95, 554, 777, 779, 24, 780, 247, 781, 783] (by decide +kernel)
set_option maxRecDepth 20000 in
theorem inX_10 : ∀ w ∈ waX_10, w ∈ lw_tbl := zmemL [25, 784, 785, 884, 813, 760, 761, 102, 824, 825, 826, 827, 810, 811, 819, 812] (by decide +kernel)
set_option maxRecDepth 20000 in
theorem inX_11 : ∀ w ∈ waX_11, w ∈ lw_tbl := zmemL [495, 496, 497, 146, 498, 491, 492, 493, 149, 814, 815, 816, 817, 818, 823, 836] (by decide +kernel)
set_option maxRecDepth 20000 in
theorem inX_12 : ∀ w ∈ waX_12, w ∈ lw_tbl := zmemL [273, 837, 275, 838, 839, 840, 841, 751, 753, 21, 754, 842, 843, 844, 845, 846] (by decide +kernel)
set_option maxRecDepth 20000 in
theorem inX_13 : ∀ w ∈ waX_13, w ∈ lw_tbl := zmemL [808, 809, 847, 849, 27, 850, 851, 852, 853, 854, 747, 749, 20, 750, 862, 864] (by decide +kernel)
set_option maxRecDepth 20000 in
theorem inX_14 : ∀ w ∈ waX_14, w ∈ lw_tbl := zmemL [865, 419, 420, 421, 866, 519, 520, 98, 521, 198, 522, 523, 524, 525, 191, 526] (by decide +kernel)
set_option maxRecDepth 20000 in
theorem inX_15 : ∀ w ∈ waX_15, w ∈ lw_tbl := zmemL [527, 528, 529, 558, 561, 530, 532, 4, 533, 190, 188, 187, 534, 536, 5, 537] (by decide +kernel)
set_option maxRecDepth 20000 in
theorem inX_16 : ∀ w ∈ waX_16, w ∈ lw_tbl := zmemL [189, 538, 540, 6, 541, 195, 197, 542, 544, 7, 545, 547, 548, 549, 550, 551] (by decide +kernel)
set_option maxRecDepth 20000 in
theorem inX_17 : ∀ w ∈ waX_17, w ∈ lw_tbl := zmemL [556, 557, 867, 869, 28, 870, 150, 248, 941, 942, 931, 932, 933, 894, 821, 822] (by decide +kernel)
set_option maxRecDepth 20000 in
theorem inX_18 : ∀ w ∈ waX_18, w ∈ lw_tbl := zmemL [878, 879, 881, 882, 883, 893, 902, 903, 904, 905, 906, 226, 907, 908, 909, 910] (by decide +kernel)
set_option maxRecDepth 20000 in
theorem inX_19 : ∀ w ∈ waX_19, w ∈ lw_tbl := zmemL [918, 919, 920, 921, 925, 174, 175, 177, 176, 626, 178, 627, 629, 11, 99, 630] (by decide +kernel)
set_option maxRecDepth 20000 in
theorem inX_20 : ∀ w ∈ waX_20, w ∈ lw_tbl := zmemL [631, 633, 12, 634, 635, 637, 13, 656, 455, 456, 96, 457, 128, 126, 125, 662] (by decide +kernel)
set_option maxRecDepth 20000 in
theorem inX_21 : ∀ w ∈ waX_21, w ∈ lw_tbl := zmemL [663, 664, 657, 467, 468, 469, 454, 652, 654, 16, 655, 642, 643, 644, 645, 646] (by decide +kernel)
set_option maxRecDepth 20000 in
theorem inX_22 : ∀ w ∈ waX_22, w ∈ lw_tbl := zmemL [647, 649, 15, 650, 651, 451, 452, 453, 658, 660, 17, 638, 639, 641, 14, 661] (by decide +kernel)
set_option maxRecDepth 20000 in
theorem inX_23 : ∀ w ∈ waX_23, w ∈ lw_tbl := zmemL [665, 479, 480, 481, 670, 671, 672, 166, 167, 168, 170, 171, 186, 172, 173, 618] (by decide +kernel)
set_option maxRecDepth 20000 in
theorem inX_24 : ∀ w ∈ waX_24, w ∈ lw_tbl := zmemL [622, 623, 624, 625, 666, 616, 617, 667, 668, 669, 322, 323, 324, 325, 982, 326] (by decide +kernel)
set_option maxRecDepth 20000 in
theorem inX_25 : ∀ w ∈ waX_25, w ∈ lw_tbl := zmemL [976, 516, 517, 986, 987, 980, 981, 104, 1024, 1026, 967, 968, 1025, 1034, 192, 1035] (by decide +kernel)
set_option maxRecDepth 20000 in
theorem inX_26 : ∀ w ∈ waX_26, w ∈ lw_tbl := zmemL [1022, 1023, 238, 239, 740, 741, 743, 713, 714, 715, 227, 745, 746, 798, 791, 793] (by decide +kernel)
set_option maxRecDepth 20000 in
theorem inX_27 : ∀ w ∈ waX_27, w ∈ lw_tbl := zmemL [26, 794, 802, 790, 950, 951, 953, 29, 954, 223, 224, 706, 694, 699, 703, 704] (by decide +kernel)
set_option maxRecDepth 20000 in
theorem inX_28 : ∀ w ∈ waX_28, w ∈ lw_tbl := zmemL [705, 707, 142, 143, 147, 144, 580, 433, 506, 502, 963, 966, 964, 965, 437, 438] (by decide +kernel)
set_option maxRecDepth 20000 in
theorem inX_29 : ∀ w ∈ waX_29, w ∈ lw_tbl := zmemL [431, 432, 442, 444, 0, 445, 446, 448, 1, 449, 450, 458, 459, 460, 461, 462] (by decide +kernel)
set_option maxRecDepth 20000 in
theorem inX_30 : ∀ w ∈ waX_30, w ∈ lw_tbl := zmemL [466, 470, 472, 2, 473, 474, 476, 3, 477, 478, 363, 364, 370, 371, 372, 365] (by decide +kernel)
set_option maxRecDepth 20000 in
theorem inX_31 : ∀ w ∈ waX_31, w ∈ lw_tbl := zmemL [383, 373, 367, 368, 107, 369, 994, 1010, 998, 999, 993, 106, 1175, 1126, 1135, 1136] (by decide +kernel)
set_option maxRecDepth 20000 in
theorem inX_32 : ∀ w ∈ waX_32, w ∈ lw_tbl := zmemL [1137, 1138, 1146, 1016, 1005, 1006, 1007, 1008, 1009, 1015, 1150, 1151, 1152, 1153, 1166, 1167] (by decide +kernel)
set_option maxRecDepth 20000 in
theorem inX_33 : ∀ w ∈ waX_33, w ∈ lw_tbl := zmemL [123, 124, 425, 485, 115, 116, 119, 120, 384, 138, 139, 385, 162, 163, 386, 219] (by decide +kernel)
set_option maxRecDepth 20000 in
theorem inX_34 : ∀ w ∈ waX_34, w ∈ lw_tbl := zmemL [220, 387, 234, 235, 388, 264, 265, 389, 288, 289, 390, 318, 319, 391, 335, 336] (by decide +kernel)
set_option maxRecDepth 20000 in
theorem inX_35 : ∀ w ∈ waX_35, w ∈ lw_tbl := zmemL [392, 359, 360, 393, 122, 140, 141, 164, 165, 222, 236, 237, 266, 267, 290, 291] (by decide +kernel)
set_option maxRecDepth 20000 in
theorem inX_36 : ∀ w ∈ waX_36, w ∈ lw_tbl := zmemL [321, 338, 361, 362, 418, 127, 422, 423, 424, 429, 148, 129, 430, 434, 435, 436] (by decide +kernel)
set_option maxRecDepth 20000 in
theorem inX_37 : ∀ w ∈ waX_37, w ∈ lw_tbl := zmemL [482, 483, 484, 489, 490, 494, 499, 500, 501, 503, 504, 505, 507, 515, 518, 564] (by decide +kernel)
set_option maxRecDepth 20000 in
theorem inX_38 : ∀ w ∈ waX_38, w ∈ lw_tbl := zmemL [570, 577, 578, 579, 581, 582, 583, 584, 614, 193, 615, 619, 620, 621, 676, 199] (by decide +kernel)
set_option maxRecDepth 20000 in
theorem inX_39 : ∀ w ∈ waX_39, w ∈ lw_tbl := zmemL [677, 681, 194, 196, 685, 687, 686, 691, 692, 693, 696, 697, 698, 700, 701, 702] (by decide +kernel)
set_option maxRecDepth 20000 in
theorem inX_40 : ∀ w ∈ waX_40, w ∈ lw_tbl := zmemL [711, 712, 716, 720, 721, 728, 729, 731, 18, 732, 733, 735, 19, 736, 737, 738] (by decide +kernel)
set_option maxRecDepth 20000 in
theorem inX_41 : ∀ w ∈ waX_41, w ∈ lw_tbl := zmemL [739, 755, 757, 22, 758, 246, 759, 787, 788, 789, 795, 796, 797, 799, 800, 801] (by decide +kernel)
set_option maxRecDepth 20000 in
theorem inX_42 : ∀ w ∈ waX_42, w ∈ lw_tbl := zmemL [806, 807, 820, 828, 832, 274, 276, 833, 834, 835, 858, 859, 860, 861, 874, 875] (by decide +kernel)
set_option maxRecDepth 20000 in
theorem inX_43 : ∀ w ∈ waX_43, w ∈ lw_tbl := zmemL [876, 877, 889, 890, 891, 892, 898, 899, 900, 901, 914, 915, 916, 917, 922, 923] (by decide +kernel)
set_option maxRecDepth 20000 in
theorem inX_44 : ∀ w ∈ waX_44, w ∈ lw_tbl := zmemL [924, 929, 930, 937, 938, 939, 940, 946, 947, 948, 949, 958, 959, 960, 961, 962] (by decide +kernel)
set_option maxRecDepth 20000 in
theorem inX_45 : ∀ w ∈ waX_45, w ∈ lw_tbl := zmemL [972, 973, 974, 975, 979, 983, 984, 985, 991, 992, 995, 996, 997, 1000, 1002, 30] (by decide +kernel)
set_option maxRecDepth 20000 in
theorem inX_46 : ∀ w ∈ waX_46, w ∈ lw_tbl := zmemL [1003, 1004, 1012, 1013, 1014, 1020, 327, 1021, 1030, 1031, 1032, 1033, 1039, 300, 1040, 1041] (by decide +kernel)
set_option maxRecDepth 20000 in
theorem inX_47 : ∀ w ∈ waX_47, w ∈ lw_tbl := zmemL [1042, 1047, 302, 1048, 1049, 1050, 1055, 1056, 1059, 1063, 1064, 1065, 1071, 1072, 1073, 1074] (by decide +kernel)
set_option maxRecDepth 20000 in
theorem inX_48 : ∀ w ∈ waX_48, w ∈ lw_tbl := zmemL [1107, 1108, 1113, 1114, 1115, 1121, 1122, 1123, 1124, 1125, 1130, 1131, 1132, 1133, 1134, 1142] (by decide +kernel)
set_option maxRecDepth 20000 in
theorem inX_49 : ∀ w ∈ waX_49, w ∈ lw_tbl := zmemL [1143, 1144, 1145, 1147, 1148, 1149, 1157, 1158, 1162, 1163, 1164, 1165, 1171, 1172, 1173, 1174] (by decide +kernel)
set_option maxRecDepth 20000 in
theorem inX_50 : ∀ w ∈ waX_50, w ∈ lw_tbl := zmemL [1176, 1177, 1178, 1183, 228, 344, 346, 968, 563, 560] (by decide +kernel)
set_option maxRecDepth 20000 in
theorem inu_0 : ∀ w ∈ wsX00, w ∈ lw_tbl := zmemL [348, 350, 352, 354, 356] (by decide +kernel)
set_option maxRecDepth 20000 in
theorem inu_1 : ∀ w ∈ wsX10, w ∈ lw_tbl := zmemL [303, 305, 307, 309, 311, 313, 315] (by decide +kernel)
set_option maxRecDepth 20000 in
theorem inu_2 : ∀ w ∈ wsX20, w ∈ lw_tbl := zmemL [277, 279, 281, 283, 285] (by decide +kernel)
set_option maxRecDepth 20000 in
theorem inu_3 : ∀ w ∈ wsX30, w ∈ lw_tbl := zmemL [179, 181, 183] (by decide +kernel)
set_option maxRecDepth 20000 in
theorem inu_4 : ∀ w ∈ wsX40, w ∈ lw_tbl := zmemL [200, 202, 204, 206, 208, 210, 212, 214, 216] (by decide +kernel)
set_option maxRecDepth 20000 in
theorem inu_5 : ∀ w ∈ wsX50, w ∈ lw_tbl := zmemL [328, 330, 332] (by decide +kernel)
set_option maxRecDepth 20000 in
theorem inu_6 : ∀ w ∈ wsX60, w ∈ lw_tbl := zmemL [249, 251, 253, 255, 257, 259, 261] (by decide +kernel)
set_option maxRecDepth 20000 in
theorem inu_7 : ∀ w ∈ wsX70, w ∈ lw_tbl := zmemL [229, 231] (by decide +kernel)
set_option maxRecDepth 20000 in
theorem inu_8 : ∀ w ∈ wsX80, w ∈ lw_tbl := zmemL [151, 153, 155, 157, 159] (by decide +kernel)
set_option maxRecDepth 20000 in
theorem inu_9 : ∀ w ∈ wsX90, w ∈ lw_tbl := zmemL [374, 376, 378, 380] (by decide +kernel)
set_option maxRecDepth 20000 in
theorem inu_10 : ∀ w ∈ wsX100, w ∈ lw_tbl := zmemL [130, 132, 134] (by decide +kernel)
set_option maxRecDepth 20000 in
theorem inu_11 : ∀ w ∈ wsX110, w ∈ lw_tbl := zmemL [394, 396, 398, 400, 402, 404, 406, 408, 410, 412] (by decide +kernel)
theorem inX : ∀ w ∈ waX, w ∈ lw_tbl := (zor (zor (zor (zor (zor inX_0 (zor inX_1 inX_2)) (zor (zor inX_3 inX_4) (zor inX_5 inX_6))) (zor (zor (zor inX_7 inX_8) (zor inX_9 inX_10)) (zor (zor inX_11 inX_12) (zor inX_13 inX_14)))) (zor (zor (zor (zor inX_15 inX_16) (zor inX_17 inX_18)) (zor (zor inX_19 inX_20) (zor inX_21 inX_22))) (zor (zor (zor inX_23 inX_24) (zor inX_25 inX_26)) (zor (zor inX_27 inX_28) (zor inX_29 inX_30))))) (zor (zor (zor (zor (zor inX_31 inX_32) (zor inX_33 inX_34)) (zor (zor inX_35 inX_36) (zor inX_37 inX_38))) (zor (zor (zor inX_39 inX_40) (zor inX_41 inX_42)) (zor (zor inX_43 inX_44) (zor inX_45 inX_46)))) (zor (zor (zor (zor inX_47 inX_48) (zor inX_49 inX_50)) (zor (zor inu_0 inu_1) (zor inu_2 inu_3))) (zor (zor (zor inu_4 inu_5) (zor inu_6 inu_7)) (zor (zor inu_8 inu_9) (zor inu_10 inu_11))))))
set_option maxRecDepth 20000 in
theorem inR_0 : ∀ w ∈ waR_0, w ∈ lw_tbl := zmemL [1188, 1189, 117, 118, 1334, 1190, 137, 1193, 1194, 1195, 1198, 1199, 1200, 1201, 1206, 1207] (by decide +kernel)
set_option maxRecDepth 20000 in
theorem inR_1 : ∀ w ∈ waR_1, w ∈ lw_tbl := zmemL [1208, 1335, 1209, 1210, 1211, 1212, 1214, 1218, 1219, 1220, 1221, 1223, 1224, 1225, 1227, 1228] (by decide +kernel)
set_option maxRecDepth 20000 in
theorem inR_2 : ∀ w ∈ waR_2, w ∈ lw_tbl := zmemL [1230, 1232, 1233, 1234, 383, 1235, 1236, 1342, 1636, 1494, 1339, 1191, 1340, 1341, 108, 1390] (by decide +kernel)
set_option maxRecDepth 20000 in
theorem inR_3 : ∀ w ∈ waR_3, w ∈ lw_tbl := zmemL [1192, 1386, 1387, 1389, 41, 1362, 1203, 1202, 1358, 1359, 1361, 37, 1366, 1354, 1350, 1351] (by decide +kernel)
set_option maxRecDepth 20000 in
theorem inR_4 : ∀ w ∈ waR_4, w ∈ lw_tbl := zmemL [1353, 35, 1355, 1357, 36, 1363, 1365, 38, 1346, 1347, 1349, 34, 1398, 1374, 1394, 1197] (by decide +kernel)
set_option maxRecDepth 20000 in
theorem inR_5 : ∀ w ∈ waR_5, w ∈ lw_tbl := zmemL [1196, 1395, 1397, 43, 1371, 1373, 39, 1370, 1378, 1382, 1383, 1385, 40, 1391, 1393, 42] (by decide +kernel)
set_option maxRecDepth 20000 in
theorem inR_6 : ∀ w ∈ waR_6, w ∈ lw_tbl := zmemL [1438, 1453, 1445, 1205, 1441, 1449, 1204, 1450, 1452, 55, 1457, 1435, 1437, 52, 1442, 1444] (by decide +kernel)
set_option maxRecDepth 20000 in
theorem inR_7 : ∀ w ∈ waR_7, w ∈ lw_tbl := zmemL [53, 1434, 1439, 1440, 1446, 1448, 54, 1431, 1433, 51, 1411, 1413, 46, 1454, 1456, 56] (by decide +kernel)
set_option maxRecDepth 20000 in
theorem inR_8 : ∀ w ∈ waR_8, w ∈ lw_tbl := zmemL [1418, 1419, 1421, 48, 1422, 1423, 1425, 49, 1414, 1415, 1417, 47, 1430, 1426, 1427, 1429] (by decide +kernel)
set_option maxRecDepth 20000 in
theorem inR_9 : ∀ w ∈ waR_9, w ∈ lw_tbl := zmemL [50, 1410, 1406, 1407, 1409, 45, 1491, 1488, 1489, 1490, 1484, 1485, 1487, 60, 1465, 1213] (by decide +kernel)
set_option maxRecDepth 20000 in
theorem inR_10 : ∀ w ∈ waR_10, w ∈ lw_tbl := zmemL [1476, 1402, 1403, 1405, 44, 1461, 1462, 1464, 57, 1469, 1215, 1216, 1480, 1481, 1483, 59] (by decide +kernel)
set_option maxRecDepth 20000 in
theorem inR_11 : ∀ w ∈ waR_11, w ∈ lw_tbl := zmemL [1492, 1493, 1473, 1495, 1474, 1475, 1477, 1479, 58, 1503, 1507, 1499, 1500, 1502, 61, 1504] (by decide +kernel)
set_option maxRecDepth 20000 in
theorem inR_12 : ∀ w ∈ waR_12, w ∈ lw_tbl := zmemL [1506, 62, 1519, 1217, 1511, 1515, 1516, 1518, 63, 1523, 1539, 1222, 1535, 1536, 1538, 66] (by decide +kernel)
set_option maxRecDepth 20000 in
theorem inR_13 : ∀ w ∈ waR_13, w ∈ lw_tbl := zmemL [1531, 1558, 1555, 1551, 1552, 1554, 70, 1547, 1548, 1550, 69, 1562, 1543, 1544, 1546, 68] (by decide +kernel)
set_option maxRecDepth 20000 in
theorem inR_14 : ∀ w ∈ waR_14, w ∈ lw_tbl := zmemL [1556, 1557, 1559, 1561, 71, 1527, 1528, 1530, 64, 1532, 1534, 65, 1540, 1542, 67, 1574] (by decide +kernel)
set_option maxRecDepth 20000 in
theorem inR_15 : ∀ w ∈ waR_15, w ∈ lw_tbl := zmemL [1570, 1571, 1573, 73, 1578, 1566, 1567, 1569, 72, 1575, 1577, 74, 1582, 1583, 1585, 75] (by decide +kernel)
set_option maxRecDepth 20000 in
theorem inR_16 : ∀ w ∈ waR_16, w ∈ lw_tbl := zmemL [1586, 1593, 1590, 1591, 1592, 1597, 1598, 1602, 1606, 1613, 1610, 1611, 1612, 1621, 1617, 1618] (by decide +kernel)
set_option maxRecDepth 20000 in
theorem inR_17 : ∀ w ∈ waR_17, w ∈ lw_tbl := zmemL [1620, 76, 1625, 1629, 1633, 1634, 1635, 1644, 1226, 1648, 1640, 1641, 1643, 77, 1645, 1647] (by decide +kernel)
set_option maxRecDepth 20000 in
theorem inR_18 : ∀ w ∈ waR_18, w ∈ lw_tbl := zmemL [78, 1652, 1653, 1654, 1655, 1663, 1659, 1660, 1662, 79, 1667, 1683, 1229, 1694, 1231, 1671] (by decide +kernel)
set_option maxRecDepth 20000 in
theorem inR_19 : ∀ w ∈ waR_19, w ∈ lw_tbl := zmemL [1675, 1690, 1698, 1691, 1693, 82, 1702, 1695, 1697, 83, 1687, 1688, 1689, 1699, 1701, 84] (by decide +kernel)
set_option maxRecDepth 20000 in
theorem inR_20 : ∀ w ∈ waR_20, w ∈ lw_tbl := zmemL [1714, 1684, 1686, 81, 1710, 1711, 1713, 87, 1706, 1707, 1709, 86, 1715, 1717, 88, 1718] (by decide +kernel)
set_option maxRecDepth 20000 in
theorem inR_21 : ∀ w ∈ waR_21, w ∈ lw_tbl := zmemL [1719, 1721, 89, 1722, 1734, 1703, 1705, 85, 1730, 1731, 1733, 92, 1726, 1727, 1729, 91] (by decide +kernel)
set_option maxRecDepth 20000 in
theorem inR_22 : ∀ w ∈ waR_22, w ∈ lw_tbl := zmemL [1679, 1680, 1682, 80, 1723, 1725, 90, 1738, 1742, 1746, 1754, 1750, 1751, 1753, 93, 1758] (by decide +kernel)
set_option maxRecDepth 20000 in
theorem inR_23 : ∀ w ∈ waR_23, w ∈ lw_tbl := zmemL [1759, 1763, 1767] (by decide +kernel)
set_option maxRecDepth 20000 in
theorem inu_12 : ∀ w ∈ wsX120, w ∈ lw_tbl := zmemL [1237, 1239, 1241, 1243, 1245, 1247, 1249, 1251, 1253, 1255, 1257, 1259, 1261, 1263, 1265, 1267, 1269, 1271, 1273, 1275, 1277, 1279, 1281, 1283, 1285, 1287, 1289, 1291, 1293, 1295, 1297, 1299, 1301, 1303, 1305, 1307, 1309, 1311, 1313, 1315, 1317, 1319, 1321, 1323, 1325, 1327, 1329, 1331] (by decide +kernel)
theorem inR : ∀ w ∈ waR, w ∈ lw_tbl := (zor (zor (zor (zor inR_0 (zor inR_1 inR_2)) (zor inR_3 (zor inR_4 inR_5))) (zor (zor inR_6 (zor inR_7 inR_8)) (zor inR_9 (zor inR_10 inR_11)))) (zor (zor (zor inR_12 (zor inR_13 inR_14)) (zor inR_15 (zor inR_16 inR_17))) (zor (zor inR_18 (zor inR_19 inR_20)) (zor (zor inR_21 inR_22) (zor inR_23 inu_12)))))

