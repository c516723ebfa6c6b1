-- ===== PART A: goes FIRST, ahead of the names: the tables' words, and 'selects' of the private methods out of them =====
/-- a private method of a class that the tables say can be made, by its rows of tables_1 -/
def lw_okq (q : MethodName × Nat) : Prop := (q.1.cls ≠ "java/lang/invoke/MethodHandle" ∧ q.1.cls ≠ "java/lang/invoke/VarHandle") ∧ Cond.instantiable q.1.cls q.2 ∈ tables_1 ∧ Cond.privateMethod q.1 ∈ tables_1 ∧ Cond.instanceMethod q.1 ∈ tables_1
theorem lw_p0 : lw_okq (⟨"TensMill", "keep", "(ILTensMill$Natural;ZJ)Z"⟩, 8) := ⟨⟨by decide +kernel, by decide +kernel⟩, List.mem_of_getElem? (i := 13) (by decide +kernel), List.mem_of_getElem? (i := 166) (by decide +kernel), List.mem_of_getElem? (i := 167) (by decide +kernel)⟩
theorem lw_p1 : lw_okq (⟨"TensMill$Natural", "makeRoom", "(I)V"⟩, 2) := ⟨⟨by decide +kernel, by decide +kernel⟩, List.mem_of_getElem? (i := 23) (by decide +kernel), List.mem_of_getElem? (i := 190) (by decide +kernel), List.mem_of_getElem? (i := 191) (by decide +kernel)⟩
theorem lw_p2 : lw_okq (⟨"TensMill", "sumUp", "(IIIZ)Z"⟩, 8) := ⟨⟨by decide +kernel, by decide +kernel⟩, List.mem_of_getElem? (i := 13) (by decide +kernel), List.mem_of_getElem? (i := 226) (by decide +kernel), List.mem_of_getElem? (i := 227) (by decide +kernel)⟩
theorem lw_p3 : lw_okq (⟨"TensMill$Natural", "emptyLimbs", "(I)V"⟩, 2) := ⟨⟨by decide +kernel, by decide +kernel⟩, List.mem_of_getElem? (i := 23) (by decide +kernel), List.mem_of_getElem? (i := 244) (by decide +kernel), List.mem_of_getElem? (i := 245) (by decide +kernel)⟩
theorem lw_p4 : lw_okq (⟨"TensMill$Natural", "trim", "()V"⟩, 2) := ⟨⟨by decide +kernel, by decide +kernel⟩, List.mem_of_getElem? (i := 23) (by decide +kernel), List.mem_of_getElem? (i := 248) (by decide +kernel), List.mem_of_getElem? (i := 249) (by decide +kernel)⟩
theorem lw_p5 : lw_okq (⟨"TensMill$Natural", "addTimes", "([IIJI)V"⟩, 2) := ⟨⟨by decide +kernel, by decide +kernel⟩, List.mem_of_getElem? (i := 23) (by decide +kernel), List.mem_of_getElem? (i := 279) (by decide +kernel), List.mem_of_getElem? (i := 280) (by decide +kernel)⟩
theorem lw_p6 : lw_okq (⟨"TensMill", "keepPower", "(ILTensMill$Natural;IZJ)Z"⟩, 8) := ⟨⟨by decide +kernel, by decide +kernel⟩, List.mem_of_getElem? (i := 13) (by decide +kernel), List.mem_of_getElem? (i := 291) (by decide +kernel), List.mem_of_getElem? (i := 292) (by decide +kernel)⟩
theorem lw_p7 : lw_okq (⟨"TensMill", "divideRaised", "(LTensMill$Natural;ILTensMill$Natural;)Z"⟩, 8) := ⟨⟨by decide +kernel, by decide +kernel⟩, List.mem_of_getElem? (i := 13) (by decide +kernel), List.mem_of_getElem? (i := 311) (by decide +kernel), List.mem_of_getElem? (i := 312) (by decide +kernel)⟩
theorem lw_p8 : lw_okq (⟨"TensMill$Natural", "reduceByLimb", "(LTensMill$Natural;I)V"⟩, 2) := ⟨⟨by decide +kernel, by decide +kernel⟩, List.mem_of_getElem? (i := 23) (by decide +kernel), List.mem_of_getElem? (i := 319) (by decide +kernel), List.mem_of_getElem? (i := 320) (by decide +kernel)⟩
theorem lw_p9 : lw_okq (⟨"TensMill$Natural", "guessLimb", "([III)I"⟩, 2) := ⟨⟨by decide +kernel, by decide +kernel⟩, List.mem_of_getElem? (i := 23) (by decide +kernel), List.mem_of_getElem? (i := 323) (by decide +kernel), List.mem_of_getElem? (i := 324) (by decide +kernel)⟩
theorem lw_p10 : lw_okq (⟨"TensMill$Natural", "takeLimb", "([IIII)I"⟩, 2) := ⟨⟨by decide +kernel, by decide +kernel⟩, List.mem_of_getElem? (i := 23) (by decide +kernel), List.mem_of_getElem? (i := 334) (by decide +kernel), List.mem_of_getElem? (i := 335) (by decide +kernel)⟩
theorem lw_p11 : lw_okq (⟨"TensMill$Natural", "subtractTimes", "([IIIJI)J"⟩, 2) := ⟨⟨by decide +kernel, by decide +kernel⟩, List.mem_of_getElem? (i := 23) (by decide +kernel), List.mem_of_getElem? (i := 338) (by decide +kernel), List.mem_of_getElem? (i := 339) (by decide +kernel)⟩
theorem lw_p12 : lw_okq (⟨"TensMill$Natural", "addBack", "([IIII)J"⟩, 2) := ⟨⟨by decide +kernel, by decide +kernel⟩, List.mem_of_getElem? (i := 23) (by decide +kernel), List.mem_of_getElem? (i := 342) (by decide +kernel), List.mem_of_getElem? (i := 343) (by decide +kernel)⟩
theorem lw_p13 : lw_okq (⟨"TensMill", "cutQuotient", "(IZZI)Z"⟩, 8) := ⟨⟨by decide +kernel, by decide +kernel⟩, List.mem_of_getElem? (i := 13) (by decide +kernel), List.mem_of_getElem? (i := 348) (by decide +kernel), List.mem_of_getElem? (i := 349) (by decide +kernel)⟩
theorem lw_p14 : lw_okq (⟨"TensMill", "keepExactRatio", "(ILTensMill$Decimal;LTensMill$Decimal;J)Z"⟩, 8) := ⟨⟨by decide +kernel, by decide +kernel⟩, List.mem_of_getElem? (i := 13) (by decide +kernel), List.mem_of_getElem? (i := 387) (by decide +kernel), List.mem_of_getElem? (i := 388) (by decide +kernel)⟩
theorem lw_p15 : lw_okq (⟨"TensMill", "settle", "(IZJZJII)Z"⟩, 8) := ⟨⟨by decide +kernel, by decide +kernel⟩, List.mem_of_getElem? (i := 13) (by decide +kernel), List.mem_of_getElem? (i := 397) (by decide +kernel), List.mem_of_getElem? (i := 398) (by decide +kernel)⟩
def lw_privs_1 : List (MethodName × Nat) := [(⟨"TensMill", "keep", "(ILTensMill$Natural;ZJ)Z"⟩, 8), (⟨"TensMill$Natural", "makeRoom", "(I)V"⟩, 2), (⟨"TensMill", "sumUp", "(IIIZ)Z"⟩, 8), (⟨"TensMill$Natural", "emptyLimbs", "(I)V"⟩, 2), (⟨"TensMill$Natural", "trim", "()V"⟩, 2), (⟨"TensMill$Natural", "addTimes", "([IIJI)V"⟩, 2), (⟨"TensMill", "keepPower", "(ILTensMill$Natural;IZJ)Z"⟩, 8), (⟨"TensMill", "divideRaised", "(LTensMill$Natural;ILTensMill$Natural;)Z"⟩, 8), (⟨"TensMill$Natural", "reduceByLimb", "(LTensMill$Natural;I)V"⟩, 2), (⟨"TensMill$Natural", "guessLimb", "([III)I"⟩, 2), (⟨"TensMill$Natural", "takeLimb", "([IIII)I"⟩, 2), (⟨"TensMill$Natural", "subtractTimes", "([IIIJI)J"⟩, 2), (⟨"TensMill$Natural", "addBack", "([IIII)J"⟩, 2), (⟨"TensMill", "cutQuotient", "(IZZI)Z"⟩, 8), (⟨"TensMill", "keepExactRatio", "(ILTensMill$Decimal;LTensMill$Decimal;J)Z"⟩, 8), (⟨"TensMill", "settle", "(IZJZJII)Z"⟩, 8)]
theorem lw_r1 : ∀ q ∈ lw_privs_1, lw_okq q := List.forall_mem_cons.mpr ⟨lw_p0, List.forall_mem_cons.mpr ⟨lw_p1, List.forall_mem_cons.mpr ⟨lw_p2, List.forall_mem_cons.mpr ⟨lw_p3, List.forall_mem_cons.mpr ⟨lw_p4, List.forall_mem_cons.mpr ⟨lw_p5, List.forall_mem_cons.mpr ⟨lw_p6, List.forall_mem_cons.mpr ⟨lw_p7, List.forall_mem_cons.mpr ⟨lw_p8, List.forall_mem_cons.mpr ⟨lw_p9, List.forall_mem_cons.mpr ⟨lw_p10, List.forall_mem_cons.mpr ⟨lw_p11, List.forall_mem_cons.mpr ⟨lw_p12, List.forall_mem_cons.mpr ⟨lw_p13, List.forall_mem_cons.mpr ⟨lw_p14, List.forall_mem_cons.mpr ⟨lw_p15, fun _ h => absurd h List.not_mem_nil⟩⟩⟩⟩⟩⟩⟩⟩⟩⟩⟩⟩⟩⟩⟩⟩
theorem lw_p16 : lw_okq (⟨"TensMill", "keepRounded", "(IZJZII)Z"⟩, 8) := ⟨⟨by decide +kernel, by decide +kernel⟩, List.mem_of_getElem? (i := 13) (by decide +kernel), List.mem_of_getElem? (i := 401) (by decide +kernel), List.mem_of_getElem? (i := 402) (by decide +kernel)⟩
theorem lw_p17 : lw_okq (⟨"TensMill", "keepWhole", "(IILTensMill$Decimal;ZJJ)Z"⟩, 8) := ⟨⟨by decide +kernel, by decide +kernel⟩, List.mem_of_getElem? (i := 13) (by decide +kernel), List.mem_of_getElem? (i := 409) (by decide +kernel), List.mem_of_getElem? (i := 410) (by decide +kernel)⟩
theorem lw_p18 : lw_okq (⟨"TensMill", "keepWholeOfRaised", "(IILTensMill$Decimal;LTensMill$Decimal;J)Z"⟩, 8) := ⟨⟨by decide +kernel, by decide +kernel⟩, List.mem_of_getElem? (i := 13) (by decide +kernel), List.mem_of_getElem? (i := 413) (by decide +kernel), List.mem_of_getElem? (i := 414) (by decide +kernel)⟩
theorem lw_p19 : lw_okq (⟨"TensMill$Natural", "guessRootLimb", "([III)I"⟩, 2) := ⟨⟨by decide +kernel, by decide +kernel⟩, List.mem_of_getElem? (i := 23) (by decide +kernel), List.mem_of_getElem? (i := 429) (by decide +kernel), List.mem_of_getElem? (i := 430) (by decide +kernel)⟩
theorem lw_p20 : lw_okq (⟨"TensMill$Natural", "takeRootLimb", "([IIII)I"⟩, 2) := ⟨⟨by decide +kernel, by decide +kernel⟩, List.mem_of_getElem? (i := 23) (by decide +kernel), List.mem_of_getElem? (i := 433) (by decide +kernel), List.mem_of_getElem? (i := 434) (by decide +kernel)⟩
theorem lw_p21 : lw_okq (⟨"TensMill", "orderOfSizes", "(LTensMill$Decimal;LTensMill$Decimal;)I"⟩, 8) := ⟨⟨by decide +kernel, by decide +kernel⟩, List.mem_of_getElem? (i := 13) (by decide +kernel), List.mem_of_getElem? (i := 462) (by decide +kernel), List.mem_of_getElem? (i := 463) (by decide +kernel)⟩
theorem lw_p22 : lw_okq (⟨"TensMill$Numeral", "findDigits", "(LTensMill$Text;)Z"⟩, 5) := ⟨⟨by decide +kernel, by decide +kernel⟩, List.mem_of_getElem? (i := 54) (by decide +kernel), List.mem_of_getElem? (i := 522) (by decide +kernel), List.mem_of_getElem? (i := 523) (by decide +kernel)⟩
theorem lw_p23 : lw_okq (⟨"TensMill$Numeral", "findExponent", "(LTensMill$Text;I)Z"⟩, 5) := ⟨⟨by decide +kernel, by decide +kernel⟩, List.mem_of_getElem? (i := 54) (by decide +kernel), List.mem_of_getElem? (i := 530) (by decide +kernel), List.mem_of_getElem? (i := 531) (by decide +kernel)⟩
theorem lw_p24 : lw_okq (⟨"TensMill$Layout", "planPlain", "(LTensMill$Decimal;)V"⟩, 6) := ⟨⟨by decide +kernel, by decide +kernel⟩, List.mem_of_getElem? (i := 81) (by decide +kernel), List.mem_of_getElem? (i := 553) (by decide +kernel), List.mem_of_getElem? (i := 554) (by decide +kernel)⟩
theorem lw_p25 : lw_okq (⟨"TensMill$Layout", "highestUnit", "()J"⟩, 6) := ⟨⟨by decide +kernel, by decide +kernel⟩, List.mem_of_getElem? (i := 81) (by decide +kernel), List.mem_of_getElem? (i := 567) (by decide +kernel), List.mem_of_getElem? (i := 568) (by decide +kernel)⟩
theorem lw_p26 : lw_okq (⟨"TensMill$Layout", "layExponent", "(LTensMill$Text;)V"⟩, 6) := ⟨⟨by decide +kernel, by decide +kernel⟩, List.mem_of_getElem? (i := 81) (by decide +kernel), List.mem_of_getElem? (i := 585) (by decide +kernel), List.mem_of_getElem? (i := 586) (by decide +kernel)⟩
theorem lw_p27 : lw_okq (⟨"TensMillModel", "store", "(IIIJ)Z"⟩, 11) := ⟨⟨by decide +kernel, by decide +kernel⟩, List.mem_of_getElem? (i := 594) (by decide +kernel), List.mem_of_getElem? (i := 644) (by decide +kernel), List.mem_of_getElem? (i := 645) (by decide +kernel)⟩
theorem lw_p28 : lw_okq (⟨"TensMillModel", "load", "(II)V"⟩, 11) := ⟨⟨by decide +kernel, by decide +kernel⟩, List.mem_of_getElem? (i := 594) (by decide +kernel), List.mem_of_getElem? (i := 654) (by decide +kernel), List.mem_of_getElem? (i := 655) (by decide +kernel)⟩
theorem lw_p29 : lw_okq (⟨"TensMillModel", "sum", "(IIII)Z"⟩, 11) := ⟨⟨by decide +kernel, by decide +kernel⟩, List.mem_of_getElem? (i := 594) (by decide +kernel), List.mem_of_getElem? (i := 662) (by decide +kernel), List.mem_of_getElem? (i := 663) (by decide +kernel)⟩
theorem lw_p30 : lw_okq (⟨"TensMillModel", "raise", "(II)V"⟩, 11) := ⟨⟨by decide +kernel, by decide +kernel⟩, List.mem_of_getElem? (i := 594) (by decide +kernel), List.mem_of_getElem? (i := 667) (by decide +kernel), List.mem_of_getElem? (i := 668) (by decide +kernel)⟩
theorem lw_p31 : lw_okq (⟨"TensMillModel", "plus", "(II)V"⟩, 11) := ⟨⟨by decide +kernel, by decide +kernel⟩, List.mem_of_getElem? (i := 594) (by decide +kernel), List.mem_of_getElem? (i := 671) (by decide +kernel), List.mem_of_getElem? (i := 672) (by decide +kernel)⟩
def lw_privs_2 : List (MethodName × Nat) := [(⟨"TensMill", "keepRounded", "(IZJZII)Z"⟩, 8), (⟨"TensMill", "keepWhole", "(IILTensMill$Decimal;ZJJ)Z"⟩, 8), (⟨"TensMill", "keepWholeOfRaised", "(IILTensMill$Decimal;LTensMill$Decimal;J)Z"⟩, 8), (⟨"TensMill$Natural", "guessRootLimb", "([III)I"⟩, 2), (⟨"TensMill$Natural", "takeRootLimb", "([IIII)I"⟩, 2), (⟨"TensMill", "orderOfSizes", "(LTensMill$Decimal;LTensMill$Decimal;)I"⟩, 8), (⟨"TensMill$Numeral", "findDigits", "(LTensMill$Text;)Z"⟩, 5), (⟨"TensMill$Numeral", "findExponent", "(LTensMill$Text;I)Z"⟩, 5), (⟨"TensMill$Layout", "planPlain", "(LTensMill$Decimal;)V"⟩, 6), (⟨"TensMill$Layout", "highestUnit", "()J"⟩, 6), (⟨"TensMill$Layout", "layExponent", "(LTensMill$Text;)V"⟩, 6), (⟨"TensMillModel", "store", "(IIIJ)Z"⟩, 11), (⟨"TensMillModel", "load", "(II)V"⟩, 11), (⟨"TensMillModel", "sum", "(IIII)Z"⟩, 11), (⟨"TensMillModel", "raise", "(II)V"⟩, 11), (⟨"TensMillModel", "plus", "(II)V"⟩, 11)]
theorem lw_r2 : ∀ q ∈ lw_privs_2, lw_okq q := List.forall_mem_cons.mpr ⟨lw_p16, List.forall_mem_cons.mpr ⟨lw_p17, List.forall_mem_cons.mpr ⟨lw_p18, List.forall_mem_cons.mpr ⟨lw_p19, List.forall_mem_cons.mpr ⟨lw_p20, List.forall_mem_cons.mpr ⟨lw_p21, List.forall_mem_cons.mpr ⟨lw_p22, List.forall_mem_cons.mpr ⟨lw_p23, List.forall_mem_cons.mpr ⟨lw_p24, List.forall_mem_cons.mpr ⟨lw_p25, List.forall_mem_cons.mpr ⟨lw_p26, List.forall_mem_cons.mpr ⟨lw_p27, List.forall_mem_cons.mpr ⟨lw_p28, List.forall_mem_cons.mpr ⟨lw_p29, List.forall_mem_cons.mpr ⟨lw_p30, List.forall_mem_cons.mpr ⟨lw_p31, fun _ h => absurd h List.not_mem_nil⟩⟩⟩⟩⟩⟩⟩⟩⟩⟩⟩⟩⟩⟩⟩⟩
theorem lw_p32 : lw_okq (⟨"TensMillModel", "trim", "(II)V"⟩, 11) := ⟨⟨by decide +kernel, by decide +kernel⟩, List.mem_of_getElem? (i := 594) (by decide +kernel), List.mem_of_getElem? (i := 675) (by decide +kernel), List.mem_of_getElem? (i := 676) (by decide +kernel)⟩
theorem lw_p33 : lw_okq (⟨"TensMillModel", "compareRows", "(II)I"⟩, 11) := ⟨⟨by decide +kernel, by decide +kernel⟩, List.mem_of_getElem? (i := 594) (by decide +kernel), List.mem_of_getElem? (i := 679) (by decide +kernel), List.mem_of_getElem? (i := 680) (by decide +kernel)⟩
theorem lw_p34 : lw_okq (⟨"TensMillModel", "less", "(II)V"⟩, 11) := ⟨⟨by decide +kernel, by decide +kernel⟩, List.mem_of_getElem? (i := 594) (by decide +kernel), List.mem_of_getElem? (i := 683) (by decide +kernel), List.mem_of_getElem? (i := 684) (by decide +kernel)⟩
theorem lw_p35 : lw_okq (⟨"TensMillModel", "product", "()V"⟩, 11) := ⟨⟨by decide +kernel, by decide +kernel⟩, List.mem_of_getElem? (i := 594) (by decide +kernel), List.mem_of_getElem? (i := 695) (by decide +kernel), List.mem_of_getElem? (i := 696) (by decide +kernel)⟩
theorem lw_p36 : lw_okq (⟨"TensMillModel", "quotient", "()V"⟩, 11) := ⟨⟨by decide +kernel, by decide +kernel⟩, List.mem_of_getElem? (i := 594) (by decide +kernel), List.mem_of_getElem? (i := 713) (by decide +kernel), List.mem_of_getElem? (i := 714) (by decide +kernel)⟩
theorem lw_p37 : lw_okq (⟨"TensMillModel", "step", "(I)I"⟩, 11) := ⟨⟨by decide +kernel, by decide +kernel⟩, List.mem_of_getElem? (i := 594) (by decide +kernel), List.mem_of_getElem? (i := 717) (by decide +kernel), List.mem_of_getElem? (i := 718) (by decide +kernel)⟩
theorem lw_p38 : lw_okq (⟨"TensMillModel", "judge", "()V"⟩, 11) := ⟨⟨by decide +kernel, by decide +kernel⟩, List.mem_of_getElem? (i := 594) (by decide +kernel), List.mem_of_getElem? (i := 722) (by decide +kernel), List.mem_of_getElem? (i := 723) (by decide +kernel)⟩
theorem lw_p39 : lw_okq (⟨"TensMillModel", "finish", "(IIIJI)Z"⟩, 11) := ⟨⟨by decide +kernel, by decide +kernel⟩, List.mem_of_getElem? (i := 594) (by decide +kernel), List.mem_of_getElem? (i := 726) (by decide +kernel), List.mem_of_getElem? (i := 727) (by decide +kernel)⟩
theorem lw_p40 : lw_okq (⟨"TensMillModel", "goesUp", "(III)Z"⟩, 11) := ⟨⟨by decide +kernel, by decide +kernel⟩, List.mem_of_getElem? (i := 594) (by decide +kernel), List.mem_of_getElem? (i := 730) (by decide +kernel), List.mem_of_getElem? (i := 731) (by decide +kernel)⟩
theorem lw_p41 : lw_okq (⟨"TensMillModel", "one", "(I)V"⟩, 11) := ⟨⟨by decide +kernel, by decide +kernel⟩, List.mem_of_getElem? (i := 594) (by decide +kernel), List.mem_of_getElem? (i := 734) (by decide +kernel), List.mem_of_getElem? (i := 735) (by decide +kernel)⟩
theorem lw_p42 : lw_okq (⟨"TensMillModel", "exact", "(IIJ)Z"⟩, 11) := ⟨⟨by decide +kernel, by decide +kernel⟩, List.mem_of_getElem? (i := 594) (by decide +kernel), List.mem_of_getElem? (i := 745) (by decide +kernel), List.mem_of_getElem? (i := 746) (by decide +kernel)⟩
theorem lw_p43 : lw_okq (⟨"TensMillModel", "lower", "(IJ)V"⟩, 11) := ⟨⟨by decide +kernel, by decide +kernel⟩, List.mem_of_getElem? (i := 594) (by decide +kernel), List.mem_of_getElem? (i := 749) (by decide +kernel), List.mem_of_getElem? (i := 750) (by decide +kernel)⟩
theorem lw_p44 : lw_okq (⟨"TensMillModel", "finishTo", "(IIIJII)Z"⟩, 11) := ⟨⟨by decide +kernel, by decide +kernel⟩, List.mem_of_getElem? (i := 594) (by decide +kernel), List.mem_of_getElem? (i := 753) (by decide +kernel), List.mem_of_getElem? (i := 754) (by decide +kernel)⟩
theorem lw_p45 : lw_okq (⟨"TensMillModel", "settle", "(IIJJI)Z"⟩, 11) := ⟨⟨by decide +kernel, by decide +kernel⟩, List.mem_of_getElem? (i := 594) (by decide +kernel), List.mem_of_getElem? (i := 757) (by decide +kernel), List.mem_of_getElem? (i := 758) (by decide +kernel)⟩
theorem lw_p46 : lw_okq (⟨"TensMillModel", "zeros", "(I)I"⟩, 11) := ⟨⟨by decide +kernel, by decide +kernel⟩, List.mem_of_getElem? (i := 594) (by decide +kernel), List.mem_of_getElem? (i := 761) (by decide +kernel), List.mem_of_getElem? (i := 762) (by decide +kernel)⟩
theorem lw_p47 : lw_okq (⟨"TensMillModel", "remains", "(IIIIJIII)Z"⟩, 11) := ⟨⟨by decide +kernel, by decide +kernel⟩, List.mem_of_getElem? (i := 594) (by decide +kernel), List.mem_of_getElem? (i := 769) (by decide +kernel), List.mem_of_getElem? (i := 770) (by decide +kernel)⟩
def lw_privs_3 : List (MethodName × Nat) := [(⟨"TensMillModel", "trim", "(II)V"⟩, 11), (⟨"TensMillModel", "compareRows", "(II)I"⟩, 11), (⟨"TensMillModel", "less", "(II)V"⟩, 11), (⟨"TensMillModel", "product", "()V"⟩, 11), (⟨"TensMillModel", "quotient", "()V"⟩, 11), (⟨"TensMillModel", "step", "(I)I"⟩, 11), (⟨"TensMillModel", "judge", "()V"⟩, 11), (⟨"TensMillModel", "finish", "(IIIJI)Z"⟩, 11), (⟨"TensMillModel", "goesUp", "(III)Z"⟩, 11), (⟨"TensMillModel", "one", "(I)V"⟩, 11), (⟨"TensMillModel", "exact", "(IIJ)Z"⟩, 11), (⟨"TensMillModel", "lower", "(IJ)V"⟩, 11), (⟨"TensMillModel", "finishTo", "(IIIJII)Z"⟩, 11), (⟨"TensMillModel", "settle", "(IIJJI)Z"⟩, 11), (⟨"TensMillModel", "zeros", "(I)I"⟩, 11), (⟨"TensMillModel", "remains", "(IIIIJIII)Z"⟩, 11)]
theorem lw_r3 : ∀ q ∈ lw_privs_3, lw_okq q := List.forall_mem_cons.mpr ⟨lw_p32, List.forall_mem_cons.mpr ⟨lw_p33, List.forall_mem_cons.mpr ⟨lw_p34, List.forall_mem_cons.mpr ⟨lw_p35, List.forall_mem_cons.mpr ⟨lw_p36, List.forall_mem_cons.mpr ⟨lw_p37, List.forall_mem_cons.mpr ⟨lw_p38, List.forall_mem_cons.mpr ⟨lw_p39, List.forall_mem_cons.mpr ⟨lw_p40, List.forall_mem_cons.mpr ⟨lw_p41, List.forall_mem_cons.mpr ⟨lw_p42, List.forall_mem_cons.mpr ⟨lw_p43, List.forall_mem_cons.mpr ⟨lw_p44, List.forall_mem_cons.mpr ⟨lw_p45, List.forall_mem_cons.mpr ⟨lw_p46, List.forall_mem_cons.mpr ⟨lw_p47, fun _ h => absurd h List.not_mem_nil⟩⟩⟩⟩⟩⟩⟩⟩⟩⟩⟩⟩⟩⟩⟩⟩
theorem lw_p48 : lw_okq (⟨"TensMillModel", "extract", "()V"⟩, 11) := ⟨⟨by decide +kernel, by decide +kernel⟩, List.mem_of_getElem? (i := 594) (by decide +kernel), List.mem_of_getElem? (i := 781) (by decide +kernel), List.mem_of_getElem? (i := 782) (by decide +kernel)⟩
theorem lw_p49 : lw_okq (⟨"TensMillModel", "bring", "(I)V"⟩, 11) := ⟨⟨by decide +kernel, by decide +kernel⟩, List.mem_of_getElem? (i := 594) (by decide +kernel), List.mem_of_getElem? (i := 785) (by decide +kernel), List.mem_of_getElem? (i := 786) (by decide +kernel)⟩
theorem lw_p50 : lw_okq (⟨"TensMillModel", "digitsOf", "(I)I"⟩, 11) := ⟨⟨by decide +kernel, by decide +kernel⟩, List.mem_of_getElem? (i := 594) (by decide +kernel), List.mem_of_getElem? (i := 817) (by decide +kernel), List.mem_of_getElem? (i := 818) (by decide +kernel)⟩
theorem lw_p51 : lw_okq (⟨"TensMillModel", "plainSize", "(I)J"⟩, 11) := ⟨⟨by decide +kernel, by decide +kernel⟩, List.mem_of_getElem? (i := 594) (by decide +kernel), List.mem_of_getElem? (i := 849) (by decide +kernel), List.mem_of_getElem? (i := 850) (by decide +kernel)⟩
theorem lw_p52 : lw_okq (⟨"TensMillModel", "mark", "(I)Z"⟩, 11) := ⟨⟨by decide +kernel, by decide +kernel⟩, List.mem_of_getElem? (i := 594) (by decide +kernel), List.mem_of_getElem? (i := 854) (by decide +kernel), List.mem_of_getElem? (i := 855) (by decide +kernel)⟩
theorem lw_p53 : lw_okq (⟨"TensMillModel", "plain", "(I)V"⟩, 11) := ⟨⟨by decide +kernel, by decide +kernel⟩, List.mem_of_getElem? (i := 594) (by decide +kernel), List.mem_of_getElem? (i := 858) (by decide +kernel), List.mem_of_getElem? (i := 859) (by decide +kernel)⟩
theorem lw_p54 : lw_okq (⟨"TensMillModel", "front", "(II)I"⟩, 11) := ⟨⟨by decide +kernel, by decide +kernel⟩, List.mem_of_getElem? (i := 594) (by decide +kernel), List.mem_of_getElem? (i := 862) (by decide +kernel), List.mem_of_getElem? (i := 863) (by decide +kernel)⟩
theorem lw_p55 : lw_okq (⟨"TensMillModel", "putExponent", "(J)V"⟩, 11) := ⟨⟨by decide +kernel, by decide +kernel⟩, List.mem_of_getElem? (i := 594) (by decide +kernel), List.mem_of_getElem? (i := 867) (by decide +kernel), List.mem_of_getElem? (i := 868) (by decide +kernel)⟩
theorem lw_p56 : lw_okq (⟨"TensMillModel", "putNumber", "(J)V"⟩, 11) := ⟨⟨by decide +kernel, by decide +kernel⟩, List.mem_of_getElem? (i := 594) (by decide +kernel), List.mem_of_getElem? (i := 871) (by decide +kernel), List.mem_of_getElem? (i := 872) (by decide +kernel)⟩
def lw_privs_4 : List (MethodName × Nat) := [(⟨"TensMillModel", "extract", "()V"⟩, 11), (⟨"TensMillModel", "bring", "(I)V"⟩, 11), (⟨"TensMillModel", "digitsOf", "(I)I"⟩, 11), (⟨"TensMillModel", "plainSize", "(I)J"⟩, 11), (⟨"TensMillModel", "mark", "(I)Z"⟩, 11), (⟨"TensMillModel", "plain", "(I)V"⟩, 11), (⟨"TensMillModel", "front", "(II)I"⟩, 11), (⟨"TensMillModel", "putExponent", "(J)V"⟩, 11), (⟨"TensMillModel", "putNumber", "(J)V"⟩, 11)]
theorem lw_r4 : ∀ q ∈ lw_privs_4, lw_okq q := List.forall_mem_cons.mpr ⟨lw_p48, List.forall_mem_cons.mpr ⟨lw_p49, List.forall_mem_cons.mpr ⟨lw_p50, List.forall_mem_cons.mpr ⟨lw_p51, List.forall_mem_cons.mpr ⟨lw_p52, List.forall_mem_cons.mpr ⟨lw_p53, List.forall_mem_cons.mpr ⟨lw_p54, List.forall_mem_cons.mpr ⟨lw_p55, List.forall_mem_cons.mpr ⟨lw_p56, fun _ h => absurd h List.not_mem_nil⟩⟩⟩⟩⟩⟩⟩⟩⟩
def lw_privs : List (MethodName × Nat) := lw_privs_1 ++ (lw_privs_2 ++ (lw_privs_3 ++ (lw_privs_4)))
def lw_tbl : List Cond := k2_sels lw_privs ++ tables_1
theorem lw_privs_ok : ∀ q ∈ lw_privs, lw_okq q := by
  show ∀ q ∈ lw_privs_1 ++ (lw_privs_2 ++ (lw_privs_3 ++ (lw_privs_4))), lw_okq q
  exact List.forall_mem_append.mpr ⟨lw_r1, List.forall_mem_append.mpr ⟨lw_r2, List.forall_mem_append.mpr ⟨lw_r3, lw_r4⟩⟩⟩
def TX0 : u_T := fun k => match k with
  | 0 => ("TensMill$Decimal", "u", "LTensMill$Natural;", true)
  | 1 => ("TensMill$Decimal", "negative", "Z", false)
  | _ => ("TensMill$Decimal", "scale", "I", false)
def tyX0 : Nat → FieldType := fun k => match k with
  | 0 => .object "TensMill$Natural"
  | 1 => .boolean
  | _ => .int
theorem nmX0 : ∀ a, a < 3 → ∀ b, b < 3 → a ≠ b → (TX0 a).2.1 ≠ (TX0 b).2.1 := by decide +kernel
theorem tyX0_ok : ∀ k, k < 3 → parseFieldDescriptor (TX0 k).2.2.1 = some (tyX0 k) := by decide +kernel
def TX1 : u_T := fun k => match k with
  | 0 => ("TensMill$Layout", "negative", "Z", false)
  | 1 => ("TensMill$Layout", "digits", "I", false)
  | 2 => ("TensMill$Layout", "front", "J", false)
  | 3 => ("TensMill$Layout", "back", "J", false)
  | 4 => ("TensMill$Layout", "beforePoint", "J", false)
  | _ => ("TensMill$Layout", "exponent", "J", false)
def tyX1 : Nat → FieldType := fun k => match k with
  | 0 => .boolean
  | 1 => .int
  | 2 => .long
  | 3 => .long
  | 4 => .long
  | _ => .long
theorem nmX1 : ∀ a, a < 6 → ∀ b, b < 6 → a ≠ b → (TX1 a).2.1 ≠ (TX1 b).2.1 := by decide +kernel
theorem tyX1_ok : ∀ k, k < 6 → parseFieldDescriptor (TX1 k).2.2.1 = some (tyX1 k) := by decide +kernel
def TX2 : u_T := fun k => match k with
  | 0 => ("TensMill$Natural", "limbs", "[I", false)
  | _ => ("TensMill$Natural", "count", "I", false)
def tyX2 : Nat → FieldType := fun k => match k with
  | 0 => .array .int
  | _ => .int
theorem nmX2 : ∀ a, a < 2 → ∀ b, b < 2 → a ≠ b → (TX2 a).2.1 ≠ (TX2 b).2.1 := by decide +kernel
theorem tyX2_ok : ∀ k, k < 2 → parseFieldDescriptor (TX2 k).2.2.1 = some (tyX2 k) := by decide +kernel
def TX3 : u_T := fun k => match k with
  | 0 => ("TensMill$Numeral", "negative", "Z", false)
  | 1 => ("TensMill$Numeral", "start", "I", false)
  | 2 => ("TensMill$Numeral", "end", "I", false)
  | 3 => ("TensMill$Numeral", "behind", "I", false)
  | _ => ("TensMill$Numeral", "exponent", "J", false)
def tyX3 : Nat → FieldType := fun k => match k with
  | 0 => .boolean
  | 1 => .int
  | 2 => .int
  | 3 => .int
  | _ => .long
theorem nmX3 : ∀ a, a < 5 → ∀ b, b < 5 → a ≠ b → (TX3 a).2.1 ≠ (TX3 b).2.1 := by decide +kernel
theorem tyX3_ok : ∀ k, k < 5 → parseFieldDescriptor (TX3 k).2.2.1 = some (tyX3 k) := by decide +kernel
def TX4 : u_T := fun k => match k with
  | 0 => ("TensMill$Text", "codes", "[B", false)
  | _ => ("TensMill$Text", "length", "I", false)
def tyX4 : Nat → FieldType := fun k => match k with
  | 0 => .array .byte
  | _ => .int
theorem nmX4 : ∀ a, a < 2 → ∀ b, b < 2 → a ≠ b → (TX4 a).2.1 ≠ (TX4 b).2.1 := by decide +kernel
theorem tyX4_ok : ∀ k, k < 2 → parseFieldDescriptor (TX4 k).2.2.1 = some (tyX4 k) := by decide +kernel
def TX5 : u_T := fun k => match k with
  | 0 => ("TensMill", "registers", "[LTensMill$Decimal;", true)
  | 1 => ("TensMill", "work", "LTensMill$Natural;", true)
  | 2 => ("TensMill", "quotient", "LTensMill$Natural;", true)
  | 3 => ("TensMill", "spare", "LTensMill$Natural;", true)
  | 4 => ("TensMill", "typed", "LTensMill$Text;", true)
  | 5 => ("TensMill", "laid", "LTensMill$Text;", true)
  | 6 => ("TensMill", "numeral", "LTensMill$Numeral;", true)
  | _ => ("TensMill", "layout", "LTensMill$Layout;", true)
def tyX5 : Nat → FieldType := fun k => match k with
  | 0 => .array (.object "TensMill$Decimal")
  | 1 => .object "TensMill$Natural"
  | 2 => .object "TensMill$Natural"
  | 3 => .object "TensMill$Natural"
  | 4 => .object "TensMill$Text"
  | 5 => .object "TensMill$Text"
  | 6 => .object "TensMill$Numeral"
  | _ => .object "TensMill$Layout"
theorem nmX5 : ∀ a, a < 8 → ∀ b, b < 8 → a ≠ b → (TX5 a).2.1 ≠ (TX5 b).2.1 := by decide +kernel
theorem tyX5_ok : ∀ k, k < 8 → parseFieldDescriptor (TX5 k).2.2.1 = some (tyX5 k) := by decide +kernel
def TX6 : u_T := fun k => match k with
  | 0 => ("TensMillModel", "digits", "[I", true)
  | 1 => ("TensMillModel", "sizes", "[I", true)
  | 2 => ("TensMillModel", "signs", "[I", true)
  | 3 => ("TensMillModel", "scales", "[I", true)
  | 4 => ("TensMillModel", "m", "[I", true)
  | 5 => ("TensMillModel", "n", "[I", true)
  | 6 => ("TensMillModel", "left", "I", false)
  | 7 => ("TensMillModel", "typed", "I", false)
  | 8 => ("TensMillModel", "text", "[I", true)
  | 9 => ("TensMillModel", "written", "I", false)
  | _ => ("TensMillModel", "out", "[I", true)
def tyX6 : Nat → FieldType := fun k => match k with
  | 0 => .array .int
  | 1 => .array .int
  | 2 => .array .int
  | 3 => .array .int
  | 4 => .array .int
  | 5 => .array .int
  | 6 => .int
  | 7 => .int
  | 8 => .array .int
  | 9 => .int
  | _ => .array .int
theorem nmX6 : ∀ a, a < 11 → ∀ b, b < 11 → a ≠ b → (TX6 a).2.1 ≠ (TX6 b).2.1 := by decide +kernel
theorem tyX6_ok : ∀ k, k < 11 → parseFieldDescriptor (TX6 k).2.2.1 = some (tyX6 k) := by decide +kernel
abbrev vwCl : List vw_C := [("TensMill$Decimal", TX0, 3), ("TensMill$Layout", TX1, 6), ("TensMill$Natural", TX2, 2), ("TensMill$Numeral", TX3, 5), ("TensMill$Text", TX4, 2), ("TensMill", TX5, 8), ("TensMillModel", TX6, 11)]
def GT : List Cond := lw_tbl.filter goodWord
theorem GT_ok : ∀ w ∈ GT, w ∈ lw_tbl ∧ goodWord w = true := fun w h => List.mem_filter.mp h
theorem GT_in : ∀ w ∈ GT, w ∈ lw_tbl := fun w h => (GT_ok w h).1
theorem GT_good {big : List Cond} (h : ∀ w ∈ GT, w ∈ big) : GoodIn big GT := fun w hw => ⟨h w hw, good_of_word (GT_ok w hw).2⟩
theorem gtm_0 {w : Cond} (i : Nat) (h : (k2_sels lw_privs)[i]? = some w) (hg : goodWord w = true) : w ∈ GT := List.mem_filter.mpr ⟨List.mem_append_left _ (List.mem_of_getElem? h), hg⟩
theorem gtm_1 {w : Cond} (i : Nat) (h : tables_1_1[i]? = some w) (hg : goodWord w = true) : w ∈ GT := List.mem_filter.mpr ⟨List.mem_append_right _ (List.mem_append_left _ (List.mem_of_getElem? h)), hg⟩
theorem gtm_2 {w : Cond} (i : Nat) (h : tables_1_2[i]? = some w) (hg : goodWord w = true) : w ∈ GT := List.mem_filter.mpr ⟨List.mem_append_right _ (List.mem_append_right _ (List.mem_append_left _ (List.mem_of_getElem? h))), hg⟩
theorem gtm_3 {w : Cond} (i : Nat) (h : tables_1_3[i]? = some w) (hg : goodWord w = true) : w ∈ GT := List.mem_filter.mpr ⟨List.mem_append_right _ (List.mem_append_right _ (List.mem_append_right _ (List.mem_append_left _ (List.mem_of_getElem? h)))), hg⟩
theorem gtm_4 {w : Cond} (i : Nat) (h : tables_1_4[i]? = some w) (hg : goodWord w = true) : w ∈ GT := List.mem_filter.mpr ⟨List.mem_append_right _ (List.mem_append_right _ (List.mem_append_right _ (List.mem_append_right _ (List.mem_of_getElem? h)))), hg⟩
theorem ut_0 : ∀ w ∈ u_ws "TensMill$Decimal" TX0 3, w ∈ GT := by decide +kernel
theorem ut_1 : ∀ w ∈ u_ws "TensMill$Layout" TX1 6, w ∈ GT := by decide +kernel
theorem ut_2 : ∀ w ∈ u_ws "TensMill$Natural" TX2 2, w ∈ GT := by decide +kernel
theorem ut_3 : ∀ w ∈ u_ws "TensMill$Numeral" TX3 5, w ∈ GT := by decide +kernel
theorem ut_4 : ∀ w ∈ u_ws "TensMill$Text" TX4 2, w ∈ GT := by decide +kernel
theorem ut_5 : ∀ w ∈ u_ws "TensMill" TX5 8, w ∈ GT := by decide +kernel
theorem ut_6 : ∀ w ∈ u_ws "TensMillModel" TX6 11, w ∈ GT := by decide +kernel
def NW : List Cond := [Cond.methodLinkNest "TensMill" 17 ⟨"TensMill$Natural", "<init>", "()V"⟩ "TensMill", Cond.methodLinkNest "TensMill" 30 ⟨"TensMill$Text", "<init>", "()V"⟩ "TensMill", Cond.fieldLinkNest "TensMill$Numeral" 40 "TensMill$Text" "length" "I" "TensMill", Cond.fieldLinkNest "TensMill$Layout" 75 "TensMill$Text" "length" "I" "TensMill", Cond.fieldLinkNest "TensMill" 188 "TensMill$Text" "length" "I" "TensMill", Cond.methodLinkNest "TensMill" 40 ⟨"TensMill$Numeral", "<init>", "()V"⟩ "TensMill", Cond.fieldLinkNest "TensMill" 211 "TensMill$Numeral" "negative" "Z" "TensMill", Cond.fieldLinkNest "TensMill" 201 "TensMill$Numeral" "start" "I" "TensMill", Cond.fieldLinkNest "TensMill" 204 "TensMill$Numeral" "end" "I" "TensMill", Cond.fieldLinkNest "TensMill" 212 "TensMill$Numeral" "behind" "I" "TensMill", Cond.fieldLinkNest "TensMill" 215 "TensMill$Numeral" "exponent" "J" "TensMill", Cond.methodLinkNest "TensMill" 47 ⟨"TensMill$Layout", "<init>", "()V"⟩ "TensMill", Cond.methodLinkNest "TensMill" 52 ⟨"TensMill$Decimal", "<init>", "()V"⟩ "TensMill", Cond.methodLinkNest "TensMill$Decimal" 9 ⟨"TensMill$Natural", "<init>", "()V"⟩ "TensMill", Cond.fieldLinkNest "TensMill$Layout" 18 "TensMill$Decimal" "u" "LTensMill$Natural;" "TensMill", Cond.fieldLinkNest "TensMill" 65 "TensMill$Decimal" "u" "LTensMill$Natural;" "TensMill", Cond.fieldLinkNest "TensMill$Layout" 9 "TensMill$Decimal" "negative" "Z" "TensMill", Cond.fieldLinkNest "TensMill" 68 "TensMill$Decimal" "negative" "Z" "TensMill", Cond.fieldLinkNest "TensMill$Layout" 32 "TensMill$Decimal" "scale" "I" "TensMill", Cond.fieldLinkNest "TensMill" 72 "TensMill$Decimal" "scale" "I" "TensMill", Cond.fieldLinkNest "TensMill$Natural" 19 "TensMill" "TENS" "[I" "TensMill"]
theorem NW_in : ∀ w ∈ NW, w ∈ lw_tbl := by decide +kernel
theorem NW_tab : ∀ w ∈ NW, w.onTables = true := by decide +kernel
theorem NW_warm {s U : State} (hW : s.WarmedH U.vm) : ∀ w ∈ NW, va_Nw w s → va_Nw w U := by
  intro w hw h
  simp only [NW, List.mem_cons, List.not_mem_nil, or_false] at hw
  rcases hw with rfl | rfl | rfl | rfl | rfl | rfl | rfl | rfl | rfl | rfl | rfl | rfl | rfl | rfl | rfl | rfl | rfl | rfl | rfl | rfl | rfl <;> first | exact va_Nw.warmF hW h | exact va_Nw.warmM hW h
theorem n_0 : Cond.methodLinkNest "TensMill" 17 ⟨"TensMill$Natural", "<init>", "()V"⟩ "TensMill" ∈ NW := List.mem_of_getElem? (i := 0) rfl
theorem n_1 : Cond.methodLinkNest "TensMill" 30 ⟨"TensMill$Text", "<init>", "()V"⟩ "TensMill" ∈ NW := List.mem_of_getElem? (i := 1) rfl
theorem n_2 : Cond.fieldLinkNest "TensMill$Numeral" 40 "TensMill$Text" "length" "I" "TensMill" ∈ NW := List.mem_of_getElem? (i := 2) rfl
theorem n_3 : Cond.fieldLinkNest "TensMill$Layout" 75 "TensMill$Text" "length" "I" "TensMill" ∈ NW := List.mem_of_getElem? (i := 3) rfl
theorem n_4 : Cond.fieldLinkNest "TensMill" 188 "TensMill$Text" "length" "I" "TensMill" ∈ NW := List.mem_of_getElem? (i := 4) rfl
theorem n_5 : Cond.methodLinkNest "TensMill" 40 ⟨"TensMill$Numeral", "<init>", "()V"⟩ "TensMill" ∈ NW := List.mem_of_getElem? (i := 5) rfl
theorem n_6 : Cond.fieldLinkNest "TensMill" 211 "TensMill$Numeral" "negative" "Z" "TensMill" ∈ NW := List.mem_of_getElem? (i := 6) rfl
theorem n_7 : Cond.fieldLinkNest "TensMill" 201 "TensMill$Numeral" "start" "I" "TensMill" ∈ NW := List.mem_of_getElem? (i := 7) rfl
theorem n_8 : Cond.fieldLinkNest "TensMill" 204 "TensMill$Numeral" "end" "I" "TensMill" ∈ NW := List.mem_of_getElem? (i := 8) rfl
theorem n_9 : Cond.fieldLinkNest "TensMill" 212 "TensMill$Numeral" "behind" "I" "TensMill" ∈ NW := List.mem_of_getElem? (i := 9) rfl
theorem n_10 : Cond.fieldLinkNest "TensMill" 215 "TensMill$Numeral" "exponent" "J" "TensMill" ∈ NW := List.mem_of_getElem? (i := 10) rfl
theorem n_11 : Cond.methodLinkNest "TensMill" 47 ⟨"TensMill$Layout", "<init>", "()V"⟩ "TensMill" ∈ NW := List.mem_of_getElem? (i := 11) rfl
theorem n_12 : Cond.methodLinkNest "TensMill" 52 ⟨"TensMill$Decimal", "<init>", "()V"⟩ "TensMill" ∈ NW := List.mem_of_getElem? (i := 12) rfl
theorem n_13 : Cond.methodLinkNest "TensMill$Decimal" 9 ⟨"TensMill$Natural", "<init>", "()V"⟩ "TensMill" ∈ NW := List.mem_of_getElem? (i := 13) rfl
theorem n_14 : Cond.fieldLinkNest "TensMill$Layout" 18 "TensMill$Decimal" "u" "LTensMill$Natural;" "TensMill" ∈ NW := List.mem_of_getElem? (i := 14) rfl
theorem n_15 : Cond.fieldLinkNest "TensMill" 65 "TensMill$Decimal" "u" "LTensMill$Natural;" "TensMill" ∈ NW := List.mem_of_getElem? (i := 15) rfl
theorem n_16 : Cond.fieldLinkNest "TensMill$Layout" 9 "TensMill$Decimal" "negative" "Z" "TensMill" ∈ NW := List.mem_of_getElem? (i := 16) rfl
theorem n_17 : Cond.fieldLinkNest "TensMill" 68 "TensMill$Decimal" "negative" "Z" "TensMill" ∈ NW := List.mem_of_getElem? (i := 17) rfl
theorem n_18 : Cond.fieldLinkNest "TensMill$Layout" 32 "TensMill$Decimal" "scale" "I" "TensMill" ∈ NW := List.mem_of_getElem? (i := 18) rfl
theorem n_19 : Cond.fieldLinkNest "TensMill" 72 "TensMill$Decimal" "scale" "I" "TensMill" ∈ NW := List.mem_of_getElem? (i := 19) rfl
theorem n_20 : Cond.fieldLinkNest "TensMill$Natural" 19 "TensMill" "TENS" "[I" "TensMill" ∈ NW := List.mem_of_getElem? (i := 20) rfl
