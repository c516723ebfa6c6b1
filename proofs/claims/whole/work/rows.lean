section
-- ===== PART A: goes FIRST, ahead of the names: the tables' words, and 'selects' of the private methods out of them =====
/-- a private method of a class that the tables say can be made, by its rows of tables_1 -/
def lw_okq (q : MethodName × Nat) : Prop := (q.1.cls ≠ "java/lang/invoke/MethodHandle" ∧ q.1.cls ≠ "java/lang/invoke/VarHandle") ∧ Cond.instantiable q.1.cls q.2 ∈ tables_1 ∧ Cond.privateMethod q.1 ∈ tables_1 ∧ Cond.instanceMethod q.1 ∈ tables_1
theorem lw_p0 : lw_okq (⟨"TensMill", "keep", "(ILTensMill$Natural;ZJ)Z"⟩, 8) := ⟨⟨by decide +kernel, by decide +kernel⟩, List.mem_of_getElem? (i := 13) (by decide +kernel), List.mem_of_getElem? (i := 166) (by decide +kernel), List.mem_of_getElem? (i := 167) (by decide +kernel)⟩
theorem lw_p1 : lw_okq (⟨"TensMill$Natural", "makeRoom", "(I)V"⟩, 2) := ⟨⟨by decide +kernel, by decide +kernel⟩, List.mem_of_getElem? (i := 23) (by decide +kernel), List.mem_of_getElem? (i := 190) (by decide +kernel), List.mem_of_getElem? (i := 191) (by decide +kernel)⟩
theorem lw_p2 : lw_okq (⟨"TensMill", "sumUp", "(IIIZ)Z"⟩, 8) := ⟨⟨by decide +kernel, by decide +kernel⟩, List.mem_of_getElem? (i := 13) (by decide +kernel), List.mem_of_getElem? (i := 226) (by decide +kernel), List.mem_of_getElem? (i := 227) (by decide +kernel)⟩
theorem lw_p3 : lw_okq (⟨"TensMill$Natural", "emptyLimbs", "(I)V"⟩, 2) := ⟨⟨by decide +kernel, by decide +kernel⟩, List.mem_of_getElem? (i := 23) (by decide +kernel), List.mem_of_getElem? (i := 244) (by decide +kernel), List.mem_of_getElem? (i := 245) (by decide +kernel)⟩
theorem lw_p4 : lw_okq (⟨"TensMill$Natural", "trim", "()V"⟩, 2) := ⟨⟨by decide +kernel, by decide +kernel⟩, List.mem_of_getElem? (i := 23) (by decide +kernel), List.mem_of_getElem? (i := 248) (by decide +kernel), List.mem_of_getElem? (i := 249) (by decide +kernel)⟩
theorem lw_p5 : lw_okq (⟨"TensMill$Natural", "addTimes", "([IIJI)V"⟩, 2) := ⟨⟨by decide +kernel, by decide +kernel⟩, List.mem_of_getElem? (i := 23) (by decide +kernel), List.mem_of_getElem? (i := 279) (by decide +kernel), List.mem_of_getElem? (i := 280) (by decide +kernel)⟩
theorem lw_p6 : lw_okq (⟨"TensMill", "keepPower", "(ILTensMill$Natural;IZJ)Z"⟩, 8) := ⟨⟨by decide +kernel, by decide +kernel⟩, List.mem_of_getElem? (i := 13) (by decide +kernel), List.mem_of_getElem? (i := 291) (by decide +kernel), List.mem_of_getElem? (i := 292) (by decide +kernel)⟩
theorem lw_p7 : lw_okq (⟨"TensMill", "divideRaised", "(LTensMill$Natural;ILTensMill$Natural;)Z"⟩, 8) := ⟨⟨by decide +kernel, by decide +kernel⟩, List.mem_of_getElem? (i := 13) (by decide +kernel), List.mem_of_getElem? (i := 311) (by decide +kernel), List.mem_of_getElem? (i := 312) (by decide +kernel)⟩
theorem lw_p8 : lw_okq (⟨"TensMill$Natural", "reduceByLimb", "(LTensMill$Natural;I)V"⟩, 2) := ⟨⟨by decide +kernel, by decide +kernel⟩, List.mem_of_getElem? (i := 23) (by decide +kernel), List.mem_of_getElem? (i := 319) (by decide +kernel), List.mem_of_getElem? (i := 320) (by decide +kernel)⟩
theorem lw_p9 : lw_okq (⟨"TensMill$Natural", "guessLimb", "([III)I"⟩, 2) := ⟨⟨by decide +kernel, by decide +kernel⟩, List.mem_of_getElem? (i := 23) (by decide +kernel), List.mem_of_getElem? (i := 323) (by decide +kernel), List.mem_of_getElem? (i := 324) (by decide +kernel)⟩
theorem lw_p10 : lw_okq (⟨"TensMill$Natural", "takeLimb", "([IIII)I"⟩, 2) := ⟨⟨by decide +kernel, by decide +kernel⟩, List.mem_of_getElem? (i := 23) (by decide +kernel), List.mem_of_getElem? (i := 334) (by decide +kernel), List.mem_of_getElem? (i := 335) (by decide +kernel)⟩
theorem lw_p11 : lw_okq (⟨"TensMill$Natural", "subtractTimes", "([IIIJI)J"⟩, 2) := ⟨⟨by decide +kernel, by decide +kernel⟩, List.mem_of_getElem? (i := 23) (by decide +kernel), List.mem_of_getElem? (i := 338) (by decide +kernel), List.mem_of_getElem? (i := 339) (by decide +kernel)⟩
theorem lw_p12 : lw_okq (⟨"TensMill$Natural", "addBack", "([IIII)J"⟩, 2) := ⟨⟨by decide +kernel, by decide +kernel⟩, List.mem_of_getElem? (i := 23) (by decide +kernel), List.mem_of_getElem? (i := 342) (by decide +kernel), List.mem_of_getElem? (i := 343) (by decide +kernel)⟩
theorem lw_p13 : lw_okq (⟨"TensMill", "cutQuotient", "(IZZI)Z"⟩, 8) := ⟨⟨by decide +kernel, by decide +kernel⟩, List.mem_of_getElem? (i := 13) (by decide +kernel), List.mem_of_getElem? (i := 348) (by decide +kernel), List.mem_of_getElem? (i := 349) (by decide +kernel)⟩
theorem lw_p14 : lw_okq (⟨"TensMill", "keepExactRatio", "(ILTensMill$Decimal;LTensMill$Decimal;J)Z"⟩, 8) := ⟨⟨by decide +kernel, by decide +kernel⟩, List.mem_of_getElem? (i := 13) (by decide +kernel), List.mem_of_getElem? (i := 387) (by decide +kernel), List.mem_of_getElem? (i := 388) (by decide +kernel)⟩
theorem lw_p15 : lw_okq (⟨"TensMill", "settle", "(IZJZJII)Z"⟩, 8) := ⟨⟨by decide +kernel, by decide +kernel⟩, List.mem_of_getElem? (i := 13) (by decide +kernel), List.mem_of_getElem? (i := 397) (by decide +kernel), List.mem_of_getElem? (i := 398) (by decide +kernel)⟩
def lw_privs_1 : List (MethodName × Nat) := [(⟨"TensMill", "keep", "(ILTensMill$Natural;ZJ)Z"⟩, 8), (⟨"TensMill$Natural", "makeRoom", "(I)V"⟩, 2), (⟨"TensMill", "sumUp", "(IIIZ)Z"⟩, 8), (⟨"TensMill$Natural", "emptyLimbs", "(I)V"⟩, 2), (⟨"TensMill$Natural", "trim", "()V"⟩, 2), (⟨"TensMill$Natural", "addTimes", "([IIJI)V"⟩, 2), (⟨"TensMill", "keepPower", "(ILTensMill$Natural;IZJ)Z"⟩, 8), (⟨"TensMill", "divideRaised", "(LTensMill$Natural;ILTensMill$Natural;)Z"⟩, 8), (⟨"TensMill$Natural", "reduceByLimb", "(LTensMill$Natural;I)V"⟩, 2), (⟨"TensMill$Natural", "guessLimb", "([III)I"⟩, 2), (⟨"TensMill$Natural", "takeLimb", "([IIII)I"⟩, 2), (⟨"TensMill$Natural", "subtractTimes", "([IIIJI)J"⟩, 2), (⟨"TensMill$Natural", "addBack", "([IIII)J"⟩, 2), (⟨"TensMill", "cutQuotient", "(IZZI)Z"⟩, 8), (⟨"TensMill", "keepExactRatio", "(ILTensMill$Decimal;LTensMill$Decimal;J)Z"⟩, 8), (⟨"TensMill", "settle", "(IZJZJII)Z"⟩, 8)]
theorem lw_r1 : ∀ q ∈ lw_privs_1, lw_okq q := List.forall_mem_cons.mpr ⟨lw_p0, List.forall_mem_cons.mpr ⟨lw_p1, List.forall_mem_cons.mpr ⟨lw_p2, List.forall_mem_cons.mpr ⟨lw_p3, List.forall_mem_cons.mpr ⟨lw_p4, List.forall_mem_cons.mpr ⟨lw_p5, List.forall_mem_cons.mpr ⟨lw_p6, List.forall_mem_cons.mpr ⟨lw_p7, List.forall_mem_cons.mpr ⟨lw_p8, List.forall_mem_cons.mpr ⟨lw_p9, List.forall_mem_cons.mpr ⟨lw_p10, List.forall_mem_cons.mpr ⟨lw_p11, List.forall_mem_cons.mpr ⟨lw_p12, List.forall_mem_cons.mpr ⟨lw_p13, List.forall_mem_cons.mpr ⟨lw_p14, List.forall_mem_cons.mpr ⟨lw_p15, fun _ h => absurd h List.not_mem_nil⟩⟩⟩⟩⟩⟩⟩⟩⟩⟩⟩⟩⟩⟩⟩⟩
theorem lw_p16 : lw_okq (⟨"TensMill", "keepRounded", "(IZJZII)Z"⟩, 8) := ⟨⟨by decide +kernel, by decide +kernel⟩, List.mem_of_getElem? (i := 13) (by decide +kernel), List.mem_of_getElem? (i := 401) (by decide +kernel), List.mem_of_getElem? (i := 402) (by decide +kernel)⟩
theorem lw_p17 : lw_okq (⟨"TensMill", "keepWhole", "(IILTensMill$Decimal;ZJJ)Z"⟩, 8) := ⟨⟨by decide +kernel, by decide +kernel⟩, List.mem_of_getElem? (i := 13) (by decide +kernel), List.mem_of_getElem? (i := 409) (by decide +kernel), List.mem_of_getElem? (i := 410) (by decide +kernel)⟩
theorem lw_p18 : lw_okq (⟨"TensMill", "keepWholeOfRaised", "(IILTensMill$Decimal;LTensMill$Decimal;J)Z"⟩, 8) := ⟨⟨by decide +kernel, by decide +kernel⟩, List.mem_of_getElem? (i := 13) (by decide +kernel), List.mem_of_getElem? (i := 413) (by decide +kernel), List.mem_of_getElem? (i := 414) (by decide +kernel)⟩
theorem lw_p19 : lw_okq (⟨"TensMill$Natural", "guessRootLimb", "([III)I"⟩, 2) := ⟨⟨by decide +kernel, by decide +kernel⟩, List.mem_of_getElem? (i := 23) (by decide +kernel), List.mem_of_getElem? (i := 429) (by decide +kernel), List.mem_of_getElem? (i := 430) (by decide +kernel)⟩
theorem lw_p20 : lw_okq (⟨"TensMill$Natural", "takeRootLimb", "([IIII)I"⟩, 2) := ⟨⟨by decide +kernel, by decide +kernel⟩, List.mem_of_getElem? (i := 23) (by decide +kernel), List.mem_of_getElem? (i := 433) (by decide +kernel), List.mem_of_getElem? (i := 434) (by decide +kernel)⟩
theorem lw_p21 : lw_okq (⟨"TensMill", "orderOfSizes", "(LTensMill$Decimal;LTensMill$Decimal;)I"⟩, 8) := ⟨⟨by decide +kernel, by decide +kernel⟩, List.mem_of_getElem? (i := 13) (by decide +kernel), List.mem_of_getElem? (i := 462) (by decide +kernel), List.mem_of_getElem? (i := 463) (by decide +kernel)⟩
theorem lw_p22 : lw_okq (⟨"TensMill$Numeral", "findDigits", "(LTensMill$Text;)Z"⟩, 5) := ⟨⟨by decide +kernel, by decide +kernel⟩, List.mem_of_getElem? (i := 54) (by decide +kernel), List.mem_of_getElem? (i := 522) (by decide +kernel), List.mem_of_getElem? (i := 523) (by decide +kernel)⟩
theorem lw_p23 : lw_okq (⟨"TensMill$Numeral", "findExponent", "(LTensMill$Text;I)Z"⟩, 5) := ⟨⟨by decide +kernel, by decide +kernel⟩, List.mem_of_getElem? (i := 54) (by decide +kernel), List.mem_of_getElem? (i := 530) (by decide +kernel), List.mem_of_getElem? (i := 531) (by decide +kernel)⟩
theorem lw_p24 : lw_okq (⟨"TensMill$Layout", "planPlain", "(LTensMill$Decimal;)V"⟩, 6) := ⟨⟨by decide +kernel, by decide +kernel⟩, List.mem_of_getElem? (i := 81) (by decide +kernel), List.mem_of_getElem? (i := 553) (by decide +kernel), List.mem_of_getElem? (i := 554) (by decide +kernel)⟩
theorem lw_p25 : lw_okq (⟨"TensMill$Layout", "highestUnit", "()J"⟩, 6) := ⟨⟨by decide +kernel, by decide +kernel⟩, List.mem_of_getElem? (i := 81) (by decide +kernel), List.mem_of_getElem? (i := 567) (by decide +kernel), List.mem_of_getElem? (i := 568) (by decide +kernel)⟩
theorem lw_p26 : lw_okq (⟨"TensMill$Layout", "layExponent", "(LTensMill$Text;)V"⟩, 6) := ⟨⟨by decide +kernel, by decide +kernel⟩, List.mem_of_getElem? (i := 81) (by decide +kernel), List.mem_of_getElem? (i := 585) (by decide +kernel), List.mem_of_getElem? (i := 586) (by decide +kernel)⟩
theorem lw_p27 : lw_okq (⟨"TensMillModel", "store", "(IIIJ)Z"⟩, 11) := ⟨⟨by decide +kernel, by decide +kernel⟩, List.mem_of_getElem? (i := 594) (by decide +kernel), List.mem_of_getElem? (i := 644) (by decide +kernel), List.mem_of_getElem? (i := 645) (by decide +kernel)⟩
theorem lw_p28 : lw_okq (⟨"TensMillModel", "load", "(II)V"⟩, 11) := ⟨⟨by decide +kernel, by decide +kernel⟩, List.mem_of_getElem? (i := 594) (by decide +kernel), List.mem_of_getElem? (i := 654) (by decide +kernel), List.mem_of_getElem? (i := 655) (by decide +kernel)⟩
theorem lw_p29 : lw_okq (⟨"TensMillModel", "sum", "(IIII)Z"⟩, 11) := ⟨⟨by decide +kernel, by decide +kernel⟩, List.mem_of_getElem? (i := 594) (by decide +kernel), List.mem_of_getElem? (i := 662) (by decide +kernel), List.mem_of_getElem? (i := 663) (by decide +kernel)⟩
theorem lw_p30 : lw_okq (⟨"TensMillModel", "raise", "(II)V"⟩, 11) := ⟨⟨by decide +kernel, by decide +kernel⟩, List.mem_of_getElem? (i := 594) (by decide +kernel), List.mem_of_getElem? (i := 667) (by decide +kernel), List.mem_of_getElem? (i := 668) (by decide +kernel)⟩
theorem lw_p31 : lw_okq (⟨"TensMillModel", "plus", "(II)V"⟩, 11) := ⟨⟨by decide +kernel, by decide +kernel⟩, List.mem_of_getElem? (i := 594) (by decide +kernel), List.mem_of_getElem? (i := 671) (by decide +kernel), List.mem_of_getElem? (i := 672) (by decide +kernel)⟩
def lw_privs_2 : List (MethodName × Nat) := [(⟨"TensMill", "keepRounded", "(IZJZII)Z"⟩, 8), (⟨"TensMill", "keepWhole", "(IILTensMill$Decimal;ZJJ)Z"⟩, 8), (⟨"TensMill", "keepWholeOfRaised", "(IILTensMill$Decimal;LTensMill$Decimal;J)Z"⟩, 8), (⟨"TensMill$Natural", "guessRootLimb", "([III)I"⟩, 2), (⟨"TensMill$Natural", "takeRootLimb", "([IIII)I"⟩, 2), (⟨"TensMill", "orderOfSizes", "(LTensMill$Decimal;LTensMill$Decimal;)I"⟩, 8), (⟨"TensMill$Numeral", "findDigits", "(LTensMill$Text;)Z"⟩, 5), (⟨"TensMill$Numeral", "findExponent", "(LTensMill$Text;I)Z"⟩, 5), (⟨"TensMill$Layout", "planPlain", "(LTensMill$Decimal;)V"⟩, 6), (⟨"TensMill$Layout", "highestUnit", "()J"⟩, 6), (⟨"TensMill$Layout", "layExponent", "(LTensMill$Text;)V"⟩, 6), (⟨"TensMillModel", "store", "(IIIJ)Z"⟩, 11), (⟨"TensMillModel", "load", "(II)V"⟩, 11), (⟨"TensMillModel", "sum", "(IIII)Z"⟩, 11), (⟨"TensMillModel", "raise", "(II)V"⟩, 11), (⟨"TensMillModel", "plus", "(II)V"⟩, 11)]
theorem lw_r2 : ∀ q ∈ lw_privs_2, lw_okq q := List.forall_mem_cons.mpr ⟨lw_p16, List.forall_mem_cons.mpr ⟨lw_p17, List.forall_mem_cons.mpr ⟨lw_p18, List.forall_mem_cons.mpr ⟨lw_p19, List.forall_mem_cons.mpr ⟨lw_p20, List.forall_mem_cons.mpr ⟨lw_p21, List.forall_mem_cons.mpr ⟨lw_p22, List.forall_mem_cons.mpr ⟨lw_p23, List.forall_mem_cons.mpr ⟨lw_p24, List.forall_mem_cons.mpr ⟨lw_p25, List.forall_mem_cons.mpr ⟨lw_p26, List.forall_mem_cons.mpr ⟨lw_p27, List.forall_mem_cons.mpr ⟨lw_p28, List.forall_mem_cons.mpr ⟨lw_p29, List.forall_mem_cons.mpr ⟨lw_p30, List.forall_mem_cons.mpr ⟨lw_p31, fun _ h => absurd h List.not_mem_nil⟩⟩⟩⟩⟩⟩⟩⟩⟩⟩⟩⟩⟩⟩⟩⟩
theorem lw_p32 : lw_okq (⟨"TensMillModel", "trim", "(II)V"⟩, 11) := ⟨⟨by decide +kernel, by decide +kernel⟩, List.mem_of_getElem? (i := 594) (by decide +kernel), List.mem_of_getElem? (i := 675) (by decide +kernel), List.mem_of_getElem? (i := 676) (by decide +kernel)⟩
theorem lw_p33 : lw_okq (⟨"TensMillModel", "compareRows", "(II)I"⟩, 11) := ⟨⟨by decide +kernel, by decide +kernel⟩, List.mem_of_getElem? (i := 594) (by decide +kernel), List.mem_of_getElem? (i := 679) (by decide +kernel), List.mem_of_getElem? (i := 680) (by decide +kernel)⟩
theorem lw_p34 : lw_okq (⟨"TensMillModel", "less", "(II)V"⟩, 11) := ⟨⟨by decide +kernel, by decide +kernel⟩, List.mem_of_getElem? (i := 594) (by decide +kernel), List.mem_of_getElem? (i := 683) (by decide +kernel), List.mem_of_getElem? (i := 684) (by decide +kernel)⟩
theorem lw_p35 : lw_okq (⟨"TensMillModel", "product", "()V"⟩, 11) := ⟨⟨by decide +kernel, by decide +kernel⟩, List.mem_of_getElem? (i := 594) (by decide +kernel), List.mem_of_getElem? (i := 695) (by decide +kernel), List.mem_of_getElem? (i := 696) (by decide +kernel)⟩
theorem lw_p36 : lw_okq (⟨"TensMillModel", "quotient", "()V"⟩, 11) := ⟨⟨by decide +kernel, by decide +kernel⟩, List.mem_of_getElem? (i := 594) (by decide +kernel), List.mem_of_getElem? (i := 713) (by decide +kernel), List.mem_of_getElem? (i := 714) (by decide +kernel)⟩
theorem lw_p37 : lw_okq (⟨"TensMillModel", "step", "(I)I"⟩, 11) := ⟨⟨by decide +kernel, by decide +kernel⟩, List.mem_of_getElem? (i := 594) (by decide +kernel), List.mem_of_getElem? (i := 717) (by decide +kernel), List.mem_of_getElem? (i := 718) (by decide +kernel)⟩
theorem lw_p38 : lw_okq (⟨"TensMillModel", "judge", "()V"⟩, 11) := ⟨⟨by decide +kernel, by decide +kernel⟩, List.mem_of_getElem? (i := 594) (by decide +kernel), List.mem_of_getElem? (i := 722) (by decide +kernel), List.mem_of_getElem? (i := 723) (by decide +kernel)⟩
theorem lw_p39 : lw_okq (⟨"TensMillModel", "finish", "(IIIJI)Z"⟩, 11) := ⟨⟨by decide +kernel, by decide +kernel⟩, List.mem_of_getElem? (i := 594) (by decide +kernel), List.mem_of_getElem? (i := 726) (by decide +kernel), List.mem_of_getElem? (i := 727) (by decide +kernel)⟩
theorem lw_p40 : lw_okq (⟨"TensMillModel", "goesUp", "(III)Z"⟩, 11) := ⟨⟨by decide +kernel, by decide +kernel⟩, List.mem_of_getElem? (i := 594) (by decide +kernel), List.mem_of_getElem? (i := 730) (by decide +kernel), List.mem_of_getElem? (i := 731) (by decide +kernel)⟩
theorem lw_p41 : lw_okq (⟨"TensMillModel", "one", "(I)V"⟩, 11) := ⟨⟨by decide +kernel, by decide +kernel⟩, List.mem_of_getElem? (i := 594) (by decide +kernel), List.mem_of_getElem? (i := 734) (by decide +kernel), List.mem_of_getElem? (i := 735) (by decide +kernel)⟩
theorem lw_p42 : lw_okq (⟨"TensMillModel", "exact", "(IIJ)Z"⟩, 11) := ⟨⟨by decide +kernel, by decide +kernel⟩, List.mem_of_getElem? (i := 594) (by decide +kernel), List.mem_of_getElem? (i := 745) (by decide +kernel), List.mem_of_getElem? (i := 746) (by decide +kernel)⟩
theorem lw_p43 : lw_okq (⟨"TensMillModel", "lower", "(IJ)V"⟩, 11) := ⟨⟨by decide +kernel, by decide +kernel⟩, List.mem_of_getElem? (i := 594) (by decide +kernel), List.mem_of_getElem? (i := 749) (by decide +kernel), List.mem_of_getElem? (i := 750) (by decide +kernel)⟩
theorem lw_p44 : lw_okq (⟨"TensMillModel", "finishTo", "(IIIJII)Z"⟩, 11) := ⟨⟨by decide +kernel, by decide +kernel⟩, List.mem_of_getElem? (i := 594) (by decide +kernel), List.mem_of_getElem? (i := 753) (by decide +kernel), List.mem_of_getElem? (i := 754) (by decide +kernel)⟩
theorem lw_p45 : lw_okq (⟨"TensMillModel", "settle", "(IIJJI)Z"⟩, 11) := ⟨⟨by decide +kernel, by decide +kernel⟩, List.mem_of_getElem? (i := 594) (by decide +kernel), List.mem_of_getElem? (i := 757) (by decide +kernel), List.mem_of_getElem? (i := 758) (by decide +kernel)⟩
theorem lw_p46 : lw_okq (⟨"TensMillModel", "zeros", "(I)I"⟩, 11) := ⟨⟨by decide +kernel, by decide +kernel⟩, List.mem_of_getElem? (i := 594) (by decide +kernel), List.mem_of_getElem? (i := 761) (by decide +kernel), List.mem_of_getElem? (i := 762) (by decide +kernel)⟩
theorem lw_p47 : lw_okq (⟨"TensMillModel", "remains", "(IIIIJIII)Z"⟩, 11) := ⟨⟨by decide +kernel, by decide +kernel⟩, List.mem_of_getElem? (i := 594) (by decide +kernel), List.mem_of_getElem? (i := 769) (by decide +kernel), List.mem_of_getElem? (i := 770) (by decide +kernel)⟩
def lw_privs_3 : List (MethodName × Nat) := [(⟨"TensMillModel", "trim", "(II)V"⟩, 11), (⟨"TensMillModel", "compareRows", "(II)I"⟩, 11), (⟨"TensMillModel", "less", "(II)V"⟩, 11), (⟨"TensMillModel", "product", "()V"⟩, 11), (⟨"TensMillModel", "quotient", "()V"⟩, 11), (⟨"TensMillModel", "step", "(I)I"⟩, 11), (⟨"TensMillModel", "judge", "()V"⟩, 11), (⟨"TensMillModel", "finish", "(IIIJI)Z"⟩, 11), (⟨"TensMillModel", "goesUp", "(III)Z"⟩, 11), (⟨"TensMillModel", "one", "(I)V"⟩, 11), (⟨"TensMillModel", "exact", "(IIJ)Z"⟩, 11), (⟨"TensMillModel", "lower", "(IJ)V"⟩, 11), (⟨"TensMillModel", "finishTo", "(IIIJII)Z"⟩, 11), (⟨"TensMillModel", "settle", "(IIJJI)Z"⟩, 11), (⟨"TensMillModel", "zeros", "(I)I"⟩, 11), (⟨"TensMillModel", "remains", "(IIIIJIII)Z"⟩, 11)]
theorem lw_r3 : ∀ q ∈ lw_privs_3, lw_okq q := List.forall_mem_cons.mpr ⟨lw_p32, List.forall_mem_cons.mpr ⟨lw_p33, List.forall_mem_cons.mpr ⟨lw_p34, List.forall_mem_cons.mpr ⟨lw_p35, List.forall_mem_cons.mpr ⟨lw_p36, List.forall_mem_cons.mpr ⟨lw_p37, List.forall_mem_cons.mpr ⟨lw_p38, List.forall_mem_cons.mpr ⟨lw_p39, List.forall_mem_cons.mpr ⟨lw_p40, List.forall_mem_cons.mpr ⟨lw_p41, List.forall_mem_cons.mpr ⟨lw_p42, List.forall_mem_cons.mpr ⟨lw_p43, List.forall_mem_cons.mpr ⟨lw_p44, List.forall_mem_cons.mpr ⟨lw_p45, List.forall_mem_cons.mpr ⟨lw_p46, List.forall_mem_cons.mpr ⟨lw_p47, fun _ h => absurd h List.not_mem_nil⟩⟩⟩⟩⟩⟩⟩⟩⟩⟩⟩⟩⟩⟩⟩⟩
theorem lw_p48 : lw_okq (⟨"TensMillModel", "extract", "()V"⟩, 11) := ⟨⟨by decide +kernel, by decide +kernel⟩, List.mem_of_getElem? (i := 594) (by decide +kernel), List.mem_of_getElem? (i := 781) (by decide +kernel), List.mem_of_getElem? (i := 782) (by decide +kernel)⟩
theorem lw_p49 : lw_okq (⟨"TensMillModel", "bring", "(I)V"⟩, 11) := ⟨⟨by decide +kernel, by decide +kernel⟩, List.mem_of_getElem? (i := 594) (by decide +kernel), List.mem_of_getElem? (i := 785) (by decide +kernel), List.mem_of_getElem? (i := 786) (by decide +kernel)⟩
theorem lw_p50 : lw_okq (⟨"TensMillModel", "digitsOf", "(I)I"⟩, 11) := ⟨⟨by decide +kernel, by decide +kernel⟩, List.mem_of_getElem? (i := 594) (by decide +kernel), List.mem_of_getElem? (i := 817) (by decide +kernel), List.mem_of_getElem? (i := 818) (by decide +kernel)⟩
theorem lw_p51 : lw_okq (⟨"TensMillModel", "plainSize", "(I)J"⟩, 11) := ⟨⟨by decide +kernel, by decide +kernel⟩, List.mem_of_getElem? (i := 594) (by decide +kernel), List.mem_of_getElem? (i := 849) (by decide +kernel), List.mem_of_getElem? (i := 850) (by decide +kernel)⟩
theorem lw_p52 : lw_okq (⟨"TensMillModel", "mark", "(I)Z"⟩, 11) := ⟨⟨by decide +kernel, by decide +kernel⟩, List.mem_of_getElem? (i := 594) (by decide +kernel), List.mem_of_getElem? (i := 854) (by decide +kernel), List.mem_of_getElem? (i := 855) (by decide +kernel)⟩
theorem lw_p53 : lw_okq (⟨"TensMillModel", "plain", "(I)V"⟩, 11) := ⟨⟨by decide +kernel, by decide +kernel⟩, List.mem_of_getElem? (i := 594) (by decide +kernel), List.mem_of_getElem? (i := 858) (by decide +kernel), List.mem_of_getElem? (i := 859) (by decide +kernel)⟩
theorem lw_p54 : lw_okq (⟨"TensMillModel", "front", "(II)I"⟩, 11) := ⟨⟨by decide +kernel, by decide +kernel⟩, List.mem_of_getElem? (i := 594) (by decide +kernel), List.mem_of_getElem? (i := 862) (by decide +kernel), List.mem_of_getElem? (i := 863) (by decide +kernel)⟩
theorem lw_p55 : lw_okq (⟨"TensMillModel", "putExponent", "(J)V"⟩, 11) := ⟨⟨by decide +kernel, by decide +kernel⟩, List.mem_of_getElem? (i := 594) (by decide +kernel), List.mem_of_getElem? (i := 867) (by decide +kernel), List.mem_of_getElem? (i := 868) (by decide +kernel)⟩
theorem lw_p56 : lw_okq (⟨"TensMillModel", "putNumber", "(J)V"⟩, 11) := ⟨⟨by decide +kernel, by decide +kernel⟩, List.mem_of_getElem? (i := 594) (by decide +kernel), List.mem_of_getElem? (i := 871) (by decide +kernel), List.mem_of_getElem? (i := 872) (by decide +kernel)⟩
def lw_privs_4 : List (MethodName × Nat) := [(⟨"TensMillModel", "extract", "()V"⟩, 11), (⟨"TensMillModel", "bring", "(I)V"⟩, 11), (⟨"TensMillModel", "digitsOf", "(I)I"⟩, 11), (⟨"TensMillModel", "plainSize", "(I)J"⟩, 11), (⟨"TensMillModel", "mark", "(I)Z"⟩, 11), (⟨"TensMillModel", "plain", "(I)V"⟩, 11), (⟨"TensMillModel", "front", "(II)I"⟩, 11), (⟨"TensMillModel", "putExponent", "(J)V"⟩, 11), (⟨"TensMillModel", "putNumber", "(J)V"⟩, 11)]
theorem lw_r4 : ∀ q ∈ lw_privs_4, lw_okq q := List.forall_mem_cons.mpr ⟨lw_p48, List.forall_mem_cons.mpr ⟨lw_p49, List.forall_mem_cons.mpr ⟨lw_p50, List.forall_mem_cons.mpr ⟨lw_p51, List.forall_mem_cons.mpr ⟨lw_p52, List.forall_mem_cons.mpr ⟨lw_p53, List.forall_mem_cons.mpr ⟨lw_p54, List.forall_mem_cons.mpr ⟨lw_p55, List.forall_mem_cons.mpr ⟨lw_p56, fun _ h => absurd h List.not_mem_nil⟩⟩⟩⟩⟩⟩⟩⟩⟩
def lw_privs : List (MethodName × Nat) := lw_privs_1 ++ (lw_privs_2 ++ (lw_privs_3 ++ (lw_privs_4)))
def lw_tbl : List Cond := k2_sels lw_privs ++ tables_1
theorem lw_privs_ok : ∀ q ∈ lw_privs, lw_okq q := by
  show ∀ q ∈ lw_privs_1 ++ (lw_privs_2 ++ (lw_privs_3 ++ (lw_privs_4))), lw_okq q
  exact List.forall_mem_append.mpr ⟨lw_r1, List.forall_mem_append.mpr ⟨lw_r2, List.forall_mem_append.mpr ⟨lw_r3, lw_r4⟩⟩⟩
def TX0 : u_T := fun k => match k with
  | 0 => ("TensMill$Decimal", "u", "LTensMill$Natural;", true)
  | 1 => ("TensMill$Decimal", "negative", "Z", false)
  | _ => ("TensMill$Decimal", "scale", "I", false)
def tyX0 : Nat → FieldType := fun k => match k with
  | 0 => .object "TensMill$Natural"
  | 1 => .boolean
  | _ => .int
theorem nmX0 : ∀ a, a < 3 → ∀ b, b < 3 → a ≠ b → (TX0 a).2.1 ≠ (TX0 b).2.1 := by decide +kernel
theorem tyX0_ok : ∀ k, k < 3 → parseFieldDescriptor (TX0 k).2.2.1 = some (tyX0 k) := by decide +kernel
def TX1 : u_T := fun k => match k with
  | 0 => ("TensMill$Layout", "negative", "Z", false)
  | 1 => ("TensMill$Layout", "digits", "I", false)
  | 2 => ("TensMill$Layout", "front", "J", false)
  | 3 => ("TensMill$Layout", "back", "J", false)
  | 4 => ("TensMill$Layout", "beforePoint", "J", false)
  | _ => ("TensMill$Layout", "exponent", "J", false)
def tyX1 : Nat → FieldType := fun k => match k with
  | 0 => .boolean
  | 1 => .int
  | 2 => .long
  | 3 => .long
  | 4 => .long
  | _ => .long
theorem nmX1 : ∀ a, a < 6 → ∀ b, b < 6 → a ≠ b → (TX1 a).2.1 ≠ (TX1 b).2.1 := by decide +kernel
theorem tyX1_ok : ∀ k, k < 6 → parseFieldDescriptor (TX1 k).2.2.1 = some (tyX1 k) := by decide +kernel
def TX2 : u_T := fun k => match k with
  | 0 => ("TensMill$Natural", "limbs", "[I", false)
  | _ => ("TensMill$Natural", "count", "I", false)
def tyX2 : Nat → FieldType := fun k => match k with
  | 0 => .array .int
  | _ => .int
theorem nmX2 : ∀ a, a < 2 → ∀ b, b < 2 → a ≠ b → (TX2 a).2.1 ≠ (TX2 b).2.1 := by decide +kernel
theorem tyX2_ok : ∀ k, k < 2 → parseFieldDescriptor (TX2 k).2.2.1 = some (tyX2 k) := by decide +kernel
def TX3 : u_T := fun k => match k with
  | 0 => ("TensMill$Numeral", "negative", "Z", false)
  | 1 => ("TensMill$Numeral", "start", "I", false)
  | 2 => ("TensMill$Numeral", "end", "I", false)
  | 3 => ("TensMill$Numeral", "behind", "I", false)
  | _ => ("TensMill$Numeral", "exponent", "J", false)
def tyX3 : Nat → FieldType := fun k => match k with
  | 0 => .boolean
  | 1 => .int
  | 2 => .int
  | 3 => .int
  | _ => .long
theorem nmX3 : ∀ a, a < 5 → ∀ b, b < 5 → a ≠ b → (TX3 a).2.1 ≠ (TX3 b).2.1 := by decide +kernel
theorem tyX3_ok : ∀ k, k < 5 → parseFieldDescriptor (TX3 k).2.2.1 = some (tyX3 k) := by decide +kernel
def TX4 : u_T := fun k => match k with
  | 0 => ("TensMill$Text", "codes", "[B", false)
  | _ => ("TensMill$Text", "length", "I", false)
def tyX4 : Nat → FieldType := fun k => match k with
  | 0 => .array .byte
  | _ => .int
theorem nmX4 : ∀ a, a < 2 → ∀ b, b < 2 → a ≠ b → (TX4 a).2.1 ≠ (TX4 b).2.1 := by decide +kernel
theorem tyX4_ok : ∀ k, k < 2 → parseFieldDescriptor (TX4 k).2.2.1 = some (tyX4 k) := by decide +kernel
def TX5 : u_T := fun k => match k with
  | 0 => ("TensMill", "registers", "[LTensMill$Decimal;", true)
  | 1 => ("TensMill", "work", "LTensMill$Natural;", true)
  | 2 => ("TensMill", "quotient", "LTensMill$Natural;", true)
  | 3 => ("TensMill", "spare", "LTensMill$Natural;", true)
  | 4 => ("TensMill", "typed", "LTensMill$Text;", true)
  | 5 => ("TensMill", "laid", "LTensMill$Text;", true)
  | 6 => ("TensMill", "numeral", "LTensMill$Numeral;", true)
  | _ => ("TensMill", "layout", "LTensMill$Layout;", true)
def tyX5 : Nat → FieldType := fun k => match k with
  | 0 => .array (.object "TensMill$Decimal")
  | 1 => .object "TensMill$Natural"
  | 2 => .object "TensMill$Natural"
  | 3 => .object "TensMill$Natural"
  | 4 => .object "TensMill$Text"
  | 5 => .object "TensMill$Text"
  | 6 => .object "TensMill$Numeral"
  | _ => .object "TensMill$Layout"
theorem nmX5 : ∀ a, a < 8 → ∀ b, b < 8 → a ≠ b → (TX5 a).2.1 ≠ (TX5 b).2.1 := by decide +kernel
theorem tyX5_ok : ∀ k, k < 8 → parseFieldDescriptor (TX5 k).2.2.1 = some (tyX5 k) := by decide +kernel
def TX6 : u_T := fun k => match k with
  | 0 => ("TensMillModel", "digits", "[I", true)
  | 1 => ("TensMillModel", "sizes", "[I", true)
  | 2 => ("TensMillModel", "signs", "[I", true)
  | 3 => ("TensMillModel", "scales", "[I", true)
  | 4 => ("TensMillModel", "m", "[I", true)
  | 5 => ("TensMillModel", "n", "[I", true)
  | 6 => ("TensMillModel", "left", "I", false)
  | 7 => ("TensMillModel", "typed", "I", false)
  | 8 => ("TensMillModel", "text", "[I", true)
  | 9 => ("TensMillModel", "written", "I", false)
  | _ => ("TensMillModel", "out", "[I", true)
def tyX6 : Nat → FieldType := fun k => match k with
  | 0 => .array .int
  | 1 => .array .int
  | 2 => .array .int
  | 3 => .array .int
  | 4 => .array .int
  | 5 => .array .int
  | 6 => .int
  | 7 => .int
  | 8 => .array .int
  | 9 => .int
  | _ => .array .int
theorem nmX6 : ∀ a, a < 11 → ∀ b, b < 11 → a ≠ b → (TX6 a).2.1 ≠ (TX6 b).2.1 := by decide +kernel
theorem tyX6_ok : ∀ k, k < 11 → parseFieldDescriptor (TX6 k).2.2.1 = some (tyX6 k) := by decide +kernel
abbrev vwCl : List vw_C := [("TensMill$Decimal", TX0, 3), ("TensMill$Layout", TX1, 6), ("TensMill$Natural", TX2, 2), ("TensMill$Numeral", TX3, 5), ("TensMill$Text", TX4, 2), ("TensMill", TX5, 8), ("TensMillModel", TX6, 11)]
def GT : List Cond := lw_tbl.filter goodWord
theorem GT_ok : ∀ w ∈ GT, w ∈ lw_tbl ∧ goodWord w = true := fun w h => List.mem_filter.mp h
theorem GT_in : ∀ w ∈ GT, w ∈ lw_tbl := fun w h => (GT_ok w h).1
theorem GT_good {big : List Cond} (h : ∀ w ∈ GT, w ∈ big) : GoodIn big GT := fun w hw => ⟨h w hw, good_of_word (GT_ok w hw).2⟩
theorem gtm_0 {w : Cond} (i : Nat) (h : (k2_sels lw_privs)[i]? = some w) (hg : goodWord w = true) : w ∈ GT := List.mem_filter.mpr ⟨List.mem_append_left _ (List.mem_of_getElem? h), hg⟩
theorem gtm_1 {w : Cond} (i : Nat) (h : tables_1_1[i]? = some w) (hg : goodWord w = true) : w ∈ GT := List.mem_filter.mpr ⟨List.mem_append_right _ (List.mem_append_left _ (List.mem_of_getElem? h)), hg⟩
theorem gtm_2 {w : Cond} (i : Nat) (h : tables_1_2[i]? = some w) (hg : goodWord w = true) : w ∈ GT := List.mem_filter.mpr ⟨List.mem_append_right _ (List.mem_append_right _ (List.mem_append_left _ (List.mem_of_getElem? h))), hg⟩
theorem gtm_3 {w : Cond} (i : Nat) (h : tables_1_3[i]? = some w) (hg : goodWord w = true) : w ∈ GT := List.mem_filter.mpr ⟨List.mem_append_right _ (List.mem_append_right _ (List.mem_append_right _ (List.mem_append_left _ (List.mem_of_getElem? h)))), hg⟩
theorem gtm_4 {w : Cond} (i : Nat) (h : tables_1_4[i]? = some w) (hg : goodWord w = true) : w ∈ GT := List.mem_filter.mpr ⟨List.mem_append_right _ (List.mem_append_right _ (List.mem_append_right _ (List.mem_append_right _ (List.mem_of_getElem? h)))), hg⟩
theorem ut_0 : ∀ w ∈ u_ws "TensMill$Decimal" TX0 3, w ∈ GT := by decide +kernel
theorem ut_1 : ∀ w ∈ u_ws "TensMill$Layout" TX1 6, w ∈ GT := by decide +kernel
theorem ut_2 : ∀ w ∈ u_ws "TensMill$Natural" TX2 2, w ∈ GT := by decide +kernel
theorem ut_3 : ∀ w ∈ u_ws "TensMill$Numeral" TX3 5, w ∈ GT := by decide +kernel
theorem ut_4 : ∀ w ∈ u_ws "TensMill$Text" TX4 2, w ∈ GT := by decide +kernel
theorem ut_5 : ∀ w ∈ u_ws "TensMill" TX5 8, w ∈ GT := by decide +kernel
theorem ut_6 : ∀ w ∈ u_ws "TensMillModel" TX6 11, w ∈ GT := by decide +kernel
def NW : List Cond := [Cond.methodLinkNest "TensMill" 17 ⟨"TensMill$Natural", "<init>", "()V"⟩ "TensMill", Cond.methodLinkNest "TensMill" 30 ⟨"TensMill$Text", "<init>", "()V"⟩ "TensMill", Cond.fieldLinkNest "TensMill$Numeral" 40 "TensMill$Text" "length" "I" "TensMill", Cond.fieldLinkNest "TensMill$Layout" 75 "TensMill$Text" "length" "I" "TensMill", Cond.fieldLinkNest "TensMill" 188 "TensMill$Text" "length" "I" "TensMill", Cond.methodLinkNest "TensMill" 40 ⟨"TensMill$Numeral", "<init>", "()V"⟩ "TensMill", Cond.fieldLinkNest "TensMill" 211 "TensMill$Numeral" "negative" "Z" "TensMill", Cond.fieldLinkNest "TensMill" 201 "TensMill$Numeral" "start" "I" "TensMill", Cond.fieldLinkNest "TensMill" 204 "TensMill$Numeral" "end" "I" "TensMill", Cond.fieldLinkNest "TensMill" 212 "TensMill$Numeral" "behind" "I" "TensMill", Cond.fieldLinkNest "TensMill" 215 "TensMill$Numeral" "exponent" "J" "TensMill", Cond.methodLinkNest "TensMill" 47 ⟨"TensMill$Layout", "<init>", "()V"⟩ "TensMill", Cond.methodLinkNest "TensMill" 52 ⟨"TensMill$Decimal", "<init>", "()V"⟩ "TensMill", Cond.methodLinkNest "TensMill$Decimal" 9 ⟨"TensMill$Natural", "<init>", "()V"⟩ "TensMill", Cond.fieldLinkNest "TensMill$Layout" 18 "TensMill$Decimal" "u" "LTensMill$Natural;" "TensMill", Cond.fieldLinkNest "TensMill" 65 "TensMill$Decimal" "u" "LTensMill$Natural;" "TensMill", Cond.fieldLinkNest "TensMill$Layout" 9 "TensMill$Decimal" "negative" "Z" "TensMill", Cond.fieldLinkNest "TensMill" 68 "TensMill$Decimal" "negative" "Z" "TensMill", Cond.fieldLinkNest "TensMill$Layout" 32 "TensMill$Decimal" "scale" "I" "TensMill", Cond.fieldLinkNest "TensMill" 72 "TensMill$Decimal" "scale" "I" "TensMill", Cond.fieldLinkNest "TensMill$Natural" 19 "TensMill" "TENS" "[I" "TensMill"]
theorem NW_in : ∀ w ∈ NW, w ∈ lw_tbl := by decide +kernel
theorem NW_tab : ∀ w ∈ NW, w.onTables = true := by decide +kernel
theorem NW_warm {s U : State} (hW : s.WarmedH U.vm) : ∀ w ∈ NW, va_Nw w s → va_Nw w U := by
  intro w hw h
  simp only [NW, List.mem_cons, List.not_mem_nil, or_false] at hw
  rcases hw with rfl | rfl | rfl | rfl | rfl | rfl | rfl | rfl | rfl | rfl | rfl | rfl | rfl | rfl | rfl | rfl | rfl | rfl | rfl | rfl | rfl <;> first | exact va_Nw.warmF hW h | exact va_Nw.warmM hW h
theorem n_0 : Cond.methodLinkNest "TensMill" 17 ⟨"TensMill$Natural", "<init>", "()V"⟩ "TensMill" ∈ NW := List.mem_of_getElem? (i := 0) rfl
theorem n_1 : Cond.methodLinkNest "TensMill" 30 ⟨"TensMill$Text", "<init>", "()V"⟩ "TensMill" ∈ NW := List.mem_of_getElem? (i := 1) rfl
theorem n_2 : Cond.fieldLinkNest "TensMill$Numeral" 40 "TensMill$Text" "length" "I" "TensMill" ∈ NW := List.mem_of_getElem? (i := 2) rfl
theorem n_3 : Cond.fieldLinkNest "TensMill$Layout" 75 "TensMill$Text" "length" "I" "TensMill" ∈ NW := List.mem_of_getElem? (i := 3) rfl
theorem n_4 : Cond.fieldLinkNest "TensMill" 188 "TensMill$Text" "length" "I" "TensMill" ∈ NW := List.mem_of_getElem? (i := 4) rfl
theorem n_5 : Cond.methodLinkNest "TensMill" 40 ⟨"TensMill$Numeral", "<init>", "()V"⟩ "TensMill" ∈ NW := List.mem_of_getElem? (i := 5) rfl
theorem n_6 : Cond.fieldLinkNest "TensMill" 211 "TensMill$Numeral" "negative" "Z" "TensMill" ∈ NW := List.mem_of_getElem? (i := 6) rfl
theorem n_7 : Cond.fieldLinkNest "TensMill" 201 "TensMill$Numeral" "start" "I" "TensMill" ∈ NW := List.mem_of_getElem? (i := 7) rfl
theorem n_8 : Cond.fieldLinkNest "TensMill" 204 "TensMill$Numeral" "end" "I" "TensMill" ∈ NW := List.mem_of_getElem? (i := 8) rfl
theorem n_9 : Cond.fieldLinkNest "TensMill" 212 "TensMill$Numeral" "behind" "I" "TensMill" ∈ NW := List.mem_of_getElem? (i := 9) rfl
theorem n_10 : Cond.fieldLinkNest "TensMill" 215 "TensMill$Numeral" "exponent" "J" "TensMill" ∈ NW := List.mem_of_getElem? (i := 10) rfl
theorem n_11 : Cond.methodLinkNest "TensMill" 47 ⟨"TensMill$Layout", "<init>", "()V"⟩ "TensMill" ∈ NW := List.mem_of_getElem? (i := 11) rfl
theorem n_12 : Cond.methodLinkNest "TensMill" 52 ⟨"TensMill$Decimal", "<init>", "()V"⟩ "TensMill" ∈ NW := List.mem_of_getElem? (i := 12) rfl
theorem n_13 : Cond.methodLinkNest "TensMill$Decimal" 9 ⟨"TensMill$Natural", "<init>", "()V"⟩ "TensMill" ∈ NW := List.mem_of_getElem? (i := 13) rfl
theorem n_14 : Cond.fieldLinkNest "TensMill$Layout" 18 "TensMill$Decimal" "u" "LTensMill$Natural;" "TensMill" ∈ NW := List.mem_of_getElem? (i := 14) rfl
theorem n_15 : Cond.fieldLinkNest "TensMill" 65 "TensMill$Decimal" "u" "LTensMill$Natural;" "TensMill" ∈ NW := List.mem_of_getElem? (i := 15) rfl
theorem n_16 : Cond.fieldLinkNest "TensMill$Layout" 9 "TensMill$Decimal" "negative" "Z" "TensMill" ∈ NW := List.mem_of_getElem? (i := 16) rfl
theorem n_17 : Cond.fieldLinkNest "TensMill" 68 "TensMill$Decimal" "negative" "Z" "TensMill" ∈ NW := List.mem_of_getElem? (i := 17) rfl
theorem n_18 : Cond.fieldLinkNest "TensMill$Layout" 32 "TensMill$Decimal" "scale" "I" "TensMill" ∈ NW := List.mem_of_getElem? (i := 18) rfl
theorem n_19 : Cond.fieldLinkNest "TensMill" 72 "TensMill$Decimal" "scale" "I" "TensMill" ∈ NW := List.mem_of_getElem? (i := 19) rfl
theorem n_20 : Cond.fieldLinkNest "TensMill$Natural" 19 "TensMill" "TENS" "[I" "TensMill" ∈ NW := List.mem_of_getElem? (i := 20) rfl
end
section
theorem w_0 : Cond.selects "TensMill" ⟨"TensMill", "keep", "(ILTensMill$Natural;ZJ)Z"⟩ ⟨"TensMill", "keep", "(ILTensMill$Natural;ZJ)Z"⟩ ∈ GT := gtm_0 0 rfl rfl
theorem w_1 : Cond.selects "TensMill$Natural" ⟨"TensMill$Natural", "makeRoom", "(I)V"⟩ ⟨"TensMill$Natural", "makeRoom", "(I)V"⟩ ∈ GT := gtm_0 1 rfl rfl
theorem w_2 : Cond.selects "TensMill" ⟨"TensMill", "sumUp", "(IIIZ)Z"⟩ ⟨"TensMill", "sumUp", "(IIIZ)Z"⟩ ∈ GT := gtm_0 2 rfl rfl
theorem w_3 : Cond.selects "TensMill$Natural" ⟨"TensMill$Natural", "emptyLimbs", "(I)V"⟩ ⟨"TensMill$Natural", "emptyLimbs", "(I)V"⟩ ∈ GT := gtm_0 3 rfl rfl
theorem w_4 : Cond.selects "TensMill$Natural" ⟨"TensMill$Natural", "trim", "()V"⟩ ⟨"TensMill$Natural", "trim", "()V"⟩ ∈ GT := gtm_0 4 rfl rfl
theorem w_5 : Cond.selects "TensMill$Natural" ⟨"TensMill$Natural", "addTimes", "([IIJI)V"⟩ ⟨"TensMill$Natural", "addTimes", "([IIJI)V"⟩ ∈ GT := gtm_0 5 rfl rfl
theorem w_6 : Cond.selects "TensMill" ⟨"TensMill", "keepPower", "(ILTensMill$Natural;IZJ)Z"⟩ ⟨"TensMill", "keepPower", "(ILTensMill$Natural;IZJ)Z"⟩ ∈ GT := gtm_0 6 rfl rfl
theorem w_7 : Cond.selects "TensMill" ⟨"TensMill", "divideRaised", "(LTensMill$Natural;ILTensMill$Natural;)Z"⟩ ⟨"TensMill", "divideRaised", "(LTensMill$Natural;ILTensMill$Natural;)Z"⟩ ∈ GT := gtm_0 7 rfl rfl
theorem w_8 : Cond.selects "TensMill$Natural" ⟨"TensMill$Natural", "reduceByLimb", "(LTensMill$Natural;I)V"⟩ ⟨"TensMill$Natural", "reduceByLimb", "(LTensMill$Natural;I)V"⟩ ∈ GT := gtm_0 8 rfl rfl
theorem w_9 : Cond.selects "TensMill$Natural" ⟨"TensMill$Natural", "guessLimb", "([III)I"⟩ ⟨"TensMill$Natural", "guessLimb", "([III)I"⟩ ∈ GT := gtm_0 9 rfl rfl
theorem w_10 : Cond.selects "TensMill$Natural" ⟨"TensMill$Natural", "takeLimb", "([IIII)I"⟩ ⟨"TensMill$Natural", "takeLimb", "([IIII)I"⟩ ∈ GT := gtm_0 10 rfl rfl
theorem w_11 : Cond.selects "TensMill$Natural" ⟨"TensMill$Natural", "subtractTimes", "([IIIJI)J"⟩ ⟨"TensMill$Natural", "subtractTimes", "([IIIJI)J"⟩ ∈ GT := gtm_0 11 rfl rfl
theorem w_12 : Cond.selects "TensMill$Natural" ⟨"TensMill$Natural", "addBack", "([IIII)J"⟩ ⟨"TensMill$Natural", "addBack", "([IIII)J"⟩ ∈ GT := gtm_0 12 rfl rfl
theorem w_13 : Cond.selects "TensMill" ⟨"TensMill", "cutQuotient", "(IZZI)Z"⟩ ⟨"TensMill", "cutQuotient", "(IZZI)Z"⟩ ∈ GT := gtm_0 13 rfl rfl
theorem w_14 : Cond.selects "TensMill" ⟨"TensMill", "keepExactRatio", "(ILTensMill$Decimal;LTensMill$Decimal;J)Z"⟩ ⟨"TensMill", "keepExactRatio", "(ILTensMill$Decimal;LTensMill$Decimal;J)Z"⟩ ∈ GT := gtm_0 14 rfl rfl
theorem w_15 : Cond.selects "TensMill" ⟨"TensMill", "settle", "(IZJZJII)Z"⟩ ⟨"TensMill", "settle", "(IZJZJII)Z"⟩ ∈ GT := gtm_0 15 rfl rfl
theorem w_16 : Cond.selects "TensMill" ⟨"TensMill", "keepRounded", "(IZJZII)Z"⟩ ⟨"TensMill", "keepRounded", "(IZJZII)Z"⟩ ∈ GT := gtm_0 16 rfl rfl
theorem w_17 : Cond.selects "TensMill" ⟨"TensMill", "keepWhole", "(IILTensMill$Decimal;ZJJ)Z"⟩ ⟨"TensMill", "keepWhole", "(IILTensMill$Decimal;ZJJ)Z"⟩ ∈ GT := gtm_0 17 rfl rfl
theorem w_18 : Cond.selects "TensMill" ⟨"TensMill", "keepWholeOfRaised", "(IILTensMill$Decimal;LTensMill$Decimal;J)Z"⟩ ⟨"TensMill", "keepWholeOfRaised", "(IILTensMill$Decimal;LTensMill$Decimal;J)Z"⟩ ∈ GT := gtm_0 18 rfl rfl
theorem w_19 : Cond.selects "TensMill$Natural" ⟨"TensMill$Natural", "guessRootLimb", "([III)I"⟩ ⟨"TensMill$Natural", "guessRootLimb", "([III)I"⟩ ∈ GT := gtm_0 19 rfl rfl
theorem w_20 : Cond.selects "TensMill$Natural" ⟨"TensMill$Natural", "takeRootLimb", "([IIII)I"⟩ ⟨"TensMill$Natural", "takeRootLimb", "([IIII)I"⟩ ∈ GT := gtm_0 20 rfl rfl
theorem w_21 : Cond.selects "TensMill" ⟨"TensMill", "orderOfSizes", "(LTensMill$Decimal;LTensMill$Decimal;)I"⟩ ⟨"TensMill", "orderOfSizes", "(LTensMill$Decimal;LTensMill$Decimal;)I"⟩ ∈ GT := gtm_0 21 rfl rfl
theorem w_22 : Cond.selects "TensMill$Numeral" ⟨"TensMill$Numeral", "findDigits", "(LTensMill$Text;)Z"⟩ ⟨"TensMill$Numeral", "findDigits", "(LTensMill$Text;)Z"⟩ ∈ GT := gtm_0 22 rfl rfl
theorem w_23 : Cond.selects "TensMill$Numeral" ⟨"TensMill$Numeral", "findExponent", "(LTensMill$Text;I)Z"⟩ ⟨"TensMill$Numeral", "findExponent", "(LTensMill$Text;I)Z"⟩ ∈ GT := gtm_0 23 rfl rfl
theorem w_24 : Cond.selects "TensMill$Layout" ⟨"TensMill$Layout", "planPlain", "(LTensMill$Decimal;)V"⟩ ⟨"TensMill$Layout", "planPlain", "(LTensMill$Decimal;)V"⟩ ∈ GT := gtm_0 24 rfl rfl
theorem w_25 : Cond.selects "TensMill$Layout" ⟨"TensMill$Layout", "highestUnit", "()J"⟩ ⟨"TensMill$Layout", "highestUnit", "()J"⟩ ∈ GT := gtm_0 25 rfl rfl
theorem w_26 : Cond.selects "TensMill$Layout" ⟨"TensMill$Layout", "layExponent", "(LTensMill$Text;)V"⟩ ⟨"TensMill$Layout", "layExponent", "(LTensMill$Text;)V"⟩ ∈ GT := gtm_0 26 rfl rfl
theorem w_27 : Cond.selects "TensMillModel" ⟨"TensMillModel", "store", "(IIIJ)Z"⟩ ⟨"TensMillModel", "store", "(IIIJ)Z"⟩ ∈ GT := gtm_0 27 rfl rfl
theorem w_28 : Cond.selects "TensMillModel" ⟨"TensMillModel", "load", "(II)V"⟩ ⟨"TensMillModel", "load", "(II)V"⟩ ∈ GT := gtm_0 28 rfl rfl
theorem w_29 : Cond.selects "TensMillModel" ⟨"TensMillModel", "sum", "(IIII)Z"⟩ ⟨"TensMillModel", "sum", "(IIII)Z"⟩ ∈ GT := gtm_0 29 rfl rfl
theorem w_30 : Cond.selects "TensMillModel" ⟨"TensMillModel", "raise", "(II)V"⟩ ⟨"TensMillModel", "raise", "(II)V"⟩ ∈ GT := gtm_0 30 rfl rfl
theorem w_31 : Cond.selects "TensMillModel" ⟨"TensMillModel", "plus", "(II)V"⟩ ⟨"TensMillModel", "plus", "(II)V"⟩ ∈ GT := gtm_0 31 rfl rfl
theorem w_32 : Cond.selects "TensMillModel" ⟨"TensMillModel", "trim", "(II)V"⟩ ⟨"TensMillModel", "trim", "(II)V"⟩ ∈ GT := gtm_0 32 rfl rfl
theorem w_33 : Cond.selects "TensMillModel" ⟨"TensMillModel", "compareRows", "(II)I"⟩ ⟨"TensMillModel", "compareRows", "(II)I"⟩ ∈ GT := gtm_0 33 rfl rfl
theorem w_34 : Cond.selects "TensMillModel" ⟨"TensMillModel", "less", "(II)V"⟩ ⟨"TensMillModel", "less", "(II)V"⟩ ∈ GT := gtm_0 34 rfl rfl
theorem w_35 : Cond.selects "TensMillModel" ⟨"TensMillModel", "product", "()V"⟩ ⟨"TensMillModel", "product", "()V"⟩ ∈ GT := gtm_0 35 rfl rfl
theorem w_36 : Cond.selects "TensMillModel" ⟨"TensMillModel", "quotient", "()V"⟩ ⟨"TensMillModel", "quotient", "()V"⟩ ∈ GT := gtm_0 36 rfl rfl
theorem w_37 : Cond.selects "TensMillModel" ⟨"TensMillModel", "step", "(I)I"⟩ ⟨"TensMillModel", "step", "(I)I"⟩ ∈ GT := gtm_0 37 rfl rfl
theorem w_38 : Cond.selects "TensMillModel" ⟨"TensMillModel", "judge", "()V"⟩ ⟨"TensMillModel", "judge", "()V"⟩ ∈ GT := gtm_0 38 rfl rfl
theorem w_39 : Cond.selects "TensMillModel" ⟨"TensMillModel", "finish", "(IIIJI)Z"⟩ ⟨"TensMillModel", "finish", "(IIIJI)Z"⟩ ∈ GT := gtm_0 39 rfl rfl
theorem w_40 : Cond.selects "TensMillModel" ⟨"TensMillModel", "goesUp", "(III)Z"⟩ ⟨"TensMillModel", "goesUp", "(III)Z"⟩ ∈ GT := gtm_0 40 rfl rfl
theorem w_41 : Cond.selects "TensMillModel" ⟨"TensMillModel", "one", "(I)V"⟩ ⟨"TensMillModel", "one", "(I)V"⟩ ∈ GT := gtm_0 41 rfl rfl
theorem w_42 : Cond.selects "TensMillModel" ⟨"TensMillModel", "exact", "(IIJ)Z"⟩ ⟨"TensMillModel", "exact", "(IIJ)Z"⟩ ∈ GT := gtm_0 42 rfl rfl
theorem w_43 : Cond.selects "TensMillModel" ⟨"TensMillModel", "lower", "(IJ)V"⟩ ⟨"TensMillModel", "lower", "(IJ)V"⟩ ∈ GT := gtm_0 43 rfl rfl
theorem w_44 : Cond.selects "TensMillModel" ⟨"TensMillModel", "finishTo", "(IIIJII)Z"⟩ ⟨"TensMillModel", "finishTo", "(IIIJII)Z"⟩ ∈ GT := gtm_0 44 rfl rfl
theorem w_45 : Cond.selects "TensMillModel" ⟨"TensMillModel", "settle", "(IIJJI)Z"⟩ ⟨"TensMillModel", "settle", "(IIJJI)Z"⟩ ∈ GT := gtm_0 45 rfl rfl
theorem w_46 : Cond.selects "TensMillModel" ⟨"TensMillModel", "zeros", "(I)I"⟩ ⟨"TensMillModel", "zeros", "(I)I"⟩ ∈ GT := gtm_0 46 rfl rfl
theorem w_47 : Cond.selects "TensMillModel" ⟨"TensMillModel", "remains", "(IIIIJIII)Z"⟩ ⟨"TensMillModel", "remains", "(IIIIJIII)Z"⟩ ∈ GT := gtm_0 47 rfl rfl
theorem w_48 : Cond.selects "TensMillModel" ⟨"TensMillModel", "extract", "()V"⟩ ⟨"TensMillModel", "extract", "()V"⟩ ∈ GT := gtm_0 48 rfl rfl
theorem w_49 : Cond.selects "TensMillModel" ⟨"TensMillModel", "bring", "(I)V"⟩ ⟨"TensMillModel", "bring", "(I)V"⟩ ∈ GT := gtm_0 49 rfl rfl
theorem w_50 : Cond.selects "TensMillModel" ⟨"TensMillModel", "digitsOf", "(I)I"⟩ ⟨"TensMillModel", "digitsOf", "(I)I"⟩ ∈ GT := gtm_0 50 rfl rfl
theorem w_51 : Cond.selects "TensMillModel" ⟨"TensMillModel", "plainSize", "(I)J"⟩ ⟨"TensMillModel", "plainSize", "(I)J"⟩ ∈ GT := gtm_0 51 rfl rfl
theorem w_52 : Cond.selects "TensMillModel" ⟨"TensMillModel", "mark", "(I)Z"⟩ ⟨"TensMillModel", "mark", "(I)Z"⟩ ∈ GT := gtm_0 52 rfl rfl
theorem w_53 : Cond.selects "TensMillModel" ⟨"TensMillModel", "plain", "(I)V"⟩ ⟨"TensMillModel", "plain", "(I)V"⟩ ∈ GT := gtm_0 53 rfl rfl
theorem w_54 : Cond.selects "TensMillModel" ⟨"TensMillModel", "front", "(II)I"⟩ ⟨"TensMillModel", "front", "(II)I"⟩ ∈ GT := gtm_0 54 rfl rfl
theorem w_55 : Cond.selects "TensMillModel" ⟨"TensMillModel", "putExponent", "(J)V"⟩ ⟨"TensMillModel", "putExponent", "(J)V"⟩ ∈ GT := gtm_0 55 rfl rfl
theorem w_56 : Cond.selects "TensMillModel" ⟨"TensMillModel", "putNumber", "(J)V"⟩ ⟨"TensMillModel", "putNumber", "(J)V"⟩ ∈ GT := gtm_0 56 rfl rfl
theorem w_57 : Cond.initialized "TensMillLaw" ∈ GT := gtm_1 0 rfl rfl
theorem w_58 : Cond.initialized "TensMill" ∈ GT := gtm_1 1 rfl rfl
theorem w_59 : Cond.initialized "TensMill$Natural" ∈ GT := gtm_1 2 rfl rfl
theorem w_60 : Cond.initialized "TensMill$Text" ∈ GT := gtm_1 3 rfl rfl
theorem w_61 : Cond.initialized "TensMill$Numeral" ∈ GT := gtm_1 4 rfl rfl
theorem w_62 : Cond.initialized "TensMill$Layout" ∈ GT := gtm_1 5 rfl rfl
theorem w_63 : Cond.initialized "TensMill$Decimal" ∈ GT := gtm_1 6 rfl rfl
theorem w_64 : Cond.initialized "TensMillModel" ∈ GT := gtm_1 7 rfl rfl
theorem w_65 : Cond.initialized "java/lang/Math" ∈ GT := gtm_1 8 rfl rfl
theorem w_66 : Cond.initialized "java/util/Arrays" ∈ GT := gtm_1 9 rfl rfl
theorem w_67 : Cond.initialized "java/lang/System" ∈ GT := gtm_1 10 rfl rfl
theorem w_68 : Cond.initialized "java/lang/Integer" ∈ GT := gtm_1 11 rfl rfl
theorem w_69 : Cond.classLink "TensMillLaw" 7 "TensMill" ∈ GT := gtm_1 12 rfl rfl
theorem w_70 : Cond.instantiable "TensMill" 8 ∈ GT := gtm_1 13 rfl rfl
theorem w_71 : Cond.methodLink "TensMillLaw" 9 ⟨"TensMill", "<init>", "()V"⟩ ∈ GT := gtm_1 14 rfl rfl
theorem w_72 : Cond.instanceMethod ⟨"TensMill", "<init>", "()V"⟩ ∈ GT := gtm_1 15 rfl rfl
theorem w_73 : Cond.code ⟨"TensMill", "<init>", "()V"⟩ prog_1_method_1_code 2 none ∈ GT := gtm_1 16 rfl rfl
theorem w_74 : Cond.methodLink "TensMill" 3 ⟨"java/lang/Object", "<init>", "()V"⟩ ∈ GT := gtm_1 17 rfl rfl
theorem w_75 : Cond.instanceMethod ⟨"java/lang/Object", "<init>", "()V"⟩ ∈ GT := gtm_1 18 rfl rfl
theorem w_76 : Cond.code ⟨"java/lang/Object", "<init>", "()V"⟩ object_method_1_code 1 none ∈ GT := gtm_1 19 rfl rfl
theorem w_77 : Cond.classLink "TensMill" 9 "TensMill$Decimal" ∈ GT := gtm_1 20 rfl rfl
theorem w_79 : Cond.classLink "TensMill" 15 "TensMill$Natural" ∈ GT := gtm_1 22 rfl rfl
theorem w_80 : Cond.instantiable "TensMill$Natural" 2 ∈ GT := gtm_1 23 rfl rfl
theorem w_82 : Cond.instanceMethod ⟨"TensMill$Natural", "<init>", "()V"⟩ ∈ GT := gtm_1 25 rfl rfl
theorem w_83 : Cond.code ⟨"TensMill$Natural", "<init>", "()V"⟩ prog_4_method_1_code 1 none ∈ GT := gtm_1 26 rfl rfl
theorem w_84 : Cond.methodLink "TensMill$Natural" 3 ⟨"java/lang/Object", "<init>", "()V"⟩ ∈ GT := gtm_1 27 rfl rfl
theorem w_85 : Cond.fieldLink "TensMill$Natural" 9 "TensMill$Natural" "limbs" "[I" ∈ GT := gtm_1 28 rfl rfl
theorem w_86 : Cond.fieldLink "TensMill$Natural" 15 "TensMill$Natural" "count" "I" ∈ GT := gtm_1 29 rfl rfl
theorem w_92 : Cond.arrayClass .int ∈ GT := gtm_1 35 rfl rfl
theorem w_93 : Cond.classLink "TensMill" 28 "TensMill$Text" ∈ GT := gtm_1 36 rfl rfl
theorem w_94 : Cond.instantiable "TensMill$Text" 2 ∈ GT := gtm_1 37 rfl rfl
theorem w_96 : Cond.instanceMethod ⟨"TensMill$Text", "<init>", "()V"⟩ ∈ GT := gtm_1 39 rfl rfl
theorem w_97 : Cond.code ⟨"TensMill$Text", "<init>", "()V"⟩ prog_6_method_1_code 1 none ∈ GT := gtm_1 40 rfl rfl
theorem w_98 : Cond.methodLink "TensMill$Text" 1 ⟨"java/lang/Object", "<init>", "()V"⟩ ∈ GT := gtm_1 41 rfl rfl
theorem w_99 : Cond.fieldLink "TensMill$Text" 7 "TensMill$Text" "codes" "[B" ∈ GT := gtm_1 42 rfl rfl
theorem w_100 : Cond.fieldLink "TensMill$Text" 13 "TensMill$Text" "length" "I" ∈ GT := gtm_1 43 rfl rfl
theorem w_109 : Cond.arrayClass .byte ∈ GT := gtm_1 52 rfl rfl
theorem w_110 : Cond.classLink "TensMill" 38 "TensMill$Numeral" ∈ GT := gtm_1 53 rfl rfl
theorem w_111 : Cond.instantiable "TensMill$Numeral" 5 ∈ GT := gtm_1 54 rfl rfl
theorem w_113 : Cond.instanceMethod ⟨"TensMill$Numeral", "<init>", "()V"⟩ ∈ GT := gtm_1 56 rfl rfl
theorem w_114 : Cond.code ⟨"TensMill$Numeral", "<init>", "()V"⟩ prog_5_method_1_code 1 none ∈ GT := gtm_1 57 rfl rfl
theorem w_115 : Cond.methodLink "TensMill$Numeral" 3 ⟨"java/lang/Object", "<init>", "()V"⟩ ∈ GT := gtm_1 58 rfl rfl
theorem w_116 : Cond.fieldLink "TensMill$Numeral" 15 "TensMill$Numeral" "negative" "Z" ∈ GT := gtm_1 59 rfl rfl
theorem w_118 : Cond.fieldLink "TensMill$Numeral" 25 "TensMill$Numeral" "start" "I" ∈ GT := gtm_1 61 rfl rfl
theorem w_120 : Cond.fieldLink "TensMill$Numeral" 37 "TensMill$Numeral" "end" "I" ∈ GT := gtm_1 63 rfl rfl
theorem w_122 : Cond.fieldLink "TensMill$Numeral" 47 "TensMill$Numeral" "behind" "I" ∈ GT := gtm_1 65 rfl rfl
theorem w_124 : Cond.fieldLink "TensMill$Numeral" 29 "TensMill$Numeral" "exponent" "J" ∈ GT := gtm_1 67 rfl rfl
theorem w_137 : Cond.classLink "TensMill" 45 "TensMill$Layout" ∈ GT := gtm_1 80 rfl rfl
theorem w_138 : Cond.instantiable "TensMill$Layout" 6 ∈ GT := gtm_1 81 rfl rfl
theorem w_140 : Cond.instanceMethod ⟨"TensMill$Layout", "<init>", "()V"⟩ ∈ GT := gtm_1 83 rfl rfl
theorem w_141 : Cond.code ⟨"TensMill$Layout", "<init>", "()V"⟩ prog_3_method_1_code 1 none ∈ GT := gtm_1 84 rfl rfl
theorem w_142 : Cond.methodLink "TensMill$Layout" 3 ⟨"java/lang/Object", "<init>", "()V"⟩ ∈ GT := gtm_1 85 rfl rfl
theorem w_143 : Cond.fieldLink "TensMill$Layout" 15 "TensMill$Layout" "negative" "Z" ∈ GT := gtm_1 86 rfl rfl
theorem w_144 : Cond.fieldLink "TensMill$Layout" 28 "TensMill$Layout" "digits" "I" ∈ GT := gtm_1 87 rfl rfl
theorem w_145 : Cond.fieldLink "TensMill$Layout" 41 "TensMill$Layout" "front" "J" ∈ GT := gtm_1 88 rfl rfl
theorem w_146 : Cond.fieldLink "TensMill$Layout" 57 "TensMill$Layout" "back" "J" ∈ GT := gtm_1 89 rfl rfl
theorem w_147 : Cond.fieldLink "TensMill$Layout" 60 "TensMill$Layout" "beforePoint" "J" ∈ GT := gtm_1 90 rfl rfl
theorem w_148 : Cond.fieldLink "TensMill$Layout" 63 "TensMill$Layout" "exponent" "J" ∈ GT := gtm_1 91 rfl rfl
theorem w_162 : Cond.instantiable "TensMill$Decimal" 3 ∈ GT := gtm_1 105 rfl rfl
theorem w_164 : Cond.instanceMethod ⟨"TensMill$Decimal", "<init>", "()V"⟩ ∈ GT := gtm_1 107 rfl rfl
theorem w_165 : Cond.code ⟨"TensMill$Decimal", "<init>", "()V"⟩ prog_2_method_1_code 1 none ∈ GT := gtm_1 108 rfl rfl
theorem w_166 : Cond.methodLink "TensMill$Decimal" 1 ⟨"java/lang/Object", "<init>", "()V"⟩ ∈ GT := gtm_1 109 rfl rfl
theorem w_167 : Cond.classLink "TensMill$Decimal" 7 "TensMill$Natural" ∈ GT := gtm_1 110 rfl rfl
theorem w_169 : Cond.fieldLink "TensMill$Decimal" 10 "TensMill$Decimal" "u" "LTensMill$Natural;" ∈ GT := gtm_1 112 rfl rfl
theorem w_173 : Cond.fieldLink "TensMill$Decimal" 20 "TensMill$Decimal" "negative" "Z" ∈ GT := gtm_1 116 rfl rfl
theorem w_176 : Cond.fieldLink "TensMill$Decimal" 28 "TensMill$Decimal" "scale" "I" ∈ GT := gtm_1 119 rfl rfl
theorem w_185 : Cond.fieldLink "TensMill" 11 "TensMill" "registers" "[LTensMill$Decimal;" ∈ GT := gtm_1 128 rfl rfl
theorem w_186 : Cond.fieldLink "TensMill" 18 "TensMill" "work" "LTensMill$Natural;" ∈ GT := gtm_1 129 rfl rfl
theorem w_187 : Cond.fieldLink "TensMill" 22 "TensMill" "quotient" "LTensMill$Natural;" ∈ GT := gtm_1 130 rfl rfl
theorem w_188 : Cond.fieldLink "TensMill" 25 "TensMill" "spare" "LTensMill$Natural;" ∈ GT := gtm_1 131 rfl rfl
theorem w_189 : Cond.fieldLink "TensMill" 31 "TensMill" "typed" "LTensMill$Text;" ∈ GT := gtm_1 132 rfl rfl
theorem w_190 : Cond.fieldLink "TensMill" 35 "TensMill" "laid" "LTensMill$Text;" ∈ GT := gtm_1 133 rfl rfl
theorem w_191 : Cond.fieldLink "TensMill" 41 "TensMill" "numeral" "LTensMill$Numeral;" ∈ GT := gtm_1 134 rfl rfl
theorem w_192 : Cond.fieldLink "TensMill" 48 "TensMill" "layout" "LTensMill$Layout;" ∈ GT := gtm_1 135 rfl rfl
theorem w_210 : Cond.methodLink "TensMillLaw" 15 ⟨"TensMill", "put", "(IJI)Z"⟩ ∈ GT := gtm_1 153 rfl rfl
theorem w_211 : Cond.instanceMethod ⟨"TensMill", "put", "(IJI)Z"⟩ ∈ GT := gtm_1 154 rfl rfl
theorem w_212 : Cond.selects "TensMill" ⟨"TensMill", "put", "(IJI)Z"⟩ ⟨"TensMill", "put", "(IJI)Z"⟩ ∈ GT := gtm_1 155 rfl rfl
theorem w_213 : Cond.code ⟨"TensMill", "put", "(IJI)Z"⟩ prog_1_method_2_code 5 (some .boolean) ∈ GT := gtm_1 156 rfl rfl
theorem w_214 : Cond.methodLink "TensMill" 53 ⟨"TensMill$Natural", "becomeSizeOf", "(J)V"⟩ ∈ GT := gtm_1 157 rfl rfl
theorem w_215 : Cond.instanceMethod ⟨"TensMill$Natural", "becomeSizeOf", "(J)V"⟩ ∈ GT := gtm_1 158 rfl rfl
theorem w_216 : Cond.selects "TensMill$Natural" ⟨"TensMill$Natural", "becomeSizeOf", "(J)V"⟩ ⟨"TensMill$Natural", "becomeSizeOf", "(J)V"⟩ ∈ GT := gtm_1 159 rfl rfl
theorem w_217 : Cond.code ⟨"TensMill$Natural", "becomeSizeOf", "(J)V"⟩ prog_4_method_11_code 5 none ∈ GT := gtm_1 160 rfl rfl
theorem w_218 : Cond.constantLong "TensMill$Natural" 32 1000000000 ∈ GT := gtm_1 161 rfl rfl
theorem w_219 : Cond.methodLink "TensMill$Natural" 34 ⟨"java/lang/Math", "abs", "(I)I"⟩ ∈ GT := gtm_1 162 rfl rfl
theorem w_220 : Cond.static ⟨"java/lang/Math", "abs", "(I)I"⟩ ∈ GT := gtm_1 163 rfl rfl
theorem w_221 : Cond.code ⟨"java/lang/Math", "abs", "(I)I"⟩ prog_11_method_59_code 1 (some .int) ∈ GT := gtm_1 164 rfl rfl
theorem w_222 : Cond.methodLink "TensMill" 57 ⟨"TensMill", "keep", "(ILTensMill$Natural;ZJ)Z"⟩ ∈ GT := gtm_1 165 rfl rfl
theorem w_224 : Cond.instanceMethod ⟨"TensMill", "keep", "(ILTensMill$Natural;ZJ)Z"⟩ ∈ GT := gtm_1 167 rfl rfl
theorem w_225 : Cond.code ⟨"TensMill", "keep", "(ILTensMill$Natural;ZJ)Z"⟩ prog_1_method_29_code 6 (some .boolean) ∈ GT := gtm_1 168 rfl rfl
theorem w_226 : Cond.methodLink "TensMill" 61 ⟨"TensMill", "isRegister", "(I)Z"⟩ ∈ GT := gtm_1 169 rfl rfl
theorem w_227 : Cond.static ⟨"TensMill", "isRegister", "(I)Z"⟩ ∈ GT := gtm_1 170 rfl rfl
theorem w_228 : Cond.code ⟨"TensMill", "isRegister", "(I)Z"⟩ prog_1_method_25_code 1 (some .boolean) ∈ GT := gtm_1 171 rfl rfl
theorem w_229 : Cond.methodLink "TensMill" 235 ⟨"TensMill", "fits", "(LTensMill$Natural;J)Z"⟩ ∈ GT := gtm_1 172 rfl rfl
theorem w_230 : Cond.static ⟨"TensMill", "fits", "(LTensMill$Natural;J)Z"⟩ ∈ GT := gtm_1 173 rfl rfl
theorem w_231 : Cond.code ⟨"TensMill", "fits", "(LTensMill$Natural;J)Z"⟩ prog_1_method_28_code 3 (some .boolean) ∈ GT := gtm_1 174 rfl rfl
theorem w_232 : Cond.methodLink "TensMill" 98 ⟨"TensMill$Natural", "digitCount", "()I"⟩ ∈ GT := gtm_1 175 rfl rfl
theorem w_233 : Cond.instanceMethod ⟨"TensMill$Natural", "digitCount", "()I"⟩ ∈ GT := gtm_1 176 rfl rfl
theorem w_234 : Cond.selects "TensMill$Natural" ⟨"TensMill$Natural", "digitCount", "()I"⟩ ⟨"TensMill$Natural", "digitCount", "()I"⟩ ∈ GT := gtm_1 177 rfl rfl
theorem w_235 : Cond.code ⟨"TensMill$Natural", "digitCount", "()I"⟩ prog_4_method_5_code 3 (some .int) ∈ GT := gtm_1 178 rfl rfl
theorem w_238 : Cond.methodLink "TensMill" 239 ⟨"TensMill$Decimal", "become", "(LTensMill$Natural;ZI)V"⟩ ∈ GT := gtm_1 181 rfl rfl
theorem w_239 : Cond.instanceMethod ⟨"TensMill$Decimal", "become", "(LTensMill$Natural;ZI)V"⟩ ∈ GT := gtm_1 182 rfl rfl
theorem w_240 : Cond.selects "TensMill$Decimal" ⟨"TensMill$Decimal", "become", "(LTensMill$Natural;ZI)V"⟩ ⟨"TensMill$Decimal", "become", "(LTensMill$Natural;ZI)V"⟩ ∈ GT := gtm_1 183 rfl rfl
theorem w_241 : Cond.code ⟨"TensMill$Decimal", "become", "(LTensMill$Natural;ZI)V"⟩ prog_2_method_3_code 4 none ∈ GT := gtm_1 184 rfl rfl
theorem w_242 : Cond.methodLink "TensMill$Decimal" 24 ⟨"TensMill$Natural", "become", "(LTensMill$Natural;)V"⟩ ∈ GT := gtm_1 185 rfl rfl
theorem w_243 : Cond.instanceMethod ⟨"TensMill$Natural", "become", "(LTensMill$Natural;)V"⟩ ∈ GT := gtm_1 186 rfl rfl
theorem w_244 : Cond.selects "TensMill$Natural" ⟨"TensMill$Natural", "become", "(LTensMill$Natural;)V"⟩ ⟨"TensMill$Natural", "become", "(LTensMill$Natural;)V"⟩ ∈ GT := gtm_1 187 rfl rfl
theorem w_245 : Cond.code ⟨"TensMill$Natural", "become", "(LTensMill$Natural;)V"⟩ prog_4_method_10_code 2 none ∈ GT := gtm_1 188 rfl rfl
theorem w_246 : Cond.methodLink "TensMill$Natural" 22 ⟨"TensMill$Natural", "makeRoom", "(I)V"⟩ ∈ GT := gtm_1 189 rfl rfl
theorem w_248 : Cond.instanceMethod ⟨"TensMill$Natural", "makeRoom", "(I)V"⟩ ∈ GT := gtm_1 191 rfl rfl
theorem w_249 : Cond.code ⟨"TensMill$Natural", "makeRoom", "(I)V"⟩ prog_4_method_35_code 2 none ∈ GT := gtm_1 192 rfl rfl
theorem w_250 : Cond.methodLink "TensMill$Natural" 62 ⟨"java/lang/Math", "max", "(II)I"⟩ ∈ GT := gtm_1 193 rfl rfl
theorem w_251 : Cond.static ⟨"java/lang/Math", "max", "(II)I"⟩ ∈ GT := gtm_1 194 rfl rfl
theorem w_252 : Cond.code ⟨"java/lang/Math", "max", "(II)I"⟩ prog_11_method_65_code 2 (some .int) ∈ GT := gtm_1 195 rfl rfl
theorem w_253 : Cond.methodLink "TensMill$Natural" 113 ⟨"java/util/Arrays", "copyOf", "([II)[I"⟩ ∈ GT := gtm_1 196 rfl rfl
theorem w_254 : Cond.static ⟨"java/util/Arrays", "copyOf", "([II)[I"⟩ ∈ GT := gtm_1 197 rfl rfl
theorem w_255 : Cond.code ⟨"java/util/Arrays", "copyOf", "([II)[I"⟩ prog_13_method_123_code 3 (some (.array .int)) ∈ GT := gtm_1 198 rfl rfl
theorem w_256 : Cond.methodLink "java/util/Arrays" 316 ⟨"[I", "clone", "()Ljava/lang/Object;"⟩ ∈ GT := gtm_1 199 rfl rfl
theorem w_258 : Cond.native ⟨"java/lang/Object", "clone", "()Ljava/lang/Object;"⟩ ∈ GT := gtm_1 201 rfl rfl
theorem w_259 : Cond.instanceMethod ⟨"java/lang/Object", "clone", "()Ljava/lang/Object;"⟩ ∈ GT := gtm_1 202 rfl rfl
theorem w_260 : Cond.selects "[I" ⟨"[I", "clone", "()Ljava/lang/Object;"⟩ ⟨"java/lang/Object", "clone", "()Ljava/lang/Object;"⟩ ∈ GT := gtm_1 203 rfl rfl
theorem w_262 : Cond.classLink "java/util/Arrays" 317 "[I" ∈ GT := gtm_1 205 rfl rfl
theorem w_263 : Cond.methodLink "java/util/Arrays" 304 ⟨"java/lang/Math", "min", "(II)I"⟩ ∈ GT := gtm_1 206 rfl rfl
theorem w_264 : Cond.static ⟨"java/lang/Math", "min", "(II)I"⟩ ∈ GT := gtm_1 207 rfl rfl
theorem w_265 : Cond.code ⟨"java/lang/Math", "min", "(II)I"⟩ prog_11_method_69_code 2 (some .int) ∈ GT := gtm_1 208 rfl rfl
theorem w_266 : Cond.methodLink "java/util/Arrays" 150 ⟨"java/lang/System", "arraycopy", "(Ljava/lang/Object;ILjava/lang/Object;II)V"⟩ ∈ GT := gtm_1 209 rfl rfl
theorem w_267 : Cond.static ⟨"java/lang/System", "arraycopy", "(Ljava/lang/Object;ILjava/lang/Object;II)V"⟩ ∈ GT := gtm_1 210 rfl rfl
theorem w_268 : Cond.native ⟨"java/lang/System", "arraycopy", "(Ljava/lang/Object;ILjava/lang/Object;II)V"⟩ ∈ GT := gtm_1 211 rfl rfl
theorem w_269 : Cond.methodLink "TensMill$Natural" 26 ⟨"java/lang/System", "arraycopy", "(Ljava/lang/Object;ILjava/lang/Object;II)V"⟩ ∈ GT := gtm_1 212 rfl rfl
theorem w_270 : Cond.methodLink "TensMill$Decimal" 16 ⟨"TensMill$Natural", "isZero", "()Z"⟩ ∈ GT := gtm_1 213 rfl rfl
theorem w_271 : Cond.instanceMethod ⟨"TensMill$Natural", "isZero", "()Z"⟩ ∈ GT := gtm_1 214 rfl rfl
theorem w_272 : Cond.selects "TensMill$Natural" ⟨"TensMill$Natural", "isZero", "()Z"⟩ ⟨"TensMill$Natural", "isZero", "()Z"⟩ ∈ GT := gtm_1 215 rfl rfl
theorem w_273 : Cond.code ⟨"TensMill$Natural", "isZero", "()Z"⟩ prog_4_method_2_code 1 (some .boolean) ∈ GT := gtm_1 216 rfl rfl
theorem w_274 : Cond.methodLink "TensMillLaw" 20 ⟨"TensMill", "copy", "(IIZ)Z"⟩ ∈ GT := gtm_1 217 rfl rfl
theorem w_275 : Cond.instanceMethod ⟨"TensMill", "copy", "(IIZ)Z"⟩ ∈ GT := gtm_1 218 rfl rfl
theorem w_276 : Cond.selects "TensMill" ⟨"TensMill", "copy", "(IIZ)Z"⟩ ⟨"TensMill", "copy", "(IIZ)Z"⟩ ∈ GT := gtm_1 219 rfl rfl
theorem w_277 : Cond.code ⟨"TensMill", "copy", "(IIZ)Z"⟩ prog_1_method_3_code 5 (some .boolean) ∈ GT := gtm_1 220 rfl rfl
theorem w_278 : Cond.methodLink "TensMillLaw" 25 ⟨"TensMill", "add", "(III)Z"⟩ ∈ GT := gtm_1 221 rfl rfl
theorem w_279 : Cond.instanceMethod ⟨"TensMill", "add", "(III)Z"⟩ ∈ GT := gtm_1 222 rfl rfl
theorem w_280 : Cond.selects "TensMill" ⟨"TensMill", "add", "(III)Z"⟩ ⟨"TensMill", "add", "(III)Z"⟩ ∈ GT := gtm_1 223 rfl rfl
theorem w_281 : Cond.code ⟨"TensMill", "add", "(III)Z"⟩ prog_1_method_4_code 4 (some .boolean) ∈ GT := gtm_1 224 rfl rfl
theorem w_282 : Cond.methodLink "TensMill" 76 ⟨"TensMill", "sumUp", "(IIIZ)Z"⟩ ∈ GT := gtm_1 225 rfl rfl
theorem w_284 : Cond.instanceMethod ⟨"TensMill", "sumUp", "(IIIZ)Z"⟩ ∈ GT := gtm_1 227 rfl rfl
theorem w_285 : Cond.code ⟨"TensMill", "sumUp", "(IIIZ)Z"⟩ prog_1_method_30_code 9 (some .boolean) ∈ GT := gtm_1 228 rfl rfl
theorem w_286 : Cond.methodLink "TensMill" 130 ⟨"java/lang/Math", "max", "(II)I"⟩ ∈ GT := gtm_1 229 rfl rfl
theorem w_287 : Cond.methodLink "TensMill" 242 ⟨"TensMill", "align", "(LTensMill$Natural;LTensMill$Decimal;I)Z"⟩ ∈ GT := gtm_1 230 rfl rfl
theorem w_288 : Cond.static ⟨"TensMill", "align", "(LTensMill$Natural;LTensMill$Decimal;I)Z"⟩ ∈ GT := gtm_1 231 rfl rfl
theorem w_289 : Cond.code ⟨"TensMill", "align", "(LTensMill$Natural;LTensMill$Decimal;I)Z"⟩ prog_1_method_31_code 5 (some .boolean) ∈ GT := gtm_1 232 rfl rfl
theorem w_290 : Cond.methodLink "TensMill" 84 ⟨"TensMill$Natural", "isZero", "()Z"⟩ ∈ GT := gtm_1 233 rfl rfl
theorem w_291 : Cond.methodLink "TensMill" 137 ⟨"TensMill$Natural", "clear", "()V"⟩ ∈ GT := gtm_1 234 rfl rfl
theorem w_292 : Cond.instanceMethod ⟨"TensMill$Natural", "clear", "()V"⟩ ∈ GT := gtm_1 235 rfl rfl
theorem w_293 : Cond.selects "TensMill$Natural" ⟨"TensMill$Natural", "clear", "()V"⟩ ⟨"TensMill$Natural", "clear", "()V"⟩ ∈ GT := gtm_1 236 rfl rfl
theorem w_294 : Cond.code ⟨"TensMill$Natural", "clear", "()V"⟩ prog_4_method_9_code 1 none ∈ GT := gtm_1 237 rfl rfl
theorem w_295 : Cond.constantLong "TensMill" 256 4097 ∈ GT := gtm_1 238 rfl rfl
theorem w_296 : Cond.methodLink "TensMill" 148 ⟨"TensMill$Natural", "raise", "(LTensMill$Natural;I)V"⟩ ∈ GT := gtm_1 239 rfl rfl
theorem w_297 : Cond.instanceMethod ⟨"TensMill$Natural", "raise", "(LTensMill$Natural;I)V"⟩ ∈ GT := gtm_2 0 rfl rfl
theorem w_298 : Cond.selects "TensMill$Natural" ⟨"TensMill$Natural", "raise", "(LTensMill$Natural;I)V"⟩ ⟨"TensMill$Natural", "raise", "(LTensMill$Natural;I)V"⟩ ∈ GT := gtm_2 1 rfl rfl
theorem w_299 : Cond.code ⟨"TensMill$Natural", "raise", "(LTensMill$Natural;I)V"⟩ prog_4_method_13_code 11 none ∈ GT := gtm_2 2 rfl rfl
theorem w_300 : Cond.methodLink "TensMill$Natural" 40 ⟨"TensMill$Natural", "emptyLimbs", "(I)V"⟩ ∈ GT := gtm_2 3 rfl rfl
theorem w_302 : Cond.instanceMethod ⟨"TensMill$Natural", "emptyLimbs", "(I)V"⟩ ∈ GT := gtm_2 5 rfl rfl
theorem w_303 : Cond.code ⟨"TensMill$Natural", "emptyLimbs", "(I)V"⟩ prog_4_method_33_code 3 none ∈ GT := gtm_2 6 rfl rfl
theorem w_304 : Cond.methodLink "TensMill$Natural" 48 ⟨"TensMill$Natural", "trim", "()V"⟩ ∈ GT := gtm_2 7 rfl rfl
theorem w_306 : Cond.instanceMethod ⟨"TensMill$Natural", "trim", "()V"⟩ ∈ GT := gtm_2 9 rfl rfl
theorem w_307 : Cond.code ⟨"TensMill$Natural", "trim", "()V"⟩ prog_4_method_34_code 1 none ∈ GT := gtm_2 10 rfl rfl
theorem w_308 : Cond.methodLink "TensMill" 246 ⟨"TensMill$Natural", "becomeSum", "(LTensMill$Natural;LTensMill$Natural;)V"⟩ ∈ GT := gtm_2 11 rfl rfl
theorem w_309 : Cond.instanceMethod ⟨"TensMill$Natural", "becomeSum", "(LTensMill$Natural;LTensMill$Natural;)V"⟩ ∈ GT := gtm_2 12 rfl rfl
theorem w_310 : Cond.selects "TensMill$Natural" ⟨"TensMill$Natural", "becomeSum", "(LTensMill$Natural;LTensMill$Natural;)V"⟩ ⟨"TensMill$Natural", "becomeSum", "(LTensMill$Natural;LTensMill$Natural;)V"⟩ ∈ GT := gtm_2 13 rfl rfl
theorem w_311 : Cond.code ⟨"TensMill$Natural", "becomeSum", "(LTensMill$Natural;LTensMill$Natural;)V"⟩ prog_4_method_18_code 7 none ∈ GT := gtm_2 14 rfl rfl
theorem w_312 : Cond.constant "TensMill$Natural" 66 1000000000 ∈ GT := gtm_2 15 rfl rfl
theorem w_313 : Cond.methodLink "TensMill" 249 ⟨"TensMill$Natural", "order", "(LTensMill$Natural;LTensMill$Natural;)I"⟩ ∈ GT := gtm_2 16 rfl rfl
theorem w_314 : Cond.static ⟨"TensMill$Natural", "order", "(LTensMill$Natural;LTensMill$Natural;)I"⟩ ∈ GT := gtm_2 17 rfl rfl
theorem w_315 : Cond.code ⟨"TensMill$Natural", "order", "(LTensMill$Natural;LTensMill$Natural;)I"⟩ prog_4_method_17_code 3 (some .int) ∈ GT := gtm_2 18 rfl rfl
theorem w_316 : Cond.methodLink "TensMill" 253 ⟨"TensMill$Natural", "subtract", "(LTensMill$Natural;)V"⟩ ∈ GT := gtm_2 19 rfl rfl
theorem w_317 : Cond.instanceMethod ⟨"TensMill$Natural", "subtract", "(LTensMill$Natural;)V"⟩ ∈ GT := gtm_2 20 rfl rfl
theorem w_318 : Cond.selects "TensMill$Natural" ⟨"TensMill$Natural", "subtract", "(LTensMill$Natural;)V"⟩ ⟨"TensMill$Natural", "subtract", "(LTensMill$Natural;)V"⟩ ∈ GT := gtm_2 21 rfl rfl
theorem w_319 : Cond.code ⟨"TensMill$Natural", "subtract", "(LTensMill$Natural;)V"⟩ prog_4_method_19_code 5 none ∈ GT := gtm_2 22 rfl rfl
theorem w_320 : Cond.methodLink "TensMillLaw" 30 ⟨"TensMill", "take", "(III)Z"⟩ ∈ GT := gtm_2 23 rfl rfl
theorem w_321 : Cond.instanceMethod ⟨"TensMill", "take", "(III)Z"⟩ ∈ GT := gtm_2 24 rfl rfl
theorem w_322 : Cond.selects "TensMill" ⟨"TensMill", "take", "(III)Z"⟩ ⟨"TensMill", "take", "(III)Z"⟩ ∈ GT := gtm_2 25 rfl rfl
theorem w_323 : Cond.code ⟨"TensMill", "take", "(III)Z"⟩ prog_1_method_5_code 4 (some .boolean) ∈ GT := gtm_2 26 rfl rfl
theorem w_324 : Cond.methodLink "TensMillLaw" 34 ⟨"TensMill", "times", "(III)Z"⟩ ∈ GT := gtm_2 27 rfl rfl
theorem w_325 : Cond.instanceMethod ⟨"TensMill", "times", "(III)Z"⟩ ∈ GT := gtm_2 28 rfl rfl
theorem w_326 : Cond.selects "TensMill" ⟨"TensMill", "times", "(III)Z"⟩ ⟨"TensMill", "times", "(III)Z"⟩ ∈ GT := gtm_2 29 rfl rfl
theorem w_327 : Cond.code ⟨"TensMill", "times", "(III)Z"⟩ prog_1_method_6_code 6 (some .boolean) ∈ GT := gtm_2 30 rfl rfl
theorem w_328 : Cond.methodLink "TensMill" 80 ⟨"TensMill", "multiply", "(LTensMill$Natural;LTensMill$Natural;LTensMill$Natural;)Z"⟩ ∈ GT := gtm_2 31 rfl rfl
theorem w_329 : Cond.static ⟨"TensMill", "multiply", "(LTensMill$Natural;LTensMill$Natural;LTensMill$Natural;)Z"⟩ ∈ GT := gtm_2 32 rfl rfl
theorem w_330 : Cond.code ⟨"TensMill", "multiply", "(LTensMill$Natural;LTensMill$Natural;LTensMill$Natural;)Z"⟩ prog_1_method_32_code 3 (some .boolean) ∈ GT := gtm_2 33 rfl rfl
theorem w_331 : Cond.methodLink "TensMill" 258 ⟨"TensMill$Natural", "becomeProduct", "(LTensMill$Natural;LTensMill$Natural;)V"⟩ ∈ GT := gtm_2 34 rfl rfl
theorem w_332 : Cond.instanceMethod ⟨"TensMill$Natural", "becomeProduct", "(LTensMill$Natural;LTensMill$Natural;)V"⟩ ∈ GT := gtm_2 35 rfl rfl
theorem w_333 : Cond.selects "TensMill$Natural" ⟨"TensMill$Natural", "becomeProduct", "(LTensMill$Natural;LTensMill$Natural;)V"⟩ ⟨"TensMill$Natural", "becomeProduct", "(LTensMill$Natural;LTensMill$Natural;)V"⟩ ∈ GT := gtm_2 36 rfl rfl
theorem w_334 : Cond.code ⟨"TensMill$Natural", "becomeProduct", "(LTensMill$Natural;LTensMill$Natural;)V"⟩ prog_4_method_20_code 5 none ∈ GT := gtm_2 37 rfl rfl
theorem w_335 : Cond.methodLink "TensMill$Natural" 67 ⟨"TensMill$Natural", "addTimes", "([IIJI)V"⟩ ∈ GT := gtm_2 38 rfl rfl
theorem w_337 : Cond.instanceMethod ⟨"TensMill$Natural", "addTimes", "([IIJI)V"⟩ ∈ GT := gtm_2 40 rfl rfl
theorem w_338 : Cond.code ⟨"TensMill$Natural", "addTimes", "([IIJI)V"⟩ prog_4_method_21_code 12 none ∈ GT := gtm_2 41 rfl rfl
theorem w_339 : Cond.methodLink "TensMillLaw" 38 ⟨"TensMill", "power", "(III)Z"⟩ ∈ GT := gtm_2 42 rfl rfl
theorem w_340 : Cond.instanceMethod ⟨"TensMill", "power", "(III)Z"⟩ ∈ GT := gtm_2 43 rfl rfl
theorem w_341 : Cond.selects "TensMill" ⟨"TensMill", "power", "(III)Z"⟩ ⟨"TensMill", "power", "(III)Z"⟩ ∈ GT := gtm_2 44 rfl rfl
theorem w_342 : Cond.code ⟨"TensMill", "power", "(III)Z"⟩ prog_1_method_7_code 8 (some .boolean) ∈ GT := gtm_2 45 rfl rfl
theorem w_343 : Cond.methodLink "TensMill" 88 ⟨"TensMill$Natural", "isOne", "()Z"⟩ ∈ GT := gtm_2 46 rfl rfl
theorem w_344 : Cond.instanceMethod ⟨"TensMill$Natural", "isOne", "()Z"⟩ ∈ GT := gtm_2 47 rfl rfl
theorem w_345 : Cond.selects "TensMill$Natural" ⟨"TensMill$Natural", "isOne", "()Z"⟩ ⟨"TensMill$Natural", "isOne", "()Z"⟩ ∈ GT := gtm_2 48 rfl rfl
theorem w_346 : Cond.code ⟨"TensMill$Natural", "isOne", "()Z"⟩ prog_4_method_3_code 1 (some .boolean) ∈ GT := gtm_2 49 rfl rfl
theorem w_347 : Cond.methodLink "TensMill" 91 ⟨"TensMill", "keepPower", "(ILTensMill$Natural;IZJ)Z"⟩ ∈ GT := gtm_2 50 rfl rfl
theorem w_349 : Cond.instanceMethod ⟨"TensMill", "keepPower", "(ILTensMill$Natural;IZJ)Z"⟩ ∈ GT := gtm_2 52 rfl rfl
theorem w_350 : Cond.code ⟨"TensMill", "keepPower", "(ILTensMill$Natural;IZJ)Z"⟩ prog_1_method_33_code 12 (some .boolean) ∈ GT := gtm_2 53 rfl rfl
theorem w_351 : Cond.constantLong "TensMill" 102 4096 ∈ GT := gtm_2 54 rfl rfl
theorem w_352 : Cond.methodLink "TensMill" 140 ⟨"TensMill$Natural", "become", "(LTensMill$Natural;)V"⟩ ∈ GT := gtm_2 55 rfl rfl
theorem w_353 : Cond.methodLink "TensMill" 261 ⟨"java/lang/Integer", "numberOfLeadingZeros", "(I)I"⟩ ∈ GT := gtm_2 56 rfl rfl
theorem w_354 : Cond.static ⟨"java/lang/Integer", "numberOfLeadingZeros", "(I)I"⟩ ∈ GT := gtm_2 57 rfl rfl
theorem w_355 : Cond.code ⟨"java/lang/Integer", "numberOfLeadingZeros", "(I)I"⟩ prog_10_method_47_code 2 (some .int) ∈ GT := gtm_2 58 rfl rfl
theorem w_356 : Cond.constant "java/lang/Integer" 264 65536 ∈ GT := gtm_2 59 rfl rfl
theorem w_357 : Cond.methodLink "TensMillLaw" 42 ⟨"TensMill", "divide", "(IIIII)Z"⟩ ∈ GT := gtm_2 60 rfl rfl
theorem w_358 : Cond.instanceMethod ⟨"TensMill", "divide", "(IIIII)Z"⟩ ∈ GT := gtm_2 61 rfl rfl
theorem w_359 : Cond.selects "TensMill" ⟨"TensMill", "divide", "(IIIII)Z"⟩ ⟨"TensMill", "divide", "(IIIII)Z"⟩ ∈ GT := gtm_2 62 rfl rfl
theorem w_360 : Cond.code ⟨"TensMill", "divide", "(IIIII)Z"⟩ prog_1_method_8_code 14 (some .boolean) ∈ GT := gtm_2 63 rfl rfl
theorem w_361 : Cond.methodLink "TensMill" 95 ⟨"TensMill", "isRounding", "(I)Z"⟩ ∈ GT := gtm_2 64 rfl rfl
theorem w_362 : Cond.static ⟨"TensMill", "isRounding", "(I)Z"⟩ ∈ GT := gtm_2 65 rfl rfl
theorem w_363 : Cond.code ⟨"TensMill", "isRounding", "(I)Z"⟩ prog_1_method_26_code 1 (some .boolean) ∈ GT := gtm_2 66 rfl rfl
theorem w_364 : Cond.methodLink "TensMill" 104 ⟨"java/lang/Math", "max", "(JJ)J"⟩ ∈ GT := gtm_2 67 rfl rfl
theorem w_365 : Cond.static ⟨"java/lang/Math", "max", "(JJ)J"⟩ ∈ GT := gtm_2 68 rfl rfl
theorem w_366 : Cond.code ⟨"java/lang/Math", "max", "(JJ)J"⟩ prog_11_method_66_code 4 (some .long) ∈ GT := gtm_2 69 rfl rfl
theorem w_367 : Cond.methodLink "TensMill" 110 ⟨"TensMill", "divideRaised", "(LTensMill$Natural;ILTensMill$Natural;)Z"⟩ ∈ GT := gtm_2 70 rfl rfl
theorem w_369 : Cond.instanceMethod ⟨"TensMill", "divideRaised", "(LTensMill$Natural;ILTensMill$Natural;)Z"⟩ ∈ GT := gtm_2 72 rfl rfl
theorem w_370 : Cond.code ⟨"TensMill", "divideRaised", "(LTensMill$Natural;ILTensMill$Natural;)Z"⟩ prog_1_method_34_code 4 (some .boolean) ∈ GT := gtm_2 73 rfl rfl
theorem w_371 : Cond.methodLink "TensMill" 266 ⟨"TensMill$Natural", "reduce", "(LTensMill$Natural;LTensMill$Natural;)V"⟩ ∈ GT := gtm_2 74 rfl rfl
theorem w_372 : Cond.instanceMethod ⟨"TensMill$Natural", "reduce", "(LTensMill$Natural;LTensMill$Natural;)V"⟩ ∈ GT := gtm_2 75 rfl rfl
theorem w_373 : Cond.selects "TensMill$Natural" ⟨"TensMill$Natural", "reduce", "(LTensMill$Natural;LTensMill$Natural;)V"⟩ ⟨"TensMill$Natural", "reduce", "(LTensMill$Natural;LTensMill$Natural;)V"⟩ ∈ GT := gtm_2 76 rfl rfl
theorem w_374 : Cond.code ⟨"TensMill$Natural", "reduce", "(LTensMill$Natural;LTensMill$Natural;)V"⟩ prog_4_method_22_code 7 none ∈ GT := gtm_2 77 rfl rfl
theorem w_375 : Cond.methodLink "TensMill$Natural" 71 ⟨"TensMill$Natural", "reduceByLimb", "(LTensMill$Natural;I)V"⟩ ∈ GT := gtm_2 78 rfl rfl
theorem w_377 : Cond.instanceMethod ⟨"TensMill$Natural", "reduceByLimb", "(LTensMill$Natural;I)V"⟩ ∈ GT := gtm_2 80 rfl rfl
theorem w_378 : Cond.code ⟨"TensMill$Natural", "reduceByLimb", "(LTensMill$Natural;I)V"⟩ prog_4_method_23_code 10 none ∈ GT := gtm_2 81 rfl rfl
theorem w_379 : Cond.methodLink "TensMill$Natural" 75 ⟨"TensMill$Natural", "guessLimb", "([III)I"⟩ ∈ GT := gtm_2 82 rfl rfl
theorem w_381 : Cond.instanceMethod ⟨"TensMill$Natural", "guessLimb", "([III)I"⟩ ∈ GT := gtm_2 84 rfl rfl
theorem w_382 : Cond.code ⟨"TensMill$Natural", "guessLimb", "([III)I"⟩ prog_4_method_24_code 8 (some .int) ∈ GT := gtm_2 85 rfl rfl
theorem w_383 : Cond.methodLink "TensMill$Natural" 83 ⟨"TensMill$Natural", "refine", "(JJJJJ)I"⟩ ∈ GT := gtm_2 86 rfl rfl
theorem w_384 : Cond.static ⟨"TensMill$Natural", "refine", "(JJJJJ)I"⟩ ∈ GT := gtm_2 87 rfl rfl
theorem w_385 : Cond.code ⟨"TensMill$Natural", "refine", "(JJJJJ)I"⟩ prog_4_method_25_code 16 (some .int) ∈ GT := gtm_2 88 rfl rfl
theorem w_386 : Cond.constantLong "TensMill$Natural" 87 999999999 ∈ GT := gtm_2 89 rfl rfl
theorem w_387 : Cond.methodLink "TensMill$Natural" 89 ⟨"java/lang/Math", "min", "(JJ)J"⟩ ∈ GT := gtm_2 90 rfl rfl
theorem w_388 : Cond.static ⟨"java/lang/Math", "min", "(JJ)J"⟩ ∈ GT := gtm_2 91 rfl rfl
theorem w_389 : Cond.code ⟨"java/lang/Math", "min", "(JJ)J"⟩ prog_11_method_70_code 4 (some .long) ∈ GT := gtm_2 92 rfl rfl
theorem w_390 : Cond.methodLink "TensMill$Natural" 79 ⟨"TensMill$Natural", "takeLimb", "([IIII)I"⟩ ∈ GT := gtm_2 93 rfl rfl
theorem w_392 : Cond.instanceMethod ⟨"TensMill$Natural", "takeLimb", "([IIII)I"⟩ ∈ GT := gtm_2 95 rfl rfl
theorem w_393 : Cond.code ⟨"TensMill$Natural", "takeLimb", "([IIII)I"⟩ prog_4_method_26_code 8 (some .int) ∈ GT := gtm_2 96 rfl rfl
theorem w_394 : Cond.methodLink "TensMill$Natural" 93 ⟨"TensMill$Natural", "subtractTimes", "([IIIJI)J"⟩ ∈ GT := gtm_2 97 rfl rfl
theorem w_396 : Cond.instanceMethod ⟨"TensMill$Natural", "subtractTimes", "([IIIJI)J"⟩ ∈ GT := gtm_2 99 rfl rfl
theorem w_397 : Cond.code ⟨"TensMill$Natural", "subtractTimes", "([IIIJI)J"⟩ prog_4_method_27_code 14 (some .long) ∈ GT := gtm_2 100 rfl rfl
theorem w_398 : Cond.methodLink "TensMill$Natural" 97 ⟨"TensMill$Natural", "addBack", "([IIII)J"⟩ ∈ GT := gtm_2 101 rfl rfl
theorem w_400 : Cond.instanceMethod ⟨"TensMill$Natural", "addBack", "([IIII)J"⟩ ∈ GT := gtm_2 103 rfl rfl
theorem w_401 : Cond.code ⟨"TensMill$Natural", "addBack", "([IIII)J"⟩ prog_4_method_28_code 11 (some .long) ∈ GT := gtm_2 104 rfl rfl
theorem w_402 : Cond.constantLong "TensMill" 114 4098 ∈ GT := gtm_2 105 rfl rfl
theorem w_403 : Cond.methodLink "TensMill" 116 ⟨"java/lang/Math", "min", "(JJ)J"⟩ ∈ GT := gtm_2 106 rfl rfl
theorem w_404 : Cond.methodLink "TensMill" 119 ⟨"TensMill", "cutQuotient", "(IZZI)Z"⟩ ∈ GT := gtm_2 107 rfl rfl
theorem w_406 : Cond.instanceMethod ⟨"TensMill", "cutQuotient", "(IZZI)Z"⟩ ∈ GT := gtm_2 109 rfl rfl
theorem w_407 : Cond.code ⟨"TensMill", "cutQuotient", "(IZZI)Z"⟩ prog_1_method_35_code 6 (some .boolean) ∈ GT := gtm_2 110 rfl rfl
theorem w_408 : Cond.methodLink "TensMill" 156 ⟨"TensMill$Natural", "cut", "(IZ)I"⟩ ∈ GT := gtm_2 111 rfl rfl
theorem w_409 : Cond.instanceMethod ⟨"TensMill$Natural", "cut", "(IZ)I"⟩ ∈ GT := gtm_2 112 rfl rfl
theorem w_410 : Cond.selects "TensMill$Natural" ⟨"TensMill$Natural", "cut", "(IZ)I"⟩ ⟨"TensMill$Natural", "cut", "(IZ)I"⟩ ∈ GT := gtm_2 113 rfl rfl
theorem w_411 : Cond.code ⟨"TensMill$Natural", "cut", "(IZ)I"⟩ prog_4_method_15_code 5 (some .int) ∈ GT := gtm_2 114 rfl rfl
theorem w_412 : Cond.methodLink "TensMill$Natural" 51 ⟨"TensMill$Natural", "digitAt", "(I)I"⟩ ∈ GT := gtm_2 115 rfl rfl
theorem w_413 : Cond.instanceMethod ⟨"TensMill$Natural", "digitAt", "(I)I"⟩ ∈ GT := gtm_2 116 rfl rfl
theorem w_414 : Cond.selects "TensMill$Natural" ⟨"TensMill$Natural", "digitAt", "(I)I"⟩ ⟨"TensMill$Natural", "digitAt", "(I)I"⟩ ∈ GT := gtm_2 117 rfl rfl
theorem w_415 : Cond.code ⟨"TensMill$Natural", "digitAt", "(I)I"⟩ prog_4_method_6_code 2 (some .int) ∈ GT := gtm_2 118 rfl rfl
theorem w_416 : Cond.methodLink "TensMill$Natural" 54 ⟨"TensMill$Natural", "hasDigitsBelow", "(I)Z"⟩ ∈ GT := gtm_2 119 rfl rfl
theorem w_417 : Cond.instanceMethod ⟨"TensMill$Natural", "hasDigitsBelow", "(I)Z"⟩ ∈ GT := gtm_2 120 rfl rfl
theorem w_418 : Cond.selects "TensMill$Natural" ⟨"TensMill$Natural", "hasDigitsBelow", "(I)Z"⟩ ⟨"TensMill$Natural", "hasDigitsBelow", "(I)Z"⟩ ∈ GT := gtm_2 121 rfl rfl
theorem w_419 : Cond.code ⟨"TensMill$Natural", "hasDigitsBelow", "(I)Z"⟩ prog_4_method_8_code 4 (some .boolean) ∈ GT := gtm_2 122 rfl rfl
theorem w_420 : Cond.methodLink "TensMill$Natural" 58 ⟨"TensMill$Natural", "drop", "(I)V"⟩ ∈ GT := gtm_2 123 rfl rfl
theorem w_421 : Cond.instanceMethod ⟨"TensMill$Natural", "drop", "(I)V"⟩ ∈ GT := gtm_2 124 rfl rfl
theorem w_422 : Cond.selects "TensMill$Natural" ⟨"TensMill$Natural", "drop", "(I)V"⟩ ⟨"TensMill$Natural", "drop", "(I)V"⟩ ∈ GT := gtm_2 125 rfl rfl
theorem w_423 : Cond.code ⟨"TensMill$Natural", "drop", "(I)V"⟩ prog_4_method_14_code 7 none ∈ GT := gtm_2 126 rfl rfl
theorem w_424 : Cond.methodLink "TensMill" 269 ⟨"TensMill$Natural", "isOdd", "()Z"⟩ ∈ GT := gtm_2 127 rfl rfl
theorem w_425 : Cond.instanceMethod ⟨"TensMill$Natural", "isOdd", "()Z"⟩ ∈ GT := gtm_2 128 rfl rfl
theorem w_426 : Cond.selects "TensMill$Natural" ⟨"TensMill$Natural", "isOdd", "()Z"⟩ ⟨"TensMill$Natural", "isOdd", "()Z"⟩ ∈ GT := gtm_2 129 rfl rfl
theorem w_427 : Cond.code ⟨"TensMill$Natural", "isOdd", "()Z"⟩ prog_4_method_4_code 1 (some .boolean) ∈ GT := gtm_2 130 rfl rfl
theorem w_428 : Cond.methodLink "TensMill" 272 ⟨"TensMill", "goesFarther", "(IIZZ)Z"⟩ ∈ GT := gtm_2 131 rfl rfl
theorem w_429 : Cond.static ⟨"TensMill", "goesFarther", "(IIZZ)Z"⟩ ∈ GT := gtm_2 132 rfl rfl
theorem w_430 : Cond.code ⟨"TensMill", "goesFarther", "(IIZZ)Z"⟩ prog_1_method_36_code 4 (some .boolean) ∈ GT := gtm_2 133 rfl rfl
theorem w_431 : Cond.methodLink "TensMill" 276 ⟨"TensMill$Natural", "addOne", "()V"⟩ ∈ GT := gtm_2 134 rfl rfl
theorem w_432 : Cond.instanceMethod ⟨"TensMill$Natural", "addOne", "()V"⟩ ∈ GT := gtm_2 135 rfl rfl
theorem w_433 : Cond.selects "TensMill$Natural" ⟨"TensMill$Natural", "addOne", "()V"⟩ ⟨"TensMill$Natural", "addOne", "()V"⟩ ∈ GT := gtm_2 136 rfl rfl
theorem w_434 : Cond.code ⟨"TensMill$Natural", "addOne", "()V"⟩ prog_4_method_16_code 2 none ∈ GT := gtm_2 137 rfl rfl
theorem w_435 : Cond.constant "TensMill$Natural" 61 999999999 ∈ GT := gtm_2 138 rfl rfl
theorem w_436 : Cond.methodLink "TensMillLaw" 47 ⟨"TensMill", "ratio", "(IIIII)Z"⟩ ∈ GT := gtm_2 139 rfl rfl
theorem w_437 : Cond.instanceMethod ⟨"TensMill", "ratio", "(IIIII)Z"⟩ ∈ GT := gtm_2 140 rfl rfl
theorem w_438 : Cond.selects "TensMill" ⟨"TensMill", "ratio", "(IIIII)Z"⟩ ⟨"TensMill", "ratio", "(IIIII)Z"⟩ ∈ GT := gtm_2 141 rfl rfl
theorem w_439 : Cond.code ⟨"TensMill", "ratio", "(IIIII)Z"⟩ prog_1_method_9_code 13 (some .boolean) ∈ GT := gtm_2 142 rfl rfl
theorem w_440 : Cond.methodLink "TensMill" 123 ⟨"TensMill", "isPrecision", "(I)Z"⟩ ∈ GT := gtm_2 143 rfl rfl
theorem w_441 : Cond.static ⟨"TensMill", "isPrecision", "(I)Z"⟩ ∈ GT := gtm_2 144 rfl rfl
theorem w_442 : Cond.code ⟨"TensMill", "isPrecision", "(I)Z"⟩ prog_1_method_27_code 1 (some .boolean) ∈ GT := gtm_2 145 rfl rfl
theorem w_443 : Cond.methodLink "TensMill" 126 ⟨"TensMill", "keepExactRatio", "(ILTensMill$Decimal;LTensMill$Decimal;J)Z"⟩ ∈ GT := gtm_2 146 rfl rfl
theorem w_445 : Cond.instanceMethod ⟨"TensMill", "keepExactRatio", "(ILTensMill$Decimal;LTensMill$Decimal;J)Z"⟩ ∈ GT := gtm_2 148 rfl rfl
theorem w_446 : Cond.code ⟨"TensMill", "keepExactRatio", "(ILTensMill$Decimal;LTensMill$Decimal;J)Z"⟩ prog_1_method_39_code 8 (some .boolean) ∈ GT := gtm_2 149 rfl rfl
theorem w_447 : Cond.methodLink "TensMill" 170 ⟨"TensMill$Natural", "endingZeros", "()I"⟩ ∈ GT := gtm_2 150 rfl rfl
theorem w_448 : Cond.instanceMethod ⟨"TensMill$Natural", "endingZeros", "()I"⟩ ∈ GT := gtm_2 151 rfl rfl
theorem w_449 : Cond.selects "TensMill$Natural" ⟨"TensMill$Natural", "endingZeros", "()I"⟩ ⟨"TensMill$Natural", "endingZeros", "()I"⟩ ∈ GT := gtm_2 152 rfl rfl
theorem w_450 : Cond.code ⟨"TensMill$Natural", "endingZeros", "()I"⟩ prog_4_method_7_code 3 (some .int) ∈ GT := gtm_2 153 rfl rfl
theorem w_451 : Cond.methodLink "TensMill" 279 ⟨"java/lang/Math", "min", "(II)I"⟩ ∈ GT := gtm_2 154 rfl rfl
theorem w_452 : Cond.methodLink "TensMill" 173 ⟨"TensMill$Natural", "drop", "(I)V"⟩ ∈ GT := gtm_2 155 rfl rfl
theorem w_453 : Cond.methodLink "TensMill" 133 ⟨"TensMill", "settle", "(IZJZJII)Z"⟩ ∈ GT := gtm_2 156 rfl rfl
theorem w_455 : Cond.instanceMethod ⟨"TensMill", "settle", "(IZJZJII)Z"⟩ ∈ GT := gtm_2 158 rfl rfl
theorem w_456 : Cond.code ⟨"TensMill", "settle", "(IZJZJII)Z"⟩ prog_1_method_38_code 18 (some .boolean) ∈ GT := gtm_2 159 rfl rfl
theorem w_457 : Cond.methodLink "TensMill" 166 ⟨"TensMill", "keepRounded", "(IZJZII)Z"⟩ ∈ GT := gtm_2 160 rfl rfl
theorem w_459 : Cond.instanceMethod ⟨"TensMill", "keepRounded", "(IZJZII)Z"⟩ ∈ GT := gtm_2 162 rfl rfl
theorem w_460 : Cond.code ⟨"TensMill", "keepRounded", "(IZJZII)Z"⟩ prog_1_method_37_code 9 (some .boolean) ∈ GT := gtm_2 163 rfl rfl
theorem w_461 : Cond.methodLink "TensMillLaw" 51 ⟨"TensMill", "whole", "(IIII)Z"⟩ ∈ GT := gtm_2 164 rfl rfl
theorem w_462 : Cond.instanceMethod ⟨"TensMill", "whole", "(IIII)Z"⟩ ∈ GT := gtm_2 165 rfl rfl
theorem w_463 : Cond.selects "TensMill" ⟨"TensMill", "whole", "(IIII)Z"⟩ ⟨"TensMill", "whole", "(IIII)Z"⟩ ∈ GT := gtm_2 166 rfl rfl
theorem w_464 : Cond.code ⟨"TensMill", "whole", "(IIII)Z"⟩ prog_1_method_10_code 10 (some .boolean) ∈ GT := gtm_2 167 rfl rfl
theorem w_465 : Cond.methodLink "TensMill" 144 ⟨"TensMill", "keepWhole", "(IILTensMill$Decimal;ZJJ)Z"⟩ ∈ GT := gtm_2 168 rfl rfl
theorem w_467 : Cond.instanceMethod ⟨"TensMill", "keepWhole", "(IILTensMill$Decimal;ZJJ)Z"⟩ ∈ GT := gtm_2 170 rfl rfl
theorem w_468 : Cond.code ⟨"TensMill", "keepWhole", "(IILTensMill$Decimal;ZJJ)Z"⟩ prog_1_method_41_code 10 (some .boolean) ∈ GT := gtm_2 171 rfl rfl
theorem w_469 : Cond.methodLink "TensMill" 152 ⟨"TensMill", "keepWholeOfRaised", "(IILTensMill$Decimal;LTensMill$Decimal;J)Z"⟩ ∈ GT := gtm_2 172 rfl rfl
theorem w_471 : Cond.instanceMethod ⟨"TensMill", "keepWholeOfRaised", "(IILTensMill$Decimal;LTensMill$Decimal;J)Z"⟩ ∈ GT := gtm_2 174 rfl rfl
theorem w_472 : Cond.code ⟨"TensMill", "keepWholeOfRaised", "(IILTensMill$Decimal;LTensMill$Decimal;J)Z"⟩ prog_1_method_40_code 15 (some .boolean) ∈ GT := gtm_2 175 rfl rfl
theorem w_473 : Cond.methodLink "TensMillLaw" 56 ⟨"TensMill", "root", "(IIII)Z"⟩ ∈ GT := gtm_2 176 rfl rfl
theorem w_474 : Cond.instanceMethod ⟨"TensMill", "root", "(IIII)Z"⟩ ∈ GT := gtm_2 177 rfl rfl
theorem w_475 : Cond.selects "TensMill" ⟨"TensMill", "root", "(IIII)Z"⟩ ⟨"TensMill", "root", "(IIII)Z"⟩ ∈ GT := gtm_2 178 rfl rfl
theorem w_476 : Cond.code ⟨"TensMill", "root", "(IIII)Z"⟩ prog_1_method_11_code 10 (some .boolean) ∈ GT := gtm_2 179 rfl rfl
theorem w_477 : Cond.methodLink "TensMill" 160 ⟨"TensMill$Natural", "takeRoot", "(LTensMill$Natural;LTensMill$Natural;)V"⟩ ∈ GT := gtm_2 180 rfl rfl
theorem w_478 : Cond.instanceMethod ⟨"TensMill$Natural", "takeRoot", "(LTensMill$Natural;LTensMill$Natural;)V"⟩ ∈ GT := gtm_2 181 rfl rfl
theorem w_479 : Cond.selects "TensMill$Natural" ⟨"TensMill$Natural", "takeRoot", "(LTensMill$Natural;LTensMill$Natural;)V"⟩ ⟨"TensMill$Natural", "takeRoot", "(LTensMill$Natural;LTensMill$Natural;)V"⟩ ∈ GT := gtm_2 182 rfl rfl
theorem w_480 : Cond.code ⟨"TensMill$Natural", "takeRoot", "(LTensMill$Natural;LTensMill$Natural;)V"⟩ prog_4_method_29_code 12 none ∈ GT := gtm_2 183 rfl rfl
theorem w_481 : Cond.methodLink "TensMill$Natural" 101 ⟨"TensMill$Natural", "rootOf", "(J)J"⟩ ∈ GT := gtm_2 184 rfl rfl
theorem w_482 : Cond.static ⟨"TensMill$Natural", "rootOf", "(J)J"⟩ ∈ GT := gtm_2 185 rfl rfl
theorem w_483 : Cond.code ⟨"TensMill$Natural", "rootOf", "(J)J"⟩ prog_4_method_30_code 7 (some .long) ∈ GT := gtm_2 186 rfl rfl
theorem w_484 : Cond.constantLong "TensMill$Natural" 105 2 ∈ GT := gtm_2 187 rfl rfl
theorem w_485 : Cond.methodLink "TensMill$Natural" 107 ⟨"TensMill$Natural", "guessRootLimb", "([III)I"⟩ ∈ GT := gtm_2 188 rfl rfl
theorem w_487 : Cond.instanceMethod ⟨"TensMill$Natural", "guessRootLimb", "([III)I"⟩ ∈ GT := gtm_2 190 rfl rfl
theorem w_488 : Cond.code ⟨"TensMill$Natural", "guessRootLimb", "([III)I"⟩ prog_4_method_31_code 11 (some .int) ∈ GT := gtm_2 191 rfl rfl
theorem w_489 : Cond.methodLink "TensMill$Natural" 110 ⟨"TensMill$Natural", "takeRootLimb", "([IIII)I"⟩ ∈ GT := gtm_2 192 rfl rfl
theorem w_491 : Cond.instanceMethod ⟨"TensMill$Natural", "takeRootLimb", "([IIII)I"⟩ ∈ GT := gtm_2 194 rfl rfl
theorem w_492 : Cond.code ⟨"TensMill$Natural", "takeRootLimb", "([IIII)I"⟩ prog_4_method_32_code 9 (some .int) ∈ GT := gtm_2 195 rfl rfl
theorem w_493 : Cond.constantLong "TensMill" 164 2 ∈ GT := gtm_2 196 rfl rfl
theorem w_494 : Cond.methodLink "TensMillLaw" 60 ⟨"TensMill", "rescale", "(IIII)Z"⟩ ∈ GT := gtm_2 197 rfl rfl
theorem w_495 : Cond.instanceMethod ⟨"TensMill", "rescale", "(IIII)Z"⟩ ∈ GT := gtm_2 198 rfl rfl
theorem w_496 : Cond.selects "TensMill" ⟨"TensMill", "rescale", "(IIII)Z"⟩ ⟨"TensMill", "rescale", "(IIII)Z"⟩ ∈ GT := gtm_2 199 rfl rfl
theorem w_497 : Cond.code ⟨"TensMill", "rescale", "(IIII)Z"⟩ prog_1_method_12_code 9 (some .boolean) ∈ GT := gtm_2 200 rfl rfl
theorem w_498 : Cond.methodLink "TensMillLaw" 64 ⟨"TensMill", "round", "(IIII)Z"⟩ ∈ GT := gtm_2 201 rfl rfl
theorem w_499 : Cond.instanceMethod ⟨"TensMill", "round", "(IIII)Z"⟩ ∈ GT := gtm_2 202 rfl rfl
theorem w_500 : Cond.selects "TensMill" ⟨"TensMill", "round", "(IIII)Z"⟩ ⟨"TensMill", "round", "(IIII)Z"⟩ ∈ GT := gtm_2 203 rfl rfl
theorem w_501 : Cond.code ⟨"TensMill", "round", "(IIII)Z"⟩ prog_1_method_13_code 6 (some .boolean) ∈ GT := gtm_2 204 rfl rfl
theorem w_502 : Cond.methodLink "TensMillLaw" 68 ⟨"TensMill", "strip", "(II)Z"⟩ ∈ GT := gtm_2 205 rfl rfl
theorem w_503 : Cond.instanceMethod ⟨"TensMill", "strip", "(II)Z"⟩ ∈ GT := gtm_2 206 rfl rfl
theorem w_504 : Cond.selects "TensMill" ⟨"TensMill", "strip", "(II)Z"⟩ ⟨"TensMill", "strip", "(II)Z"⟩ ∈ GT := gtm_2 207 rfl rfl
theorem w_505 : Cond.code ⟨"TensMill", "strip", "(II)Z"⟩ prog_1_method_14_code 5 (some .boolean) ∈ GT := gtm_2 208 rfl rfl
theorem w_506 : Cond.methodLink "TensMillLaw" 73 ⟨"TensMill", "move", "(III)Z"⟩ ∈ GT := gtm_2 209 rfl rfl
theorem w_507 : Cond.instanceMethod ⟨"TensMill", "move", "(III)Z"⟩ ∈ GT := gtm_2 210 rfl rfl
theorem w_508 : Cond.selects "TensMill" ⟨"TensMill", "move", "(III)Z"⟩ ⟨"TensMill", "move", "(III)Z"⟩ ∈ GT := gtm_2 211 rfl rfl
theorem w_509 : Cond.code ⟨"TensMill", "move", "(III)Z"⟩ prog_1_method_15_code 5 (some .boolean) ∈ GT := gtm_2 212 rfl rfl
theorem w_510 : Cond.methodLink "TensMillLaw" 77 ⟨"TensMill", "compare", "(II)I"⟩ ∈ GT := gtm_2 213 rfl rfl
theorem w_511 : Cond.instanceMethod ⟨"TensMill", "compare", "(II)I"⟩ ∈ GT := gtm_2 214 rfl rfl
theorem w_512 : Cond.selects "TensMill" ⟨"TensMill", "compare", "(II)I"⟩ ⟨"TensMill", "compare", "(II)I"⟩ ∈ GT := gtm_2 215 rfl rfl
theorem w_513 : Cond.code ⟨"TensMill", "compare", "(II)I"⟩ prog_1_method_16_code 6 (some .int) ∈ GT := gtm_2 216 rfl rfl
theorem w_514 : Cond.methodLink "TensMill" 177 ⟨"TensMill$Decimal", "signum", "()I"⟩ ∈ GT := gtm_2 217 rfl rfl
theorem w_515 : Cond.instanceMethod ⟨"TensMill$Decimal", "signum", "()I"⟩ ∈ GT := gtm_2 218 rfl rfl
theorem w_516 : Cond.selects "TensMill$Decimal" ⟨"TensMill$Decimal", "signum", "()I"⟩ ⟨"TensMill$Decimal", "signum", "()I"⟩ ∈ GT := gtm_2 219 rfl rfl
theorem w_517 : Cond.code ⟨"TensMill$Decimal", "signum", "()I"⟩ prog_2_method_2_code 1 (some .int) ∈ GT := gtm_2 220 rfl rfl
theorem w_518 : Cond.methodLink "TensMill" 180 ⟨"TensMill", "orderOfSizes", "(LTensMill$Decimal;LTensMill$Decimal;)I"⟩ ∈ GT := gtm_2 221 rfl rfl
theorem w_520 : Cond.instanceMethod ⟨"TensMill", "orderOfSizes", "(LTensMill$Decimal;LTensMill$Decimal;)I"⟩ ∈ GT := gtm_2 223 rfl rfl
theorem w_521 : Cond.code ⟨"TensMill", "orderOfSizes", "(LTensMill$Decimal;LTensMill$Decimal;)I"⟩ prog_1_method_42_code 10 (some .int) ∈ GT := gtm_2 224 rfl rfl
theorem w_522 : Cond.methodLink "TensMillLaw" 82 ⟨"TensMill", "sign", "(I)I"⟩ ∈ GT := gtm_2 225 rfl rfl
theorem w_523 : Cond.instanceMethod ⟨"TensMill", "sign", "(I)I"⟩ ∈ GT := gtm_2 226 rfl rfl
theorem w_524 : Cond.selects "TensMill" ⟨"TensMill", "sign", "(I)I"⟩ ⟨"TensMill", "sign", "(I)I"⟩ ∈ GT := gtm_2 227 rfl rfl
theorem w_525 : Cond.code ⟨"TensMill", "sign", "(I)I"⟩ prog_1_method_17_code 2 (some .int) ∈ GT := gtm_2 228 rfl rfl
theorem w_526 : Cond.methodLink "TensMillLaw" 87 ⟨"TensMill", "precision", "(I)I"⟩ ∈ GT := gtm_2 229 rfl rfl
theorem w_527 : Cond.instanceMethod ⟨"TensMill", "precision", "(I)I"⟩ ∈ GT := gtm_2 230 rfl rfl
theorem w_528 : Cond.selects "TensMill" ⟨"TensMill", "precision", "(I)I"⟩ ⟨"TensMill", "precision", "(I)I"⟩ ∈ GT := gtm_2 231 rfl rfl
theorem w_529 : Cond.code ⟨"TensMill", "precision", "(I)I"⟩ prog_1_method_18_code 2 (some .int) ∈ GT := gtm_2 232 rfl rfl
theorem w_530 : Cond.methodLink "TensMillLaw" 91 ⟨"TensMill", "scale", "(I)I"⟩ ∈ GT := gtm_2 233 rfl rfl
theorem w_531 : Cond.instanceMethod ⟨"TensMill", "scale", "(I)I"⟩ ∈ GT := gtm_2 234 rfl rfl
theorem w_532 : Cond.selects "TensMill" ⟨"TensMill", "scale", "(I)I"⟩ ⟨"TensMill", "scale", "(I)I"⟩ ∈ GT := gtm_2 235 rfl rfl
theorem w_533 : Cond.code ⟨"TensMill", "scale", "(I)I"⟩ prog_1_method_19_code 2 (some .int) ∈ GT := gtm_2 236 rfl rfl
theorem w_534 : Cond.methodLink "TensMillLaw" 95 ⟨"TensMill", "digit", "(II)I"⟩ ∈ GT := gtm_2 237 rfl rfl
theorem w_535 : Cond.instanceMethod ⟨"TensMill", "digit", "(II)I"⟩ ∈ GT := gtm_2 238 rfl rfl
theorem w_536 : Cond.selects "TensMill" ⟨"TensMill", "digit", "(II)I"⟩ ⟨"TensMill", "digit", "(II)I"⟩ ∈ GT := gtm_2 239 rfl rfl
theorem w_537 : Cond.code ⟨"TensMill", "digit", "(II)I"⟩ prog_1_method_20_code 3 (some .int) ∈ GT := gtm_3 0 rfl rfl
theorem w_538 : Cond.methodLink "TensMill" 184 ⟨"TensMill$Natural", "digitAt", "(I)I"⟩ ∈ GT := gtm_3 1 rfl rfl
theorem w_539 : Cond.methodLink "TensMillLaw" 99 ⟨"TensMill", "type", "(J)Z"⟩ ∈ GT := gtm_3 2 rfl rfl
theorem w_540 : Cond.instanceMethod ⟨"TensMill", "type", "(J)Z"⟩ ∈ GT := gtm_3 3 rfl rfl
theorem w_541 : Cond.selects "TensMill" ⟨"TensMill", "type", "(J)Z"⟩ ⟨"TensMill", "type", "(J)Z"⟩ ∈ GT := gtm_3 4 rfl rfl
theorem w_542 : Cond.code ⟨"TensMill", "type", "(J)Z"⟩ prog_1_method_21_code 6 (some .boolean) ∈ GT := gtm_3 5 rfl rfl
theorem w_543 : Cond.methodLink "TensMill" 191 ⟨"TensMill$Text", "makeRoom", "(I)V"⟩ ∈ GT := gtm_3 6 rfl rfl
theorem w_544 : Cond.instanceMethod ⟨"TensMill$Text", "makeRoom", "(I)V"⟩ ∈ GT := gtm_3 7 rfl rfl
theorem w_545 : Cond.selects "TensMill$Text" ⟨"TensMill$Text", "makeRoom", "(I)V"⟩ ⟨"TensMill$Text", "makeRoom", "(I)V"⟩ ∈ GT := gtm_3 8 rfl rfl
theorem w_546 : Cond.code ⟨"TensMill$Text", "makeRoom", "(I)V"⟩ prog_6_method_3_code 2 none ∈ GT := gtm_3 9 rfl rfl
theorem w_547 : Cond.methodLink "TensMill$Text" 17 ⟨"java/lang/Math", "max", "(II)I"⟩ ∈ GT := gtm_3 10 rfl rfl
theorem w_548 : Cond.methodLink "TensMill$Text" 23 ⟨"java/util/Arrays", "copyOf", "([BI)[B"⟩ ∈ GT := gtm_3 11 rfl rfl
theorem w_549 : Cond.static ⟨"java/util/Arrays", "copyOf", "([BI)[B"⟩ ∈ GT := gtm_3 12 rfl rfl
theorem w_550 : Cond.code ⟨"java/util/Arrays", "copyOf", "([BI)[B"⟩ prog_13_method_121_code 3 (some (.array .byte)) ∈ GT := gtm_3 13 rfl rfl
theorem w_551 : Cond.methodLink "java/util/Arrays" 310 ⟨"[B", "clone", "()Ljava/lang/Object;"⟩ ∈ GT := gtm_3 14 rfl rfl
theorem w_553 : Cond.selects "[B" ⟨"[B", "clone", "()Ljava/lang/Object;"⟩ ⟨"java/lang/Object", "clone", "()Ljava/lang/Object;"⟩ ∈ GT := gtm_3 16 rfl rfl
theorem w_555 : Cond.classLink "java/util/Arrays" 311 "[B" ∈ GT := gtm_3 18 rfl rfl
theorem w_556 : Cond.methodLink "TensMill" 194 ⟨"TensMill$Text", "append", "(I)V"⟩ ∈ GT := gtm_3 19 rfl rfl
theorem w_557 : Cond.instanceMethod ⟨"TensMill$Text", "append", "(I)V"⟩ ∈ GT := gtm_3 20 rfl rfl
theorem w_558 : Cond.selects "TensMill$Text" ⟨"TensMill$Text", "append", "(I)V"⟩ ⟨"TensMill$Text", "append", "(I)V"⟩ ∈ GT := gtm_3 21 rfl rfl
theorem w_559 : Cond.code ⟨"TensMill$Text", "append", "(I)V"⟩ prog_6_method_4_code 2 none ∈ GT := gtm_3 22 rfl rfl
theorem w_560 : Cond.methodLink "TensMill$Text" 29 ⟨"TensMill$Text", "makeRoom", "(I)V"⟩ ∈ GT := gtm_3 23 rfl rfl
theorem w_561 : Cond.methodLink "TensMillLaw" 104 ⟨"TensMill", "read", "(I)Z"⟩ ∈ GT := gtm_3 24 rfl rfl
theorem w_562 : Cond.instanceMethod ⟨"TensMill", "read", "(I)Z"⟩ ∈ GT := gtm_3 25 rfl rfl
theorem w_563 : Cond.selects "TensMill" ⟨"TensMill", "read", "(I)Z"⟩ ⟨"TensMill", "read", "(I)Z"⟩ ∈ GT := gtm_3 26 rfl rfl
theorem w_564 : Cond.code ⟨"TensMill", "read", "(I)Z"⟩ prog_1_method_22_code 3 (some .boolean) ∈ GT := gtm_3 27 rfl rfl
theorem w_565 : Cond.methodLink "TensMill" 197 ⟨"TensMill$Numeral", "parse", "(LTensMill$Text;)Z"⟩ ∈ GT := gtm_3 28 rfl rfl
theorem w_566 : Cond.instanceMethod ⟨"TensMill$Numeral", "parse", "(LTensMill$Text;)Z"⟩ ∈ GT := gtm_3 29 rfl rfl
theorem w_567 : Cond.selects "TensMill$Numeral" ⟨"TensMill$Numeral", "parse", "(LTensMill$Text;)Z"⟩ ⟨"TensMill$Numeral", "parse", "(LTensMill$Text;)Z"⟩ ∈ GT := gtm_3 30 rfl rfl
theorem w_568 : Cond.code ⟨"TensMill$Numeral", "parse", "(LTensMill$Text;)Z"⟩ prog_5_method_2_code 3 (some .boolean) ∈ GT := gtm_3 31 rfl rfl
theorem w_569 : Cond.methodLink "TensMill$Numeral" 9 ⟨"TensMill$Text", "codeAt", "(I)I"⟩ ∈ GT := gtm_3 32 rfl rfl
theorem w_570 : Cond.instanceMethod ⟨"TensMill$Text", "codeAt", "(I)I"⟩ ∈ GT := gtm_3 33 rfl rfl
theorem w_571 : Cond.selects "TensMill$Text" ⟨"TensMill$Text", "codeAt", "(I)I"⟩ ⟨"TensMill$Text", "codeAt", "(I)I"⟩ ∈ GT := gtm_3 34 rfl rfl
theorem w_572 : Cond.code ⟨"TensMill$Text", "codeAt", "(I)I"⟩ prog_6_method_2_code 2 (some .int) ∈ GT := gtm_3 35 rfl rfl
theorem w_573 : Cond.methodLink "TensMill$Numeral" 21 ⟨"TensMill$Text", "hasSignAt", "(I)Z"⟩ ∈ GT := gtm_3 36 rfl rfl
theorem w_574 : Cond.instanceMethod ⟨"TensMill$Text", "hasSignAt", "(I)Z"⟩ ∈ GT := gtm_3 37 rfl rfl
theorem w_575 : Cond.selects "TensMill$Text" ⟨"TensMill$Text", "hasSignAt", "(I)Z"⟩ ⟨"TensMill$Text", "hasSignAt", "(I)Z"⟩ ∈ GT := gtm_3 38 rfl rfl
theorem w_576 : Cond.code ⟨"TensMill$Text", "hasSignAt", "(I)Z"⟩ prog_6_method_5_code 3 (some .boolean) ∈ GT := gtm_3 39 rfl rfl
theorem w_577 : Cond.methodLink "TensMill$Text" 33 ⟨"TensMill$Text", "codeAt", "(I)I"⟩ ∈ GT := gtm_3 40 rfl rfl
theorem w_578 : Cond.methodLink "TensMill$Numeral" 33 ⟨"TensMill$Numeral", "findDigits", "(LTensMill$Text;)Z"⟩ ∈ GT := gtm_3 41 rfl rfl
theorem w_580 : Cond.instanceMethod ⟨"TensMill$Numeral", "findDigits", "(LTensMill$Text;)Z"⟩ ∈ GT := gtm_3 43 rfl rfl
theorem w_581 : Cond.code ⟨"TensMill$Numeral", "findDigits", "(LTensMill$Text;)Z"⟩ prog_5_method_3_code 5 (some .boolean) ∈ GT := gtm_3 44 rfl rfl
theorem w_582 : Cond.methodLink "TensMill$Numeral" 50 ⟨"TensMill$Text", "hasDigitAt", "(I)Z"⟩ ∈ GT := gtm_3 45 rfl rfl
theorem w_583 : Cond.instanceMethod ⟨"TensMill$Text", "hasDigitAt", "(I)Z"⟩ ∈ GT := gtm_3 46 rfl rfl
theorem w_584 : Cond.selects "TensMill$Text" ⟨"TensMill$Text", "hasDigitAt", "(I)Z"⟩ ⟨"TensMill$Text", "hasDigitAt", "(I)Z"⟩ ∈ GT := gtm_3 47 rfl rfl
theorem w_585 : Cond.code ⟨"TensMill$Text", "hasDigitAt", "(I)Z"⟩ prog_6_method_6_code 3 (some .boolean) ∈ GT := gtm_3 48 rfl rfl
theorem w_586 : Cond.methodLink "TensMill$Numeral" 43 ⟨"TensMill$Numeral", "findExponent", "(LTensMill$Text;I)Z"⟩ ∈ GT := gtm_3 49 rfl rfl
theorem w_588 : Cond.instanceMethod ⟨"TensMill$Numeral", "findExponent", "(LTensMill$Text;I)Z"⟩ ∈ GT := gtm_3 51 rfl rfl
theorem w_589 : Cond.code ⟨"TensMill$Numeral", "findExponent", "(LTensMill$Text;I)Z"⟩ prog_5_method_4_code 5 (some .boolean) ∈ GT := gtm_3 52 rfl rfl
theorem w_590 : Cond.constantLong "TensMill$Numeral" 53 10 ∈ GT := gtm_3 53 rfl rfl
theorem w_591 : Cond.constantLong "TensMill$Numeral" 55 48 ∈ GT := gtm_3 54 rfl rfl
theorem w_592 : Cond.constantLong "TensMill$Numeral" 57 1000000000000 ∈ GT := gtm_3 55 rfl rfl
theorem w_593 : Cond.methodLink "TensMill$Numeral" 59 ⟨"java/lang/Math", "min", "(JJ)J"⟩ ∈ GT := gtm_3 56 rfl rfl
theorem w_594 : Cond.methodLink "TensMill" 207 ⟨"TensMill$Natural", "becomeDigits", "(LTensMill$Text;II)V"⟩ ∈ GT := gtm_3 57 rfl rfl
theorem w_595 : Cond.instanceMethod ⟨"TensMill$Natural", "becomeDigits", "(LTensMill$Text;II)V"⟩ ∈ GT := gtm_3 58 rfl rfl
theorem w_596 : Cond.selects "TensMill$Natural" ⟨"TensMill$Natural", "becomeDigits", "(LTensMill$Text;II)V"⟩ ⟨"TensMill$Natural", "becomeDigits", "(LTensMill$Text;II)V"⟩ ∈ GT := gtm_3 59 rfl rfl
theorem w_597 : Cond.code ⟨"TensMill$Natural", "becomeDigits", "(LTensMill$Text;II)V"⟩ prog_4_method_12_code 8 none ∈ GT := gtm_3 60 rfl rfl
theorem w_598 : Cond.methodLink "TensMill$Natural" 43 ⟨"TensMill$Text", "codeAt", "(I)I"⟩ ∈ GT := gtm_3 61 rfl rfl
theorem w_599 : Cond.methodLink "TensMillLaw" 109 ⟨"TensMill", "write", "(II)I"⟩ ∈ GT := gtm_3 62 rfl rfl
theorem w_600 : Cond.instanceMethod ⟨"TensMill", "write", "(II)I"⟩ ∈ GT := gtm_3 63 rfl rfl
theorem w_601 : Cond.selects "TensMill" ⟨"TensMill", "write", "(II)I"⟩ ⟨"TensMill", "write", "(II)I"⟩ ∈ GT := gtm_3 64 rfl rfl
theorem w_602 : Cond.code ⟨"TensMill", "write", "(II)I"⟩ prog_1_method_23_code 4 (some .int) ∈ GT := gtm_3 65 rfl rfl
theorem w_603 : Cond.methodLink "TensMill" 219 ⟨"TensMill$Layout", "plan", "(LTensMill$Decimal;I)V"⟩ ∈ GT := gtm_3 66 rfl rfl
theorem w_604 : Cond.instanceMethod ⟨"TensMill$Layout", "plan", "(LTensMill$Decimal;I)V"⟩ ∈ GT := gtm_3 67 rfl rfl
theorem w_605 : Cond.selects "TensMill$Layout" ⟨"TensMill$Layout", "plan", "(LTensMill$Decimal;I)V"⟩ ⟨"TensMill$Layout", "plan", "(LTensMill$Decimal;I)V"⟩ ∈ GT := gtm_3 68 rfl rfl
theorem w_606 : Cond.code ⟨"TensMill$Layout", "plan", "(LTensMill$Decimal;I)V"⟩ prog_3_method_2_code 7 none ∈ GT := gtm_3 69 rfl rfl
theorem w_607 : Cond.methodLink "TensMill$Layout" 22 ⟨"TensMill$Natural", "digitCount", "()I"⟩ ∈ GT := gtm_3 70 rfl rfl
theorem w_608 : Cond.constantLong "TensMill$Layout" 35 (-6) ∈ GT := gtm_3 71 rfl rfl
theorem w_609 : Cond.methodLink "TensMill$Layout" 37 ⟨"TensMill$Layout", "planPlain", "(LTensMill$Decimal;)V"⟩ ∈ GT := gtm_3 72 rfl rfl
theorem w_611 : Cond.instanceMethod ⟨"TensMill$Layout", "planPlain", "(LTensMill$Decimal;)V"⟩ ∈ GT := gtm_3 74 rfl rfl
theorem w_612 : Cond.code ⟨"TensMill$Layout", "planPlain", "(LTensMill$Decimal;)V"⟩ prog_3_method_3_code 2 none ∈ GT := gtm_3 75 rfl rfl
theorem w_613 : Cond.methodLink "TensMill$Layout" 66 ⟨"java/lang/Math", "max", "(JJ)J"⟩ ∈ GT := gtm_3 76 rfl rfl
theorem w_614 : Cond.methodLink "TensMill$Layout" 45 ⟨"TensMill$Natural", "isZero", "()Z"⟩ ∈ GT := gtm_3 77 rfl rfl
theorem w_615 : Cond.constantLong "TensMill$Layout" 49 3 ∈ GT := gtm_3 78 rfl rfl
theorem w_616 : Cond.methodLink "TensMill$Layout" 51 ⟨"java/lang/Math", "floorMod", "(JJ)J"⟩ ∈ GT := gtm_3 79 rfl rfl
theorem w_617 : Cond.static ⟨"java/lang/Math", "floorMod", "(JJ)J"⟩ ∈ GT := gtm_3 80 rfl rfl
theorem w_618 : Cond.code ⟨"java/lang/Math", "floorMod", "(JJ)J"⟩ prog_11_method_52_code 6 (some .long) ∈ GT := gtm_3 81 rfl rfl
theorem w_619 : Cond.methodLink "TensMill" 223 ⟨"TensMill$Layout", "length", "()J"⟩ ∈ GT := gtm_3 82 rfl rfl
theorem w_620 : Cond.instanceMethod ⟨"TensMill$Layout", "length", "()J"⟩ ∈ GT := gtm_3 83 rfl rfl
theorem w_621 : Cond.selects "TensMill$Layout" ⟨"TensMill$Layout", "length", "()J"⟩ ⟨"TensMill$Layout", "length", "()J"⟩ ∈ GT := gtm_3 84 rfl rfl
theorem w_622 : Cond.code ⟨"TensMill$Layout", "length", "()J"⟩ prog_3_method_4_code 7 (some .long) ∈ GT := gtm_3 85 rfl rfl
theorem w_623 : Cond.methodLink "TensMill$Layout" 69 ⟨"TensMill$Layout", "highestUnit", "()J"⟩ ∈ GT := gtm_3 86 rfl rfl
theorem w_625 : Cond.instanceMethod ⟨"TensMill$Layout", "highestUnit", "()J"⟩ ∈ GT := gtm_3 88 rfl rfl
theorem w_626 : Cond.code ⟨"TensMill$Layout", "highestUnit", "()J"⟩ prog_3_method_7_code 5 (some .long) ∈ GT := gtm_3 89 rfl rfl
theorem w_627 : Cond.methodLink "TensMill$Layout" 97 ⟨"java/lang/Math", "abs", "(J)J"⟩ ∈ GT := gtm_3 90 rfl rfl
theorem w_628 : Cond.static ⟨"java/lang/Math", "abs", "(J)J"⟩ ∈ GT := gtm_3 91 rfl rfl
theorem w_629 : Cond.code ⟨"java/lang/Math", "abs", "(J)J"⟩ prog_11_method_61_code 2 (some .long) ∈ GT := gtm_3 92 rfl rfl
theorem w_630 : Cond.constantLong "TensMill$Layout" 101 1000000000000 ∈ GT := gtm_3 93 rfl rfl
theorem w_631 : Cond.constantLong "TensMill$Layout" 73 10 ∈ GT := gtm_3 94 rfl rfl
theorem w_632 : Cond.constantLong "TensMill" 226 6000 ∈ GT := gtm_3 95 rfl rfl
theorem w_633 : Cond.methodLink "TensMill" 228 ⟨"TensMill$Layout", "lay", "(LTensMill$Natural;LTensMill$Text;)V"⟩ ∈ GT := gtm_3 96 rfl rfl
theorem w_634 : Cond.instanceMethod ⟨"TensMill$Layout", "lay", "(LTensMill$Natural;LTensMill$Text;)V"⟩ ∈ GT := gtm_3 97 rfl rfl
theorem w_635 : Cond.selects "TensMill$Layout" ⟨"TensMill$Layout", "lay", "(LTensMill$Natural;LTensMill$Text;)V"⟩ ⟨"TensMill$Layout", "lay", "(LTensMill$Natural;LTensMill$Text;)V"⟩ ∈ GT := gtm_3 98 rfl rfl
theorem w_636 : Cond.code ⟨"TensMill$Layout", "lay", "(LTensMill$Natural;LTensMill$Text;)V"⟩ prog_3_method_5_code 6 none ∈ GT := gtm_3 99 rfl rfl
theorem w_637 : Cond.methodLink "TensMill$Layout" 80 ⟨"TensMill$Layout", "length", "()J"⟩ ∈ GT := gtm_3 100 rfl rfl
theorem w_638 : Cond.methodLink "TensMill$Layout" 82 ⟨"TensMill$Text", "makeRoom", "(I)V"⟩ ∈ GT := gtm_3 101 rfl rfl
theorem w_639 : Cond.methodLink "TensMill$Layout" 86 ⟨"TensMill$Text", "append", "(I)V"⟩ ∈ GT := gtm_3 102 rfl rfl
theorem w_640 : Cond.methodLink "TensMill$Layout" 89 ⟨"TensMill$Natural", "digitAt", "(I)I"⟩ ∈ GT := gtm_3 103 rfl rfl
theorem w_641 : Cond.methodLink "TensMill$Layout" 93 ⟨"TensMill$Layout", "layExponent", "(LTensMill$Text;)V"⟩ ∈ GT := gtm_3 104 rfl rfl
theorem w_643 : Cond.instanceMethod ⟨"TensMill$Layout", "layExponent", "(LTensMill$Text;)V"⟩ ∈ GT := gtm_3 106 rfl rfl
theorem w_644 : Cond.code ⟨"TensMill$Layout", "layExponent", "(LTensMill$Text;)V"⟩ prog_3_method_6_code 6 none ∈ GT := gtm_3 107 rfl rfl
theorem w_645 : Cond.methodLink "TensMillLaw" 113 ⟨"TensMill", "characterAt", "(I)I"⟩ ∈ GT := gtm_3 108 rfl rfl
theorem w_646 : Cond.instanceMethod ⟨"TensMill", "characterAt", "(I)I"⟩ ∈ GT := gtm_3 109 rfl rfl
theorem w_647 : Cond.selects "TensMill" ⟨"TensMill", "characterAt", "(I)I"⟩ ⟨"TensMill", "characterAt", "(I)I"⟩ ∈ GT := gtm_3 110 rfl rfl
theorem w_648 : Cond.code ⟨"TensMill", "characterAt", "(I)I"⟩ prog_1_method_24_code 2 (some .int) ∈ GT := gtm_3 111 rfl rfl
theorem w_649 : Cond.methodLink "TensMill" 232 ⟨"TensMill$Text", "codeAt", "(I)I"⟩ ∈ GT := gtm_3 112 rfl rfl
theorem w_650 : Cond.classLink "TensMillLaw" 10 "TensMillModel" ∈ GT := gtm_3 113 rfl rfl
theorem w_651 : Cond.instantiable "TensMillModel" 11 ∈ GT := gtm_3 114 rfl rfl
theorem w_652 : Cond.methodLink "TensMillLaw" 12 ⟨"TensMillModel", "<init>", "()V"⟩ ∈ GT := gtm_3 115 rfl rfl
theorem w_653 : Cond.instanceMethod ⟨"TensMillModel", "<init>", "()V"⟩ ∈ GT := gtm_3 116 rfl rfl
theorem w_654 : Cond.code ⟨"TensMillModel", "<init>", "()V"⟩ prog_8_method_1_code 1 none ∈ GT := gtm_3 117 rfl rfl
theorem w_655 : Cond.methodLink "TensMillModel" 1 ⟨"java/lang/Object", "<init>", "()V"⟩ ∈ GT := gtm_3 118 rfl rfl
theorem w_656 : Cond.constant "TensMillModel" 7 32768 ∈ GT := gtm_3 119 rfl rfl
theorem w_657 : Cond.constant "TensMillModel" 23 68000 ∈ GT := gtm_3 120 rfl rfl
theorem w_658 : Cond.fieldLink "TensMillModel" 8 "TensMillModel" "digits" "[I" ∈ GT := gtm_3 121 rfl rfl
theorem w_659 : Cond.fieldLink "TensMillModel" 14 "TensMillModel" "sizes" "[I" ∈ GT := gtm_3 122 rfl rfl
theorem w_660 : Cond.fieldLink "TensMillModel" 17 "TensMillModel" "signs" "[I" ∈ GT := gtm_3 123 rfl rfl
theorem w_661 : Cond.fieldLink "TensMillModel" 20 "TensMillModel" "scales" "[I" ∈ GT := gtm_3 124 rfl rfl
theorem w_662 : Cond.fieldLink "TensMillModel" 24 "TensMillModel" "m" "[I" ∈ GT := gtm_3 125 rfl rfl
theorem w_663 : Cond.fieldLink "TensMillModel" 27 "TensMillModel" "n" "[I" ∈ GT := gtm_3 126 rfl rfl
theorem w_664 : Cond.fieldLink "TensMillModel" 40 "TensMillModel" "left" "I" ∈ GT := gtm_3 127 rfl rfl
theorem w_665 : Cond.fieldLink "TensMillModel" 159 "TensMillModel" "typed" "I" ∈ GT := gtm_3 128 rfl rfl
theorem w_666 : Cond.fieldLink "TensMillModel" 30 "TensMillModel" "text" "[I" ∈ GT := gtm_3 129 rfl rfl
theorem w_667 : Cond.fieldLink "TensMillModel" 169 "TensMillModel" "written" "I" ∈ GT := gtm_3 130 rfl rfl
theorem w_668 : Cond.fieldLink "TensMillModel" 33 "TensMillModel" "out" "[I" ∈ GT := gtm_3 131 rfl rfl
theorem w_692 : Cond.methodLink "TensMillLaw" 19 ⟨"TensMillModel", "put", "(IJI)Z"⟩ ∈ GT := gtm_3 155 rfl rfl
theorem w_693 : Cond.instanceMethod ⟨"TensMillModel", "put", "(IJI)Z"⟩ ∈ GT := gtm_3 156 rfl rfl
theorem w_694 : Cond.selects "TensMillModel" ⟨"TensMillModel", "put", "(IJI)Z"⟩ ⟨"TensMillModel", "put", "(IJI)Z"⟩ ∈ GT := gtm_3 157 rfl rfl
theorem w_695 : Cond.code ⟨"TensMillModel", "put", "(IJI)Z"⟩ prog_8_method_22_code 9 (some .boolean) ∈ GT := gtm_3 158 rfl rfl
theorem w_696 : Cond.methodLink "TensMillModel" 83 ⟨"TensMillModel", "is", "(I)Z"⟩ ∈ GT := gtm_3 159 rfl rfl
theorem w_697 : Cond.static ⟨"TensMillModel", "is", "(I)Z"⟩ ∈ GT := gtm_3 160 rfl rfl
theorem w_698 : Cond.code ⟨"TensMillModel", "is", "(I)Z"⟩ prog_8_method_2_code 1 (some .boolean) ∈ GT := gtm_3 161 rfl rfl
theorem w_699 : Cond.constantLong "TensMillModel" 87 10 ∈ GT := gtm_3 162 rfl rfl
theorem w_700 : Cond.methodLink "TensMillModel" 75 ⟨"TensMillModel", "store", "(IIIJ)Z"⟩ ∈ GT := gtm_3 163 rfl rfl
theorem w_702 : Cond.instanceMethod ⟨"TensMillModel", "store", "(IIIJ)Z"⟩ ∈ GT := gtm_3 165 rfl rfl
theorem w_703 : Cond.code ⟨"TensMillModel", "store", "(IIIJ)Z"⟩ prog_8_method_7_code 7 (some .boolean) ∈ GT := gtm_3 166 rfl rfl
theorem w_704 : Cond.constantLong "TensMillModel" 36 (-2147483648) ∈ GT := gtm_3 167 rfl rfl
theorem w_705 : Cond.constantLong "TensMillModel" 38 2147483647 ∈ GT := gtm_3 168 rfl rfl
theorem w_706 : Cond.methodLink "TensMillLaw" 24 ⟨"TensMillModel", "copy", "(IIZ)Z"⟩ ∈ GT := gtm_3 169 rfl rfl
theorem w_707 : Cond.instanceMethod ⟨"TensMillModel", "copy", "(IIZ)Z"⟩ ∈ GT := gtm_3 170 rfl rfl
theorem w_708 : Cond.selects "TensMillModel" ⟨"TensMillModel", "copy", "(IIZ)Z"⟩ ⟨"TensMillModel", "copy", "(IIZ)Z"⟩ ∈ GT := gtm_3 171 rfl rfl
theorem w_709 : Cond.code ⟨"TensMillModel", "copy", "(IIZ)Z"⟩ prog_8_method_23_code 4 (some .boolean) ∈ GT := gtm_3 172 rfl rfl
theorem w_710 : Cond.methodLink "TensMillModel" 89 ⟨"TensMillModel", "load", "(II)V"⟩ ∈ GT := gtm_3 173 rfl rfl
theorem w_712 : Cond.instanceMethod ⟨"TensMillModel", "load", "(II)V"⟩ ∈ GT := gtm_3 175 rfl rfl
theorem w_713 : Cond.code ⟨"TensMillModel", "load", "(II)V"⟩ prog_8_method_6_code 4 none ∈ GT := gtm_3 176 rfl rfl
theorem w_714 : Cond.methodLink "TensMillLaw" 29 ⟨"TensMillModel", "add", "(III)Z"⟩ ∈ GT := gtm_3 177 rfl rfl
theorem w_715 : Cond.instanceMethod ⟨"TensMillModel", "add", "(III)Z"⟩ ∈ GT := gtm_3 178 rfl rfl
theorem w_716 : Cond.selects "TensMillModel" ⟨"TensMillModel", "add", "(III)Z"⟩ ⟨"TensMillModel", "add", "(III)Z"⟩ ∈ GT := gtm_3 179 rfl rfl
theorem w_717 : Cond.code ⟨"TensMillModel", "add", "(III)Z"⟩ prog_8_method_25_code 4 (some .boolean) ∈ GT := gtm_3 180 rfl rfl
theorem w_718 : Cond.methodLink "TensMillModel" 97 ⟨"TensMillModel", "sum", "(IIII)Z"⟩ ∈ GT := gtm_3 181 rfl rfl
theorem w_720 : Cond.instanceMethod ⟨"TensMillModel", "sum", "(IIII)Z"⟩ ∈ GT := gtm_3 183 rfl rfl
theorem w_721 : Cond.code ⟨"TensMillModel", "sum", "(IIII)Z"⟩ prog_8_method_24_code 12 (some .boolean) ∈ GT := gtm_3 184 rfl rfl
theorem w_722 : Cond.constantLong "TensMillModel" 92 4100 ∈ GT := gtm_3 185 rfl rfl
theorem w_723 : Cond.methodLink "TensMillModel" 49 ⟨"TensMillModel", "raise", "(II)V"⟩ ∈ GT := gtm_3 186 rfl rfl
theorem w_725 : Cond.instanceMethod ⟨"TensMillModel", "raise", "(II)V"⟩ ∈ GT := gtm_3 188 rfl rfl
theorem w_726 : Cond.code ⟨"TensMillModel", "raise", "(II)V"⟩ prog_8_method_8_code 4 none ∈ GT := gtm_3 189 rfl rfl
theorem w_727 : Cond.methodLink "TensMillModel" 94 ⟨"TensMillModel", "plus", "(II)V"⟩ ∈ GT := gtm_3 190 rfl rfl
theorem w_729 : Cond.instanceMethod ⟨"TensMillModel", "plus", "(II)V"⟩ ∈ GT := gtm_3 192 rfl rfl
theorem w_730 : Cond.code ⟨"TensMillModel", "plus", "(II)V"⟩ prog_8_method_12_code 7 none ∈ GT := gtm_3 193 rfl rfl
theorem w_731 : Cond.methodLink "TensMillModel" 44 ⟨"TensMillModel", "trim", "(II)V"⟩ ∈ GT := gtm_3 194 rfl rfl
theorem w_733 : Cond.instanceMethod ⟨"TensMillModel", "trim", "(II)V"⟩ ∈ GT := gtm_3 196 rfl rfl
theorem w_734 : Cond.code ⟨"TensMillModel", "trim", "(II)V"⟩ prog_8_method_5_code 4 none ∈ GT := gtm_3 197 rfl rfl
theorem w_735 : Cond.methodLink "TensMillModel" 53 ⟨"TensMillModel", "compareRows", "(II)I"⟩ ∈ GT := gtm_3 198 rfl rfl
theorem w_737 : Cond.instanceMethod ⟨"TensMillModel", "compareRows", "(II)I"⟩ ∈ GT := gtm_3 200 rfl rfl
theorem w_738 : Cond.code ⟨"TensMillModel", "compareRows", "(II)I"⟩ prog_8_method_11_code 4 (some .int) ∈ GT := gtm_3 201 rfl rfl
theorem w_739 : Cond.methodLink "TensMillModel" 57 ⟨"TensMillModel", "less", "(II)V"⟩ ∈ GT := gtm_3 202 rfl rfl
theorem w_741 : Cond.instanceMethod ⟨"TensMillModel", "less", "(II)V"⟩ ∈ GT := gtm_3 204 rfl rfl
theorem w_742 : Cond.code ⟨"TensMillModel", "less", "(II)V"⟩ prog_8_method_13_code 6 none ∈ GT := gtm_3 205 rfl rfl
theorem w_743 : Cond.methodLink "TensMillLaw" 33 ⟨"TensMillModel", "take", "(III)Z"⟩ ∈ GT := gtm_3 206 rfl rfl
theorem w_744 : Cond.instanceMethod ⟨"TensMillModel", "take", "(III)Z"⟩ ∈ GT := gtm_3 207 rfl rfl
theorem w_745 : Cond.selects "TensMillModel" ⟨"TensMillModel", "take", "(III)Z"⟩ ⟨"TensMillModel", "take", "(III)Z"⟩ ∈ GT := gtm_3 208 rfl rfl
theorem w_746 : Cond.code ⟨"TensMillModel", "take", "(III)Z"⟩ prog_8_method_26_code 4 (some .boolean) ∈ GT := gtm_3 209 rfl rfl
theorem w_747 : Cond.methodLink "TensMillLaw" 37 ⟨"TensMillModel", "times", "(III)Z"⟩ ∈ GT := gtm_3 210 rfl rfl
theorem w_748 : Cond.instanceMethod ⟨"TensMillModel", "times", "(III)Z"⟩ ∈ GT := gtm_3 211 rfl rfl
theorem w_749 : Cond.selects "TensMillModel" ⟨"TensMillModel", "times", "(III)Z"⟩ ⟨"TensMillModel", "times", "(III)Z"⟩ ∈ GT := gtm_3 212 rfl rfl
theorem w_750 : Cond.code ⟨"TensMillModel", "times", "(III)Z"⟩ prog_8_method_27_code 4 (some .boolean) ∈ GT := gtm_3 213 rfl rfl
theorem w_751 : Cond.methodLink "TensMillModel" 101 ⟨"TensMillModel", "product", "()V"⟩ ∈ GT := gtm_3 214 rfl rfl
theorem w_753 : Cond.instanceMethod ⟨"TensMillModel", "product", "()V"⟩ ∈ GT := gtm_3 216 rfl rfl
theorem w_754 : Cond.code ⟨"TensMillModel", "product", "()V"⟩ prog_8_method_15_code 7 none ∈ GT := gtm_3 217 rfl rfl
theorem w_755 : Cond.constant "TensMillModel" 48 34000 ∈ GT := gtm_3 218 rfl rfl
theorem w_756 : Cond.methodLink "TensMillLaw" 41 ⟨"TensMillModel", "power", "(III)Z"⟩ ∈ GT := gtm_3 219 rfl rfl
theorem w_757 : Cond.instanceMethod ⟨"TensMillModel", "power", "(III)Z"⟩ ∈ GT := gtm_3 220 rfl rfl
theorem w_758 : Cond.selects "TensMillModel" ⟨"TensMillModel", "power", "(III)Z"⟩ ⟨"TensMillModel", "power", "(III)Z"⟩ ∈ GT := gtm_3 221 rfl rfl
theorem w_759 : Cond.code ⟨"TensMillModel", "power", "(III)Z"⟩ prog_8_method_28_code 9 (some .boolean) ∈ GT := gtm_3 222 rfl rfl
theorem w_760 : Cond.methodLink "TensMillLaw" 46 ⟨"TensMillModel", "divide", "(IIIII)Z"⟩ ∈ GT := gtm_3 223 rfl rfl
theorem w_761 : Cond.instanceMethod ⟨"TensMillModel", "divide", "(IIIII)Z"⟩ ∈ GT := gtm_3 224 rfl rfl
theorem w_762 : Cond.selects "TensMillModel" ⟨"TensMillModel", "divide", "(IIIII)Z"⟩ ⟨"TensMillModel", "divide", "(IIIII)Z"⟩ ∈ GT := gtm_3 225 rfl rfl
theorem w_763 : Cond.code ⟨"TensMillModel", "divide", "(IIIII)Z"⟩ prog_8_method_29_code 11 (some .boolean) ∈ GT := gtm_3 226 rfl rfl
theorem w_764 : Cond.methodLink "TensMillModel" 104 ⟨"TensMillModel", "isRounding", "(I)Z"⟩ ∈ GT := gtm_3 227 rfl rfl
theorem w_765 : Cond.static ⟨"TensMillModel", "isRounding", "(I)Z"⟩ ∈ GT := gtm_3 228 rfl rfl
theorem w_766 : Cond.code ⟨"TensMillModel", "isRounding", "(I)Z"⟩ prog_8_method_3_code 1 (some .boolean) ∈ GT := gtm_3 229 rfl rfl
theorem w_767 : Cond.constantLong "TensMillModel" 107 4096 ∈ GT := gtm_3 230 rfl rfl
theorem w_768 : Cond.constantLong "TensMillModel" 109 (-1) ∈ GT := gtm_3 231 rfl rfl
theorem w_769 : Cond.methodLink "TensMillModel" 111 ⟨"TensMillModel", "quotient", "()V"⟩ ∈ GT := gtm_3 232 rfl rfl
theorem w_771 : Cond.instanceMethod ⟨"TensMillModel", "quotient", "()V"⟩ ∈ GT := gtm_3 234 rfl rfl
theorem w_772 : Cond.code ⟨"TensMillModel", "quotient", "()V"⟩ prog_8_method_17_code 2 none ∈ GT := gtm_3 235 rfl rfl
theorem w_773 : Cond.methodLink "TensMillModel" 60 ⟨"TensMillModel", "step", "(I)I"⟩ ∈ GT := gtm_3 236 rfl rfl
theorem w_775 : Cond.instanceMethod ⟨"TensMillModel", "step", "(I)I"⟩ ∈ GT := gtm_3 238 rfl rfl
theorem w_776 : Cond.code ⟨"TensMillModel", "step", "(I)I"⟩ prog_8_method_16_code 3 (some .int) ∈ GT := gtm_3 239 rfl rfl
theorem w_777 : Cond.constant "TensMillModel" 52 51000 ∈ GT := gtm_4 0 rfl rfl
theorem w_778 : Cond.methodLink "TensMillModel" 64 ⟨"TensMillModel", "judge", "()V"⟩ ∈ GT := gtm_4 1 rfl rfl
theorem w_780 : Cond.instanceMethod ⟨"TensMillModel", "judge", "()V"⟩ ∈ GT := gtm_4 3 rfl rfl
theorem w_781 : Cond.code ⟨"TensMillModel", "judge", "()V"⟩ prog_8_method_18_code 6 none ∈ GT := gtm_4 4 rfl rfl
theorem w_782 : Cond.methodLink "TensMillModel" 114 ⟨"TensMillModel", "finish", "(IIIJI)Z"⟩ ∈ GT := gtm_4 5 rfl rfl
theorem w_784 : Cond.instanceMethod ⟨"TensMillModel", "finish", "(IIIJI)Z"⟩ ∈ GT := gtm_4 7 rfl rfl
theorem w_785 : Cond.code ⟨"TensMillModel", "finish", "(IIIJI)Z"⟩ prog_8_method_20_code 7 (some .boolean) ∈ GT := gtm_4 8 rfl rfl
theorem w_786 : Cond.methodLink "TensMillModel" 67 ⟨"TensMillModel", "goesUp", "(III)Z"⟩ ∈ GT := gtm_4 9 rfl rfl
theorem w_788 : Cond.instanceMethod ⟨"TensMillModel", "goesUp", "(III)Z"⟩ ∈ GT := gtm_4 11 rfl rfl
theorem w_789 : Cond.code ⟨"TensMillModel", "goesUp", "(III)Z"⟩ prog_8_method_19_code 6 (some .boolean) ∈ GT := gtm_4 12 rfl rfl
theorem w_790 : Cond.methodLink "TensMillModel" 71 ⟨"TensMillModel", "one", "(I)V"⟩ ∈ GT := gtm_4 13 rfl rfl
theorem w_792 : Cond.instanceMethod ⟨"TensMillModel", "one", "(I)V"⟩ ∈ GT := gtm_4 15 rfl rfl
theorem w_793 : Cond.code ⟨"TensMillModel", "one", "(I)V"⟩ prog_8_method_14_code 3 none ∈ GT := gtm_4 16 rfl rfl
theorem w_794 : Cond.methodLink "TensMillLaw" 50 ⟨"TensMillModel", "ratio", "(IIIII)Z"⟩ ∈ GT := gtm_4 17 rfl rfl
theorem w_795 : Cond.instanceMethod ⟨"TensMillModel", "ratio", "(IIIII)Z"⟩ ∈ GT := gtm_4 18 rfl rfl
theorem w_796 : Cond.selects "TensMillModel" ⟨"TensMillModel", "ratio", "(IIIII)Z"⟩ ⟨"TensMillModel", "ratio", "(IIIII)Z"⟩ ∈ GT := gtm_4 19 rfl rfl
theorem w_797 : Cond.code ⟨"TensMillModel", "ratio", "(IIIII)Z"⟩ prog_8_method_30_code 14 (some .boolean) ∈ GT := gtm_4 20 rfl rfl
theorem w_798 : Cond.methodLink "TensMillModel" 118 ⟨"TensMillModel", "isPrecision", "(I)Z"⟩ ∈ GT := gtm_4 21 rfl rfl
theorem w_799 : Cond.static ⟨"TensMillModel", "isPrecision", "(I)Z"⟩ ∈ GT := gtm_4 22 rfl rfl
theorem w_800 : Cond.code ⟨"TensMillModel", "isPrecision", "(I)Z"⟩ prog_8_method_4_code 1 (some .boolean) ∈ GT := gtm_4 23 rfl rfl
theorem w_801 : Cond.methodLink "TensMillModel" 121 ⟨"TensMillModel", "exact", "(IIJ)Z"⟩ ∈ GT := gtm_4 24 rfl rfl
theorem w_803 : Cond.instanceMethod ⟨"TensMillModel", "exact", "(IIJ)Z"⟩ ∈ GT := gtm_4 26 rfl rfl
theorem w_804 : Cond.code ⟨"TensMillModel", "exact", "(IIJ)Z"⟩ prog_8_method_32_code 7 (some .boolean) ∈ GT := gtm_4 27 rfl rfl
theorem w_805 : Cond.methodLink "TensMillModel" 79 ⟨"TensMillModel", "lower", "(IJ)V"⟩ ∈ GT := gtm_4 28 rfl rfl
theorem w_807 : Cond.instanceMethod ⟨"TensMillModel", "lower", "(IJ)V"⟩ ∈ GT := gtm_4 30 rfl rfl
theorem w_808 : Cond.code ⟨"TensMillModel", "lower", "(IJ)V"⟩ prog_8_method_9_code 8 none ∈ GT := gtm_4 31 rfl rfl
theorem w_809 : Cond.methodLink "TensMillModel" 125 ⟨"TensMillModel", "finishTo", "(IIIJII)Z"⟩ ∈ GT := gtm_4 32 rfl rfl
theorem w_811 : Cond.instanceMethod ⟨"TensMillModel", "finishTo", "(IIIJII)Z"⟩ ∈ GT := gtm_4 34 rfl rfl
theorem w_812 : Cond.code ⟨"TensMillModel", "finishTo", "(IIIJII)Z"⟩ prog_8_method_21_code 10 (some .boolean) ∈ GT := gtm_4 35 rfl rfl
theorem w_813 : Cond.methodLink "TensMillModel" 129 ⟨"TensMillModel", "settle", "(IIJJI)Z"⟩ ∈ GT := gtm_4 36 rfl rfl
theorem w_815 : Cond.instanceMethod ⟨"TensMillModel", "settle", "(IIJJI)Z"⟩ ∈ GT := gtm_4 38 rfl rfl
theorem w_816 : Cond.code ⟨"TensMillModel", "settle", "(IIJJI)Z"⟩ prog_8_method_31_code 13 (some .boolean) ∈ GT := gtm_4 39 rfl rfl
theorem w_817 : Cond.methodLink "TensMillModel" 133 ⟨"TensMillModel", "zeros", "(I)I"⟩ ∈ GT := gtm_4 40 rfl rfl
theorem w_819 : Cond.instanceMethod ⟨"TensMillModel", "zeros", "(I)I"⟩ ∈ GT := gtm_4 42 rfl rfl
theorem w_820 : Cond.code ⟨"TensMillModel", "zeros", "(I)I"⟩ prog_8_method_10_code 3 (some .int) ∈ GT := gtm_4 43 rfl rfl
theorem w_821 : Cond.methodLink "TensMillLaw" 55 ⟨"TensMillModel", "whole", "(IIII)Z"⟩ ∈ GT := gtm_4 44 rfl rfl
theorem w_822 : Cond.instanceMethod ⟨"TensMillModel", "whole", "(IIII)Z"⟩ ∈ GT := gtm_4 45 rfl rfl
theorem w_823 : Cond.selects "TensMillModel" ⟨"TensMillModel", "whole", "(IIII)Z"⟩ ⟨"TensMillModel", "whole", "(IIII)Z"⟩ ∈ GT := gtm_4 46 rfl rfl
theorem w_824 : Cond.code ⟨"TensMillModel", "whole", "(IIII)Z"⟩ prog_8_method_33_code 14 (some .boolean) ∈ GT := gtm_4 47 rfl rfl
theorem w_825 : Cond.methodLink "TensMillModel" 136 ⟨"TensMillModel", "remains", "(IIIIJIII)Z"⟩ ∈ GT := gtm_4 48 rfl rfl
theorem w_827 : Cond.instanceMethod ⟨"TensMillModel", "remains", "(IIIIJIII)Z"⟩ ∈ GT := gtm_4 50 rfl rfl
theorem w_828 : Cond.code ⟨"TensMillModel", "remains", "(IIIIJIII)Z"⟩ prog_8_method_34_code 15 (some .boolean) ∈ GT := gtm_4 51 rfl rfl
theorem w_829 : Cond.methodLink "TensMillLaw" 59 ⟨"TensMillModel", "root", "(IIII)Z"⟩ ∈ GT := gtm_4 52 rfl rfl
theorem w_830 : Cond.instanceMethod ⟨"TensMillModel", "root", "(IIII)Z"⟩ ∈ GT := gtm_4 53 rfl rfl
theorem w_831 : Cond.selects "TensMillModel" ⟨"TensMillModel", "root", "(IIII)Z"⟩ ⟨"TensMillModel", "root", "(IIII)Z"⟩ ∈ GT := gtm_4 54 rfl rfl
theorem w_832 : Cond.code ⟨"TensMillModel", "root", "(IIII)Z"⟩ prog_8_method_36_code 12 (some .boolean) ∈ GT := gtm_4 55 rfl rfl
theorem w_833 : Cond.methodLink "TensMillModel" 142 ⟨"TensMillModel", "half", "(J)J"⟩ ∈ GT := gtm_4 56 rfl rfl
theorem w_834 : Cond.static ⟨"TensMillModel", "half", "(J)J"⟩ ∈ GT := gtm_4 57 rfl rfl
theorem w_835 : Cond.code ⟨"TensMillModel", "half", "(J)J"⟩ prog_8_method_35_code 2 (some .long) ∈ GT := gtm_4 58 rfl rfl
theorem w_836 : Cond.constantLong "TensMillModel" 140 2 ∈ GT := gtm_4 59 rfl rfl
theorem w_837 : Cond.methodLink "TensMillModel" 146 ⟨"TensMillModel", "extract", "()V"⟩ ∈ GT := gtm_4 60 rfl rfl
theorem w_839 : Cond.instanceMethod ⟨"TensMillModel", "extract", "()V"⟩ ∈ GT := gtm_4 62 rfl rfl
theorem w_840 : Cond.code ⟨"TensMillModel", "extract", "()V"⟩ prog_8_method_37_code 3 none ∈ GT := gtm_4 63 rfl rfl
theorem w_841 : Cond.methodLink "TensMillModel" 149 ⟨"TensMillModel", "bring", "(I)V"⟩ ∈ GT := gtm_4 64 rfl rfl
theorem w_843 : Cond.instanceMethod ⟨"TensMillModel", "bring", "(I)V"⟩ ∈ GT := gtm_4 66 rfl rfl
theorem w_844 : Cond.code ⟨"TensMillModel", "bring", "(I)V"⟩ prog_8_method_38_code 2 none ∈ GT := gtm_4 67 rfl rfl
theorem w_845 : Cond.methodLink "TensMillLaw" 63 ⟨"TensMillModel", "rescale", "(IIII)Z"⟩ ∈ GT := gtm_4 68 rfl rfl
theorem w_846 : Cond.instanceMethod ⟨"TensMillModel", "rescale", "(IIII)Z"⟩ ∈ GT := gtm_4 69 rfl rfl
theorem w_847 : Cond.selects "TensMillModel" ⟨"TensMillModel", "rescale", "(IIII)Z"⟩ ⟨"TensMillModel", "rescale", "(IIII)Z"⟩ ∈ GT := gtm_4 70 rfl rfl
theorem w_848 : Cond.code ⟨"TensMillModel", "rescale", "(IIII)Z"⟩ prog_8_method_39_code 7 (some .boolean) ∈ GT := gtm_4 71 rfl rfl
theorem w_849 : Cond.methodLink "TensMillLaw" 67 ⟨"TensMillModel", "round", "(IIII)Z"⟩ ∈ GT := gtm_4 72 rfl rfl
theorem w_850 : Cond.instanceMethod ⟨"TensMillModel", "round", "(IIII)Z"⟩ ∈ GT := gtm_4 73 rfl rfl
theorem w_851 : Cond.selects "TensMillModel" ⟨"TensMillModel", "round", "(IIII)Z"⟩ ⟨"TensMillModel", "round", "(IIII)Z"⟩ ∈ GT := gtm_4 74 rfl rfl
theorem w_852 : Cond.code ⟨"TensMillModel", "round", "(IIII)Z"⟩ prog_8_method_40_code 6 (some .boolean) ∈ GT := gtm_4 75 rfl rfl
theorem w_853 : Cond.methodLink "TensMillLaw" 72 ⟨"TensMillModel", "strip", "(II)Z"⟩ ∈ GT := gtm_4 76 rfl rfl
theorem w_854 : Cond.instanceMethod ⟨"TensMillModel", "strip", "(II)Z"⟩ ∈ GT := gtm_4 77 rfl rfl
theorem w_855 : Cond.selects "TensMillModel" ⟨"TensMillModel", "strip", "(II)Z"⟩ ⟨"TensMillModel", "strip", "(II)Z"⟩ ∈ GT := gtm_4 78 rfl rfl
theorem w_856 : Cond.code ⟨"TensMillModel", "strip", "(II)Z"⟩ prog_8_method_41_code 4 (some .boolean) ∈ GT := gtm_4 79 rfl rfl
theorem w_857 : Cond.methodLink "TensMillLaw" 76 ⟨"TensMillModel", "move", "(III)Z"⟩ ∈ GT := gtm_4 80 rfl rfl
theorem w_858 : Cond.instanceMethod ⟨"TensMillModel", "move", "(III)Z"⟩ ∈ GT := gtm_4 81 rfl rfl
theorem w_859 : Cond.selects "TensMillModel" ⟨"TensMillModel", "move", "(III)Z"⟩ ⟨"TensMillModel", "move", "(III)Z"⟩ ∈ GT := gtm_4 82 rfl rfl
theorem w_860 : Cond.code ⟨"TensMillModel", "move", "(III)Z"⟩ prog_8_method_42_code 4 (some .boolean) ∈ GT := gtm_4 83 rfl rfl
theorem w_861 : Cond.methodLink "TensMillLaw" 81 ⟨"TensMillModel", "compare", "(II)I"⟩ ∈ GT := gtm_4 84 rfl rfl
theorem w_862 : Cond.instanceMethod ⟨"TensMillModel", "compare", "(II)I"⟩ ∈ GT := gtm_4 85 rfl rfl
theorem w_863 : Cond.selects "TensMillModel" ⟨"TensMillModel", "compare", "(II)I"⟩ ⟨"TensMillModel", "compare", "(II)I"⟩ ∈ GT := gtm_4 86 rfl rfl
theorem w_864 : Cond.code ⟨"TensMillModel", "compare", "(II)I"⟩ prog_8_method_43_code 11 (some .int) ∈ GT := gtm_4 87 rfl rfl
theorem w_865 : Cond.methodLink "TensMillLaw" 86 ⟨"TensMillModel", "sign", "(I)I"⟩ ∈ GT := gtm_4 88 rfl rfl
theorem w_866 : Cond.instanceMethod ⟨"TensMillModel", "sign", "(I)I"⟩ ∈ GT := gtm_4 89 rfl rfl
theorem w_867 : Cond.selects "TensMillModel" ⟨"TensMillModel", "sign", "(I)I"⟩ ⟨"TensMillModel", "sign", "(I)I"⟩ ∈ GT := gtm_4 90 rfl rfl
theorem w_868 : Cond.code ⟨"TensMillModel", "sign", "(I)I"⟩ prog_8_method_44_code 2 (some .int) ∈ GT := gtm_4 91 rfl rfl
theorem w_869 : Cond.methodLink "TensMillLaw" 90 ⟨"TensMillModel", "precision", "(I)I"⟩ ∈ GT := gtm_4 92 rfl rfl
theorem w_870 : Cond.instanceMethod ⟨"TensMillModel", "precision", "(I)I"⟩ ∈ GT := gtm_4 93 rfl rfl
theorem w_871 : Cond.selects "TensMillModel" ⟨"TensMillModel", "precision", "(I)I"⟩ ⟨"TensMillModel", "precision", "(I)I"⟩ ∈ GT := gtm_4 94 rfl rfl
theorem w_872 : Cond.code ⟨"TensMillModel", "precision", "(I)I"⟩ prog_8_method_46_code 2 (some .int) ∈ GT := gtm_4 95 rfl rfl
theorem w_873 : Cond.methodLink "TensMillModel" 152 ⟨"TensMillModel", "digitsOf", "(I)I"⟩ ∈ GT := gtm_4 96 rfl rfl
theorem w_875 : Cond.instanceMethod ⟨"TensMillModel", "digitsOf", "(I)I"⟩ ∈ GT := gtm_4 98 rfl rfl
theorem w_876 : Cond.code ⟨"TensMillModel", "digitsOf", "(I)I"⟩ prog_8_method_45_code 2 (some .int) ∈ GT := gtm_4 99 rfl rfl
theorem w_877 : Cond.methodLink "TensMillLaw" 94 ⟨"TensMillModel", "scale", "(I)I"⟩ ∈ GT := gtm_4 100 rfl rfl
theorem w_878 : Cond.instanceMethod ⟨"TensMillModel", "scale", "(I)I"⟩ ∈ GT := gtm_4 101 rfl rfl
theorem w_879 : Cond.selects "TensMillModel" ⟨"TensMillModel", "scale", "(I)I"⟩ ⟨"TensMillModel", "scale", "(I)I"⟩ ∈ GT := gtm_4 102 rfl rfl
theorem w_880 : Cond.code ⟨"TensMillModel", "scale", "(I)I"⟩ prog_8_method_47_code 2 (some .int) ∈ GT := gtm_4 103 rfl rfl
theorem w_881 : Cond.methodLink "TensMillLaw" 98 ⟨"TensMillModel", "digit", "(II)I"⟩ ∈ GT := gtm_4 104 rfl rfl
theorem w_882 : Cond.instanceMethod ⟨"TensMillModel", "digit", "(II)I"⟩ ∈ GT := gtm_4 105 rfl rfl
theorem w_883 : Cond.selects "TensMillModel" ⟨"TensMillModel", "digit", "(II)I"⟩ ⟨"TensMillModel", "digit", "(II)I"⟩ ∈ GT := gtm_4 106 rfl rfl
theorem w_884 : Cond.code ⟨"TensMillModel", "digit", "(II)I"⟩ prog_8_method_48_code 3 (some .int) ∈ GT := gtm_4 107 rfl rfl
theorem w_885 : Cond.methodLink "TensMillLaw" 103 ⟨"TensMillModel", "type", "(J)Z"⟩ ∈ GT := gtm_4 108 rfl rfl
theorem w_886 : Cond.instanceMethod ⟨"TensMillModel", "type", "(J)Z"⟩ ∈ GT := gtm_4 109 rfl rfl
theorem w_887 : Cond.selects "TensMillModel" ⟨"TensMillModel", "type", "(J)Z"⟩ ⟨"TensMillModel", "type", "(J)Z"⟩ ∈ GT := gtm_4 110 rfl rfl
theorem w_888 : Cond.code ⟨"TensMillModel", "type", "(J)Z"⟩ prog_8_method_49_code 8 (some .boolean) ∈ GT := gtm_4 111 rfl rfl
theorem w_889 : Cond.constantLong "TensMillModel" 155 255 ∈ GT := gtm_4 112 rfl rfl
theorem w_890 : Cond.constantLong "TensMillModel" 157 127 ∈ GT := gtm_4 113 rfl rfl
theorem w_891 : Cond.methodLink "TensMillLaw" 108 ⟨"TensMillModel", "read", "(I)Z"⟩ ∈ GT := gtm_4 114 rfl rfl
theorem w_892 : Cond.instanceMethod ⟨"TensMillModel", "read", "(I)Z"⟩ ∈ GT := gtm_4 115 rfl rfl
theorem w_893 : Cond.selects "TensMillModel" ⟨"TensMillModel", "read", "(I)Z"⟩ ⟨"TensMillModel", "read", "(I)Z"⟩ ∈ GT := gtm_4 116 rfl rfl
theorem w_894 : Cond.code ⟨"TensMillModel", "read", "(I)Z"⟩ prog_8_method_51_code 14 (some .boolean) ∈ GT := gtm_4 117 rfl rfl
theorem w_895 : Cond.methodLink "TensMillModel" 162 ⟨"TensMillModel", "isDigit", "(I)Z"⟩ ∈ GT := gtm_4 118 rfl rfl
theorem w_896 : Cond.static ⟨"TensMillModel", "isDigit", "(I)Z"⟩ ∈ GT := gtm_4 119 rfl rfl
theorem w_897 : Cond.code ⟨"TensMillModel", "isDigit", "(I)Z"⟩ prog_8_method_50_code 1 (some .boolean) ∈ GT := gtm_4 120 rfl rfl
theorem w_898 : Cond.constantLong "TensMillModel" 165 100000000000 ∈ GT := gtm_4 121 rfl rfl
theorem w_899 : Cond.constantLong "TensMillModel" 167 48 ∈ GT := gtm_4 122 rfl rfl
theorem w_900 : Cond.methodLink "TensMillLaw" 112 ⟨"TensMillModel", "write", "(II)I"⟩ ∈ GT := gtm_4 123 rfl rfl
theorem w_901 : Cond.instanceMethod ⟨"TensMillModel", "write", "(II)I"⟩ ∈ GT := gtm_4 124 rfl rfl
theorem w_902 : Cond.selects "TensMillModel" ⟨"TensMillModel", "write", "(II)I"⟩ ⟨"TensMillModel", "write", "(II)I"⟩ ∈ GT := gtm_4 125 rfl rfl
theorem w_903 : Cond.code ⟨"TensMillModel", "write", "(II)I"⟩ prog_8_method_58_code 12 (some .int) ∈ GT := gtm_4 126 rfl rfl
theorem w_904 : Cond.constantLong "TensMillModel" 184 (-6) ∈ GT := gtm_4 127 rfl rfl
theorem w_905 : Cond.methodLink "TensMillModel" 186 ⟨"TensMillModel", "plainSize", "(I)J"⟩ ∈ GT := gtm_4 128 rfl rfl
theorem w_907 : Cond.instanceMethod ⟨"TensMillModel", "plainSize", "(I)J"⟩ ∈ GT := gtm_4 130 rfl rfl
theorem w_908 : Cond.code ⟨"TensMillModel", "plainSize", "(I)J"⟩ prog_8_method_56_code 6 (some .long) ∈ GT := gtm_4 131 rfl rfl
theorem w_909 : Cond.constantLong "TensMillModel" 190 6000 ∈ GT := gtm_4 132 rfl rfl
theorem w_910 : Cond.methodLink "TensMillModel" 174 ⟨"TensMillModel", "mark", "(I)Z"⟩ ∈ GT := gtm_4 133 rfl rfl
theorem w_912 : Cond.instanceMethod ⟨"TensMillModel", "mark", "(I)Z"⟩ ∈ GT := gtm_4 135 rfl rfl
theorem w_913 : Cond.code ⟨"TensMillModel", "mark", "(I)Z"⟩ prog_8_method_52_code 2 (some .boolean) ∈ GT := gtm_4 136 rfl rfl
theorem w_914 : Cond.methodLink "TensMillModel" 192 ⟨"TensMillModel", "plain", "(I)V"⟩ ∈ GT := gtm_4 137 rfl rfl
theorem w_916 : Cond.instanceMethod ⟨"TensMillModel", "plain", "(I)V"⟩ ∈ GT := gtm_4 139 rfl rfl
theorem w_917 : Cond.code ⟨"TensMillModel", "plain", "(I)V"⟩ prog_8_method_57_code 6 none ∈ GT := gtm_4 140 rfl rfl
theorem w_918 : Cond.methodLink "TensMillModel" 181 ⟨"TensMillModel", "front", "(II)I"⟩ ∈ GT := gtm_4 141 rfl rfl
theorem w_920 : Cond.instanceMethod ⟨"TensMillModel", "front", "(II)I"⟩ ∈ GT := gtm_4 143 rfl rfl
theorem w_921 : Cond.code ⟨"TensMillModel", "front", "(II)I"⟩ prog_8_method_55_code 3 (some .int) ∈ GT := gtm_4 144 rfl rfl
theorem w_922 : Cond.constantLong "TensMillModel" 195 3 ∈ GT := gtm_4 145 rfl rfl
theorem w_923 : Cond.methodLink "TensMillModel" 197 ⟨"TensMillModel", "putExponent", "(J)V"⟩ ∈ GT := gtm_4 146 rfl rfl
theorem w_925 : Cond.instanceMethod ⟨"TensMillModel", "putExponent", "(J)V"⟩ ∈ GT := gtm_4 148 rfl rfl
theorem w_926 : Cond.code ⟨"TensMillModel", "putExponent", "(J)V"⟩ prog_8_method_54_code 4 none ∈ GT := gtm_4 149 rfl rfl
theorem w_927 : Cond.methodLink "TensMillModel" 177 ⟨"TensMillModel", "putNumber", "(J)V"⟩ ∈ GT := gtm_4 150 rfl rfl
theorem w_929 : Cond.instanceMethod ⟨"TensMillModel", "putNumber", "(J)V"⟩ ∈ GT := gtm_4 152 rfl rfl
theorem w_930 : Cond.code ⟨"TensMillModel", "putNumber", "(J)V"⟩ prog_8_method_53_code 6 none ∈ GT := gtm_4 153 rfl rfl
theorem w_931 : Cond.constantLong "TensMillModel" 172 9 ∈ GT := gtm_4 154 rfl rfl
theorem w_932 : Cond.methodLink "TensMillLaw" 116 ⟨"TensMillModel", "characterAt", "(I)I"⟩ ∈ GT := gtm_4 155 rfl rfl
theorem w_933 : Cond.instanceMethod ⟨"TensMillModel", "characterAt", "(I)I"⟩ ∈ GT := gtm_4 156 rfl rfl
theorem w_934 : Cond.selects "TensMillModel" ⟨"TensMillModel", "characterAt", "(I)I"⟩ ⟨"TensMillModel", "characterAt", "(I)I"⟩ ∈ GT := gtm_4 157 rfl rfl
theorem w_935 : Cond.code ⟨"TensMillModel", "characterAt", "(I)I"⟩ prog_8_method_59_code 2 (some .int) ∈ GT := gtm_4 158 rfl rfl
theorem w_936 : Cond.constantLong "TensMillLaw" 13 4294967295 ∈ GT := gtm_4 159 rfl rfl
end
section
/-! ===== states: cells by their addresses; what a method's heap must look like ===== -/
abbrev Cel : Type := (FieldType × vp_A) ⊕ (Nat × List Value) ⊕ (Nat × (Nat → Int32))
abbrev St : Type := (Nat → Option Cel) × Nat × Nat
abbrev Gm : Type := va_G × (FieldType → ClassId) × Heap × Nat × (Nat → Option (Nat × (Nat → Int32)))
def okT (ty : FieldType) : Prop := ty = .int ∨ ty = .byte ∨ ty = .object "TensMill$Decimal"
def fitB (a : FieldType × vp_A) : Prop := a.1 = .byte → ∀ f : Nat → Int32, a.2.2 = .inl f → ∀ j, fits .byte (.int (f j)) = true
def atC (G : Gm) (q : Nat) (e : Cel) (H : Heap) : Prop := match e with
  | .inl a => okT a.1 ∧ H[q]? = some (vp_cell (G.2.1 a.1) a.2) ∧ fitB a
  | .inr (.inl o) => ∃ r : vw_C, vwCl[o.1]? = some r ∧ t_OB q (G.1.1 o.1) r.2.2 (G.1.2 o.1) H (vp_V o.2)
  | .inr (.inr x) => G.2.2.2.2 q = some x
def wrC (e : Cel) : Prop := match e with
  | .inr (.inr _) => False
  | _ => True
def Pic (G : Gm) (σ : St) (H : Heap) : Prop := H.size = σ.2.1 ∧ G.2.2.1.size ≤ σ.2.1 ∧ (∀ q, q < G.2.2.1.size → H[q]? = G.2.2.1[q]?) ∧ σ.2.2 = G.2.2.2.1 ∧ ∀ q e, σ.1 q = some e → atC G q e H ∧ (wrC e → G.2.2.1.size ≤ q)
def Aof (σ : St) (q : Nat) : Prop := (∃ e, σ.1 q = some e ∧ wrC e) ∨ σ.2.1 ≤ q
def KK (G : Gm) (U : State) : Prop := va_K G.1 vwCl [] U ∧ (∀ ty, okT ty → ArrOfT U (G.2.1 ty) ty ∧ va_RA U (G.2.1 ty) ty) ∧ va_Z "TensMill" "TENS" "[I" (.ref G.2.2.2.1) (fun q => G.2.2.1.size ≤ q) U G.2.2.1 ∧ (∀ q x, G.2.2.2.2 q = some x → va_T .int q x.1 (fun j => .int (x.2 j)) (fun q => G.2.2.1.size ≤ q) U G.2.2.1) ∧ (∀ w ∈ NW, va_Nw w U) ∧ va_AO "TensMill$Decimal" U
theorem fitI {n : Nat} {x : (Nat → Int32) ⊕ (Nat → Int64) ⊕ (Nat → UInt32) ⊕ (Nat → UInt64) ⊕ (Nat → Option Nat)} : fitB (.int, n, x) := fun h => by cases h
theorem fitA {C : String} {n : Nat} {x : (Nat → Int32) ⊕ (Nat → Int64) ⊕ (Nat → UInt32) ⊕ (Nat → UInt64) ⊕ (Nat → Option Nat)} : fitB (.object C, n, x) := fun h => by cases h
theorem fitBB {n : Nat} {f : Nat → Int32} (hf : ∀ j, fits .byte (.int (f j)) = true) : fitB (.byte, n, .inl f) := fun _ g hg j => by cases hg; exact hf j
theorem atC.lt {G : Gm} {q : Nat} {e : Cel} {H : Heap} (h : atC G q e H) (hw : wrC e) : q < H.size := by
  rcases e with a | o | x
  · exact (Array.getElem?_eq_some_iff.mp h.2.1).1
  · obtain ⟨r, h1, cell, h2, -⟩ := h
    exact (Array.getElem?_eq_some_iff.mp h2).1
  · exact hw.elim
theorem atC.kept {G : Gm} {q : Nat} {e : Cel} {H H1 : Heap} (h : atC G q e H) (hq : wrC e → H1[q]? = H[q]?) : atC G q e H1 := by
  rcases e with a | o | x
  · exact ⟨h.1, (hq trivial).trans h.2.1, h.2.2⟩
  · obtain ⟨r, h1, h2⟩ := h
    exact ⟨r, h1, h2.kept (hq trivial)⟩
  · exact h
theorem KK.warm {G : Gm} {s U : State} (hW : s.WarmedH U.vm) (h : KK G s) : KK G U := by
  obtain ⟨h1, h2, h3, h4, h5, h6⟩ := h
  refine ⟨h1.moved hW.alike, fun ty ht => ⟨arrOfT_moved hW.alike (h2 ty ht).1, (h2 ty ht).2.moved hW.alike⟩, h3.moved hW.alike, fun q x hx => (h4 q x hx).moved hW.alike, fun w hw => ?_, h6.moved hW.alike⟩
  exact NW_warm hW w hw (h5 w hw)
theorem KK.same {G : Gm} {s U : State} (hv : s.vm = U.vm) (h : KK G s) : KK G U := by
  obtain ⟨h1, h2, h3, h4, h5, h6⟩ := h
  have hA : s.vm.Alike U.vm := by rw [hv]; exact Vm.Alike.refl _
  exact ⟨h1.moved hA, fun ty ht => ⟨arrOfT_moved hA (h2 ty ht).1, (h2 ty ht).2.moved hA⟩, h3.moved hA, fun q x hx => (h4 q x hx).moved hA, fun w hw => va_Nw.same (NW_tab w hw) hv (h5 w hw), h6.moved hA⟩
/-! ===== the operations of a lifted method ===== -/
def gF (σ : St) (ci a k : Nat) : Option Value := match σ.1 a with
  | some (.inr (.inl o)) => if o.1 = ci then o.2[k]? else none
  | _ => none
def vI : Value → Option Int32
  | .int x => some x
  | _ => none
def vL : Value → Option Int64
  | .long x => some x
  | _ => none
def vR : Value → Option Nat
  | .ref x => some x
  | _ => none
def gI (σ : St) (ci a k : Nat) : Option Int32 := (gF σ ci a k).bind vI
def gL (σ : St) (ci a k : Nat) : Option Int64 := (gF σ ci a k).bind vL
def gR (σ : St) (ci a k : Nat) : Option Nat := (gF σ ci a k).bind vR
def stH (σ : St) (a : Nat) (e : Cel) : St := (va_up σ.1 a (some e), σ.2)
def pF (σ : St) (ci a k : Nat) (v : Value) : Option St := match σ.1 a with
  | some (.inr (.inl o)) => if o.1 = ci ∧ k < o.2.length then some (stH σ a (.inr (.inl (ci, o.2.set k v)))) else none
  | _ => none
def isB (x : Int32) : Option Unit := if x = 0 ∨ x = 1 then some () else none
def ldI (σ : St) (a : Nat) (i : Int32) : Option Int32 := match σ.1 a with
  | some (.inl (.int, n, .inl f)) => if i < 0 ∨ n ≤ i.toNatClampNeg then none else some (f i.toNatClampNeg)
  | some (.inr (.inr x)) => if i < 0 ∨ x.1 ≤ i.toNatClampNeg then none else some (x.2 i.toNatClampNeg)
  | _ => none
def stI (σ : St) (a : Nat) (i x : Int32) : Option St := match σ.1 a with
  | some (.inl (.int, n, .inl f)) => if i < 0 ∨ n ≤ i.toNatClampNeg then none else some (stH σ a (.inl (.int, n, .inl (upd f i.toNatClampNeg x))))
  | _ => none
def ldB (σ : St) (a : Nat) (i : Int32) : Option Int32 := match σ.1 a with
  | some (.inl (.byte, n, .inl f)) => if i < 0 ∨ n ≤ i.toNatClampNeg then none else some (f i.toNatClampNeg)
  | _ => none
def stB (σ : St) (a : Nat) (i x : Int32) : Option St := match σ.1 a with
  | some (.inl (.byte, n, .inl f)) => if i < 0 ∨ n ≤ i.toNatClampNeg then none else some (stH σ a (.inl (.byte, n, .inl (upd f i.toNatClampNeg (vp_nar .byte x)))))
  | _ => none
def ldA (σ : St) (a : Nat) (i : Int32) : Option Nat := match σ.1 a with
  | some (.inl (.object "TensMill$Decimal", n, .inr (.inr (.inr (.inr f))))) => if i < 0 ∨ n ≤ i.toNatClampNeg then none else f i.toNatClampNeg
  | _ => none
def stA (σ : St) (a : Nat) (i : Int32) (x : Nat) : Option St := match σ.1 a, σ.1 x with
  | some (.inl (.object "TensMill$Decimal", n, .inr (.inr (.inr (.inr f))))), some (.inr (.inl o)) => if o.1 = 0 then (if i < 0 ∨ n ≤ i.toNatClampNeg then none else some (stH σ a (.inl (.object "TensMill$Decimal", n, .inr (.inr (.inr (.inr (va_up f i.toNatClampNeg (some x)))))))) ) else none
  | _, _ => none
def aLn (σ : St) (a : Nat) : Option Int32 := match σ.1 a with
  | some (.inl x) => some (Int32.ofNat x.2.1)
  | some (.inr (.inr x)) => some (Int32.ofNat x.1)
  | _ => none
def nwH (σ : St) (e : Cel) : St := (va_up σ.1 σ.2.1 (some e), σ.2.1 + 1, σ.2.2)
def arI (n : Int32) : Cel := .inl (.int, n.toNatClampNeg, .inl (fun _ => 0))
def arB (n : Int32) : Cel := .inl (.byte, n.toNatClampNeg, .inl (fun _ => 0))
def arA (n : Int32) : Cel := .inl (.object "TensMill$Decimal", n.toNatClampNeg, .inr (.inr (.inr (.inr (fun _ => none)))))
def lenOk (n : Int32) : Option Unit := if n < 0 ∨ 1000000 < n.toNatClampNeg then none else some ()
def cpy (σ : St) (a0 : Nat) (sp : Int32) (a1 : Nat) (dp n : Int32) : Option St := match σ.1 a0, σ.1 a1 with
  | some (.inl (.int, n0, .inl f)), some (.inl (.int, n1, .inl g)) => if sp < 0 ∨ dp < 0 ∨ n < 0 ∨ n0 < sp.toNatClampNeg + n.toNatClampNeg ∨ n1 < dp.toNatClampNeg + n.toNatClampNeg then none else some (stH σ a1 (.inl (.int, n1, .inl (va_cpy f g sp.toNatClampNeg dp.toNatClampNeg n.toNatClampNeg))))
  | _, _ => none
def cpyB (σ : St) (a0 : Nat) (sp : Int32) (a1 : Nat) (dp n : Int32) : Option St := match σ.1 a0, σ.1 a1 with
  | some (.inl (.byte, n0, .inl f)), some (.inl (.byte, n1, .inl g)) => if sp < 0 ∨ dp < 0 ∨ n < 0 ∨ n0 < sp.toNatClampNeg + n.toNatClampNeg ∨ n1 < dp.toNatClampNeg + n.toNatClampNeg then none else some (stH σ a1 (.inl (.byte, n1, .inl (va_cpy f g sp.toNatClampNeg dp.toNatClampNeg n.toNatClampNeg))))
  | _, _ => none
def dvI (x y : Int32) : Option Int32 := if y = 0 then none else some (x / y)
def rmI (x y : Int32) : Option Int32 := if y = 0 then none else some (x - x / y * y)
def dvL (x y : Int64) : Option Int64 := if y = 0 then none else some (x / y)
def rmL (x y : Int64) : Option Int64 := if y = 0 then none else some (x - x / y * y)
abbrev Rs (ρ : Type) : Type := Option (ρ × St × Nat × Nat)
def ac {ρ : Type} (k s : Nat) (x : Rs ρ) : Rs ρ := x.map fun z => (z.1, z.2.1, k + z.2.2.1, s + z.2.2.2)
def bd {α β : Type} (x : Rs α) (f : α → St → Rs β) : Rs β := x.bind fun z => ac z.2.2.1 z.2.2.2 (f z.1 z.2.1)
def nw {ρ : Type} (σ : St) (e : Cel) (n : Nat) (f : Nat → St → Rs ρ) : Rs ρ := ac 1 n (f σ.2.1 (nwH σ e))
def lt {α β : Type} (e : α) (f : α → β) : β := f e
def jn {α β : Type} (f : α → β) (g : (α → β) → β) : β := g f
def ob {β : Type} (σ : St) (ci a : Nat) (k : Option β) : Option β := match σ.1 a with
  | some (.inr (.inl o)) => if o.1 = ci then k else none
  | _ => none
noncomputable def FU : Nat := Classical.choose (⟨1000000000000, Nat.le_refl _⟩ : ∃ n : Nat, 1000000000000 ≤ n)
theorem FU_ge : 1000000000000 ≤ FU := Classical.choose_spec (⟨1000000000000, Nat.le_refl _⟩ : ∃ n : Nat, 1000000000000 ≤ n)
/-! ===== the judgement ===== -/
abbrev Cq : Type := Gm × Program × Launch × Env × Room × State × MethodId × Array Value × List Frame × Method × Code × Nat × (Nat → Prop) × (State → Prop) × Nat × Nat
abbrev kG (K : Cq) : Gm := K.1
abbrev kp (K : Cq) : Program := K.2.1
abbrev kl (K : Cq) : Launch := K.2.2.1
abbrev ke (K : Cq) : Env := K.2.2.2.1
abbrev kR (K : Cq) : Room := K.2.2.2.2.1
abbrev ks (K : Cq) : State := K.2.2.2.2.2.1
abbrev km (K : Cq) : MethodId := K.2.2.2.2.2.2.1
abbrev ka (K : Cq) : Array Value := K.2.2.2.2.2.2.2.1
abbrev kb (K : Cq) : List Frame := K.2.2.2.2.2.2.2.2.1
abbrev kt (K : Cq) : Method := K.2.2.2.2.2.2.2.2.2.1
abbrev kc (K : Cq) : Code := K.2.2.2.2.2.2.2.2.2.2.1
abbrev kn (K : Cq) : Nat := K.2.2.2.2.2.2.2.2.2.2.2.1
abbrev kA (K : Cq) : Nat → Prop := K.2.2.2.2.2.2.2.2.2.2.2.2.1
abbrev kQ (K : Cq) : State → Prop := K.2.2.2.2.2.2.2.2.2.2.2.2.2.1
abbrev kmc (K : Cq) : Nat := K.2.2.2.2.2.2.2.2.2.2.2.2.2.2.1
abbrev kms (K : Cq) : Nat := K.2.2.2.2.2.2.2.2.2.2.2.2.2.2.2
abbrev WK (K : Cq) (H : Heap) (locs : List Loc) (cells slots : Nat) (g : JFrame) : Prop := W (kp K) (kl K) (ke K) (kR K) (ks K) (km K) (ka K) (kb K) (kt K) (kc K) H locs cells slots (kQ K) g
def V (K : Cq) (kr sr : Nat) (σ : St) (pc : Nat) (lv : List (Nat × Value)) (st : List Value) : Prop :=
  ∀ (H : Heap) (locs : List Loc) (ls : Array Slot) (cells slots : Nat), Pic (kG K) σ H → va_S (kA K) (ks K).heap H locs → (∀ q, Aof σ q → kA K q) → lv_has ls (kn K) lv → cells + kr = kmc K → slots + sr = kms K → WK K H locs cells slots (F0 (km K) pc ls st)
def Cx (K : Cq) (cc : ByteArray) (own : String) : Prop :=
  (kp K).tables.exec = Jvm.exec ∧ (kc K).code = cc ∧ (kc K).maxLocals = kn K ∧ (ks K).vm.findClass own = some (km K).cls ∧ (∀ w ∈ GT, w.before (ka K) (ks K) = true) ∧ KK (kG K) (ks K) ∧ kmc K ≤ (kR K).cells ∧ kms K ≤ (kR K).slots ∧ ∀ q, kA K q → (kG K).2.2.1.size ≤ q
def rmF (F L k s : Nat) : Room := { frames := F, cells := k, slots := s, locals := L }
def Qof (G : Gm) (σ : St) (r : Option Value) (σ' : St) : Array Value → State → Outcome → State → Prop := fun _ st oc t => (oc = .returned r ∧ Pic G σ' t.heap ∧ ∀ q, Aof σ' q → Aof σ q) ∧ va_F (Aof σ) st t
/-- a method's contract: from the state σ, with these arguments, it returns r and leaves σ'; k cells of s slots are new -/
def Ct (G : Gm) (l : Launch) (y : MethodName) (cc : ByteArray) (maxL : Nat) (ret : Option FieldType) (F L : Nat) (as : List Value) (σ : St) (r : Option Value) (σ' : St) (k s : Nat) : Prop :=
  Met l y (.code y cc maxL ret :: GT) (rmF F L k s) (va_Pc as (fun U => Pic G σ U.heap ∧ KK G U)) (Qof G σ r σ') k s (Aof σ)
end
section
theorem v_iadd {K : Cq} {cc : ByteArray} {own : String} {kr sr : Nat} {σ : St} {pc : Nat} {lv : List (Nat × Value)} {st : List Value} (hC : Cx K cc own) {x y : Int32} (hd : decode cc pc = .ok (.iadd, 1)) (kk : V K kr sr σ (pc + 1) lv (.int (x + y) :: st)) : V K kr sr σ pc lv (.int y :: .int x :: st) := fun H locs ls cells slots h1 h2 h3 h4 h5 h6 => lv_iadd hC.1 hC.2.1 hd  (kk H locs ls cells slots h1 h2 h3 h4 h5 h6)
theorem v_isub {K : Cq} {cc : ByteArray} {own : String} {kr sr : Nat} {σ : St} {pc : Nat} {lv : List (Nat × Value)} {st : List Value} (hC : Cx K cc own) {x y : Int32} (hd : decode cc pc = .ok (.isub, 1)) (kk : V K kr sr σ (pc + 1) lv (.int (x - y) :: st)) : V K kr sr σ pc lv (.int y :: .int x :: st) := fun H locs ls cells slots h1 h2 h3 h4 h5 h6 => lv_isub hC.1 hC.2.1 hd  (kk H locs ls cells slots h1 h2 h3 h4 h5 h6)
theorem v_imul {K : Cq} {cc : ByteArray} {own : String} {kr sr : Nat} {σ : St} {pc : Nat} {lv : List (Nat × Value)} {st : List Value} (hC : Cx K cc own) {x y : Int32} (hd : decode cc pc = .ok (.imul, 1)) (kk : V K kr sr σ (pc + 1) lv (.int (x * y) :: st)) : V K kr sr σ pc lv (.int y :: .int x :: st) := fun H locs ls cells slots h1 h2 h3 h4 h5 h6 => lv_imul hC.1 hC.2.1 hd  (kk H locs ls cells slots h1 h2 h3 h4 h5 h6)
theorem v_iand {K : Cq} {cc : ByteArray} {own : String} {kr sr : Nat} {σ : St} {pc : Nat} {lv : List (Nat × Value)} {st : List Value} (hC : Cx K cc own) {x y : Int32} (hd : decode cc pc = .ok (.iand, 1)) (kk : V K kr sr σ (pc + 1) lv (.int (x &&& y) :: st)) : V K kr sr σ pc lv (.int y :: .int x :: st) := fun H locs ls cells slots h1 h2 h3 h4 h5 h6 => lv_iand hC.1 hC.2.1 hd  (kk H locs ls cells slots h1 h2 h3 h4 h5 h6)
theorem v_ixor {K : Cq} {cc : ByteArray} {own : String} {kr sr : Nat} {σ : St} {pc : Nat} {lv : List (Nat × Value)} {st : List Value} (hC : Cx K cc own) {x y : Int32} (hd : decode cc pc = .ok (.ixor, 1)) (kk : V K kr sr σ (pc + 1) lv (.int (x ^^^ y) :: st)) : V K kr sr σ pc lv (.int y :: .int x :: st) := fun H locs ls cells slots h1 h2 h3 h4 h5 h6 => lv_ixor hC.1 hC.2.1 hd  (kk H locs ls cells slots h1 h2 h3 h4 h5 h6)
theorem v_ishr {K : Cq} {cc : ByteArray} {own : String} {kr sr : Nat} {σ : St} {pc : Nat} {lv : List (Nat × Value)} {st : List Value} (hC : Cx K cc own) {x y : Int32} (hd : decode cc pc = .ok (.ishr, 1)) (kk : V K kr sr σ (pc + 1) lv (.int (x >>> (y &&& 31)) :: st)) : V K kr sr σ pc lv (.int y :: .int x :: st) := fun H locs ls cells slots h1 h2 h3 h4 h5 h6 => lv_ishr hC.1 hC.2.1 hd  (kk H locs ls cells slots h1 h2 h3 h4 h5 h6)
theorem v_ladd {K : Cq} {cc : ByteArray} {own : String} {kr sr : Nat} {σ : St} {pc : Nat} {lv : List (Nat × Value)} {st : List Value} (hC : Cx K cc own) {x y : Int64} (hd : decode cc pc = .ok (.ladd, 1)) (kk : V K kr sr σ (pc + 1) lv (.long (x + y) :: st)) : V K kr sr σ pc lv (.long y :: .long x :: st) := fun H locs ls cells slots h1 h2 h3 h4 h5 h6 => lv_ladd hC.1 hC.2.1 hd  (kk H locs ls cells slots h1 h2 h3 h4 h5 h6)
theorem v_lsub {K : Cq} {cc : ByteArray} {own : String} {kr sr : Nat} {σ : St} {pc : Nat} {lv : List (Nat × Value)} {st : List Value} (hC : Cx K cc own) {x y : Int64} (hd : decode cc pc = .ok (.lsub, 1)) (kk : V K kr sr σ (pc + 1) lv (.long (x - y) :: st)) : V K kr sr σ pc lv (.long y :: .long x :: st) := fun H locs ls cells slots h1 h2 h3 h4 h5 h6 => lv_lsub hC.1 hC.2.1 hd  (kk H locs ls cells slots h1 h2 h3 h4 h5 h6)
theorem v_lmul {K : Cq} {cc : ByteArray} {own : String} {kr sr : Nat} {σ : St} {pc : Nat} {lv : List (Nat × Value)} {st : List Value} (hC : Cx K cc own) {x y : Int64} (hd : decode cc pc = .ok (.lmul, 1)) (kk : V K kr sr σ (pc + 1) lv (.long (x * y) :: st)) : V K kr sr σ pc lv (.long y :: .long x :: st) := fun H locs ls cells slots h1 h2 h3 h4 h5 h6 => lv_lmul hC.1 hC.2.1 hd  (kk H locs ls cells slots h1 h2 h3 h4 h5 h6)
theorem v_land {K : Cq} {cc : ByteArray} {own : String} {kr sr : Nat} {σ : St} {pc : Nat} {lv : List (Nat × Value)} {st : List Value} (hC : Cx K cc own) {x y : Int64} (hd : decode cc pc = .ok (.land, 1)) (kk : V K kr sr σ (pc + 1) lv (.long (x &&& y) :: st)) : V K kr sr σ pc lv (.long y :: .long x :: st) := fun H locs ls cells slots h1 h2 h3 h4 h5 h6 => lv_land hC.1 hC.2.1 hd  (kk H locs ls cells slots h1 h2 h3 h4 h5 h6)
theorem v_lor {K : Cq} {cc : ByteArray} {own : String} {kr sr : Nat} {σ : St} {pc : Nat} {lv : List (Nat × Value)} {st : List Value} (hC : Cx K cc own) {x y : Int64} (hd : decode cc pc = .ok (.lor, 1)) (kk : V K kr sr σ (pc + 1) lv (.long (x ||| y) :: st)) : V K kr sr σ pc lv (.long y :: .long x :: st) := fun H locs ls cells slots h1 h2 h3 h4 h5 h6 => lv_lor hC.1 hC.2.1 hd  (kk H locs ls cells slots h1 h2 h3 h4 h5 h6)
theorem v_lxor {K : Cq} {cc : ByteArray} {own : String} {kr sr : Nat} {σ : St} {pc : Nat} {lv : List (Nat × Value)} {st : List Value} (hC : Cx K cc own) {x y : Int64} (hd : decode cc pc = .ok (.lxor, 1)) (kk : V K kr sr σ (pc + 1) lv (.long (x ^^^ y) :: st)) : V K kr sr σ pc lv (.long y :: .long x :: st) := fun H locs ls cells slots h1 h2 h3 h4 h5 h6 => lv_lxor hC.1 hC.2.1 hd  (kk H locs ls cells slots h1 h2 h3 h4 h5 h6)
theorem v_ineg {K : Cq} {cc : ByteArray} {own : String} {kr sr : Nat} {σ : St} {pc : Nat} {lv : List (Nat × Value)} {st : List Value} (hC : Cx K cc own) {x : Int32} (hd : decode cc pc = .ok (.ineg, 1)) (kk : V K kr sr σ (pc + 1) lv (.int (-x) :: st)) : V K kr sr σ pc lv (.int x :: st) := fun H locs ls cells slots h1 h2 h3 h4 h5 h6 => lv_ineg hC.1 hC.2.1 hd  (kk H locs ls cells slots h1 h2 h3 h4 h5 h6)
theorem v_lneg {K : Cq} {cc : ByteArray} {own : String} {kr sr : Nat} {σ : St} {pc : Nat} {lv : List (Nat × Value)} {st : List Value} (hC : Cx K cc own) {x : Int64} (hd : decode cc pc = .ok (.lneg, 1)) (kk : V K kr sr σ (pc + 1) lv (.long (-x) :: st)) : V K kr sr σ pc lv (.long x :: st) := fun H locs ls cells slots h1 h2 h3 h4 h5 h6 => lv_lneg hC.1 hC.2.1 hd  (kk H locs ls cells slots h1 h2 h3 h4 h5 h6)
theorem v_iushr {K : Cq} {cc : ByteArray} {own : String} {kr sr : Nat} {σ : St} {pc : Nat} {lv : List (Nat × Value)} {st : List Value} (hC : Cx K cc own) {x y : Int32} (hd : decode cc pc = .ok (.iushr, 1)) (kk : V K kr sr σ (pc + 1) lv (.int ((x.toUInt32 >>> (y.toUInt32 &&& Int32.toUInt32 31)).toInt32) :: st)) : V K kr sr σ pc lv (.int y :: .int x :: st) := fun H locs ls cells slots h1 h2 h3 h4 h5 h6 => lv_iushr hC.1 hC.2.1 hd rfl (kk H locs ls cells slots h1 h2 h3 h4 h5 h6)
theorem v_lushr {K : Cq} {cc : ByteArray} {own : String} {kr sr : Nat} {σ : St} {pc : Nat} {lv : List (Nat × Value)} {st : List Value} (hC : Cx K cc own) {x : Int64} {y : Int32} (hd : decode cc pc = .ok (.lushr, 1)) (kk : V K kr sr σ (pc + 1) lv (.long ((x.toUInt64 >>> (y.toInt64.toUInt64 &&& Int64.toUInt64 63)).toInt64) :: st)) : V K kr sr σ pc lv (.int y :: .long x :: st) := fun H locs ls cells slots h1 h2 h3 h4 h5 h6 => lv_lushr hC.1 hC.2.1 hd rfl (kk H locs ls cells slots h1 h2 h3 h4 h5 h6)
theorem v_lshl {K : Cq} {cc : ByteArray} {own : String} {kr sr : Nat} {σ : St} {pc : Nat} {lv : List (Nat × Value)} {st : List Value} (hC : Cx K cc own) {x : Int64} {y : Int32} (hd : decode cc pc = .ok (.lshl, 1)) (kk : V K kr sr σ (pc + 1) lv (.long (x <<< (y.toInt64 &&& 63)) :: st)) : V K kr sr σ pc lv (.int y :: .long x :: st) := fun H locs ls cells slots h1 h2 h3 h4 h5 h6 => lv_lshl hC.1 hC.2.1 hd rfl (kk H locs ls cells slots h1 h2 h3 h4 h5 h6)
theorem v_lshr {K : Cq} {cc : ByteArray} {own : String} {kr sr : Nat} {σ : St} {pc : Nat} {lv : List (Nat × Value)} {st : List Value} (hC : Cx K cc own) {x : Int64} {y : Int32} (hd : decode cc pc = .ok (.lshr, 1)) (kk : V K kr sr σ (pc + 1) lv (.long (x >>> (y.toInt64 &&& 63)) :: st)) : V K kr sr σ pc lv (.int y :: .long x :: st) := fun H locs ls cells slots h1 h2 h3 h4 h5 h6 => lv_lshr hC.1 hC.2.1 hd rfl (kk H locs ls cells slots h1 h2 h3 h4 h5 h6)
theorem v_i2l {K : Cq} {cc : ByteArray} {own : String} {kr sr : Nat} {σ : St} {pc : Nat} {lv : List (Nat × Value)} {st : List Value} (hC : Cx K cc own) {x : Int32} (hd : decode cc pc = .ok (.i2l, 1)) (kk : V K kr sr σ (pc + 1) lv (.long (x.toInt64) :: st)) : V K kr sr σ pc lv (.int x :: st) := fun H locs ls cells slots h1 h2 h3 h4 h5 h6 => lv_i2l hC.1 hC.2.1 hd rfl (kk H locs ls cells slots h1 h2 h3 h4 h5 h6)
theorem v_l2i {K : Cq} {cc : ByteArray} {own : String} {kr sr : Nat} {σ : St} {pc : Nat} {lv : List (Nat × Value)} {st : List Value} (hC : Cx K cc own) {x : Int64} (hd : decode cc pc = .ok (.l2i, 1)) (kk : V K kr sr σ (pc + 1) lv (.int (x.toInt32) :: st)) : V K kr sr σ pc lv (.long x :: st) := fun H locs ls cells slots h1 h2 h3 h4 h5 h6 => lv_l2i hC.1 hC.2.1 hd rfl (kk H locs ls cells slots h1 h2 h3 h4 h5 h6)
theorem v_i2b {K : Cq} {cc : ByteArray} {own : String} {kr sr : Nat} {σ : St} {pc : Nat} {lv : List (Nat × Value)} {st : List Value} (hC : Cx K cc own) {x : Int32} (hd : decode cc pc = .ok (.i2b, 1)) (kk : V K kr sr σ (pc + 1) lv (.int (x.toInt8.toInt32) :: st)) : V K kr sr σ pc lv (.int x :: st) := fun H locs ls cells slots h1 h2 h3 h4 h5 h6 => lv_i2b hC.1 hC.2.1 hd rfl (kk H locs ls cells slots h1 h2 h3 h4 h5 h6)
theorem v_iconst {K : Cq} {cc : ByteArray} {own : String} {kr sr : Nat} {σ : St} {pc : Nat} {lv : List (Nat × Value)} {st : List Value} (hC : Cx K cc own) {n : Int} {v : Int32} (hd : decode cc pc = .ok (.iconst n, 1)) (hv : Int32.ofInt n = v) (kk : V K kr sr σ (pc + 1) lv (.int v :: st)) : V K kr sr σ pc lv st := fun H locs ls cells slots h1 h2 h3 h4 h5 h6 => lv_iconst hC.1 hC.2.1 hd hv (kk H locs ls cells slots h1 h2 h3 h4 h5 h6)
theorem v_bipush {K : Cq} {cc : ByteArray} {own : String} {kr sr : Nat} {σ : St} {pc : Nat} {lv : List (Nat × Value)} {st : List Value} (hC : Cx K cc own) {n : Int} {v : Int32} (hd : decode cc pc = .ok (.bipush n, 2)) (hv : (Int8.ofInt n).toInt32 = v) (kk : V K kr sr σ (pc + 2) lv (.int v :: st)) : V K kr sr σ pc lv st := fun H locs ls cells slots h1 h2 h3 h4 h5 h6 => lv_bipush hC.1 hC.2.1 hd hv (kk H locs ls cells slots h1 h2 h3 h4 h5 h6)
theorem v_sipush {K : Cq} {cc : ByteArray} {own : String} {kr sr : Nat} {σ : St} {pc : Nat} {lv : List (Nat × Value)} {st : List Value} (hC : Cx K cc own) {n : Int} {v : Int32} (hd : decode cc pc = .ok (.sipush n, 3)) (hv : (Int16.ofInt n).toInt32 = v) (kk : V K kr sr σ (pc + 3) lv (.int v :: st)) : V K kr sr σ pc lv st := fun H locs ls cells slots h1 h2 h3 h4 h5 h6 => lv_sipush hC.1 hC.2.1 hd hv (kk H locs ls cells slots h1 h2 h3 h4 h5 h6)
theorem v_lconst {K : Cq} {cc : ByteArray} {own : String} {kr sr : Nat} {σ : St} {pc : Nat} {lv : List (Nat × Value)} {st : List Value} (hC : Cx K cc own) {n : Fin 2} {v : Int64} (hd : decode cc pc = .ok (.lconst n, 1)) (hv : Int64.ofNat (n : Nat) = v) (kk : V K kr sr σ (pc + 1) lv (.long v :: st)) : V K kr sr σ pc lv st := fun H locs ls cells slots h1 h2 h3 h4 h5 h6 => lv_lconst hC.1 hC.2.1 hd hv (kk H locs ls cells slots h1 h2 h3 h4 h5 h6)
theorem v_ldc {K : Cq} {cc : ByteArray} {own : String} {kr sr : Nat} {σ : St} {pc : Nat} {lv : List (Nat × Value)} {st : List Value} (hC : Cx K cc own) {index : Nat} {v : Int32} (hd : decode cc pc = .ok (.ldc index, 2)) (hw : Cond.constant own index v ∈ GT) (kk : V K kr sr σ (pc + 2) lv (.int v :: st)) : V K kr sr σ pc lv st := fun H locs ls cells slots h1 h2 h3 h4 h5 h6 => lv_ldc hC.1 hC.2.1 hC.2.2.2.1 (hC.2.2.2.2.1 _ hw) hd (kk H locs ls cells slots h1 h2 h3 h4 h5 h6)
theorem v_ldcw {K : Cq} {cc : ByteArray} {own : String} {kr sr : Nat} {σ : St} {pc : Nat} {lv : List (Nat × Value)} {st : List Value} (hC : Cx K cc own) {index : Nat} {v : Int32} (hd : decode cc pc = .ok (.ldc_w index, 3)) (hw : Cond.constant own index v ∈ GT) (kk : V K kr sr σ (pc + 3) lv (.int v :: st)) : V K kr sr σ pc lv st := fun H locs ls cells slots h1 h2 h3 h4 h5 h6 => lv_ldcw hC.1 hC.2.1 hC.2.2.2.1 (hC.2.2.2.2.1 _ hw) hd (kk H locs ls cells slots h1 h2 h3 h4 h5 h6)
theorem v_ldc2 {K : Cq} {cc : ByteArray} {own : String} {kr sr : Nat} {σ : St} {pc : Nat} {lv : List (Nat × Value)} {st : List Value} (hC : Cx K cc own) {index : Nat} {v : Int64} (hd : decode cc pc = .ok (.ldc2_w index, 3)) (hw : Cond.constantLong own index v ∈ GT) (kk : V K kr sr σ (pc + 3) lv (.long v :: st)) : V K kr sr σ pc lv st := fun H locs ls cells slots h1 h2 h3 h4 h5 h6 => lv_ldc2 hC.1 hC.2.1 hC.2.2.2.1 (hC.2.2.2.2.1 _ hw) hd (kk H locs ls cells slots h1 h2 h3 h4 h5 h6)
theorem v_idiv {K : Cq} {cc : ByteArray} {own : String} {kr sr : Nat} {σ : St} {pc : Nat} {lv : List (Nat × Value)} {st : List Value} (hC : Cx K cc own) {x y : Int32} {τ : Type} {k : Int32 → Option τ} {res : τ} (hf : (dvI x y).bind k = some res) (hd : decode cc pc = .ok (.idiv, 1)) (kk : ∀ z : Int32, k z = some res → V K kr sr σ (pc + 1) lv (.int z :: st)) : V K kr sr σ pc lv (.int y :: .int x :: st) := by
  unfold dvI at hf
  by_cases h : y = 0
  · rw [if_pos h] at hf; cases hf
  · rw [if_neg h] at hf
    exact fun H locs ls cells slots h1 h2 h3 h4 h5 h6 => lv_idiv hC.1 hC.2.1 hd h (kk _ hf H locs ls cells slots h1 h2 h3 h4 h5 h6)
theorem v_irem {K : Cq} {cc : ByteArray} {own : String} {kr sr : Nat} {σ : St} {pc : Nat} {lv : List (Nat × Value)} {st : List Value} (hC : Cx K cc own) {x y : Int32} {τ : Type} {k : Int32 → Option τ} {res : τ} (hf : (rmI x y).bind k = some res) (hd : decode cc pc = .ok (.irem, 1)) (kk : ∀ z : Int32, k z = some res → V K kr sr σ (pc + 1) lv (.int z :: st)) : V K kr sr σ pc lv (.int y :: .int x :: st) := by
  unfold rmI at hf
  by_cases h : y = 0
  · rw [if_pos h] at hf; cases hf
  · rw [if_neg h] at hf
    exact fun H locs ls cells slots h1 h2 h3 h4 h5 h6 => lv_irem hC.1 hC.2.1 hd h (kk _ hf H locs ls cells slots h1 h2 h3 h4 h5 h6)
theorem v_ldiv {K : Cq} {cc : ByteArray} {own : String} {kr sr : Nat} {σ : St} {pc : Nat} {lv : List (Nat × Value)} {st : List Value} (hC : Cx K cc own) {x y : Int64} {τ : Type} {k : Int64 → Option τ} {res : τ} (hf : (dvL x y).bind k = some res) (hd : decode cc pc = .ok (.ldiv, 1)) (kk : ∀ z : Int64, k z = some res → V K kr sr σ (pc + 1) lv (.long z :: st)) : V K kr sr σ pc lv (.long y :: .long x :: st) := by
  unfold dvL at hf
  by_cases h : y = 0
  · rw [if_pos h] at hf; cases hf
  · rw [if_neg h] at hf
    exact fun H locs ls cells slots h1 h2 h3 h4 h5 h6 => lv_ldiv hC.1 hC.2.1 hd h (kk _ hf H locs ls cells slots h1 h2 h3 h4 h5 h6)
theorem v_lrem {K : Cq} {cc : ByteArray} {own : String} {kr sr : Nat} {σ : St} {pc : Nat} {lv : List (Nat × Value)} {st : List Value} (hC : Cx K cc own) {x y : Int64} {τ : Type} {k : Int64 → Option τ} {res : τ} (hf : (rmL x y).bind k = some res) (hd : decode cc pc = .ok (.lrem, 1)) (kk : ∀ z : Int64, k z = some res → V K kr sr σ (pc + 1) lv (.long z :: st)) : V K kr sr σ pc lv (.long y :: .long x :: st) := by
  unfold rmL at hf
  by_cases h : y = 0
  · rw [if_pos h] at hf; cases hf
  · rw [if_neg h] at hf
    exact fun H locs ls cells slots h1 h2 h3 h4 h5 h6 => lv_lrem hC.1 hC.2.1 hd h (kk _ hf H locs ls cells slots h1 h2 h3 h4 h5 h6)
theorem v_iload_n {K : Cq} {cc : ByteArray} {own : String} {kr sr : Nat} {σ : St} {pc : Nat} {lv : List (Nat × Value)} {st : List Value} (hC : Cx K cc own) {k : Fin 4} {x : Int32} (pos : Nat) (hd : decode cc pc = .ok (.iload_n k, 1)) (hk : lv[pos]? = some ((k : Nat), .int x)) (kk : V K kr sr σ (pc + 1) lv (.int x :: st)) : V K kr sr σ pc lv st := fun H locs ls cells slots h1 h2 h3 h4 h5 h6 => lv_iload_n hC.1 hC.2.1 hd rfl (lv_at h4 pos hk) (kk H locs ls cells slots h1 h2 h3 h4 h5 h6)
theorem v_iload {K : Cq} {cc : ByteArray} {own : String} {kr sr : Nat} {σ : St} {pc : Nat} {lv : List (Nat × Value)} {st : List Value} (hC : Cx K cc own) {i : Nat} {x : Int32} (pos : Nat) (hd : decode cc pc = .ok (.iload i, 2)) (hk : lv[pos]? = some (i, .int x)) (kk : V K kr sr σ (pc + 2) lv (.int x :: st)) : V K kr sr σ pc lv st := fun H locs ls cells slots h1 h2 h3 h4 h5 h6 => lv_iload hC.1 hC.2.1 hd (lv_at h4 pos hk) (kk H locs ls cells slots h1 h2 h3 h4 h5 h6)
theorem v_istore_n {K : Cq} {cc : ByteArray} {own : String} {kr sr : Nat} {σ : St} {pc : Nat} {lv : List (Nat × Value)} {st : List Value} (hC : Cx K cc own) {k : Fin 4} {i : Nat} {x : Int32} (lv1 : List (Nat × Value)) (hd : decode cc pc = .ok (.istore_n k, 1)) (hi : (k : Nat) = i) {N : Nat} (hN : kn K = N) (hn : i < N) (hl : (i, Value.int x) :: lv.filter (fun q => !(q.1 == i) && !(q.1 + 1 == i && q.2.category == 2)) = lv1) (kk : V K kr sr σ (pc + 1) lv1 st) : V K kr sr σ pc lv (.int x :: st) := fun H locs ls cells slots h1 h2 h3 h4 h5 h6 => lv_istore_n hC.1 hC.2.1 hd hi h4 (hN ▸ hn) hl (fun ls h4 => kk H locs ls cells slots h1 h2 h3 h4 h5 h6)
theorem v_istore {K : Cq} {cc : ByteArray} {own : String} {kr sr : Nat} {σ : St} {pc : Nat} {lv : List (Nat × Value)} {st : List Value} (hC : Cx K cc own) {i : Nat} {x : Int32} (lv1 : List (Nat × Value)) (hd : decode cc pc = .ok (.istore i, 2)) {N : Nat} (hN : kn K = N) (hn : i < N) (hl : (i, Value.int x) :: lv.filter (fun q => !(q.1 == i) && !(q.1 + 1 == i && q.2.category == 2)) = lv1) (kk : V K kr sr σ (pc + 2) lv1 st) : V K kr sr σ pc lv (.int x :: st) := fun H locs ls cells slots h1 h2 h3 h4 h5 h6 => lv_istore hC.1 hC.2.1 hd h4 (hN ▸ hn) hl (fun ls h4 => kk H locs ls cells slots h1 h2 h3 h4 h5 h6)
theorem v_lload_n {K : Cq} {cc : ByteArray} {own : String} {kr sr : Nat} {σ : St} {pc : Nat} {lv : List (Nat × Value)} {st : List Value} (hC : Cx K cc own) {k : Fin 4} {x : Int64} (pos : Nat) (hd : decode cc pc = .ok (.lload_n k, 1)) (hk : lv[pos]? = some ((k : Nat), .long x)) (kk : V K kr sr σ (pc + 1) lv (.long x :: st)) : V K kr sr σ pc lv st := fun H locs ls cells slots h1 h2 h3 h4 h5 h6 => lv_lload_n hC.1 hC.2.1 hd rfl (lv_at h4 pos hk) (kk H locs ls cells slots h1 h2 h3 h4 h5 h6)
theorem v_lload {K : Cq} {cc : ByteArray} {own : String} {kr sr : Nat} {σ : St} {pc : Nat} {lv : List (Nat × Value)} {st : List Value} (hC : Cx K cc own) {i : Nat} {x : Int64} (pos : Nat) (hd : decode cc pc = .ok (.lload i, 2)) (hk : lv[pos]? = some (i, .long x)) (kk : V K kr sr σ (pc + 2) lv (.long x :: st)) : V K kr sr σ pc lv st := fun H locs ls cells slots h1 h2 h3 h4 h5 h6 => lv_lload hC.1 hC.2.1 hd (lv_at h4 pos hk) (kk H locs ls cells slots h1 h2 h3 h4 h5 h6)
theorem v_lstore_n {K : Cq} {cc : ByteArray} {own : String} {kr sr : Nat} {σ : St} {pc : Nat} {lv : List (Nat × Value)} {st : List Value} (hC : Cx K cc own) {k : Fin 4} {i : Nat} {x : Int64} (lv1 : List (Nat × Value)) (hd : decode cc pc = .ok (.lstore_n k, 1)) (hi : (k : Nat) = i) {N : Nat} (hN : kn K = N) (hn : i + 1 < N) (hl : (i, Value.long x) :: lv.filter (fun q => !(q.1 == i) && (!(q.1 == i + 1) && !(q.1 + 1 == i && q.2.category == 2))) = lv1) (kk : V K kr sr σ (pc + 1) lv1 st) : V K kr sr σ pc lv (.long x :: st) := fun H locs ls cells slots h1 h2 h3 h4 h5 h6 => lv_lstore_n hC.1 hC.2.1 hd hi h4 (hN ▸ hn) hl (fun ls h4 => kk H locs ls cells slots h1 h2 h3 h4 h5 h6)
theorem v_lstore {K : Cq} {cc : ByteArray} {own : String} {kr sr : Nat} {σ : St} {pc : Nat} {lv : List (Nat × Value)} {st : List Value} (hC : Cx K cc own) {i : Nat} {x : Int64} (lv1 : List (Nat × Value)) (hd : decode cc pc = .ok (.lstore i, 2)) {N : Nat} (hN : kn K = N) (hn : i + 1 < N) (hl : (i, Value.long x) :: lv.filter (fun q => !(q.1 == i) && (!(q.1 == i + 1) && !(q.1 + 1 == i && q.2.category == 2))) = lv1) (kk : V K kr sr σ (pc + 2) lv1 st) : V K kr sr σ pc lv (.long x :: st) := fun H locs ls cells slots h1 h2 h3 h4 h5 h6 => lv_lstore hC.1 hC.2.1 hd h4 (hN ▸ hn) hl (fun ls h4 => kk H locs ls cells slots h1 h2 h3 h4 h5 h6)
theorem v_aload_n {K : Cq} {cc : ByteArray} {own : String} {kr sr : Nat} {σ : St} {pc : Nat} {lv : List (Nat × Value)} {st : List Value} (hC : Cx K cc own) {k : Fin 4} {x : Nat} (pos : Nat) (hd : decode cc pc = .ok (.aload_n k, 1)) (hk : lv[pos]? = some ((k : Nat), .ref x)) (kk : V K kr sr σ (pc + 1) lv (.ref x :: st)) : V K kr sr σ pc lv st := fun H locs ls cells slots h1 h2 h3 h4 h5 h6 => lv_aload_n hC.1 hC.2.1 hd rfl (lv_at h4 pos hk) (kk H locs ls cells slots h1 h2 h3 h4 h5 h6)
theorem v_aload {K : Cq} {cc : ByteArray} {own : String} {kr sr : Nat} {σ : St} {pc : Nat} {lv : List (Nat × Value)} {st : List Value} (hC : Cx K cc own) {i : Nat} {x : Nat} (pos : Nat) (hd : decode cc pc = .ok (.aload i, 2)) (hk : lv[pos]? = some (i, .ref x)) (kk : V K kr sr σ (pc + 2) lv (.ref x :: st)) : V K kr sr σ pc lv st := fun H locs ls cells slots h1 h2 h3 h4 h5 h6 => lv_aload hC.1 hC.2.1 hd (lv_at h4 pos hk) (kk H locs ls cells slots h1 h2 h3 h4 h5 h6)
theorem v_astore_n {K : Cq} {cc : ByteArray} {own : String} {kr sr : Nat} {σ : St} {pc : Nat} {lv : List (Nat × Value)} {st : List Value} (hC : Cx K cc own) {k : Fin 4} {i : Nat} {x : Nat} (lv1 : List (Nat × Value)) (hd : decode cc pc = .ok (.astore_n k, 1)) (hi : (k : Nat) = i) {N : Nat} (hN : kn K = N) (hn : i < N) (hl : (i, Value.ref x) :: lv.filter (fun q => !(q.1 == i) && !(q.1 + 1 == i && q.2.category == 2)) = lv1) (kk : V K kr sr σ (pc + 1) lv1 st) : V K kr sr σ pc lv (.ref x :: st) := fun H locs ls cells slots h1 h2 h3 h4 h5 h6 => lv_astore_n hC.1 hC.2.1 hd hi h4 (hN ▸ hn) hl (fun ls h4 => kk H locs ls cells slots h1 h2 h3 h4 h5 h6)
theorem v_astore {K : Cq} {cc : ByteArray} {own : String} {kr sr : Nat} {σ : St} {pc : Nat} {lv : List (Nat × Value)} {st : List Value} (hC : Cx K cc own) {i : Nat} {x : Nat} (lv1 : List (Nat × Value)) (hd : decode cc pc = .ok (.astore i, 2)) {N : Nat} (hN : kn K = N) (hn : i < N) (hl : (i, Value.ref x) :: lv.filter (fun q => !(q.1 == i) && !(q.1 + 1 == i && q.2.category == 2)) = lv1) (kk : V K kr sr σ (pc + 2) lv1 st) : V K kr sr σ pc lv (.ref x :: st) := fun H locs ls cells slots h1 h2 h3 h4 h5 h6 => lv_astore hC.1 hC.2.1 hd h4 (hN ▸ hn) hl (fun ls h4 => kk H locs ls cells slots h1 h2 h3 h4 h5 h6)
theorem v_iinc {K : Cq} {cc : ByteArray} {own : String} {kr sr : Nat} {σ : St} {pc : Nat} {lv : List (Nat × Value)} {st : List Value} (hC : Cx K cc own) {i : Nat} {n : Int} {x v : Int32} (pos : Nat) (lv1 : List (Nat × Value)) (hd : decode cc pc = .ok (.iinc i n, 3)) (hk : lv[pos]? = some (i, .int x)) (hv : x + Int32.ofInt n = v) {N : Nat} (hN : kn K = N) (hn : i < N) (hl : (i, Value.int v) :: lv.filter (fun q => !(q.1 == i) && !(q.1 + 1 == i && q.2.category == 2)) = lv1) (kk : V K kr sr σ (pc + 3) lv1 st) : V K kr sr σ pc lv st := fun H locs ls cells slots h1 h2 h3 h4 h5 h6 => lv_iinc hC.1 hC.2.1 hd h4 hk hv (hN ▸ hn) hl (fun ls h4 => kk H locs ls cells slots h1 h2 h3 h4 h5 h6)
theorem v_sub {K : Cq} {kr sr : Nat} {σ : St} {pc : Nat} {lv : List (Nat × Value)} {st : List Value} (lv1 : List (Nat × Value)) (ks : List Nat) (hl : lv_pick lv ks = lv1) (kk : V K kr sr σ pc lv1 st) : V K kr sr σ pc lv st := fun H locs ls cells slots h1 h2 h3 h4 h5 h6 => kk H locs ls cells slots h1 h2 h3 (lv_sub h4 ks hl) h5 h6
theorem v_dup {K : Cq} {cc : ByteArray} {own : String} {kr sr : Nat} {σ : St} {pc : Nat} {lv : List (Nat × Value)} {st : List Value} (hC : Cx K cc own) {v : Value} (hd : decode cc pc = .ok (.dup, 1)) (hv : v.category = 1) (kk : V K kr sr σ (pc + 1) lv (v :: v :: st)) : V K kr sr σ pc lv (v :: st) := fun H locs ls cells slots h1 h2 h3 h4 h5 h6 => lv_dup hC.1 hC.2.1 hd hv (kk H locs ls cells slots h1 h2 h3 h4 h5 h6)
theorem v_dup2 {K : Cq} {cc : ByteArray} {own : String} {kr sr : Nat} {σ : St} {pc : Nat} {lv : List (Nat × Value)} {st : List Value} (hC : Cx K cc own) {v w : Value} (hd : decode cc pc = .ok (.dup2, 1)) (hv : v.category = 1) (hw : w.category = 1) (kk : V K kr sr σ (pc + 1) lv (v :: w :: v :: w :: st)) : V K kr sr σ pc lv (v :: w :: st) := fun H locs ls cells slots h1 h2 h3 h4 h5 h6 => lv_dup2_11 hC.1 hC.2.1 hd hv hw (kk H locs ls cells slots h1 h2 h3 h4 h5 h6)
theorem v_pop {K : Cq} {cc : ByteArray} {own : String} {kr sr : Nat} {σ : St} {pc : Nat} {lv : List (Nat × Value)} {st : List Value} (hC : Cx K cc own) {v : Value} (hd : decode cc pc = .ok (.pop, 1)) (hv : v.category = 1) (kk : V K kr sr σ (pc + 1) lv st) : V K kr sr σ pc lv (v :: st) := fun H locs ls cells slots h1 h2 h3 h4 h5 h6 => lv_pop hC.1 hC.2.1 hd hv (kk H locs ls cells slots h1 h2 h3 h4 h5 h6)
theorem v_goto {K : Cq} {cc : ByteArray} {own : String} {kr sr : Nat} {σ : St} {pc : Nat} {lv : List (Nat × Value)} {st : List Value} (hC : Cx K cc own) {off : Int} {tgt : Nat} (hd : decode cc pc = .ok (.goto off, 3)) (ht : (pc : Int) + off = (tgt : Int)) (kk : V K kr sr σ tgt lv st) : V K kr sr σ pc lv st := fun H locs ls cells slots h1 h2 h3 h4 h5 h6 => lv_goto hC.1 hC.2.1 hd ht (kk H locs ls cells slots h1 h2 h3 h4 h5 h6)
theorem v_if_eq {K : Cq} {cc : ByteArray} {own : String} {kr sr : Nat} {σ : St} {pc : Nat} {lv : List (Nat × Value)} {st : List Value} (hC : Cx K cc own) {x : Int32} {off : Int} {tgt : Nat} {τ : Type} {T F : Option τ} {res : τ} (hf : (if x = 0 then T else F) = some res) (hd : decode cc pc = .ok (.ifCond .eq off, 3)) (ht : (pc : Int) + off = (tgt : Int)) (kt : T = some res → V K kr sr σ tgt lv st) (kf : F = some res → V K kr sr σ (pc + 3) lv st) : V K kr sr σ pc lv (.int x :: st) := fun H locs ls cells slots h1 h2 h3 h4 h5 h6 => lv_if_eq hC.1 hC.2.1 hd ht (fun h => kt (by rw [if_pos h] at hf; exact hf) H locs ls cells slots h1 h2 h3 h4 h5 h6) (fun h => kf (by rw [if_neg h] at hf; exact hf) H locs ls cells slots h1 h2 h3 h4 h5 h6)
theorem v_if_ne {K : Cq} {cc : ByteArray} {own : String} {kr sr : Nat} {σ : St} {pc : Nat} {lv : List (Nat × Value)} {st : List Value} (hC : Cx K cc own) {x : Int32} {off : Int} {tgt : Nat} {τ : Type} {T F : Option τ} {res : τ} (hf : (if x = 0 then F else T) = some res) (hd : decode cc pc = .ok (.ifCond .ne off, 3)) (ht : (pc : Int) + off = (tgt : Int)) (kt : T = some res → V K kr sr σ tgt lv st) (kf : F = some res → V K kr sr σ (pc + 3) lv st) : V K kr sr σ pc lv (.int x :: st) := fun H locs ls cells slots h1 h2 h3 h4 h5 h6 => lv_if_ne hC.1 hC.2.1 hd ht (fun h => kt (by rw [if_neg h] at hf; exact hf) H locs ls cells slots h1 h2 h3 h4 h5 h6) (fun h => kf (by rw [if_pos h] at hf; exact hf) H locs ls cells slots h1 h2 h3 h4 h5 h6)
theorem v_if_lt {K : Cq} {cc : ByteArray} {own : String} {kr sr : Nat} {σ : St} {pc : Nat} {lv : List (Nat × Value)} {st : List Value} (hC : Cx K cc own) {x : Int32} {off : Int} {tgt : Nat} {τ : Type} {T F : Option τ} {res : τ} (hf : (if x < 0 then T else F) = some res) (hd : decode cc pc = .ok (.ifCond .lt off, 3)) (ht : (pc : Int) + off = (tgt : Int)) (kt : T = some res → V K kr sr σ tgt lv st) (kf : F = some res → V K kr sr σ (pc + 3) lv st) : V K kr sr σ pc lv (.int x :: st) := fun H locs ls cells slots h1 h2 h3 h4 h5 h6 => lv_if_lt hC.1 hC.2.1 hd ht (fun h => kt (by rw [if_pos h] at hf; exact hf) H locs ls cells slots h1 h2 h3 h4 h5 h6) (fun h => kf (by rw [if_neg h] at hf; exact hf) H locs ls cells slots h1 h2 h3 h4 h5 h6)
theorem v_if_ge {K : Cq} {cc : ByteArray} {own : String} {kr sr : Nat} {σ : St} {pc : Nat} {lv : List (Nat × Value)} {st : List Value} (hC : Cx K cc own) {x : Int32} {off : Int} {tgt : Nat} {τ : Type} {T F : Option τ} {res : τ} (hf : (if 0 ≤ x then T else F) = some res) (hd : decode cc pc = .ok (.ifCond .ge off, 3)) (ht : (pc : Int) + off = (tgt : Int)) (kt : T = some res → V K kr sr σ tgt lv st) (kf : F = some res → V K kr sr σ (pc + 3) lv st) : V K kr sr σ pc lv (.int x :: st) := fun H locs ls cells slots h1 h2 h3 h4 h5 h6 => lv_if_ge hC.1 hC.2.1 hd ht (fun h => kt (by rw [if_pos h] at hf; exact hf) H locs ls cells slots h1 h2 h3 h4 h5 h6) (fun h => kf (by rw [if_neg h] at hf; exact hf) H locs ls cells slots h1 h2 h3 h4 h5 h6)
theorem v_if_gt {K : Cq} {cc : ByteArray} {own : String} {kr sr : Nat} {σ : St} {pc : Nat} {lv : List (Nat × Value)} {st : List Value} (hC : Cx K cc own) {x : Int32} {off : Int} {tgt : Nat} {τ : Type} {T F : Option τ} {res : τ} (hf : (if 0 < x then T else F) = some res) (hd : decode cc pc = .ok (.ifCond .gt off, 3)) (ht : (pc : Int) + off = (tgt : Int)) (kt : T = some res → V K kr sr σ tgt lv st) (kf : F = some res → V K kr sr σ (pc + 3) lv st) : V K kr sr σ pc lv (.int x :: st) := fun H locs ls cells slots h1 h2 h3 h4 h5 h6 => lv_if_gt hC.1 hC.2.1 hd ht (fun h => kt (by rw [if_pos h] at hf; exact hf) H locs ls cells slots h1 h2 h3 h4 h5 h6) (fun h => kf (by rw [if_neg h] at hf; exact hf) H locs ls cells slots h1 h2 h3 h4 h5 h6)
theorem v_if_le {K : Cq} {cc : ByteArray} {own : String} {kr sr : Nat} {σ : St} {pc : Nat} {lv : List (Nat × Value)} {st : List Value} (hC : Cx K cc own) {x : Int32} {off : Int} {tgt : Nat} {τ : Type} {T F : Option τ} {res : τ} (hf : (if x ≤ 0 then T else F) = some res) (hd : decode cc pc = .ok (.ifCond .le off, 3)) (ht : (pc : Int) + off = (tgt : Int)) (kt : T = some res → V K kr sr σ tgt lv st) (kf : F = some res → V K kr sr σ (pc + 3) lv st) : V K kr sr σ pc lv (.int x :: st) := fun H locs ls cells slots h1 h2 h3 h4 h5 h6 => lv_if_le hC.1 hC.2.1 hd ht (fun h => kt (by rw [if_pos h] at hf; exact hf) H locs ls cells slots h1 h2 h3 h4 h5 h6) (fun h => kf (by rw [if_neg h] at hf; exact hf) H locs ls cells slots h1 h2 h3 h4 h5 h6)
theorem v_icmp_eq {K : Cq} {cc : ByteArray} {own : String} {kr sr : Nat} {σ : St} {pc : Nat} {lv : List (Nat × Value)} {st : List Value} (hC : Cx K cc own) {x y : Int32} {off : Int} {tgt : Nat} {τ : Type} {T F : Option τ} {res : τ} (hf : (if x = y then T else F) = some res) (hd : decode cc pc = .ok (.if_icmp .eq off, 3)) (ht : (pc : Int) + off = (tgt : Int)) (kt : T = some res → V K kr sr σ tgt lv st) (kf : F = some res → V K kr sr σ (pc + 3) lv st) : V K kr sr σ pc lv (.int y :: .int x :: st) := fun H locs ls cells slots h1 h2 h3 h4 h5 h6 => lv_icmp_eq hC.1 hC.2.1 hd ht (fun h => kt (by rw [if_pos h] at hf; exact hf) H locs ls cells slots h1 h2 h3 h4 h5 h6) (fun h => kf (by rw [if_neg h] at hf; exact hf) H locs ls cells slots h1 h2 h3 h4 h5 h6)
theorem v_icmp_ne {K : Cq} {cc : ByteArray} {own : String} {kr sr : Nat} {σ : St} {pc : Nat} {lv : List (Nat × Value)} {st : List Value} (hC : Cx K cc own) {x y : Int32} {off : Int} {tgt : Nat} {τ : Type} {T F : Option τ} {res : τ} (hf : (if x = y then F else T) = some res) (hd : decode cc pc = .ok (.if_icmp .ne off, 3)) (ht : (pc : Int) + off = (tgt : Int)) (kt : T = some res → V K kr sr σ tgt lv st) (kf : F = some res → V K kr sr σ (pc + 3) lv st) : V K kr sr σ pc lv (.int y :: .int x :: st) := fun H locs ls cells slots h1 h2 h3 h4 h5 h6 => lv_icmp_ne hC.1 hC.2.1 hd ht (fun h => kt (by rw [if_neg h] at hf; exact hf) H locs ls cells slots h1 h2 h3 h4 h5 h6) (fun h => kf (by rw [if_pos h] at hf; exact hf) H locs ls cells slots h1 h2 h3 h4 h5 h6)
theorem v_icmp_lt {K : Cq} {cc : ByteArray} {own : String} {kr sr : Nat} {σ : St} {pc : Nat} {lv : List (Nat × Value)} {st : List Value} (hC : Cx K cc own) {x y : Int32} {off : Int} {tgt : Nat} {τ : Type} {T F : Option τ} {res : τ} (hf : (if x < y then T else F) = some res) (hd : decode cc pc = .ok (.if_icmp .lt off, 3)) (ht : (pc : Int) + off = (tgt : Int)) (kt : T = some res → V K kr sr σ tgt lv st) (kf : F = some res → V K kr sr σ (pc + 3) lv st) : V K kr sr σ pc lv (.int y :: .int x :: st) := fun H locs ls cells slots h1 h2 h3 h4 h5 h6 => lv_icmp_lt hC.1 hC.2.1 hd ht (fun h => kt (by rw [if_pos h] at hf; exact hf) H locs ls cells slots h1 h2 h3 h4 h5 h6) (fun h => kf (by rw [if_neg h] at hf; exact hf) H locs ls cells slots h1 h2 h3 h4 h5 h6)
theorem v_icmp_ge {K : Cq} {cc : ByteArray} {own : String} {kr sr : Nat} {σ : St} {pc : Nat} {lv : List (Nat × Value)} {st : List Value} (hC : Cx K cc own) {x y : Int32} {off : Int} {tgt : Nat} {τ : Type} {T F : Option τ} {res : τ} (hf : (if y ≤ x then T else F) = some res) (hd : decode cc pc = .ok (.if_icmp .ge off, 3)) (ht : (pc : Int) + off = (tgt : Int)) (kt : T = some res → V K kr sr σ tgt lv st) (kf : F = some res → V K kr sr σ (pc + 3) lv st) : V K kr sr σ pc lv (.int y :: .int x :: st) := fun H locs ls cells slots h1 h2 h3 h4 h5 h6 => lv_icmp_ge hC.1 hC.2.1 hd ht (fun h => kt (by rw [if_pos h] at hf; exact hf) H locs ls cells slots h1 h2 h3 h4 h5 h6) (fun h => kf (by rw [if_neg h] at hf; exact hf) H locs ls cells slots h1 h2 h3 h4 h5 h6)
theorem v_icmp_gt {K : Cq} {cc : ByteArray} {own : String} {kr sr : Nat} {σ : St} {pc : Nat} {lv : List (Nat × Value)} {st : List Value} (hC : Cx K cc own) {x y : Int32} {off : Int} {tgt : Nat} {τ : Type} {T F : Option τ} {res : τ} (hf : (if y < x then T else F) = some res) (hd : decode cc pc = .ok (.if_icmp .gt off, 3)) (ht : (pc : Int) + off = (tgt : Int)) (kt : T = some res → V K kr sr σ tgt lv st) (kf : F = some res → V K kr sr σ (pc + 3) lv st) : V K kr sr σ pc lv (.int y :: .int x :: st) := fun H locs ls cells slots h1 h2 h3 h4 h5 h6 => lv_icmp_gt hC.1 hC.2.1 hd ht (fun h => kt (by rw [if_pos h] at hf; exact hf) H locs ls cells slots h1 h2 h3 h4 h5 h6) (fun h => kf (by rw [if_neg h] at hf; exact hf) H locs ls cells slots h1 h2 h3 h4 h5 h6)
theorem v_icmp_le {K : Cq} {cc : ByteArray} {own : String} {kr sr : Nat} {σ : St} {pc : Nat} {lv : List (Nat × Value)} {st : List Value} (hC : Cx K cc own) {x y : Int32} {off : Int} {tgt : Nat} {τ : Type} {T F : Option τ} {res : τ} (hf : (if x ≤ y then T else F) = some res) (hd : decode cc pc = .ok (.if_icmp .le off, 3)) (ht : (pc : Int) + off = (tgt : Int)) (kt : T = some res → V K kr sr σ tgt lv st) (kf : F = some res → V K kr sr σ (pc + 3) lv st) : V K kr sr σ pc lv (.int y :: .int x :: st) := fun H locs ls cells slots h1 h2 h3 h4 h5 h6 => lv_icmp_le hC.1 hC.2.1 hd ht (fun h => kt (by rw [if_pos h] at hf; exact hf) H locs ls cells slots h1 h2 h3 h4 h5 h6) (fun h => kf (by rw [if_neg h] at hf; exact hf) H locs ls cells slots h1 h2 h3 h4 h5 h6)
theorem lgc_eq (x y : Int64) : lg_cmp x y = 0 ↔ x = y := by
  unfold lg_cmp
  by_cases h : x > y
  · rw [if_pos h]; exact ⟨fun q => (by cases q), fun q => absurd (q ▸ h) (Int64.lt_irrefl)⟩
  · rw [if_neg h]
    by_cases h2 : x = y
    · rw [if_pos h2]; exact ⟨fun _ => h2, fun _ => rfl⟩
    · rw [if_neg h2]; exact ⟨fun q => (by cases q), fun q => absurd q h2⟩
theorem lgc_lt (x y : Int64) : lg_cmp x y < 0 ↔ x < y := by
  unfold lg_cmp
  by_cases h : x > y
  · rw [if_pos h]; exact ⟨fun q => absurd q (by decide), fun q => absurd (Int64.lt_trans q h) (Int64.lt_irrefl)⟩
  · rw [if_neg h]
    by_cases h2 : x = y
    · rw [if_pos h2]; exact ⟨fun q => absurd q (by decide), fun q => absurd (h2 ▸ q) (Int64.lt_irrefl)⟩
    · rw [if_neg h2]; refine ⟨fun _ => ?_, fun _ => by decide⟩
      have h3 : x ≤ y := Int64.not_lt.mp h
      rcases Int64.lt_or_eq_of_le h3 with q | q
      · exact q
      · exact absurd q h2
theorem lgc_gt (x y : Int64) : 0 < lg_cmp x y ↔ y < x := by
  unfold lg_cmp
  by_cases h : x > y
  · rw [if_pos h]; exact ⟨fun _ => h, fun _ => by decide⟩
  · rw [if_neg h]
    refine ⟨fun q => ?_, fun q => absurd q h⟩
    by_cases h2 : x = y
    · rw [if_pos h2] at q; exact absurd q (by decide)
    · rw [if_neg h2] at q; exact absurd q (by decide)
theorem lgc_ge (x y : Int64) : 0 ≤ lg_cmp x y ↔ y ≤ x := by rw [← Int32.not_lt, ← Int64.not_lt, lgc_lt]
theorem lgc_le (x y : Int64) : lg_cmp x y ≤ 0 ↔ x ≤ y := by rw [← Int32.not_lt, ← Int64.not_lt, lgc_gt]

theorem v_lcmp_eq {K : Cq} {cc : ByteArray} {own : String} {kr sr : Nat} {σ : St} {pc : Nat} {lv : List (Nat × Value)} {st : List Value} (hC : Cx K cc own) {x y : Int64} {off : Int} {tgt : Nat} {τ : Type} {T F : Option τ} {res : τ} (hf : (if x = y then T else F) = some res) (hd : decode cc pc = .ok (.lcmp, 1)) (hd2 : decode cc (pc + 1) = .ok (.ifCond .eq off, 3)) (ht : ((pc + 1 : Nat) : Int) + off = (tgt : Int)) (kt : T = some res → V K kr sr σ tgt lv st) (kf : F = some res → V K kr sr σ (pc + 1 + 3) lv st) : V K kr sr σ pc lv (.long y :: .long x :: st) := fun H locs ls cells slots h1 h2 h3 h4 h5 h6 => W.lcmp hC.1 hC.2.1 hd (lv_if_eq hC.1 hC.2.1 hd2 ht (fun h => kt (by rw [if_pos ((lgc_eq x y).mp h)] at hf; exact hf) H locs ls cells slots h1 h2 h3 h4 h5 h6) (fun h => kf (by rw [if_neg (fun q => h ((lgc_eq x y).mpr q))] at hf; exact hf) H locs ls cells slots h1 h2 h3 h4 h5 h6))
theorem v_lcmp_ne {K : Cq} {cc : ByteArray} {own : String} {kr sr : Nat} {σ : St} {pc : Nat} {lv : List (Nat × Value)} {st : List Value} (hC : Cx K cc own) {x y : Int64} {off : Int} {tgt : Nat} {τ : Type} {T F : Option τ} {res : τ} (hf : (if x = y then F else T) = some res) (hd : decode cc pc = .ok (.lcmp, 1)) (hd2 : decode cc (pc + 1) = .ok (.ifCond .ne off, 3)) (ht : ((pc + 1 : Nat) : Int) + off = (tgt : Int)) (kt : T = some res → V K kr sr σ tgt lv st) (kf : F = some res → V K kr sr σ (pc + 1 + 3) lv st) : V K kr sr σ pc lv (.long y :: .long x :: st) := fun H locs ls cells slots h1 h2 h3 h4 h5 h6 => W.lcmp hC.1 hC.2.1 hd (lv_if_ne hC.1 hC.2.1 hd2 ht (fun h => kt (by rw [if_neg (fun q => h ((lgc_eq x y).mpr q))] at hf; exact hf) H locs ls cells slots h1 h2 h3 h4 h5 h6) (fun h => kf (by rw [if_pos ((lgc_eq x y).mp h)] at hf; exact hf) H locs ls cells slots h1 h2 h3 h4 h5 h6))
theorem v_lcmp_lt {K : Cq} {cc : ByteArray} {own : String} {kr sr : Nat} {σ : St} {pc : Nat} {lv : List (Nat × Value)} {st : List Value} (hC : Cx K cc own) {x y : Int64} {off : Int} {tgt : Nat} {τ : Type} {T F : Option τ} {res : τ} (hf : (if x < y then T else F) = some res) (hd : decode cc pc = .ok (.lcmp, 1)) (hd2 : decode cc (pc + 1) = .ok (.ifCond .lt off, 3)) (ht : ((pc + 1 : Nat) : Int) + off = (tgt : Int)) (kt : T = some res → V K kr sr σ tgt lv st) (kf : F = some res → V K kr sr σ (pc + 1 + 3) lv st) : V K kr sr σ pc lv (.long y :: .long x :: st) := fun H locs ls cells slots h1 h2 h3 h4 h5 h6 => W.lcmp hC.1 hC.2.1 hd (lv_if_lt hC.1 hC.2.1 hd2 ht (fun h => kt (by rw [if_pos ((lgc_lt x y).mp h)] at hf; exact hf) H locs ls cells slots h1 h2 h3 h4 h5 h6) (fun h => kf (by rw [if_neg (fun q => h ((lgc_lt x y).mpr q))] at hf; exact hf) H locs ls cells slots h1 h2 h3 h4 h5 h6))
theorem v_lcmp_ge {K : Cq} {cc : ByteArray} {own : String} {kr sr : Nat} {σ : St} {pc : Nat} {lv : List (Nat × Value)} {st : List Value} (hC : Cx K cc own) {x y : Int64} {off : Int} {tgt : Nat} {τ : Type} {T F : Option τ} {res : τ} (hf : (if y ≤ x then T else F) = some res) (hd : decode cc pc = .ok (.lcmp, 1)) (hd2 : decode cc (pc + 1) = .ok (.ifCond .ge off, 3)) (ht : ((pc + 1 : Nat) : Int) + off = (tgt : Int)) (kt : T = some res → V K kr sr σ tgt lv st) (kf : F = some res → V K kr sr σ (pc + 1 + 3) lv st) : V K kr sr σ pc lv (.long y :: .long x :: st) := fun H locs ls cells slots h1 h2 h3 h4 h5 h6 => W.lcmp hC.1 hC.2.1 hd (lv_if_ge hC.1 hC.2.1 hd2 ht (fun h => kt (by rw [if_pos ((lgc_ge x y).mp h)] at hf; exact hf) H locs ls cells slots h1 h2 h3 h4 h5 h6) (fun h => kf (by rw [if_neg (fun q => h ((lgc_ge x y).mpr q))] at hf; exact hf) H locs ls cells slots h1 h2 h3 h4 h5 h6))
theorem v_lcmp_gt {K : Cq} {cc : ByteArray} {own : String} {kr sr : Nat} {σ : St} {pc : Nat} {lv : List (Nat × Value)} {st : List Value} (hC : Cx K cc own) {x y : Int64} {off : Int} {tgt : Nat} {τ : Type} {T F : Option τ} {res : τ} (hf : (if y < x then T else F) = some res) (hd : decode cc pc = .ok (.lcmp, 1)) (hd2 : decode cc (pc + 1) = .ok (.ifCond .gt off, 3)) (ht : ((pc + 1 : Nat) : Int) + off = (tgt : Int)) (kt : T = some res → V K kr sr σ tgt lv st) (kf : F = some res → V K kr sr σ (pc + 1 + 3) lv st) : V K kr sr σ pc lv (.long y :: .long x :: st) := fun H locs ls cells slots h1 h2 h3 h4 h5 h6 => W.lcmp hC.1 hC.2.1 hd (lv_if_gt hC.1 hC.2.1 hd2 ht (fun h => kt (by rw [if_pos ((lgc_gt x y).mp h)] at hf; exact hf) H locs ls cells slots h1 h2 h3 h4 h5 h6) (fun h => kf (by rw [if_neg (fun q => h ((lgc_gt x y).mpr q))] at hf; exact hf) H locs ls cells slots h1 h2 h3 h4 h5 h6))
theorem v_lcmp_le {K : Cq} {cc : ByteArray} {own : String} {kr sr : Nat} {σ : St} {pc : Nat} {lv : List (Nat × Value)} {st : List Value} (hC : Cx K cc own) {x y : Int64} {off : Int} {tgt : Nat} {τ : Type} {T F : Option τ} {res : τ} (hf : (if x ≤ y then T else F) = some res) (hd : decode cc pc = .ok (.lcmp, 1)) (hd2 : decode cc (pc + 1) = .ok (.ifCond .le off, 3)) (ht : ((pc + 1 : Nat) : Int) + off = (tgt : Int)) (kt : T = some res → V K kr sr σ tgt lv st) (kf : F = some res → V K kr sr σ (pc + 1 + 3) lv st) : V K kr sr σ pc lv (.long y :: .long x :: st) := fun H locs ls cells slots h1 h2 h3 h4 h5 h6 => W.lcmp hC.1 hC.2.1 hd (lv_if_le hC.1 hC.2.1 hd2 ht (fun h => kt (by rw [if_pos ((lgc_le x y).mp h)] at hf; exact hf) H locs ls cells slots h1 h2 h3 h4 h5 h6) (fun h => kf (by rw [if_neg (fun q => h ((lgc_le x y).mpr q))] at hf; exact hf) H locs ls cells slots h1 h2 h3 h4 h5 h6))
end
section
theorem KK.k1 {G : Gm} {U : State} (h : KK G U) {ty : FieldType} (ht : okT ty) : va_K G.1 vwCl [(G.2.1 ty, ty)] U := by
  refine ⟨h.1.1, fun k q hk => ?_⟩
  cases k with
  | zero => cases hk; exact h.2.1 ty ht
  | succ k => simp at hk
theorem va1 {G : Gm} {σ : St} {H : Heap} {a ci : Nat} {fs : List Value} (hP : Pic G σ H) (h : σ.1 a = some (.inr (.inl (ci, fs)))) : va_P G.1 vwCl [(a, .inr (ci, fs))] H := by
  intro k q hk
  cases k with
  | zero => cases hk; exact (hP.2.2.2.2 a _ h).1
  | succ k => simp at hk
theorem va2 {G : Gm} {σ : St} {H : Heap} {a : Nat} {ty : FieldType} {x : vp_A} (hP : Pic G σ H) (h : σ.1 a = some (.inl (ty, x))) : va_P G.1 vwCl [(a, .inl (G.2.1 ty, x))] H := by
  intro k q hk
  cases k with
  | zero => cases hk; exact (hP.2.2.2.2 a _ h).1.2.1
  | succ k => simp at hk
theorem Pic.set {G : Gm} {σ : St} {H H1 : Heap} {a : Nat} {e0 e : Cel} (hP : Pic G σ H) (h : σ.1 a = some e0) (hw : wrC e0) (ha : atC G a e H1) (hz : H1.size = H.size) (oq : ∀ q : Nat, q ≠ a → H1[q]? = H[q]?) : Pic G (stH σ a e) H1 := by
  obtain ⟨p1, p2, p3, p4, p5⟩ := hP
  have hge : G.2.2.1.size ≤ a := (p5 a e0 h).2 hw
  refine ⟨hz.trans p1, p2, fun q hq => (oq q (by omega)).trans (p3 q hq), p4, fun q e1 h1 => ?_⟩
  by_cases hq : q = a
  · subst hq
    have h2 : (some e : Option Cel) = some e1 := by rw [← h1]; exact (if_pos rfl).symm
    cases h2
    exact ⟨ha, fun _ => hge⟩
  · have h2 : σ.1 q = some e1 := by rw [← h1]; exact (if_neg hq).symm
    exact ⟨(p5 q e1 h2).1.kept (fun _ => oq q hq), (p5 q e1 h2).2⟩
theorem Aof.set {σ : St} {a : Nat} {e0 e : Cel} (h : σ.1 a = some e0) (hw : wrC e0) {q : Nat} (hq : Aof (stH σ a e) q) : Aof σ q := by
  rcases hq with ⟨e1, h1, h2⟩ | h1
  · by_cases hqa : q = a
    · subst hqa; exact Or.inl ⟨e0, h, hw⟩
    · exact Or.inl ⟨e1, by rw [← h1]; exact (if_neg hqa).symm, h2⟩
  · exact Or.inr h1
theorem Pic.push {G : Gm} {σ : St} {H H1 : Heap} {e : Cel} (hP : Pic G σ H) (ha : atC G σ.2.1 e H1) (hz : H1.size = σ.2.1 + 1) (oq : ∀ q : Nat, q < σ.2.1 → H1[q]? = H[q]?) : Pic G (nwH σ e) H1 := by
  obtain ⟨p1, p2, p3, p4, p5⟩ := hP
  refine ⟨hz, Nat.le_succ_of_le p2, fun q hq => (oq q (Nat.lt_of_lt_of_le hq p2)).trans (p3 q hq), p4, fun q e1 h1 => ?_⟩
  by_cases hq : q = σ.2.1
  · subst hq
    have h2 : (some e : Option Cel) = some e1 := by rw [← h1]; exact (if_pos rfl).symm
    cases h2
    exact ⟨ha, fun _ => p2⟩
  · have h2 : σ.1 q = some e1 := by rw [← h1]; exact (if_neg hq).symm
    exact ⟨(p5 q e1 h2).1.kept (fun hw => oq q (by rw [← p1]; exact (p5 q e1 h2).1.lt hw)), (p5 q e1 h2).2⟩
theorem Aof.push {σ : St} {e : Cel} {q : Nat} (hq : Aof (nwH σ e) q) : Aof σ q := by
  rcases hq with ⟨e1, h1, h2⟩ | h1
  · by_cases hqa : q = σ.2.1
    · subst hqa; exact Or.inr (Nat.le_refl _)
    · exact Or.inl ⟨e1, by rw [← h1]; exact (if_neg hqa).symm, h2⟩
  · exact Or.inr (Nat.le_of_succ_le h1)
/-- field k of class ci: its name, descriptor, type, whether it is final -/
def FD (ci k : Nat) (C nm desc : String) (fin : Bool) (ty : FieldType) : Prop := ∃ (T : u_T) (N : Nat) (ty0 : Nat → FieldType), vwCl[ci]? = some (C, T, N) ∧ (∀ w ∈ u_ws C T N, w ∈ GT) ∧ k < N ∧ T k = (C, nm, desc, fin) ∧ (∀ j, j < N → parseFieldDescriptor (T j).2.2.1 = some (ty0 j)) ∧ (∀ a, a < N → ∀ b, b < N → a ≠ b → (T a).2.1 ≠ (T b).2.1) ∧ parseFieldDescriptor desc = some ty
theorem gF_some {σ : St} {ci a k : Nat} {v : Value} (h : gF σ ci a k = some v) : ∃ fs : List Value, σ.1 a = some (.inr (.inl (ci, fs))) ∧ fs[k]? = some v := by
  unfold gF at h
  split at h
  · rename_i o ho
    by_cases hc : o.1 = ci
    · rw [if_pos hc] at h
      refine ⟨o.2, ?_, h⟩
      rw [ho, ← hc]
    · rw [if_neg hc] at h; cases h
  · cases h
theorem pF_some {σ σ1 : St} {ci a k : Nat} {v : Value} (h : pF σ ci a k v = some σ1) : ∃ fs : List Value, σ.1 a = some (.inr (.inl (ci, fs))) ∧ k < fs.length ∧ σ1 = stH σ a (.inr (.inl (ci, fs.set k v))) := by
  unfold pF at h
  split at h
  · rename_i o ho
    by_cases hc : o.1 = ci ∧ k < o.2.length
    · rw [if_pos hc] at h
      cases h
      refine ⟨o.2, ?_, hc.2, rfl⟩
      rw [ho, ← hc.1]
    · rw [if_neg hc] at h; cases h
  · cases h
section R2
variable {K : Cq} {cc : ByteArray} {own : String} {kr sr : Nat} {σ : St} {pc : Nat} {lv : List (Nat × Value)} {st : List Value}
theorem v_getV (hC : Cx K cc own) {index ci a k : Nat} {C nm desc : String} {fin : Bool} {ty : FieldType} {v : Value} (hg : gF σ ci a k = some v) (hF : FD ci k C nm desc fin ty) (hw : Cond.fieldLink own index C nm desc ∈ GT) (hd : decode cc pc = .ok (.getfield index, 3)) (kk : V K kr sr σ (pc + 3) lv (v :: st)) : V K kr sr σ pc lv (.ref a :: st) := by
  obtain ⟨fs, hs, hv⟩ := gF_some hg
  obtain ⟨T, N, ty0, f1, f2, f3, f4, f5, f6, f7⟩ := hF
  intro H locs ls cells slots h1 h2 h3 h4 h5 h6
  have e1 : (T k).1 = C := by rw [f4]
  have e2 : (T k).2.1 = nm := by rw [f4]
  have e3 : (T k).2.2.1 = desc := by rw [f4]
  exact va_get (Ts := GT) (own := own) (ref := C) hC.1 hC.2.1 hC.2.2.2.2.1 f2 hC.2.2.2.1 hC.2.2.2.2.2.1.1 (va1 h1 hs) 0 rfl f1 k f3 (by rw [e2, e3]; exact hC.2.2.2.2.1 _ hw) (by rw [e1]; exact fun _ h => h) hv hd (kk H locs ls cells slots h1 h2 h3 h4 h5 h6)
theorem v_getVN (hC : Cx K cc own) {index ci a k : Nat} {C nm desc host : String} {fin : Bool} {ty : FieldType} {v : Value} (hg : gF σ ci a k = some v) (hF : FD ci k C nm desc fin ty) (hw : Cond.fieldLinkNest own index C nm desc host ∈ NW) (hd : decode cc pc = .ok (.getfield index, 3)) (kk : V K kr sr σ (pc + 3) lv (v :: st)) : V K kr sr σ pc lv (.ref a :: st) := by
  obtain ⟨fs, hs, hv⟩ := gF_some hg
  obtain ⟨T, N, ty0, f1, f2, f3, f4, f5, f6, f7⟩ := hF
  intro H locs ls cells slots h1 h2 h3 h4 h5 h6
  have e1 : (T k).1 = C := by rw [f4]
  have e2 : (T k).2.1 = nm := by rw [f4]
  have e3 : (T k).2.2.1 = desc := by rw [f4]
  exact va_getN (Ts := GT) (own := own) (ref := C) (host := host) hC.1 hC.2.1 hC.2.2.2.2.1 f2 hC.2.2.2.1 hC.2.2.2.2.2.1.1 (va1 h1 hs) 0 rfl f1 k f3 (by rw [e2, e3]; exact va_Nw.use (NW_tab _ hw) (hC.2.2.2.2.2.1.2.2.2.2.1 _ hw)) (by rw [e1]; exact fun _ h => h) hv hd (kk H locs ls cells slots h1 h2 h3 h4 h5 h6)
theorem bindI {σ : St} {ci a k : Nat} {τ : Type} {f : Int32 → Option τ} {res : τ} (hf : (gI σ ci a k).bind f = some res) : ∃ x : Int32, gF σ ci a k = some (.int x) ∧ f x = some res := by
  unfold gI at hf
  cases h : gF σ ci a k with
  | none => rw [h] at hf; cases hf
  | some v => cases v <;> rw [h] at hf <;> first | exact ⟨_, rfl, hf⟩ | cases hf
theorem bindL {σ : St} {ci a k : Nat} {τ : Type} {f : Int64 → Option τ} {res : τ} (hf : (gL σ ci a k).bind f = some res) : ∃ x : Int64, gF σ ci a k = some (.long x) ∧ f x = some res := by
  unfold gL at hf
  cases h : gF σ ci a k with
  | none => rw [h] at hf; cases hf
  | some v => cases v <;> rw [h] at hf <;> first | exact ⟨_, rfl, hf⟩ | cases hf
theorem bindR {σ : St} {ci a k : Nat} {τ : Type} {f : Nat → Option τ} {res : τ} (hf : (gR σ ci a k).bind f = some res) : ∃ x : Nat, gF σ ci a k = some (.ref x) ∧ f x = some res := by
  unfold gR at hf
  cases h : gF σ ci a k with
  | none => rw [h] at hf; cases hf
  | some v => cases v <;> rw [h] at hf <;> first | exact ⟨_, rfl, hf⟩ | cases hf
theorem v_getI (hC : Cx K cc own) {index ci a k : Nat} {C nm desc host : String} {fin : Bool} {ty : FieldType} {τ : Type} {f : Int32 → Option τ} {res : τ} (hf : (gI σ ci a k).bind f = some res) (hF : FD ci k C nm desc fin ty) (hw : Cond.fieldLink own index C nm desc ∈ GT) (hd : decode cc pc = .ok (.getfield index, 3)) (kk : ∀ x : Int32, f x = some res → V K kr sr σ (pc + 3) lv (.int x :: st)) : V K kr sr σ pc lv (.ref a :: st) := by
  obtain ⟨x, hg, hf⟩ := bindI hf
  exact v_getV hC hg hF hw hd (kk x hf)
theorem v_getIN (hC : Cx K cc own) {index ci a k : Nat} {C nm desc host : String} {fin : Bool} {ty : FieldType} {τ : Type} {f : Int32 → Option τ} {res : τ} (hf : (gI σ ci a k).bind f = some res) (hF : FD ci k C nm desc fin ty) (hw : Cond.fieldLinkNest own index C nm desc host ∈ NW) (hd : decode cc pc = .ok (.getfield index, 3)) (kk : ∀ x : Int32, f x = some res → V K kr sr σ (pc + 3) lv (.int x :: st)) : V K kr sr σ pc lv (.ref a :: st) := by
  obtain ⟨x, hg, hf⟩ := bindI hf
  exact v_getVN hC hg hF hw hd (kk x hf)
theorem v_getL (hC : Cx K cc own) {index ci a k : Nat} {C nm desc host : String} {fin : Bool} {ty : FieldType} {τ : Type} {f : Int64 → Option τ} {res : τ} (hf : (gL σ ci a k).bind f = some res) (hF : FD ci k C nm desc fin ty) (hw : Cond.fieldLink own index C nm desc ∈ GT) (hd : decode cc pc = .ok (.getfield index, 3)) (kk : ∀ x : Int64, f x = some res → V K kr sr σ (pc + 3) lv (.long x :: st)) : V K kr sr σ pc lv (.ref a :: st) := by
  obtain ⟨x, hg, hf⟩ := bindL hf
  exact v_getV hC hg hF hw hd (kk x hf)
theorem v_getLN (hC : Cx K cc own) {index ci a k : Nat} {C nm desc host : String} {fin : Bool} {ty : FieldType} {τ : Type} {f : Int64 → Option τ} {res : τ} (hf : (gL σ ci a k).bind f = some res) (hF : FD ci k C nm desc fin ty) (hw : Cond.fieldLinkNest own index C nm desc host ∈ NW) (hd : decode cc pc = .ok (.getfield index, 3)) (kk : ∀ x : Int64, f x = some res → V K kr sr σ (pc + 3) lv (.long x :: st)) : V K kr sr σ pc lv (.ref a :: st) := by
  obtain ⟨x, hg, hf⟩ := bindL hf
  exact v_getVN hC hg hF hw hd (kk x hf)
theorem v_getR (hC : Cx K cc own) {index ci a k : Nat} {C nm desc host : String} {fin : Bool} {ty : FieldType} {τ : Type} {f : Nat → Option τ} {res : τ} (hf : (gR σ ci a k).bind f = some res) (hF : FD ci k C nm desc fin ty) (hw : Cond.fieldLink own index C nm desc ∈ GT) (hd : decode cc pc = .ok (.getfield index, 3)) (kk : ∀ x : Nat, f x = some res → V K kr sr σ (pc + 3) lv (.ref x :: st)) : V K kr sr σ pc lv (.ref a :: st) := by
  obtain ⟨x, hg, hf⟩ := bindR hf
  exact v_getV hC hg hF hw hd (kk x hf)
theorem v_getRN (hC : Cx K cc own) {index ci a k : Nat} {C nm desc host : String} {fin : Bool} {ty : FieldType} {τ : Type} {f : Nat → Option τ} {res : τ} (hf : (gR σ ci a k).bind f = some res) (hF : FD ci k C nm desc fin ty) (hw : Cond.fieldLinkNest own index C nm desc host ∈ NW) (hd : decode cc pc = .ok (.getfield index, 3)) (kk : ∀ x : Nat, f x = some res → V K kr sr σ (pc + 3) lv (.ref x :: st)) : V K kr sr σ pc lv (.ref a :: st) := by
  obtain ⟨x, hg, hf⟩ := bindR hf
  exact v_getVN hC hg hF hw hd (kk x hf)
theorem v_put (hC : Cx K cc own) {index ci a k : Nat} {C nm desc : String} {ty : FieldType} {v : Value} {τ : Type} {f : St → Option τ} {res : τ} (hf : (pF σ ci a k v).bind f = some res) (hF : FD ci k C nm desc false ty) (hw : Cond.fieldLink own index C nm desc ∈ GT) (hn : narrow ty v = v) (hfit : fits ty v = true) (hd : decode cc pc = .ok (.putfield index, 3)) (kk : ∀ σ1 : St, f σ1 = some res → V K kr sr σ1 (pc + 3) lv st) : V K kr sr σ pc lv (v :: .ref a :: st) := by
  obtain ⟨σ1, hp, hf⟩ := Option.bind_eq_some_iff.mp hf
  obtain ⟨fs, hs, hlt, hσ⟩ := pF_some hp
  obtain ⟨T, N, ty0, f1, f2, f3, f4, f5, f6, f7⟩ := hF
  intro H locs ls cells slots h1 h2 h3 h4 h5 h6
  have e1 : (T k).1 = C := by rw [f4]
  have e2 : (T k).2.1 = nm := by rw [f4]
  have e3 : (T k).2.2.1 = desc := by rw [f4]
  have e4 : (T k).2.2.2 = false := by rw [f4]
  have hts := hC.2.2.2.2.1
  have hK := hC.2.2.2.2.2.1.1
  have hap := va_apart (own := own) hts f2 ty0 f5 f6 hK f1
  obtain ⟨r, hr1, cell, q1, q2, q3, q4⟩ := (h1.2.2.2.2 a _ hs).1
  have hr : r = (C, T, N) := Option.some.inj (hr1.symm.trans f1)
  subst hr
  obtain ⟨hS, hfc, kC, hkC, hkind⟩ := hK.1 ci _ f1
  obtain ⟨cf, kf, fi, fl, hi, hsl⟩ := hS k f3
  have hlay := hts _ (f2 _ (u_in_lay f3))
  unfold u_lay at hlay
  rw [if_neg (by rw [e4]; decide)] at hlay
  have hst := (u_facts hfc hkC (u_lays hts f2 f3) hi).1
  have h8 := u_store hfc hkC hkind hlay hi (by rw [e3]; exact f7) hn hfit
  have hlink : (Cond.fieldLink own index C (T k).2.1 (T k).2.2.1).before (ka K) (ks K) = true := by rw [e2, e3]; exact hts _ hw
  have hsame : (ks K).fieldFound? C (T k).2.1 (T k).2.2.1 = some (cf, kf, fi, fl) := by rw [← hi, e1]
  refine W.putK hC.1 hC.2.1 (f := fl) ⟨hC.2.2.2.1, hlink, ⟨_, _, _, hsame⟩, hst⟩ (by rw [q2]; exact h8) q1 q3 (by rw [hsl]; exact k2_hasslot (q4 k f3)) rfl rfl hd fun H' g1 g2 g3 => ?_
  rw [hsl] at g1 ⊢
  have hat : atC (kG K) a (.inr (.inl (ci, fs.set k v))) H' := ⟨_, f1, t_OB.to (V := updV (vp_V fs) k v) ⟨_, g1, q2, q3, t_set q4 hap f3 v⟩ (fun j _ => vp_updV_set hlt v j)⟩
  subst hσ
  exact kk _ hf H' _ ls cells slots (h1.set hs trivial hat g2 g3) (h2.put g2 g3 (h3 a (Or.inl ⟨_, hs, trivial⟩))) (fun q hq => h3 q (Aof.set hs trivial hq)) h4 h5 h6
theorem v_putN (hC : Cx K cc own) {index ci a k : Nat} {C nm desc host : String} {ty : FieldType} {v : Value} {τ : Type} {f : St → Option τ} {res : τ} (hf : (pF σ ci a k v).bind f = some res) (hF : FD ci k C nm desc false ty) (hw : Cond.fieldLinkNest own index C nm desc host ∈ NW) (hn : narrow ty v = v) (hfit : fits ty v = true) (hd : decode cc pc = .ok (.putfield index, 3)) (kk : ∀ σ1 : St, f σ1 = some res → V K kr sr σ1 (pc + 3) lv st) : V K kr sr σ pc lv (v :: .ref a :: st) := by
  obtain ⟨σ1, hp, hf⟩ := Option.bind_eq_some_iff.mp hf
  obtain ⟨fs, hs, hlt, hσ⟩ := pF_some hp
  obtain ⟨T, N, ty0, f1, f2, f3, f4, f5, f6, f7⟩ := hF
  intro H locs ls cells slots h1 h2 h3 h4 h5 h6
  have e1 : (T k).1 = C := by rw [f4]
  have e2 : (T k).2.1 = nm := by rw [f4]
  have e3 : (T k).2.2.1 = desc := by rw [f4]
  have e4 : (T k).2.2.2 = false := by rw [f4]
  have hts := hC.2.2.2.2.1
  have hK := hC.2.2.2.2.2.1.1
  have hap := va_apart (own := own) hts f2 ty0 f5 f6 hK f1
  obtain ⟨r, hr1, cell, q1, q2, q3, q4⟩ := (h1.2.2.2.2 a _ hs).1
  have hr : r = (C, T, N) := Option.some.inj (hr1.symm.trans f1)
  subst hr
  obtain ⟨hS, hfc, kC, hkC, hkind⟩ := hK.1 ci _ f1
  obtain ⟨cf, kf, fi, fl, hi, hsl⟩ := hS k f3
  have hlay := hts _ (f2 _ (u_in_lay f3))
  unfold u_lay at hlay
  rw [if_neg (by rw [e4]; decide)] at hlay
  have hst := (u_facts hfc hkC (u_lays hts f2 f3) hi).1
  have h8 := u_store hfc hkC hkind hlay hi (by rw [e3]; exact f7) hn hfit
  have hlink : (Cond.fieldLinkNest own index C (T k).2.1 (T k).2.2.1 host).before (ka K) (ks K) = true := by rw [e2, e3]; exact va_Nw.use (NW_tab _ hw) (hC.2.2.2.2.2.1.2.2.2.2.1 _ hw)
  have hsame : (ks K).fieldFound? C (T k).2.1 (T k).2.2.1 = some (cf, kf, fi, fl) := by rw [← hi, e1]
  refine va_WputK hC.1 hC.2.1 (f := fl) hC.2.2.2.1 hlink hsame hst (by rw [q2]; exact h8) q1 q3 (by rw [hsl]; exact k2_hasslot (q4 k f3)) rfl rfl hd fun H' g1 g2 g3 => ?_
  rw [hsl] at g1 ⊢
  have hat : atC (kG K) a (.inr (.inl (ci, fs.set k v))) H' := ⟨_, f1, t_OB.to (V := updV (vp_V fs) k v) ⟨_, g1, q2, q3, t_set q4 hap f3 v⟩ (fun j _ => vp_updV_set hlt v j)⟩
  subst hσ
  exact kk _ hf H' _ ls cells slots (h1.set hs trivial hat g2 g3) (h2.put g2 g3 (h3 a (Or.inl ⟨_, hs, trivial⟩))) (fun q hq => h3 q (Aof.set hs trivial hq)) h4 h5 h6
theorem v_putF (hC : Cx K cc own) {index ci a k : Nat} {C nm desc : String} {ty : FieldType} {v : Value} {τ : Type} {f : St → Option τ} {res : τ} (hf : (pF σ ci a k v).bind f = some res) (hin2 : (kt K).name = "<init>") (hown : C = own) (hF : FD ci k C nm desc true ty) (hw : Cond.fieldLink own index C nm desc ∈ GT) (hn : narrow ty v = v) (hfit : fits ty v = true) (hd : decode cc pc = .ok (.putfield index, 3)) (kk : ∀ σ1 : St, f σ1 = some res → V K kr sr σ1 (pc + 3) lv st) : V K kr sr σ pc lv (v :: .ref a :: st) := by
  obtain ⟨σ1, hp, hf⟩ := Option.bind_eq_some_iff.mp hf
  obtain ⟨fs, hs, hlt, hσ⟩ := pF_some hp
  obtain ⟨T, N, ty0, f1, f2, f3, f4, f5, f6, f7⟩ := hF
  intro H locs ls cells slots h1 h2 h3 h4 h5 h6
  have e1 : (T k).1 = C := by rw [f4]
  have e2 : (T k).2.1 = nm := by rw [f4]
  have e3 : (T k).2.2.1 = desc := by rw [f4]
  have e4 : (T k).2.2.2 = true := by rw [f4]
  have hts := hC.2.2.2.2.1
  have hK := hC.2.2.2.2.2.1.1
  have hap := va_apart (own := own) hts f2 ty0 f5 f6 hK f1
  obtain ⟨r, hr1, cell, q1, q2, q3, q4⟩ := (h1.2.2.2.2 a _ hs).1
  have hr : r = (C, T, N) := Option.some.inj (hr1.symm.trans f1)
  subst hr
  obtain ⟨hS, hfc, kC, hkC, hkind⟩ := hK.1 ci _ f1
  obtain ⟨cf, kf, fi, fl, hi, hsl⟩ := hS k f3
  have hlay := hts _ (f2 _ (u_in_lay f3))
  unfold u_lay at hlay
  rw [if_pos e4] at hlay
  have hst := (u_facts hfc hkC (u_lays hts f2 f3) hi).1
  have hcf : (km K).cls = cf := by
    obtain ⟨_, _, c', _, _, _, -, -, hf', -, -, -, hown2, -⟩ := Cond.laysFinal_spec hlay
    have e9 : c' = cf := by have := hi.symm.trans hf'; simp at this; exact this.1.symm
    rw [e1, hown] at hown2
    rw [← e9]; exact Option.some.inj (hC.2.2.2.1.symm.trans hown2)
  have h8 := u_fits hfc hkC hkind (Or.inr hlay) hi (by rw [e3]; exact f7) hn hfit
  have hlink : (Cond.fieldLink own index C (T k).2.1 (T k).2.2.1).before (ka K) (ks K) = true := by rw [e2, e3]; exact hts _ hw
  have hsame : (ks K).fieldFound? C (T k).2.1 (T k).2.2.1 = some (cf, kf, fi, fl) := by rw [← hi, e1]
  refine W.putFinK hC.1 hC.2.1 hC.2.2.2.1 hlink hsame hst hcf hin2 (by rw [q2]; exact h8) q1 q3 (by rw [hsl]; exact k2_hasslot (q4 k f3)) rfl rfl hd fun H' g1 g2 g3 => ?_
  rw [hsl] at g1 ⊢
  have hat : atC (kG K) a (.inr (.inl (ci, fs.set k v))) H' := ⟨_, f1, t_OB.to (V := updV (vp_V fs) k v) ⟨_, g1, q2, q3, t_set q4 hap f3 v⟩ (fun j _ => vp_updV_set hlt v j)⟩
  subst hσ
  exact kk _ hf H' _ ls cells slots (h1.set hs trivial hat g2 g3) (h2.put g2 g3 (h3 a (Or.inl ⟨_, hs, trivial⟩))) (fun q hq => h3 q (Aof.set hs trivial hq)) h4 h5 h6
theorem zB {x : Int32} {τ : Type} {f : Unit → Option τ} {res : τ} (hf : (isB x).bind f = some res) : (narrow .boolean (.int x) = .int x ∧ fits .boolean (.int x) = true) ∧ f () = some res := by
  unfold isB at hf
  by_cases h : x = 0 ∨ x = 1
  · rw [if_pos h] at hf
    rcases h with rfl | rfl
    · exact ⟨⟨by decide, by decide⟩, hf⟩
    · exact ⟨⟨by decide, by decide⟩, hf⟩
  · rw [if_neg h] at hf; cases hf
theorem v_gets (hC : Cx K cc own) {index : Nat} (hw : Cond.fieldLink own index "TensMill" "TENS" "[I" ∈ GT) (hd : decode cc pc = .ok (.getstatic index, 3)) (kk : V K kr sr σ (pc + 3) lv (.ref σ.2.2 :: st)) : V K kr sr σ pc lv st := by
  intro H locs ls cells slots h1 h2 h3 h4 h5 h6
  obtain ⟨cf, kf, fi, f, a, cell, z1, z2, z3, z4, z5, z6, z7, z8⟩ := hC.2.2.2.2.2.1.2.2.1
  have hlt : a < (kG K).2.2.1.size := Nat.not_le.mp z8
  have hv : cell.slots[f.slot]? = some (.ref σ.2.2) := by rw [z7, h1.2.2.2.1]
  exact W.gets hC.1 hC.2.1 hC.2.2.2.1 (hC.2.2.2.2.1 _ hw) z1 z2 z3 z4 (by rw [h1.2.2.1 a hlt]; exact z5) (fun e => by rw [e] at z6; cases z6) hv rfl hd (kk H locs ls cells slots h1 h2 h3 h4 h5 h6)
theorem v_getsN (hC : Cx K cc own) {index : Nat} {host : String} (hw : Cond.fieldLinkNest own index "TensMill" "TENS" "[I" host ∈ NW) (hd : decode cc pc = .ok (.getstatic index, 3)) (kk : V K kr sr σ (pc + 3) lv (.ref σ.2.2 :: st)) : V K kr sr σ pc lv st := by
  intro H locs ls cells slots h1 h2 h3 h4 h5 h6
  obtain ⟨cf, kf, fi, f, a, cell, z1, z2, z3, z4, z5, z6, z7, z8⟩ := hC.2.2.2.2.2.1.2.2.1
  have hlt : a < (kG K).2.2.1.size := Nat.not_le.mp z8
  have hv : cell.slots[f.slot]? = some (.ref σ.2.2) := by rw [z7, h1.2.2.2.1]
  exact va_WgetsN hC.1 hC.2.1 hC.2.2.2.1 (va_Nw.use (NW_tab _ hw) (hC.2.2.2.2.2.1.2.2.2.2.1 _ hw)) z1 z2 z3 z4 (by rw [h1.2.2.1 a hlt]; exact z5) (fun e => by rw [e] at z6; cases z6) hv rfl hd (kk H locs ls cells slots h1 h2 h3 h4 h5 h6)
theorem roC {G : Gm} {U : State} {H : Heap} {σ : St} {a : Nat} {x : Nat × (Nat → Int32)} (hK : KK G U) (hP : Pic G σ H) (h : σ.1 a = some (.inr (.inr x))) : ∃ cell : Cell, H[a]? = some cell ∧ U.isArrayOf cell .int ∧ cell.vm ≠ .unknown ∧ x.1 ≤ cell.slots.size ∧ cell.slots.size.toInt32 = Int32.ofNat x.1 ∧ ∀ j : Nat, j < x.1 → cell.slots[j]? = some (.int (x.2 j)) := by
  obtain ⟨cell, c1, c2, c3, c4, c5, c6, c7⟩ := hK.2.2.2.1 a x (hP.2.2.2.2 a _ h).1
  exact ⟨cell, by rw [hP.2.2.1 a (Nat.not_le.mp c7)]; exact c1, c2, c3, c4, c5, c6⟩
theorem v_ldI (hC : Cx K cc own) {a : Nat} {i : Int32} {τ : Type} {f : Int32 → Option τ} {res : τ} (hf : (ldI σ a i).bind f = some res) (hd : decode cc pc = .ok (.iaload, 1)) (kk : ∀ x : Int32, f x = some res → V K kr sr σ (pc + 1) lv (.int x :: st)) : V K kr sr σ pc lv (.int i :: .ref a :: st) := by
  obtain ⟨x, hx, hf⟩ := Option.bind_eq_some_iff.mp hf
  intro H locs ls cells slots h1 h2 h3 h4 h5 h6
  unfold ldI at hx
  split at hx
  · rename_i n g hs
    by_cases hin : i < 0 ∨ n ≤ i.toNatClampNeg
    · rw [if_pos hin] at hx; cases hx
    · rw [if_neg hin] at hx
      cases hx
      exact va_iald hC.1 hC.2.1 (hC.2.2.2.2.2.1.k1 (Or.inl rfl)) (va2 h1 hs) 0 0 rfl rfl hin hd (kk _ hf H locs ls cells slots h1 h2 h3 h4 h5 h6)
  · rename_i y hs
    by_cases hin : i < 0 ∨ y.1 ≤ i.toNatClampNeg
    · rw [if_pos hin] at hx; cases hx
    · rw [if_neg hin] at hx
      cases hx
      obtain ⟨cell, c1, c2, c3, c4, c5, c6⟩ := roC hC.2.2.2.2.2.1 h1 hs
      have hlt : i.toNatClampNeg < y.1 := Nat.not_le.mp fun q => hin (Or.inr q)
      exact W.iald (v := .int (y.2 i.toNatClampNeg)) hC.1 hC.2.1 c1 c2 c3 (fun q => hin (q.elim Or.inl (fun q => Or.inr (Nat.le_trans c4 q)))) (c6 _ hlt) rfl rfl hd (kk _ hf H locs ls cells slots h1 h2 h3 h4 h5 h6)
  · cases hx
theorem v_ldB (hC : Cx K cc own) {a : Nat} {i : Int32} {τ : Type} {f : Int32 → Option τ} {res : τ} (hf : (ldB σ a i).bind f = some res) (hd : decode cc pc = .ok (.baload, 1)) (kk : ∀ x : Int32, f x = some res → V K kr sr σ (pc + 1) lv (.int x :: st)) : V K kr sr σ pc lv (.int i :: .ref a :: st) := by
  obtain ⟨x, hx, hf⟩ := Option.bind_eq_some_iff.mp hf
  intro H locs ls cells slots h1 h2 h3 h4 h5 h6
  unfold ldB at hx
  split at hx
  · rename_i n g hs
    by_cases hin : i < 0 ∨ n ≤ i.toNatClampNeg
    · rw [if_pos hin] at hx; cases hx
    · rw [if_neg hin] at hx
      cases hx
      exact va_bald hC.1 hC.2.1 (hC.2.2.2.2.2.1.k1 (Or.inr (Or.inl rfl))) (va2 h1 hs) 0 0 rfl rfl hin hd (kk _ hf H locs ls cells slots h1 h2 h3 h4 h5 h6)
  · cases hx
theorem v_ldA (hC : Cx K cc own) {a : Nat} {i : Int32} {τ : Type} {f : Nat → Option τ} {res : τ} (hf : (ldA σ a i).bind f = some res) (hd : decode cc pc = .ok (.aaload, 1)) (kk : ∀ x : Nat, f x = some res → V K kr sr σ (pc + 1) lv (.ref x :: st)) : V K kr sr σ pc lv (.int i :: .ref a :: st) := by
  obtain ⟨x, hx, hf⟩ := Option.bind_eq_some_iff.mp hf
  intro H locs ls cells slots h1 h2 h3 h4 h5 h6
  unfold ldA at hx
  split at hx
  · rename_i n g hs
    by_cases hin : i < 0 ∨ n ≤ i.toNatClampNeg
    · rw [if_pos hin] at hx; cases hx
    · rw [if_neg hin] at hx
      refine va_aldq hC.1 hC.2.1 (hC.2.2.2.2.2.1.k1 (Or.inr (Or.inr rfl))) (va2 h1 hs) 0 0 rfl rfl hin hd ?_
      rw [hx]
      exact kk _ hf H locs ls cells slots h1 h2 h3 h4 h5 h6
  · cases hx
theorem v_stI (hC : Cx K cc own) {a : Nat} {i x : Int32} {τ : Type} {f : St → Option τ} {res : τ} (hf : (stI σ a i x).bind f = some res) (hd : decode cc pc = .ok (.iastore, 1)) (kk : ∀ σ1 : St, f σ1 = some res → V K kr sr σ1 (pc + 1) lv st) : V K kr sr σ pc lv (.int x :: .int i :: .ref a :: st) := by
  obtain ⟨σ1, hx, hf⟩ := Option.bind_eq_some_iff.mp hf
  intro H locs ls cells slots h1 h2 h3 h4 h5 h6
  unfold stI at hx
  split at hx
  · rename_i n g hs
    by_cases hin : i < 0 ∨ n ≤ i.toNatClampNeg
    · rw [if_pos hin] at hx; cases hx
    · rw [if_neg hin] at hx
      cases hx
      refine W.iast hC.1 hC.2.1 (h1.2.2.2.2 a _ hs).1.2.1 ((hC.2.2.2.2.2.1.2.1 .int (Or.inl rfl)).1 n (fun j => .int (g j))) (fun q => by cases q) (by show ¬ (i < 0 ∨ (arrV _ _ _).slots.size ≤ _); rw [arrV_size]; exact hin) rfl rfl hd fun H1 e z oq => ?_
      have hat : atC (kG K) a (.inl (.int, n, .inl (upd g i.toNatClampNeg x))) H1 := by
        refine ⟨Or.inl rfl, ?_, fitI⟩
        rw [e]
        rw [vp_cell_i, vp_cell_i, arrV_store]
        congr 2
        funext q
        by_cases hq : q = i.toNatClampNeg
        · subst hq
          simp [updV, upd]
        · simp [updV, upd, hq]
      exact kk _ hf H1 _ ls cells slots (h1.set hs trivial hat z oq) (h2.put z oq (h3 a (Or.inl ⟨_, hs, trivial⟩))) (fun q hq => h3 q (Aof.set hs trivial hq)) h4 h5 h6
  · cases hx
theorem v_stB (hC : Cx K cc own) {a : Nat} {i x : Int32} {τ : Type} {f : St → Option τ} {res : τ} (hf : (stB σ a i x).bind f = some res) (hd : decode cc pc = .ok (.bastore, 1)) (kk : ∀ σ1 : St, f σ1 = some res → V K kr sr σ1 (pc + 1) lv st) : V K kr sr σ pc lv (.int x :: .int i :: .ref a :: st) := by
  obtain ⟨σ1, hx, hf⟩ := Option.bind_eq_some_iff.mp hf
  intro H locs ls cells slots h1 h2 h3 h4 h5 h6
  unfold stB at hx
  split at hx
  · rename_i n g hs
    by_cases hin : i < 0 ∨ n ≤ i.toNatClampNeg
    · rw [if_pos hin] at hx; cases hx
    · rw [if_neg hin] at hx
      cases hx
      refine W.bast hC.1 hC.2.1 (h1.2.2.2.2 a _ hs).1.2.1 ((hC.2.2.2.2.2.1.2.1 .byte (Or.inr (Or.inl rfl))).1 n (fun j => .int (g j))) (fun q => by cases q) (by show ¬ (i < 0 ∨ (arrV _ _ _).slots.size ≤ _); rw [arrV_size]; exact hin) rfl rfl hd fun H1 e z oq => ?_
      have hat : atC (kG K) a (.inl (.byte, n, .inl (upd g i.toNatClampNeg (vp_nar .byte x)))) H1 := by
        refine ⟨Or.inr (Or.inl rfl), ?_, fitBB (fun j => ?_)⟩
        rotate_left
        · by_cases hq : j = i.toNatClampNeg
          · subst hq; rw [pk_us]; exact pk_fb x
          · rw [pk_un hq]; exact (h1.2.2.2.2 a _ hs).1.2.2 rfl g rfl j
        rw [e]
        rw [vp_cell_i, vp_cell_i, arrV_store]
        congr 2
        funext q
        by_cases hq : q = i.toNatClampNeg
        · subst hq
          simp [updV, upd, vp_nar, narrow]
        · simp [updV, upd, hq]
      exact kk _ hf H1 _ ls cells slots (h1.set hs trivial hat z oq) (h2.put z oq (h3 a (Or.inl ⟨_, hs, trivial⟩))) (fun q hq => h3 q (Aof.set hs trivial hq)) h4 h5 h6
  · cases hx
theorem v_aln (hC : Cx K cc own) {a : Nat} {τ : Type} {f : Int32 → Option τ} {res : τ} (hf : (aLn σ a).bind f = some res) (hd : decode cc pc = .ok (.arraylength, 1)) (kk : ∀ x : Int32, f x = some res → V K kr sr σ (pc + 1) lv (.int x :: st)) : V K kr sr σ pc lv (.ref a :: st) := by
  obtain ⟨x, hx, hf⟩ := Option.bind_eq_some_iff.mp hf
  intro H locs ls cells slots h1 h2 h3 h4 h5 h6
  unfold aLn at hx
  split at hx
  · rename_i y hs
    cases hx
    obtain ⟨ty, y⟩ := y
    exact va_alen hC.1 hC.2.1 (hC.2.2.2.2.2.1.k1 (h1.2.2.2.2 a _ hs).1.1) (va2 h1 hs) 0 0 rfl rfl rfl hd (kk _ hf H locs ls cells slots h1 h2 h3 h4 h5 h6)
  · rename_i y hs
    cases hx
    obtain ⟨cell, c1, c2, c3, c4, c5, c6⟩ := roC hC.2.2.2.2.2.1 h1 hs
    exact W.alen hC.1 hC.2.1 c1 c2 c5 rfl rfl hd (kk _ hf H locs ls cells slots h1 h2 h3 h4 h5 h6)
  · cases hx
end R2
end
section
section R3
variable {K : Cq} {cc : ByteArray} {own : String} {kr sr : Nat} {σ : St} {pc : Nat} {lv : List (Nat × Value)} {st : List Value}
theorem ac_some {ρ : Type} {k s : Nat} {x : Rs ρ} {r : ρ} {σf : St} {kr sr : Nat} (h : ac k s x = some (r, σf, kr, sr)) : ∃ k' s', x = some (r, σf, k', s') ∧ kr = k + k' ∧ sr = s + s' := by
  unfold ac at h
  obtain ⟨z, hz, he⟩ := Option.map_eq_some_iff.mp h
  obtain ⟨a, b, c, d⟩ := z
  simp only [Prod.mk.injEq] at he
  obtain ⟨rfl, rfl, rfl, rfl⟩ := he
  exact ⟨c, d, hz, rfl, rfl⟩
theorem bd_some {α β : Type} {x : Rs α} {f : α → St → Rs β} {r : β} {σf : St} {kr sr : Nat} (h : bd x f = some (r, σf, kr, sr)) : ∃ a σ1 k s k' s', x = some (a, σ1, k, s) ∧ f a σ1 = some (r, σf, k', s') ∧ kr = k + k' ∧ sr = s + s' := by
  unfold bd at h
  obtain ⟨z, hz, h⟩ := Option.bind_eq_some_iff.mp h
  obtain ⟨a, b, c, d⟩ := z
  obtain ⟨k', s', h1, h2, h3⟩ := ac_some h
  exact ⟨a, b, c, d, k', s', hz, h1, h2, h3⟩
theorem v_new (hC : Cx K cc own) {ko so : Nat} {index ci N : Nat} {C : String} {T : u_T} {ty0 : Nat → FieldType} {fs : List Value} {ρ : Type} {f : Nat → St → Rs ρ} {r : ρ} {σf : St} (hf : nw σ (.inr (.inl (ci, fs))) N f = some (r, σf, kr, sr)) (hc : vwCl[ci]? = some (C, T, N)) (hu : ∀ w ∈ u_ws C T N, w ∈ GT) (hty : ∀ k, k < N → parseFieldDescriptor (T k).2.2.1 = some (ty0 k)) (hfs : ∀ j, j < N → defaultValue (ty0 j) = vp_V fs j) (w1 : Cond.classLink own index C ∈ GT) (w2 : Cond.instantiable C N ∈ GT) (w3 : Cond.initialized C ∈ GT) (hd : decode cc pc = .ok (.new index, 3))
    (kk : ∀ a σ1 k' s', f a σ1 = some (r, σf, k', s') → V K (k' + ko) (s' + so) σ1 (pc + 3) lv (.ref a :: st)) : V K (kr + ko) (sr + so) σ pc lv st := by
  obtain ⟨k', s', hf2, rfl, rfl⟩ := ac_some hf
  intro H locs ls cells slots h1 h2 h3 h4 h5 h6
  have hts := hC.2.2.2.2.1
  have hKn := hC.2.2.2.2.2.1.1.1 ci _ hc
  have b1 := hC.2.2.2.2.2.2.1
  have b2 := hC.2.2.2.2.2.2.2.1
  refine W.newcK hC.1 hC.2.1 hC.2.2.2.1 (hts _ w1) (hts _ w2) (hts _ w3) rfl hd (by omega) (by omega) hKn.2.1 h1.1 fun H1 kC hkC g1 g2 g3 => ?_
  have hat : atC (kG K) σ.2.1 (.inr (.inl (ci, fs))) H1 := ⟨_, hc, (u_born ty0 hts hu hKn hkC g1 hty).to hfs⟩
  exact kk σ.2.1 _ k' s' hf2 H1 locs ls (cells + 1) (slots + N) (h1.push hat g2 (fun q hq => g3 q hq)) ⟨Nat.le_trans h2.1 (by rw [h1.1, g2]; exact Nat.le_succ _), fun q q1 q2 => (g3 q (by rw [← h1.1]; exact Nat.lt_of_lt_of_le q1 h2.1)).trans (h2.2.1 q q1 q2), h2.2.2⟩ (fun q hq => h3 q (Aof.push hq)) h4 (by omega) (by omega)
theorem lenOk_some {n : Int32} {τ : Type} {f : Unit → Option τ} {res : τ} (hf : (lenOk n).bind f = some res) : ¬ n < 0 ∧ n.toNatClampNeg ≤ 1000000 ∧ f () = some res := by
  unfold lenOk at hf
  by_cases h : n < 0 ∨ 1000000 < n.toNatClampNeg
  · rw [if_pos h] at hf; cases hf
  · rw [if_neg h] at hf
    exact ⟨fun q => h (Or.inl q), Nat.not_lt.mp fun q => h (Or.inr q), hf⟩
theorem cI_eq {G : Gm} {s : State} (hK : KK G s) {cA : ClassId} (h : s.vm.findClass ("[" ++ FieldType.int.toString) = some cA) : cA = G.2.1 .int := Option.some.inj (h.symm.trans (hK.2.1 .int (Or.inl rfl)).2)
theorem cB_eq {G : Gm} {s : State} (hK : KK G s) {cA : ClassId} (h : s.vm.findClass ("[" ++ FieldType.byte.toString) = some cA) : cA = G.2.1 .byte := Option.some.inj (h.symm.trans (hK.2.1 .byte (Or.inr (Or.inl rfl))).2)
theorem v_newI (hC : Cx K cc own) {ko so : Nat} {n : Int32} {ρ : Type} {f : Nat → St → Rs ρ} {r : ρ} {σf : St} (hf : (lenOk n).bind (fun _ => nw σ (arI n) n.toNatClampNeg f) = some (r, σf, kr, sr)) (w1 : Cond.arrayClass .int ∈ GT) (hd : decode cc pc = .ok (.newarray .int, 2))
    (kk : ∀ a σ1 k' s', f a σ1 = some (r, σf, k', s') → V K (k' + ko) (s' + so) σ1 (pc + 2) lv (.ref a :: st)) : V K (kr + ko) (sr + so) σ pc lv (.int n :: st) := by
  obtain ⟨hn, hle, hf⟩ := lenOk_some hf
  obtain ⟨k', s', hf2, rfl, rfl⟩ := ac_some hf
  intro H locs ls cells slots h1 h2 h3 h4 h5 h6
  have b1 := hC.2.2.2.2.2.2.1
  have b2 := hC.2.2.2.2.2.2.2.1
  refine va_newaK hC.1 hC.2.1 (atype := .int) (hC.2.2.2.2.1 _ w1) rfl hd rfl hn rfl (by show n.toNatClampNeg * 4 ≤ 536870912; omega) (by omega) (by omega) h1.1 fun H1 cA g1 g2 g3 g4 g5 => ?_
  have hcA := cI_eq hC.2.2.2.2.2.1 g5
  have hat : atC (kG K) σ.2.1 (arI n) H1 := ⟨Or.inl rfl, by rw [g1, hcA]; rfl, fitI⟩
  exact kk σ.2.1 _ k' s' hf2 H1 locs ls (cells + 1) (slots + n.toNatClampNeg) (h1.push hat g2 (fun q hq => g3 q hq)) ⟨Nat.le_trans h2.1 (by rw [h1.1, g2]; exact Nat.le_succ _), fun q q1 q2 => (g3 q (by rw [← h1.1]; exact Nat.lt_of_lt_of_le q1 h2.1)).trans (h2.2.1 q q1 q2), h2.2.2⟩ (fun q hq => h3 q (Aof.push hq)) h4 (by omega) (by omega)
theorem v_newB (hC : Cx K cc own) {ko so : Nat} {n : Int32} {ρ : Type} {f : Nat → St → Rs ρ} {r : ρ} {σf : St} (hf : (lenOk n).bind (fun _ => nw σ (arB n) n.toNatClampNeg f) = some (r, σf, kr, sr)) (w1 : Cond.arrayClass .byte ∈ GT) (hd : decode cc pc = .ok (.newarray .byte, 2))
    (kk : ∀ a σ1 k' s', f a σ1 = some (r, σf, k', s') → V K (k' + ko) (s' + so) σ1 (pc + 2) lv (.ref a :: st)) : V K (kr + ko) (sr + so) σ pc lv (.int n :: st) := by
  obtain ⟨hn, hle, hf⟩ := lenOk_some hf
  obtain ⟨k', s', hf2, rfl, rfl⟩ := ac_some hf
  intro H locs ls cells slots h1 h2 h3 h4 h5 h6
  have b1 := hC.2.2.2.2.2.2.1
  have b2 := hC.2.2.2.2.2.2.2.1
  refine va_newaK hC.1 hC.2.1 (atype := .byte) (hC.2.2.2.2.1 _ w1) rfl hd rfl hn rfl (by show n.toNatClampNeg * 1 ≤ 536870912; omega) (by omega) (by omega) h1.1 fun H1 cA g1 g2 g3 g4 g5 => ?_
  have hcA := cB_eq hC.2.2.2.2.2.1 g5
  have hat : atC (kG K) σ.2.1 (arB n) H1 := ⟨Or.inr (Or.inl rfl), by rw [g1, hcA]; rfl, fitBB (fun _ => rfl)⟩
  exact kk σ.2.1 _ k' s' hf2 H1 locs ls (cells + 1) (slots + n.toNatClampNeg) (h1.push hat g2 (fun q hq => g3 q hq)) ⟨Nat.le_trans h2.1 (by rw [h1.1, g2]; exact Nat.le_succ _), fun q q1 q2 => (g3 q (by rw [← h1.1]; exact Nat.lt_of_lt_of_le q1 h2.1)).trans (h2.2.1 q q1 q2), h2.2.2⟩ (fun q hq => h3 q (Aof.push hq)) h4 (by omega) (by omega)
theorem v_anew (hC : Cx K cc own) {ko so : Nat} {n : Int32} {index : Nat} {ρ : Type} {f : Nat → St → Rs ρ} {r : ρ} {σf : St} (hf : (lenOk n).bind (fun _ => nw σ (arA n) n.toNatClampNeg f) = some (r, σf, kr, sr)) (w1 : Cond.classLink own index "TensMill$Decimal" ∈ GT) (hd : decode cc pc = .ok (.anewarray index, 3))
    (kk : ∀ a σ1 k' s', f a σ1 = some (r, σf, k', s') → V K (k' + ko) (s' + so) σ1 (pc + 3) lv (.ref a :: st)) : V K (kr + ko) (sr + so) σ pc lv (.int n :: st) := by
  obtain ⟨hn, hle, hf⟩ := lenOk_some hf
  obtain ⟨k', s', hf2, rfl, rfl⟩ := ac_some hf
  intro H locs ls cells slots h1 h2 h3 h4 h5 h6
  have b1 := hC.2.2.2.2.2.2.1
  have b2 := hC.2.2.2.2.2.2.2.1
  have hK := hC.2.2.2.2.2.1
  refine W.anew hC.1 hC.2.1 hC.2.2.2.1 (hC.2.2.2.2.1 _ w1) (va_AO.use hK.2.2.2.2.2) rfl hd rfl hn (by omega) (by omega) (by omega) fun cA kA comp e1 e2 e3 e4 => ?_
  obtain ⟨kA', comp', f1, f2, f3, f4⟩ := (hK.2.1 (.object "TensMill$Decimal") (Or.inr (Or.inr rfl))).2
  have hcA : cA = (kG K).2.1 (.object "TensMill$Decimal") := Option.some.inj (e1.symm.trans f4)
  have hat : atC (kG K) σ.2.1 (arA n) (H.push { cls := cA, slots := Array.replicate n.toNatClampNeg .null, vm := .none }) := by
    refine ⟨Or.inr (Or.inr rfl), ?_, fitA⟩
    rw [← h1.1, hcA]
    show _ = some (vp_cell _ (n.toNatClampNeg, .inr (.inr (.inr (.inr (fun _ => none))))))
    rw [vp_cell_q]
    simp only [va_rf]
    rw [← arrV_new]
    simp
  rw [h1.1]
  exact kk σ.2.1 _ k' s' hf2 _ locs ls (cells + 1) (slots + n.toNatClampNeg) (h1.push hat (by simp [h1.1]) (fun q hq => by rw [Array.getElem?_push, if_neg (by rw [h1.1]; omega)])) ⟨Nat.le_trans h2.1 (by simp), fun q q1 q2 => by
    rw [Array.getElem?_push, if_neg (Nat.ne_of_lt (Nat.lt_of_lt_of_le q1 h2.1))]
    exact h2.2.1 q q1 q2, h2.2.2⟩ (fun q hq => h3 q (Aof.push hq)) h4 (by omega) (by omega)
theorem v_stA (hC : Cx K cc own) {a x : Nat} {i : Int32} {τ : Type} {f : St → Option τ} {res : τ} (hf : (stA σ a i x).bind f = some res) (hd : decode cc pc = .ok (.aastore, 1)) (kk : ∀ σ1 : St, f σ1 = some res → V K kr sr σ1 (pc + 1) lv st) : V K kr sr σ pc lv (.ref x :: .int i :: .ref a :: st) := by
  obtain ⟨σ1, hx, hf⟩ := Option.bind_eq_some_iff.mp hf
  intro H locs ls cells slots h1 h2 h3 h4 h5 h6
  unfold stA at hx
  split at hx
  · rename_i n g o hs ho
    obtain ⟨ci, vs⟩ := o
    by_cases hc : ci = 0
    · rw [if_pos hc] at hx
      subst hc
      by_cases hin : i < 0 ∨ n ≤ i.toNatClampNeg
      · rw [if_pos hin] at hx; cases hx
      · rw [if_neg hin] at hx
        cases hx
        have hK := hC.2.2.2.2.2.1
        have hlt : i.toNatClampNeg < n := Nat.not_le.mp fun q => hin (Or.inr q)
        have h0 : ¬ i < 0 := fun q => hin (Or.inl q)
        obtain ⟨r', hr', cellV, g1, g2, g3, -⟩ := (h1.2.2.2.2 x _ ho).1
        have hcls := (hK.1.1 0 _ rfl).2
        obtain ⟨kA', comp, k1, k2, k3, -⟩ := (hK.2.1 (.object "TensMill$Decimal") (Or.inr (Or.inr rfl))).2
        have hcomp : comp = (kG K).1.1 0 := Option.some.inj (k3.symm.trans hcls.1)
        subst hcomp
        obtain ⟨kC, hkC, -⟩ := id hcls.2
        refine W.aast hC.1 hC.2.1 (h1.2.2.2.2 a _ hs).1.2.1 (fun q h => by cases h) (fun h => by cases h) k1 k2 rfl hkC ⟨h0, by show _ < (arrV _ _ _).slots.size; rw [arrV_size]; exact hlt⟩ g1 (fun q h => by rw [g3] at h; cases h) (by rw [g2]; exact hkC) (by rw [g2]; exact va_assign hcls) rfl rfl hd fun H1 e z oq => ?_
        have hat : atC (kG K) a (.inl (.object "TensMill$Decimal", n, .inr (.inr (.inr (.inr (va_up g i.toNatClampNeg (some x))))))) H1 := by
          refine ⟨Or.inr (Or.inr rfl), ?_, fitA⟩
          rw [e]
          rw [vp_cell_q, vp_cell_q, arrV_store]
          congr 2
          funext q
          by_cases hq : q = i.toNatClampNeg
          · subst hq
            simp [updV, va_up, va_rf]
          · simp [updV, va_up, hq]
        exact kk _ hf H1 _ ls cells slots (h1.set hs trivial hat z oq) (h2.put z oq (h3 a (Or.inl ⟨_, hs, trivial⟩))) (fun q hq => h3 q (Aof.set hs trivial hq)) h4 h5 h6
    · rw [if_neg hc] at hx; cases hx
  · cases hx
/-- System.arraycopy of ints -/
theorem v_cpy (hC : Cx K cc own) {a0 a1 index : Nat} {sp dp n : Int32} {τ : Type} {f : St → Option τ} {res : τ} {Fr L0 k0 s0 : Nat} (hf : (cpy σ a0 sp a1 dp n).bind f = some res) (hR : kR K = rmF Fr L0 k0 s0) (hF : 1 ≤ Fr) (hL : 26 ≤ L0) (w1 : Cond.methodLink own index arraycopyName ∈ GT) (w2 : Cond.native arraycopyName ∈ GT) (w3 : Cond.static arraycopyName ∈ GT) (w4 : Cond.initialized "java/lang/System" ∈ GT) (hst : (st.map fun v => v.category).sum ≤ 8) (hd : decode cc pc = .ok (.invokestatic index, 3)) (kk : ∀ σ1 : St, f σ1 = some res → V K kr sr σ1 (pc + 3) lv st) : V K kr sr σ pc lv (.int n :: .int dp :: .ref a1 :: .int sp :: .ref a0 :: st) := by
  obtain ⟨σ1, hx, hf⟩ := Option.bind_eq_some_iff.mp hf
  intro H locs ls cells slots h1 h2 h3 h4 h5 h6
  unfold cpy at hx
  split at hx
  · rename_i n0 ff n1 gg hs0 hs1
    by_cases hin : sp < 0 ∨ dp < 0 ∨ n < 0 ∨ n0 < sp.toNatClampNeg + n.toNatClampNeg ∨ n1 < dp.toNatClampNeg + n.toNatClampNeg
    · rw [if_pos hin] at hx; cases hx
    · rw [if_neg hin] at hx
      cases hx
      have c1 : ¬ sp < 0 := fun q => hin (Or.inl q)
      have c2 : ¬ dp < 0 := fun q => hin (Or.inr (Or.inl q))
      have c3 : ¬ n < 0 := fun q => hin (Or.inr (Or.inr (Or.inl q)))
      have c4 : sp.toNatClampNeg + n.toNatClampNeg ≤ n0 := Nat.not_lt.mp fun q => hin (Or.inr (Or.inr (Or.inr (Or.inl q))))
      have c5 : dp.toNatClampNeg + n.toNatClampNeg ≤ n1 := Nat.not_lt.mp fun q => hin (Or.inr (Or.inr (Or.inr (Or.inr q))))
      have hK := hC.2.2.2.2.2.1
      have hts := hC.2.2.2.2.1
      have nn : ∀ z : Int32, ¬ z < 0 → z.toInt = (z.toNatClampNeg : Int) := by
        intro z hz
        have hz0 : (0 : Int) ≤ z.toInt := by
          have := Int32.not_lt.mp hz
          simpa using Int32.le_iff_toInt_le.mp this
        show z.toInt = ((z.toInt.toNat : Nat) : Int)
        omega
      have hz : nativeFrameWords "java/lang/System" "arraycopy" 5 = 7 := by decide +kernel
      intro T hT X
      have hc0 : H[a0]? = some (vp_cell ((kG K).2.1 .int) (n0, .inl ff)) := (h1.2.2.2.2 a0 _ hs0).1.2.1
      have hc1 : H[a1]? = some (vp_cell ((kG K).2.1 .int) (n1, .inl gg)) := (h1.2.2.2.2 a1 _ hs1).1.2.1
      obtain ⟨-, kk0, hk0, cm0, hkk0⟩ := (hK.2.1 .int (Or.inl rfl)).1 n0 (fun j => .int (ff j))
      obtain ⟨-, kk1, hk1, cm1, hkk1⟩ := (hK.2.1 .int (Or.inl rfl)).1 n1 (fun j => .int (gg j))
      obtain ⟨vm', X', step⟩ := X.arraycopy hC.1 hC.2.2.2.1 (hts _ w1) (hts _ w2) (hts _ w3) (hts _ w4) (src := a0) (dst := a1) (cs := vp_cell ((kG K).2.1 .int) (n0, .inl ff)) (cd := vp_cell ((kG K).2.1 .int) (n1, .inl gg)) (srcPos := sp) (destPos := dp) (n := n) (by rw [hT]; exact hc0) (by rw [hT]; exact hc1)
        (fun _ h => by cases h) (fun _ h => by cases h) (fun h => by cases h) (fun h => by cases h) hk0 hk1 hkk0 hkk1 (by simp [refKind]) c1 c2 c3
        (by rw [nn sp c1, nn n c3]; show ¬ _ > ((arrV _ n0 (fun j => .int (ff j))).slots.size : Int); rw [arrV_size]; omega)
        (by rw [nn dp c2, nn n c3]; show ¬ _ > ((arrV _ n1 (fun j => .int (gg j))).slots.size : Int); rw [arrV_size]; omega)
        (fun vm₁ _ i hi => by
          have e : (vp_cell ((kG K).2.1 .int) (n0, .inl ff)).slots.getD (sp.toNatClampNeg + i) .null = .int (ff (sp.toNatClampNeg + i)) := by
            show (arrV _ n0 (fun j => .int (ff j))).slots.getD _ _ = _
            rw [Array.getD_eq_getD_getElem?, arrV_read _ _ (by omega)]
            rfl
          refine ⟨?_, ?_⟩
          · rw [e]
            exact rfl
          · rw [e]
            exact trivial)
        (g := F0 (km K) pc ls (.int n :: .int dp :: .ref a1 :: .int sp :: .ref a0 :: st)) rfl (h4.1.trans hC.2.2.1.symm) (rest := st) rfl (by rw [hC.2.1]; exact hd) (by rw [hR]; exact hF) (by rw [hR]; show 2 * 0 + _ + (nativeFrameWords "java/lang/System" "arraycopy" 5 + 11) ≤ L0; omega)
      have e1 : copied (vp_cell ((kG K).2.1 .int) (n0, .inl ff)) (vp_cell ((kG K).2.1 .int) (n1, .inl gg)) sp dp n = vp_cell ((kG K).2.1 .int) (n1, .inl (va_cpy ff gg sp.toNatClampNeg dp.toNatClampNeg n.toNatClampNeg)) := va_copied (fun z => .int z) _ _ ff gg c4
      rw [e1] at X' step
      have hl : a1 < H.size := (Array.getElem?_eq_some_iff.mp hc1).1
      have hheap : ((T.setVm vm').setCell a1 (vp_cell ((kG K).2.1 .int) (n1, .inl (va_cpy ff gg sp.toNatClampNeg dp.toNatClampNeg n.toNatClampNeg)))).heap = H.setIfInBounds a1 (vp_cell ((kG K).2.1 .int) (n1, .inl (va_cpy ff gg sp.toNatClampNeg dp.toNatClampNeg n.toNatClampNeg))) := by rw [← hT]; rfl
      have oq : ∀ q : Nat, q ≠ a1 → (H.setIfInBounds a1 (vp_cell ((kG K).2.1 .int) (n1, .inl (va_cpy ff gg sp.toNatClampNeg dp.toNatClampNeg n.toNatClampNeg))))[q]? = H[q]? := fun q hq => by simp [Array.getElem?_setIfInBounds, Ne.symm hq]
      have hat : atC (kG K) a1 (.inl (.int, n1, .inl (va_cpy ff gg sp.toNatClampNeg dp.toNatClampNeg n.toNatClampNeg))) (H.setIfInBounds a1 (vp_cell ((kG K).2.1 .int) (n1, .inl (va_cpy ff gg sp.toNatClampNeg dp.toNatClampNeg n.toNatClampNeg)))) := ⟨(Or.inl rfl), by simp [Array.getElem?_setIfInBounds, hl], fitI⟩
      have hA1 : kA K a1 := h3 a1 (Or.inl ⟨_, hs1, trivial⟩)
      obtain ⟨t, b1, b2⟩ := kk _ hf _ _ ls cells slots (h1.set hs1 trivial hat (by simp) oq) ⟨by simp; exact h2.1, fun q g1 g2 => by
          rw [oq q (fun e => g2 (by rw [e]; exact hA1))]
          exact h2.2.1 q g1 g2, fun q hq => by
          rcases List.mem_append.mp hq with h | h
          · exact h2.2.2 q h
          · obtain ⟨z, -, hz⟩ := List.mem_map.mp h
            rw [← hz]
            exact hA1⟩ (fun q hq => h3 q (Aof.set hs1 trivial hq)) h4 h5 h6 _ hheap X'
      exact ⟨t, step t b1, b2⟩
  · cases hx
theorem v_cpyB (hC : Cx K cc own) {a0 a1 index : Nat} {sp dp n : Int32} {τ : Type} {f : St → Option τ} {res : τ} {Fr L0 k0 s0 : Nat} (hf : (cpyB σ a0 sp a1 dp n).bind f = some res) (hR : kR K = rmF Fr L0 k0 s0) (hF : 1 ≤ Fr) (hL : 26 ≤ L0) (w1 : Cond.methodLink own index arraycopyName ∈ GT) (w2 : Cond.native arraycopyName ∈ GT) (w3 : Cond.static arraycopyName ∈ GT) (w4 : Cond.initialized "java/lang/System" ∈ GT) (hst : (st.map fun v => v.category).sum ≤ 8) (hd : decode cc pc = .ok (.invokestatic index, 3)) (kk : ∀ σ1 : St, f σ1 = some res → V K kr sr σ1 (pc + 3) lv st) : V K kr sr σ pc lv (.int n :: .int dp :: .ref a1 :: .int sp :: .ref a0 :: st) := by
  obtain ⟨σ1, hx, hf⟩ := Option.bind_eq_some_iff.mp hf
  intro H locs ls cells slots h1 h2 h3 h4 h5 h6
  unfold cpyB at hx
  split at hx
  · rename_i n0 ff n1 gg hs0 hs1
    by_cases hin : sp < 0 ∨ dp < 0 ∨ n < 0 ∨ n0 < sp.toNatClampNeg + n.toNatClampNeg ∨ n1 < dp.toNatClampNeg + n.toNatClampNeg
    · rw [if_pos hin] at hx; cases hx
    · rw [if_neg hin] at hx
      cases hx
      have c1 : ¬ sp < 0 := fun q => hin (Or.inl q)
      have c2 : ¬ dp < 0 := fun q => hin (Or.inr (Or.inl q))
      have c3 : ¬ n < 0 := fun q => hin (Or.inr (Or.inr (Or.inl q)))
      have c4 : sp.toNatClampNeg + n.toNatClampNeg ≤ n0 := Nat.not_lt.mp fun q => hin (Or.inr (Or.inr (Or.inr (Or.inl q))))
      have c5 : dp.toNatClampNeg + n.toNatClampNeg ≤ n1 := Nat.not_lt.mp fun q => hin (Or.inr (Or.inr (Or.inr (Or.inr q))))
      have hK := hC.2.2.2.2.2.1
      have hts := hC.2.2.2.2.1
      have nn : ∀ z : Int32, ¬ z < 0 → z.toInt = (z.toNatClampNeg : Int) := by
        intro z hz
        have hz0 : (0 : Int) ≤ z.toInt := by
          have := Int32.not_lt.mp hz
          simpa using Int32.le_iff_toInt_le.mp this
        show z.toInt = ((z.toInt.toNat : Nat) : Int)
        omega
      have hz : nativeFrameWords "java/lang/System" "arraycopy" 5 = 7 := by decide +kernel
      intro T hT X
      have hb0 := (h1.2.2.2.2 a0 _ hs0).1.2.2 rfl ff rfl
      have hb1 := (h1.2.2.2.2 a1 _ hs1).1.2.2 rfl gg rfl
      have hc0 : H[a0]? = some (vp_cell ((kG K).2.1 .byte) (n0, .inl ff)) := (h1.2.2.2.2 a0 _ hs0).1.2.1
      have hc1 : H[a1]? = some (vp_cell ((kG K).2.1 .byte) (n1, .inl gg)) := (h1.2.2.2.2 a1 _ hs1).1.2.1
      obtain ⟨-, kk0, hk0, cm0, hkk0⟩ := (hK.2.1 .byte (Or.inr (Or.inl rfl))).1 n0 (fun j => .int (ff j))
      obtain ⟨-, kk1, hk1, cm1, hkk1⟩ := (hK.2.1 .byte (Or.inr (Or.inl rfl))).1 n1 (fun j => .int (gg j))
      obtain ⟨vm', X', step⟩ := X.arraycopy hC.1 hC.2.2.2.1 (hts _ w1) (hts _ w2) (hts _ w3) (hts _ w4) (src := a0) (dst := a1) (cs := vp_cell ((kG K).2.1 .byte) (n0, .inl ff)) (cd := vp_cell ((kG K).2.1 .byte) (n1, .inl gg)) (srcPos := sp) (destPos := dp) (n := n) (by rw [hT]; exact hc0) (by rw [hT]; exact hc1)
        (fun _ h => by cases h) (fun _ h => by cases h) (fun h => by cases h) (fun h => by cases h) hk0 hk1 hkk0 hkk1 (by simp [refKind]) c1 c2 c3
        (by rw [nn sp c1, nn n c3]; show ¬ _ > ((arrV _ n0 (fun j => .int (ff j))).slots.size : Int); rw [arrV_size]; omega)
        (by rw [nn dp c2, nn n c3]; show ¬ _ > ((arrV _ n1 (fun j => .int (gg j))).slots.size : Int); rw [arrV_size]; omega)
        (fun vm₁ _ i hi => by
          have e : (vp_cell ((kG K).2.1 .byte) (n0, .inl ff)).slots.getD (sp.toNatClampNeg + i) .null = .int (ff (sp.toNatClampNeg + i)) := by
            show (arrV _ n0 (fun j => .int (ff j))).slots.getD _ _ = _
            rw [Array.getD_eq_getD_getElem?, arrV_read _ _ (by omega)]
            rfl
          refine ⟨?_, ?_⟩
          · rw [e]
            exact hb0 _
          · rw [e]
            exact trivial)
        (g := F0 (km K) pc ls (.int n :: .int dp :: .ref a1 :: .int sp :: .ref a0 :: st)) rfl (h4.1.trans hC.2.2.1.symm) (rest := st) rfl (by rw [hC.2.1]; exact hd) (by rw [hR]; exact hF) (by rw [hR]; show 2 * 0 + _ + (nativeFrameWords "java/lang/System" "arraycopy" 5 + 11) ≤ L0; omega)
      have e1 : copied (vp_cell ((kG K).2.1 .byte) (n0, .inl ff)) (vp_cell ((kG K).2.1 .byte) (n1, .inl gg)) sp dp n = vp_cell ((kG K).2.1 .byte) (n1, .inl (va_cpy ff gg sp.toNatClampNeg dp.toNatClampNeg n.toNatClampNeg)) := va_copied (fun z => .int z) _ _ ff gg c4
      rw [e1] at X' step
      have hl : a1 < H.size := (Array.getElem?_eq_some_iff.mp hc1).1
      have hheap : ((T.setVm vm').setCell a1 (vp_cell ((kG K).2.1 .byte) (n1, .inl (va_cpy ff gg sp.toNatClampNeg dp.toNatClampNeg n.toNatClampNeg)))).heap = H.setIfInBounds a1 (vp_cell ((kG K).2.1 .byte) (n1, .inl (va_cpy ff gg sp.toNatClampNeg dp.toNatClampNeg n.toNatClampNeg))) := by rw [← hT]; rfl
      have oq : ∀ q : Nat, q ≠ a1 → (H.setIfInBounds a1 (vp_cell ((kG K).2.1 .byte) (n1, .inl (va_cpy ff gg sp.toNatClampNeg dp.toNatClampNeg n.toNatClampNeg))))[q]? = H[q]? := fun q hq => by simp [Array.getElem?_setIfInBounds, Ne.symm hq]
      have hat : atC (kG K) a1 (.inl (.byte, n1, .inl (va_cpy ff gg sp.toNatClampNeg dp.toNatClampNeg n.toNatClampNeg))) (H.setIfInBounds a1 (vp_cell ((kG K).2.1 .byte) (n1, .inl (va_cpy ff gg sp.toNatClampNeg dp.toNatClampNeg n.toNatClampNeg)))) := ⟨(Or.inr (Or.inl rfl)), by simp [Array.getElem?_setIfInBounds, hl], fitBB (fun j => by unfold va_cpy; split; exact hb0 _; exact hb1 _)⟩
      have hA1 : kA K a1 := h3 a1 (Or.inl ⟨_, hs1, trivial⟩)
      obtain ⟨t, b1, b2⟩ := kk _ hf _ _ ls cells slots (h1.set hs1 trivial hat (by simp) oq) ⟨by simp; exact h2.1, fun q g1 g2 => by
          rw [oq q (fun e => g2 (by rw [e]; exact hA1))]
          exact h2.2.1 q g1 g2, fun q hq => by
          rcases List.mem_append.mp hq with h | h
          · exact h2.2.2 q h
          · obtain ⟨z, -, hz⟩ := List.mem_map.mp h
            rw [← hz]
            exact hA1⟩ (fun q hq => h3 q (Aof.set hs1 trivial hq)) h4 h5 h6 _ hheap X'
      exact ⟨t, step t b1, b2⟩
  · cases hx
end R3
end
section
section R4
variable {K : Cq} {cc : ByteArray} {own : String} {kr sr : Nat} {σ : St} {pc : Nat} {lv : List (Nat × Value)} {st : List Value}
theorem pre_blind {G : Gm} {σ : St} {as : List Value} : FrameBlind (va_Pc as (fun U => Pic G σ U.heap ∧ KK G U)) := fun a U g mk h => ⟨h.1, h.2.1, KK.same (s := U) (U := U.calling g mk a) rfl h.2.2⟩
/-- behind a call: the state is the callee's, what it did not own is as it was -/
theorem v_after {g : JFrame} {rest : List Value} {r : Option Value} {σ' : St} {k s : Nat} {as : Array Value} {H : Heap} {locs : List Loc} {ls : Array Slot} {cells slots : Nat} (hg : g = F0 (km K) pc ls g.stack) (hr : va_Run (kp K) (kl K) (ke K) (kR K) (ks K) (km K) (ka K) (kb K) (kt K) (kc K) H locs cells slots k s g rest (Qof (kG K) σ r σ' as) (Aof σ))
    (h2 : va_S (kA K) (ks K).heap H locs) (h3 : ∀ q, Aof σ q → kA K q) (h4 : lv_has ls (kn K) lv) (h5 : cells + (k + kr) = kmc K) (h6 : slots + (s + sr) = kms K) (kk : V K kr sr σ' (pc + 3) lv (r.toList ++ rest)) : WK K H locs cells slots g := by
  intro T hT X
  obtain ⟨v, st₀, t, T', L, q1, X', hL, e1, e2, ⟨⟨hv, hP, hA⟩, hz, hk⟩, go⟩ := hr T hT X
  cases hv
  rw [q1] at hz hk
  have hS : va_S (kA K) (ks K).heap T'.heap (locs ++ L) := ⟨Nat.le_trans h2.1 (by rw [e1]; exact hz), fun q a1 a2 => by rw [e1, hk q (Nat.lt_of_lt_of_le a1 h2.1) (fun z => a2 (h3 q z))]; exact h2.2.1 q a1 a2, fun q hq => by
      rcases List.mem_append.mp hq with h | h
      · exact h2.2.2 q h
      · exact h3 _ (hL q h)⟩
  obtain ⟨t2, a1, b1⟩ := kk T'.heap (locs ++ L) ls (cells + k) (slots + s) (by rw [e1]; exact hP) hS (fun q hq => h3 q (hA q hq)) h4 (by omega) (by omega) T' rfl X'
  refine ⟨t2, go t2 ?_, b1⟩
  have hg2 : ({ g with pc := g.pc + 3, stack := r.toList ++ rest } : JFrame) = F0 (km K) (pc + 3) ls (r.toList ++ rest) := by rw [hg]
  rw [hg2]
  exact a1
theorem good_code {y : MethodName} {bytes : ByteArray} {maxL : Nat} {ret : Option FieldType} (h : Cond.code y bytes maxL ret ∈ GT) : GoodIn GT (Cond.code y bytes maxL ret :: GT) := fun w hw => ⟨(List.mem_cons.mp hw).elim (fun e => e ▸ h) id, good_of_word ((List.mem_cons.mp hw).elim (fun e => e ▸ (GT_ok _ h).2) (fun h => (GT_ok w h).2))⟩
theorem v_rmV (hC : Cx K cc own) {index b ci n : Nat} {y : MethodName} {bytes : ByteArray} {maxL F L Fr Lr k0 s0 k s : Nat} {ret : Option FieldType} {as As : List Value} {r : Option Value} {σ' : St} {cq : vw_C} {fs : List Value} (hM : Ct (kG K) (kl K) y bytes maxL ret F L (.ref b :: As) σ r σ' k s) (hb : σ.1 b = some (.inr (.inl (ci, fs)))) (hc : vwCl[ci]? = some cq) (hy : y.cls = cq.1) (hR : kR K = rmF Fr Lr k0 s0) (hF : F + 1 ≤ Fr) (hL : 8 + (maxL + 11) + L ≤ Lr) (w1 : Cond.code y bytes maxL ret ∈ GT) (w2 : Cond.methodLink own index y ∈ GT) (w3 : Cond.instanceMethod y ∈ GT) (w4 : Cond.selects y.cls y y ∈ GT) (w5 : Cond.initialized y.cls ∈ GT) (hn : y.cls ≠ "java/lang/invoke/MethodHandle" ∧ y.cls ≠ "java/lang/invoke/VarHandle" ∧ (parseMethodDescriptor y.desc).map (fun d => d.parameters.length) = some n) (hlen : As.length = n) (hst : (st.map fun v => v.category).sum ≤ 8) (hd : decode cc pc = .ok (.invokevirtual index, 3))
    (kk : V K kr sr σ' (pc + 3) lv (r.toList ++ st)) : V K (k + kr) (s + sr) σ pc lv (As.reverse ++ .ref b :: st) := by
  intro H locs ls cells slots h1 h2 h3 h4 h5 h6
  have hts := hC.2.2.2.2.1
  have b1 := hC.2.2.2.2.2.2.1
  have b2 := hC.2.2.2.2.2.2.2.1
  refine v_after (r := r) (σ' := σ') (k := k) (s := s) rfl (va_runV (Ts := GT) (own := own) (C := cq.1) (n := n) (bytes := bytes) (maxL := maxL) (ret := ret) ⟨hC.1, hC.2.1, hC.2.2.1, hC.2.2.2.1, hts⟩ hM ?_ ⟨pre_blind, va_recv hC.2.2.2.2.2.1.1 (va1 h1 hb) (q0 := 0) hc rfl, fun U hU hW => ⟨rfl, by rw [hU]; exact h1, hC.2.2.2.2.2.1.warm hW⟩⟩ rfl hlen h4.1 rfl (lv_room hst) hd ⟨by omega, by omega⟩) h2 h3 h4 h5 h6 kk
  refine ⟨callB_of n hts (good_code w1) rfl rfl rfl (hts _ w5) (hts _ w2) hn ⟨by rw [hR]; exact hF, by rw [hR]; exact hL⟩, hts _ w3, ?_⟩
  rw [← hy]
  exact hts _ w4
theorem v_rmS (hC : Cx K cc own) {index n : Nat} {y : MethodName} {bytes : ByteArray} {maxL F L Fr Lr k0 s0 k s : Nat} {ret : Option FieldType} {As : List Value} {r : Option Value} {σ' : St} (hM : Ct (kG K) (kl K) y bytes maxL ret F L As σ r σ' k s) (hR : kR K = rmF Fr Lr k0 s0) (hF : F + 1 ≤ Fr) (hL : 8 + (maxL + 11) + L ≤ Lr) (w1 : Cond.code y bytes maxL ret ∈ GT) (w2 : Cond.methodLink own index y ∈ GT) (w3 : Cond.static y ∈ GT) (w5 : Cond.initialized y.cls ∈ GT) (hn : y.cls ≠ "java/lang/invoke/MethodHandle" ∧ y.cls ≠ "java/lang/invoke/VarHandle" ∧ (parseMethodDescriptor y.desc).map (fun d => d.parameters.length) = some n) (hlen : As.length = n) (hst : (st.map fun v => v.category).sum ≤ 8) (hd : decode cc pc = .ok (.invokestatic index, 3))
    (kk : V K kr sr σ' (pc + 3) lv (r.toList ++ st)) : V K (k + kr) (s + sr) σ pc lv (As.reverse ++ st) := by
  intro H locs ls cells slots h1 h2 h3 h4 h5 h6
  have hts := hC.2.2.2.2.1
  have b1 := hC.2.2.2.2.2.2.1
  have b2 := hC.2.2.2.2.2.2.2.1
  exact v_after (r := r) (σ' := σ') (k := k) (s := s) rfl (va_runS (Ts := GT) (own := own) (n := n) (bytes := bytes) (maxL := maxL) (ret := ret) ⟨hC.1, hC.2.1, hC.2.2.1, hC.2.2.2.1, hts⟩ hM ⟨callB_of n hts (good_code w1) rfl rfl rfl (hts _ w5) (hts _ w2) hn ⟨by rw [hR]; exact hF, by rw [hR]; exact hL⟩, hts _ w3⟩ ⟨pre_blind, fun U hU hW => ⟨rfl, by rw [hU]; exact h1, hC.2.2.2.2.2.1.warm hW⟩⟩ rfl hlen h4.1 rfl (lv_room hst) hd ⟨by omega, by omega⟩) h2 h3 h4 h5 h6 kk
theorem v_rmI (hC : Cx K cc own) {index b n : Nat} {y : MethodName} {bytes : ByteArray} {maxL F L Fr Lr k0 s0 k s : Nat} {As : List Value} {r : Option Value} {σ' : St} (hM : Ct (kG K) (kl K) y bytes maxL none F L (.ref b :: As) σ r σ' k s) (hR : kR K = rmF Fr Lr k0 s0) (hF : F + 1 ≤ Fr) (hL : 8 + (maxL + 11) + L ≤ Lr) (w1 : Cond.code y bytes maxL none ∈ GT) (w2 : Cond.methodLink own index y ∈ GT) (w3 : Cond.instanceMethod y ∈ GT) (w5 : Cond.initialized y.cls ∈ GT) (hy : y.name = "<init>") (hn : y.cls ≠ "java/lang/invoke/MethodHandle" ∧ y.cls ≠ "java/lang/invoke/VarHandle" ∧ (parseMethodDescriptor y.desc).map (fun d => d.parameters.length) = some n) (hlen : As.length = n) (hst : (st.map fun v => v.category).sum ≤ 8) (hd : decode cc pc = .ok (.invokespecial index, 3))
    (kk : V K kr sr σ' (pc + 3) lv (r.toList ++ st)) : V K (k + kr) (s + sr) σ pc lv (As.reverse ++ .ref b :: st) := by
  intro H locs ls cells slots h1 h2 h3 h4 h5 h6
  have hts := hC.2.2.2.2.1
  have b1 := hC.2.2.2.2.2.2.1
  have b2 := hC.2.2.2.2.2.2.2.1
  exact v_after (r := r) (σ' := σ') (k := k) (s := s) rfl (va_runI (Ts := GT) (own := own) (n := n) (bytes := bytes) (maxL := maxL) ⟨hC.1, hC.2.1, hC.2.2.1, hC.2.2.2.1, hts⟩ hM ⟨callB_of n hts (good_code w1) rfl rfl rfl (hts _ w5) (hts _ w2) hn ⟨by rw [hR]; exact hF, by rw [hR]; exact hL⟩, hy, hts _ w3⟩ ⟨pre_blind, fun U hU hW => ⟨rfl, by rw [hU]; exact h1, hC.2.2.2.2.2.1.warm hW⟩⟩ rfl hlen h4.1 rfl (lv_room hst) hd ⟨by omega, by omega⟩) h2 h3 h4 h5 h6 kk
theorem v_rmIN (hC : Cx K cc own) {index b n : Nat} {y : MethodName} {host : String} {bytes : ByteArray} {maxL F L Fr Lr k0 s0 k s : Nat} {As : List Value} {r : Option Value} {σ' : St} (hM : Ct (kG K) (kl K) y bytes maxL none F L (.ref b :: As) σ r σ' k s) (hR : kR K = rmF Fr Lr k0 s0) (hF : F + 1 ≤ Fr) (hL : 8 + (maxL + 11) + L ≤ Lr) (w1 : Cond.code y bytes maxL none ∈ GT) (w2 : Cond.methodLinkNest own index y host ∈ NW) (w3 : Cond.instanceMethod y ∈ GT) (w5 : Cond.initialized y.cls ∈ GT) (hy : y.name = "<init>") (hn : y.cls ≠ "java/lang/invoke/MethodHandle" ∧ y.cls ≠ "java/lang/invoke/VarHandle" ∧ (parseMethodDescriptor y.desc).map (fun d => d.parameters.length) = some n) (hlen : As.length = n) (hst : (st.map fun v => v.category).sum ≤ 8) (hd : decode cc pc = .ok (.invokespecial index, 3))
    (kk : V K kr sr σ' (pc + 3) lv (r.toList ++ st)) : V K (k + kr) (s + sr) σ pc lv (As.reverse ++ .ref b :: st) := by
  intro H locs ls cells slots h1 h2 h3 h4 h5 h6
  have hts := hC.2.2.2.2.1
  have b1 := hC.2.2.2.2.2.2.1
  have b2 := hC.2.2.2.2.2.2.2.1
  exact v_after (r := r) (σ' := σ') (k := k) (s := s) rfl (va_runIN (Ts := GT) (own := own) (n := n) (bytes := bytes) (maxL := maxL) (host := host) ⟨hC.1, hC.2.1, hC.2.2.1, hC.2.2.2.1, hts⟩ hM ⟨va_cnB n hts (good_code w1) rfl rfl rfl (hC.2.2.2.2.2.1.2.2.2.2.1 _ w2) (hts _ w5) hn ⟨by rw [hR]; exact hF, by rw [hR]; exact hL⟩, hy, hts _ w3⟩ ⟨pre_blind, fun U hU hW => ⟨rfl, by rw [hU]; exact h1, hC.2.2.2.2.2.1.warm hW⟩⟩ rfl hlen h4.1 rfl (lv_room hst) hd ⟨by omega, by omega⟩) h2 h3 h4 h5 h6 kk
theorem v_oinit (hC : Cx K cc own) {index b Fr Lr k0 s0 : Nat} (hR : kR K = rmF Fr Lr k0 s0) (hF : 1 ≤ Fr) (hL : 20 ≤ Lr) (w1 : Cond.methodLink own index ⟨"java/lang/Object", "<init>", "()V"⟩ ∈ GT) (w2 : Cond.instanceMethod ⟨"java/lang/Object", "<init>", "()V"⟩ ∈ GT) (w3 : Cond.code ⟨"java/lang/Object", "<init>", "()V"⟩ ⟨#[0xb1]⟩ 1 none ∈ GT) (hst : (st.map fun v => v.category).sum ≤ 8) (hd : decode cc pc = .ok (.invokespecial index, 3)) (kk : V K kr sr σ (pc + 3) lv st) : V K kr sr σ pc lv (.ref b :: st) := by
  intro H locs ls cells slots h1 h2 h3 h4 h5 h6
  have hts := hC.2.2.2.2.1
  exact W.objInit hC.1 hC.2.1 hC.2.2.2.1 (hts _ w1) (hts _ w2) (hts _ w3) rfl (h4.1.trans hC.2.2.1.symm) rfl hd (by rw [hR]; exact hF) (by rw [hR]; show 2 * 0 + _ + 12 ≤ Lr; omega) (kk H locs ls cells slots h1 h2 h3 h4 h5 h6)
/-- a method's end -/
def End (K : Cq) (σ0 : St) (ret : Option FieldType) (r : Option Value) (σf : St) : Prop := kQ K = MQ (kb K) (Qof (kG K) σ0 r σf) (ka K) (ks K) (kmc K) (kms K) (Aof σ0) ∧ kA K = Aof σ0 ∧ (kt K).sig.returnType = ret ∧ (kt K).locks = false
theorem v_zret (hC : Cx K cc own) {σ0 : St} {ty : FieldType} {x : Int32} (hE : End K σ0 (some ty) (some (.int x)) σ) (hn : narrow ty (.int x) = .int x) (hd : decode cc pc = .ok (.ireturn, 1)) : V K 0 0 σ pc lv [.int x] := by
  obtain ⟨e1, e2, e3, e4⟩ := hE
  intro H locs ls cells slots h1 h2 h3 h4 h5 h6
  rw [Nat.add_zero] at h5 h6
  unfold WK
  rw [e1, ← h5, ← h6]
  rw [e2] at h2 h3
  exact W.zret hC.1 hC.2.1 e3 hn (fun t ht hW => ⟨⟨rfl, by rw [ht]; exact h1, h3⟩, h2.F ht⟩) h2.2.2 hd e4
theorem v_lret (hC : Cx K cc own) {σ0 : St} {x : Int64} (hE : End K σ0 (some .long) (some (.long x)) σ) (hd : decode cc pc = .ok (.lreturn, 1)) : V K 0 0 σ pc lv [.long x] := by
  obtain ⟨e1, e2, e3, e4⟩ := hE
  intro H locs ls cells slots h1 h2 h3 h4 h5 h6
  rw [Nat.add_zero] at h5 h6
  unfold WK
  rw [e1, ← h5, ← h6]
  rw [e2] at h2 h3
  exact W.lret hC.1 hC.2.1 e3 (fun t ht hW => ⟨⟨rfl, by rw [ht]; exact h1, h3⟩, h2.F ht⟩) h2.2.2 hd e4
theorem v_aret (hC : Cx K cc own) {σ0 : St} {t : FieldType} {x : Nat} (hE : End K σ0 (some (.array t)) (some (.ref x)) σ) (hd : decode cc pc = .ok (.areturn, 1)) : V K 0 0 σ pc lv [.ref x] := by
  obtain ⟨e1, e2, e3, e4⟩ := hE
  intro H locs ls cells slots h1 h2 h3 h4 h5 h6
  rw [Nat.add_zero] at h5 h6
  unfold WK
  rw [e1, ← h5, ← h6]
  rw [e2] at h2 h3
  exact W.aret hC.1 hC.2.1 e3 (Or.inr ⟨_, rfl⟩) (Or.inr ⟨_, rfl⟩) (fun t ht hW => ⟨⟨rfl, by rw [ht]; exact h1, h3⟩, h2.F ht⟩) h2.2.2 hd e4
theorem v_vret (hC : Cx K cc own) {σ0 : St} (hE : End K σ0 none none σ) (hd : decode cc pc = .ok (.return_, 1)) : V K 0 0 σ pc lv [] := by
  obtain ⟨e1, e2, e3, e4⟩ := hE
  intro H locs ls cells slots h1 h2 h3 h4 h5 h6
  rw [Nat.add_zero] at h5 h6
  unfold WK
  rw [e1, ← h5, ← h6]
  rw [e2] at h2 h3
  exact W.vret hC.1 hC.2.1 e3 (fun t ht hW => ⟨⟨rfl, by rw [ht]; exact h1, h3⟩, h2.F ht⟩) h2.2.2 hd e4
/-- a contract out of one walk -/
theorem Ct.ofV {G : Gm} {l : Launch} {y : MethodName} {cc : ByteArray} {maxL : Nat} {ret : Option FieldType} {F L : Nat} {as : List Value} {σ : St} {r : Option Value} {σ' : St} {k s : Nat} (hy : plainName y.cls = true) (has : (lg_sl as).length ≤ maxL)
    (h : ∀ K : Cq, kR K = rmF F L k s → kn K = maxL → (kt K).name = y.name → Cx K cc y.cls → End K σ ret r σ' → V K k s σ 0 (lv_args 0 as) []) : Ct G l y cc maxL ret F L as σ r σ' k s := by
  refine Met.ofW (cc := cc) (maxL := maxL) (ret := ret) hy rfl ?_
  intro p e s' m args below meth c s₁ B hml hv
  obtain ⟨rfl, hP, hK⟩ := hv
  have hts := atoms_spec (ws := Cond.code y cc maxL ret :: GT) B.pre
  have hA : ∀ q, Aof σ q → G.2.2.1.size ≤ q := fun q hq => by
    rcases hq with ⟨e1, q1, q2⟩ | q1
    · exact (hP.2.2.2.2 q e1 q1).2 q2
    · exact Nat.le_trans hP.2.1 q1
  have hl := lv_entry as has
  rw [lg_entry_eq]
  exact h (G, p, l, e, rmF F L k s, s', m, as.toArray, below, meth, c, maxL, Aof σ, MQ below (Qof G σ r σ') as.toArray s' k s (Aof σ), k, s) rfl rfl ((name_of_methodNamed B.named B.method).1) ⟨B.exec, B.bytes, hml, findClass_of_methodNamed B.named, fun w hw => hts w (List.mem_cons_of_mem _ hw), hK, Nat.le_refl _, Nat.le_refl _, hA⟩ ⟨rfl, rfl, B.returns, B.notSynchronized⟩ s'.heap [] _ 0 0 hP va_S.rf (fun q h => h) hl (Nat.zero_add _) (Nat.zero_add _)
theorem ob_some {β : Type} {σ : St} {ci a : Nat} {k : Option β} {res : β} (h : ob σ ci a k = some res) : (∃ fs : List Value, σ.1 a = some (.inr (.inl (ci, fs)))) ∧ k = some res := by
  unfold ob at h
  split at h
  · rename_i o ho
    by_cases hc : o.1 = ci
    · rw [if_pos hc] at h
      exact ⟨⟨o.2, by rw [ho, ← hc]⟩, h⟩
    · rw [if_neg hc] at h; cases h
  · cases h
end R4
end
section
section R5
variable {K : Cq} {cc : ByteArray} {own : String} {kr sr ko so : Nat} {σ : St} {pc : Nat} {lv : List (Nat × Value)} {st : List Value}
theorem v_at (pc1 : Nat) (h : pc = pc1) (kk : V K kr sr σ pc1 lv st) : V K kr sr σ pc lv st := h ▸ kk
theorem v_ltI {e : Int32} {τ : Type} {k : Int32 → Option τ} {res : τ} (hf : lt e k = some res) (kk : ∀ x : Int32, k x = some res → V K kr sr σ pc lv (.int x :: st)) : V K kr sr σ pc lv (.int e :: st) := kk e hf
theorem v_ltL {e : Int64} {τ : Type} {k : Int64 → Option τ} {res : τ} (hf : lt e k = some res) (kk : ∀ x : Int64, k x = some res → V K kr sr σ pc lv (.long x :: st)) : V K kr sr σ pc lv (.long e :: st) := kk e hf
theorem v_incL (hC : Cx K cc own) {i N : Nat} {n : Int} {x c : Int32} {τ : Type} {k : Int32 → Option τ} {res : τ} (hf : lt (x + c) k = some res) (pos : Nat) (lv1 : Int32 → List (Nat × Value)) (hd : decode cc pc = .ok (.iinc i n, 3)) (hk : lv[pos]? = some (i, .int x)) (hv : Int32.ofInt n = c) (hN : kn K = N) (hn : i < N) (hl : ∀ v : Int32, (i, Value.int v) :: lv.filter (fun q => !(q.1 == i) && !(q.1 + 1 == i && q.2.category == 2)) = lv1 v) (kk : ∀ v : Int32, k v = some res → V K kr sr σ (pc + 3) (lv1 v) st) : V K kr sr σ pc lv st := by
  subst hv
  exact v_iinc hC pos (lv1 (x + Int32.ofInt n)) hd hk rfl hN hn (hl _) (kk _ hf)
theorem v_jnE {α τ : Type} {f : α → Rs τ} {g : (α → Rs τ) → Rs τ} {rr : τ} {σf : St} {X : Prop} (hf : jn f g = some (rr, σf, kr, sr)) (P : α → Nat → Nat → Prop) (h1 : ∀ v k s, f v = some (rr, σf, k, s) → P v k s) (h2 : ∀ kf : α → Rs τ, (∀ v k s, kf v = some (rr, σf, k, s) → P v k s) → g kf = some (rr, σf, kr, sr) → X) : X := h2 f h1 hf
theorem v_jnP {α τ : Type} {f : α → Option τ} {g : (α → Option τ) → Option τ} {res : τ} {X : Prop} (hf : jn f g = some res) (P : α → Prop) (h1 : ∀ v, f v = some res → P v) (h2 : ∀ kf : α → Option τ, (∀ v, kf v = some res → P v) → g kf = some res → X) : X := h2 f h1 hf
/-- a loop, then what follows -/
theorem v_lpE {β τ : Type} {fl : Rs β} {kf : β → St → Rs τ} {rr : τ} {σf : St} (hf : bd fl kf = some (rr, σf, kr, sr)) (E : β → St → Nat → Nat → Prop) (hl : ∀ y σ1 k s k' s', fl = some (y, σ1, k, s) → E y σ1 k' s' → V K (k + k') (s + s') σ pc lv st) (kk : ∀ y σ1 k' s', kf y σ1 = some (rr, σf, k', s') → E y σ1 (k' + ko) (s' + so)) : V K (kr + ko) (sr + so) σ pc lv st := by
  obtain ⟨y, σ1, k, s, k', s', h1, h2, rfl, rfl⟩ := bd_some hf
  rw [Nat.add_assoc, Nat.add_assoc]
  exact hl y σ1 k s _ _ h1 (kk y σ1 k' s' h2)
theorem v_lpP {β τ : Type} {fl : Option β} {kf : β → Option τ} {res : τ} (hf : fl.bind kf = some res) (E : β → Prop) (hl : ∀ y, fl = some y → E y → V K kr sr σ pc lv st) (kk : ∀ y, kf y = some res → E y) : V K kr sr σ pc lv st := by
  obtain ⟨y, h1, h2⟩ := Option.bind_eq_some_iff.mp hf
  exact hl y h1 (kk y h2)
theorem v_exE {β : Type} {y y0 : β} {σ1 : St} {E : β → St → Nat → Nat → Prop} (hf : some (y, σ, 0, 0) = some (y0, σ1, kr, sr)) (hE : E y0 σ1 ko so) : E y σ ko so ∧ kr + ko = ko ∧ sr + so = so := by
  cases hf
  exact ⟨hE, Nat.zero_add _, Nat.zero_add _⟩
theorem v_exP {β : Type} {y y0 : β} {E : β → Prop} (hf : some y = some y0) (hE : E y0) : E y := by
  cases hf
  exact hE
theorem v_cVE (hC : Cx K cc own) {index b ci n : Nat} {y : MethodName} {bytes : ByteArray} {maxL F L Fr Lr k0 s0 : Nat} {ret : Option FieldType} {cq : vw_C} {ρ τ : Type} {fc : Rs ρ} {kf : ρ → St → Rs τ} {rr : τ} {σf : St} {stA : List Value} (As : List Value) (st : List Value) (rv : ρ → Option Value) (stk : ρ → List Value) (hf : bd fc kf = some (rr, σf, kr, sr)) (hM : ∀ r σ' k s, fc = some (r, σ', k, s) → (∃ fs : List Value, σ.1 b = some (.inr (.inl (ci, fs)))) ∧ Ct (kG K) (kl K) y bytes maxL ret F L (.ref b :: As) σ (rv r) σ' k s) (hsA : stA = As.reverse ++ .ref b :: st) (hsk : ∀ r, (rv r).toList ++ st = stk r) (hc : vwCl[ci]? = some cq) (hy : y.cls = cq.1) (hR : kR K = rmF Fr Lr k0 s0) (hF : F + 1 ≤ Fr) (hL : 8 + (maxL + 11) + L ≤ Lr) (w1 : Cond.code y bytes maxL ret ∈ GT) (w2 : Cond.methodLink own index y ∈ GT) (w3 : Cond.instanceMethod y ∈ GT) (w4 : Cond.selects y.cls y y ∈ GT) (w5 : Cond.initialized y.cls ∈ GT) (hn : y.cls ≠ "java/lang/invoke/MethodHandle" ∧ y.cls ≠ "java/lang/invoke/VarHandle" ∧ (parseMethodDescriptor y.desc).map (fun d => d.parameters.length) = some n) (hlen : As.length = n) (hst : (st.map fun v => v.category).sum ≤ 8) (hd : decode cc pc = .ok (.invokevirtual index, 3))
    (kk : ∀ r σ1 k' s', kf r σ1 = some (rr, σf, k', s') → V K (k' + ko) (s' + so) σ1 (pc + 3) lv (stk r)) : V K (kr + ko) (sr + so) σ pc lv stA := by
  obtain ⟨r, σ1, k, s, k', s', h1, h2, rfl, rfl⟩ := bd_some hf
  obtain ⟨⟨fs, hb⟩, hM⟩ := hM r σ1 k s h1
  rw [hsA, Nat.add_assoc, Nat.add_assoc]
  exact v_rmV (as := []) hC hM hb hc hy hR hF hL w1 w2 w3 w4 w5 hn hlen hst hd (by rw [hsk]; exact kk r σ1 k' s' h2)
theorem v_cVP (hC : Cx K cc own) {index b ci n : Nat} {y : MethodName} {bytes : ByteArray} {maxL F L Fr Lr k0 s0 : Nat} {ret : Option FieldType} {cq : vw_C} {ρ τ : Type} {fc : Option ρ} {kf : ρ → Option τ} {res : τ} {stA : List Value} (As : List Value) (st : List Value) (rv : ρ → Option Value) (stk : ρ → List Value) (hf : fc.bind kf = some res) (hM : ∀ r, fc = some r → (∃ fs : List Value, σ.1 b = some (.inr (.inl (ci, fs)))) ∧ Ct (kG K) (kl K) y bytes maxL ret F L (.ref b :: As) σ (rv r) σ 0 0) (hsA : stA = As.reverse ++ .ref b :: st) (hsk : ∀ r, (rv r).toList ++ st = stk r) (hc : vwCl[ci]? = some cq) (hy : y.cls = cq.1) (hR : kR K = rmF Fr Lr k0 s0) (hF : F + 1 ≤ Fr) (hL : 8 + (maxL + 11) + L ≤ Lr) (w1 : Cond.code y bytes maxL ret ∈ GT) (w2 : Cond.methodLink own index y ∈ GT) (w3 : Cond.instanceMethod y ∈ GT) (w4 : Cond.selects y.cls y y ∈ GT) (w5 : Cond.initialized y.cls ∈ GT) (hn : y.cls ≠ "java/lang/invoke/MethodHandle" ∧ y.cls ≠ "java/lang/invoke/VarHandle" ∧ (parseMethodDescriptor y.desc).map (fun d => d.parameters.length) = some n) (hlen : As.length = n) (hst : (st.map fun v => v.category).sum ≤ 8) (hd : decode cc pc = .ok (.invokevirtual index, 3))
    (kk : ∀ r, kf r = some res → V K kr sr σ (pc + 3) lv (stk r)) : V K kr sr σ pc lv stA := by
  obtain ⟨r, h1, h2⟩ := Option.bind_eq_some_iff.mp hf
  obtain ⟨⟨fs, hb⟩, hM⟩ := hM r h1
  have := v_rmV (as := []) (kr := kr) (sr := sr) hC hM hb hc hy hR hF hL w1 w2 w3 w4 w5 hn hlen hst hd (by rw [hsk]; exact kk r h2)
  rw [hsA]
  rw [Nat.zero_add, Nat.zero_add] at this
  exact this
theorem v_cSE (hC : Cx K cc own) {index n : Nat} {y : MethodName} {bytes : ByteArray} {maxL F L Fr Lr k0 s0 : Nat} {ret : Option FieldType} {ρ τ : Type} {fc : Rs ρ} {kf : ρ → St → Rs τ} {rr : τ} {σf : St} {stA : List Value} (As : List Value) (st : List Value) (rv : ρ → Option Value) (stk : ρ → List Value) (hf : bd fc kf = some (rr, σf, kr, sr)) (hM : ∀ r σ' k s, fc = some (r, σ', k, s) → Ct (kG K) (kl K) y bytes maxL ret F L As σ (rv r) σ' k s) (hsA : stA = As.reverse ++ st) (hsk : ∀ r, (rv r).toList ++ st = stk r) (hR : kR K = rmF Fr Lr k0 s0) (hF : F + 1 ≤ Fr) (hL : 8 + (maxL + 11) + L ≤ Lr) (w1 : Cond.code y bytes maxL ret ∈ GT) (w2 : Cond.methodLink own index y ∈ GT) (w3 : Cond.static y ∈ GT) (w5 : Cond.initialized y.cls ∈ GT) (hn : y.cls ≠ "java/lang/invoke/MethodHandle" ∧ y.cls ≠ "java/lang/invoke/VarHandle" ∧ (parseMethodDescriptor y.desc).map (fun d => d.parameters.length) = some n) (hlen : As.length = n) (hst : (st.map fun v => v.category).sum ≤ 8) (hd : decode cc pc = .ok (.invokestatic index, 3))
    (kk : ∀ r σ1 k' s', kf r σ1 = some (rr, σf, k', s') → V K (k' + ko) (s' + so) σ1 (pc + 3) lv (stk r)) : V K (kr + ko) (sr + so) σ pc lv stA := by
  obtain ⟨r, σ1, k, s, k', s', h1, h2, rfl, rfl⟩ := bd_some hf
  rw [hsA, Nat.add_assoc, Nat.add_assoc]
  exact v_rmS hC (hM r σ1 k s h1) hR hF hL w1 w2 w3 w5 hn hlen hst hd (by rw [hsk]; exact kk r σ1 k' s' h2)
theorem v_cSP (hC : Cx K cc own) {index n : Nat} {y : MethodName} {bytes : ByteArray} {maxL F L Fr Lr k0 s0 : Nat} {ret : Option FieldType} {ρ τ : Type} {fc : Option ρ} {kf : ρ → Option τ} {res : τ} {stA : List Value} (As : List Value) (st : List Value) (rv : ρ → Option Value) (stk : ρ → List Value) (hf : fc.bind kf = some res) (hM : ∀ r, fc = some r → Ct (kG K) (kl K) y bytes maxL ret F L As σ (rv r) σ 0 0) (hsA : stA = As.reverse ++ st) (hsk : ∀ r, (rv r).toList ++ st = stk r) (hR : kR K = rmF Fr Lr k0 s0) (hF : F + 1 ≤ Fr) (hL : 8 + (maxL + 11) + L ≤ Lr) (w1 : Cond.code y bytes maxL ret ∈ GT) (w2 : Cond.methodLink own index y ∈ GT) (w3 : Cond.static y ∈ GT) (w5 : Cond.initialized y.cls ∈ GT) (hn : y.cls ≠ "java/lang/invoke/MethodHandle" ∧ y.cls ≠ "java/lang/invoke/VarHandle" ∧ (parseMethodDescriptor y.desc).map (fun d => d.parameters.length) = some n) (hlen : As.length = n) (hst : (st.map fun v => v.category).sum ≤ 8) (hd : decode cc pc = .ok (.invokestatic index, 3))
    (kk : ∀ r, kf r = some res → V K kr sr σ (pc + 3) lv (stk r)) : V K kr sr σ pc lv stA := by
  obtain ⟨r, h1, h2⟩ := Option.bind_eq_some_iff.mp hf
  have := v_rmS (kr := kr) (sr := sr) hC (hM r h1) hR hF hL w1 w2 w3 w5 hn hlen hst hd (by rw [hsk]; exact kk r h2)
  rw [hsA]
  rw [Nat.zero_add, Nat.zero_add] at this
  exact this
theorem v_cIE (hC : Cx K cc own) {index b n : Nat} {y : MethodName} {bytes : ByteArray} {maxL F L Fr Lr k0 s0 : Nat} {ρ τ : Type} {fc : Rs ρ} {kf : ρ → St → Rs τ} {rr : τ} {σf : St} {stA : List Value} (As : List Value) (st : List Value) (hf : bd fc kf = some (rr, σf, kr, sr)) (hM : ∀ r σ' k s, fc = some (r, σ', k, s) → Ct (kG K) (kl K) y bytes maxL none F L (.ref b :: As) σ none σ' k s) (hsA : stA = As.reverse ++ .ref b :: st) (hR : kR K = rmF Fr Lr k0 s0) (hF : F + 1 ≤ Fr) (hL : 8 + (maxL + 11) + L ≤ Lr) (w1 : Cond.code y bytes maxL none ∈ GT) (w2 : Cond.methodLink own index y ∈ GT) (w3 : Cond.instanceMethod y ∈ GT) (w5 : Cond.initialized y.cls ∈ GT) (hy : y.name = "<init>") (hn : y.cls ≠ "java/lang/invoke/MethodHandle" ∧ y.cls ≠ "java/lang/invoke/VarHandle" ∧ (parseMethodDescriptor y.desc).map (fun d => d.parameters.length) = some n) (hlen : As.length = n) (hst : (st.map fun v => v.category).sum ≤ 8) (hd : decode cc pc = .ok (.invokespecial index, 3))
    (kk : ∀ r σ1 k' s', kf r σ1 = some (rr, σf, k', s') → V K (k' + ko) (s' + so) σ1 (pc + 3) lv st) : V K (kr + ko) (sr + so) σ pc lv stA := by
  obtain ⟨r, σ1, k, s, k', s', h1, h2, rfl, rfl⟩ := bd_some hf
  rw [hsA, Nat.add_assoc, Nat.add_assoc]
  exact v_rmI hC (hM r σ1 k s h1) hR hF hL w1 w2 w3 w5 hy hn hlen hst hd (kk r σ1 k' s' h2)
theorem v_cIN (hC : Cx K cc own) {index b n : Nat} {y : MethodName} {host : String} {bytes : ByteArray} {maxL F L Fr Lr k0 s0 : Nat} {ρ τ : Type} {fc : Rs ρ} {kf : ρ → St → Rs τ} {rr : τ} {σf : St} {stA : List Value} (As : List Value) (st : List Value) (hf : bd fc kf = some (rr, σf, kr, sr)) (hM : ∀ r σ' k s, fc = some (r, σ', k, s) → Ct (kG K) (kl K) y bytes maxL none F L (.ref b :: As) σ none σ' k s) (hsA : stA = As.reverse ++ .ref b :: st) (hR : kR K = rmF Fr Lr k0 s0) (hF : F + 1 ≤ Fr) (hL : 8 + (maxL + 11) + L ≤ Lr) (w1 : Cond.code y bytes maxL none ∈ GT) (w2 : Cond.methodLinkNest own index y host ∈ NW) (w3 : Cond.instanceMethod y ∈ GT) (w5 : Cond.initialized y.cls ∈ GT) (hy : y.name = "<init>") (hn : y.cls ≠ "java/lang/invoke/MethodHandle" ∧ y.cls ≠ "java/lang/invoke/VarHandle" ∧ (parseMethodDescriptor y.desc).map (fun d => d.parameters.length) = some n) (hlen : As.length = n) (hst : (st.map fun v => v.category).sum ≤ 8) (hd : decode cc pc = .ok (.invokespecial index, 3))
    (kk : ∀ r σ1 k' s', kf r σ1 = some (rr, σf, k', s') → V K (k' + ko) (s' + so) σ1 (pc + 3) lv st) : V K (kr + ko) (sr + so) σ pc lv stA := by
  obtain ⟨r, σ1, k, s, k', s', h1, h2, rfl, rfl⟩ := bd_some hf
  rw [hsA, Nat.add_assoc, Nat.add_assoc]
  exact v_rmIN hC (hM r σ1 k s h1) hR hF hL w1 w2 w3 w5 hy hn hlen hst hd (kk r σ1 k' s' h2)
theorem v_retI (hC : Cx K cc own) {σ0 σf : St} {x r : Int32} (hf : some (x, σ, 0, 0) = some (r, σf, kr, sr)) (hE : End K σ0 (some .int) (some (.int r)) σf) (hd : decode cc pc = .ok (.ireturn, 1)) : V K (kr + 0) (sr + 0) σ pc lv [.int x] := by
  cases hf
  exact v_zret hC hE rfl hd
theorem v_retZ (hC : Cx K cc own) {σ0 σf : St} {x r : Int32} (hf : (isB x).bind (fun _ => some (x, σ, 0, 0)) = some (r, σf, kr, sr)) (hE : End K σ0 (some .boolean) (some (.int r)) σf) (hd : decode cc pc = .ok (.ireturn, 1)) : V K (kr + 0) (sr + 0) σ pc lv [.int x] := by
  obtain ⟨⟨h1, -⟩, hf⟩ := zB hf
  cases hf
  exact v_zret hC hE h1 hd
theorem v_retL (hC : Cx K cc own) {σ0 σf : St} {x r : Int64} (hf : some (x, σ, 0, 0) = some (r, σf, kr, sr)) (hE : End K σ0 (some .long) (some (.long r)) σf) (hd : decode cc pc = .ok (.lreturn, 1)) : V K (kr + 0) (sr + 0) σ pc lv [.long x] := by
  cases hf
  exact v_lret hC hE hd
theorem v_retA (hC : Cx K cc own) {σ0 σf : St} {t : FieldType} {x r : Nat} (hf : some (x, σ, 0, 0) = some (r, σf, kr, sr)) (hE : End K σ0 (some (.array t)) (some (.ref r)) σf) (hd : decode cc pc = .ok (.areturn, 1)) : V K (kr + 0) (sr + 0) σ pc lv [.ref x] := by
  cases hf
  exact v_aret hC hE hd
theorem v_retV (hC : Cx K cc own) {σ0 σf : St} {r : Unit} (hf : some ((), σ, 0, 0) = some (r, σf, kr, sr)) (hE : End K σ0 none none σf) (hd : decode cc pc = .ok (.return_, 1)) : V K (kr + 0) (sr + 0) σ pc lv [] := by
  cases hf
  exact v_vret hC hE hd
theorem v_retIP (hC : Cx K cc own) {σ0 : St} {x r : Int32} (hf : some x = some r) (hE : End K σ0 (some .int) (some (.int r)) σ) (hd : decode cc pc = .ok (.ireturn, 1)) : V K 0 0 σ pc lv [.int x] := by
  cases hf
  exact v_zret hC hE rfl hd
theorem v_retZP (hC : Cx K cc own) {σ0 : St} {x r : Int32} (hf : (isB x).bind (fun _ => some x) = some r) (hE : End K σ0 (some .boolean) (some (.int r)) σ) (hd : decode cc pc = .ok (.ireturn, 1)) : V K 0 0 σ pc lv [.int x] := by
  obtain ⟨⟨h1, -⟩, hf⟩ := zB hf
  cases hf
  exact v_zret hC hE h1 hd
theorem v_retLP (hC : Cx K cc own) {σ0 : St} {x r : Int64} (hf : some x = some r) (hE : End K σ0 (some .long) (some (.long r)) σ) (hd : decode cc pc = .ok (.lreturn, 1)) : V K 0 0 σ pc lv [.long x] := by
  cases hf
  exact v_lret hC hE hd
theorem v_bZ {x : Int32} {τ : Type} {f : Unit → Option τ} {res : τ} {X : Prop} (hf : (isB x).bind f = some res) (kk : narrow .boolean (.int x) = .int x → fits .boolean (.int x) = true → f () = some res → X) : X := by
  obtain ⟨⟨h1, h2⟩, h3⟩ := zB hf
  exact kk h1 h2 h3
theorem v_tabIn (hC : Cx K cc own) {dflt lo hi off : Int} {offs : Array Int} {len tgt : Nat} {x : Int32} (hd : decode cc pc = .ok (.tableswitch dflt lo hi offs, len)) (h1 : ¬ x.toInt < lo) (h2 : ¬ hi < x.toInt) (ho : offs[(x.toInt - lo).toNat]? = some off) (ht : (pc : Int) + off = (tgt : Int)) (kk : V K kr sr σ tgt lv st) : V K kr sr σ pc lv (.int x :: st) := fun H locs ls cells slots g1 g2 g3 g4 g5 g6 => lv_tableIn hC.1 hC.2.1 hd h1 h2 ho ht (kk H locs ls cells slots g1 g2 g3 g4 g5 g6)
theorem v_tabOut (hC : Cx K cc own) {dflt lo hi : Int} {offs : Array Int} {len tgt : Nat} {x : Int32} (hd : decode cc pc = .ok (.tableswitch dflt lo hi offs, len)) (h : x.toInt < lo ∨ hi < x.toInt) (ht : (pc : Int) + dflt = (tgt : Int)) (kk : V K kr sr σ tgt lv st) : V K kr sr σ pc lv (.int x :: st) := fun H locs ls cells slots g1 g2 g3 g4 g5 g6 => lv_tableOut hC.1 hC.2.1 hd h ht (kk H locs ls cells slots g1 g2 g3 g4 g5 g6)
end R5
end
