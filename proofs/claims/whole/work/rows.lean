section
-- ===== PART A: goes FIRST, ahead of the names: the tables' words, and 'selects' of the private methods out of them =====
/-- a private method of a class that the tables say can be made, by its rows of tables_1 -/
def lw_okq (q : MethodName × Nat) : Prop := (q.1.cls ≠ "java/lang/invoke/MethodHandle" ∧ q.1.cls ≠ "java/lang/invoke/VarHandle") ∧ Cond.instantiable q.1.cls q.2 ∈ tables_1 ∧ Cond.privateMethod q.1 ∈ tables_1 ∧ Cond.instanceMethod q.1 ∈ tables_1
theorem lw_p0 : lw_okq (⟨"SumBlocks$Blocks", "put", "(IIIII)V"⟩, 6) := ⟨⟨by decide +kernel, by decide +kernel⟩, List.mem_of_getElem? (i := 31) (by decide +kernel), List.mem_of_getElem? (i := 155) (by decide +kernel), List.mem_of_getElem? (i := 156) (by decide +kernel)⟩
theorem lw_p1 : lw_okq (⟨"SumBlocks$SavedStates", "stateAt", "(I)LSumBlocks$Memory;"⟩, 3) := ⟨⟨by decide +kernel, by decide +kernel⟩, List.mem_of_getElem? (i := 113) (by decide +kernel), List.mem_of_getElem? (i := 181) (by decide +kernel), List.mem_of_getElem? (i := 182) (by decide +kernel)⟩
theorem lw_p2 : lw_okq (⟨"SumBlocks$Memory", "replaceBySpan", "(I)V"⟩, 7) := ⟨⟨by decide +kernel, by decide +kernel⟩, List.mem_of_getElem? (i := 25) (by decide +kernel), List.mem_of_getElem? (i := 263) (by decide +kernel), List.mem_of_getElem? (i := 264) (by decide +kernel)⟩
theorem lw_p3 : lw_okq (⟨"SumBlocks$Blocks", "move", "(II)V"⟩, 6) := ⟨⟨by decide +kernel, by decide +kernel⟩, List.mem_of_getElem? (i := 31) (by decide +kernel), List.mem_of_getElem? (i := 275) (by decide +kernel), List.mem_of_getElem? (i := 276) (by decide +kernel)⟩
theorem lw_p4 : lw_okq (⟨"SumBlocks$Memory", "usedCells", "()I"⟩, 7) := ⟨⟨by decide +kernel, by decide +kernel⟩, List.mem_of_getElem? (i := 25) (by decide +kernel), List.mem_of_getElem? (i := 338) (by decide +kernel), List.mem_of_getElem? (i := 339) (by decide +kernel)⟩
theorem lw_p5 : lw_okq (⟨"SumBlocks$Memory", "wishedCells", "()I"⟩, 7) := ⟨⟨by decide +kernel, by decide +kernel⟩, List.mem_of_getElem? (i := 25) (by decide +kernel), List.mem_of_getElem? (i := 353) (by decide +kernel), List.mem_of_getElem? (i := 354) (by decide +kernel)⟩
theorem lw_p6 : lw_okq (⟨"SumBlocks", "countOf", "(I)I"⟩, 3) := ⟨⟨by decide +kernel, by decide +kernel⟩, List.mem_of_getElem? (i := 17) (by decide +kernel), List.mem_of_getElem? (i := 362) (by decide +kernel), List.mem_of_getElem? (i := 363) (by decide +kernel)⟩
theorem lw_p7 : lw_okq (⟨"SumBlocks$Memory", "manyUses", "()I"⟩, 7) := ⟨⟨by decide +kernel, by decide +kernel⟩, List.mem_of_getElem? (i := 25) (by decide +kernel), List.mem_of_getElem? (i := 374) (by decide +kernel), List.mem_of_getElem? (i := 375) (by decide +kernel)⟩
theorem lw_p8 : lw_okq (⟨"SumBlocks", "mixedWithBlocks", "(J)J"⟩, 3) := ⟨⟨by decide +kernel, by decide +kernel⟩, List.mem_of_getElem? (i := 17) (by decide +kernel), List.mem_of_getElem? (i := 386) (by decide +kernel), List.mem_of_getElem? (i := 387) (by decide +kernel)⟩
theorem lw_p9 : lw_okq (⟨"SumBlocks", "mixedWithUses", "(J)J"⟩, 3) := ⟨⟨by decide +kernel, by decide +kernel⟩, List.mem_of_getElem? (i := 17) (by decide +kernel), List.mem_of_getElem? (i := 411) (by decide +kernel), List.mem_of_getElem? (i := 412) (by decide +kernel)⟩
theorem lw_p10 : lw_okq (⟨"SumBlocks", "mixedWithWish", "(JI)J"⟩, 3) := ⟨⟨by decide +kernel, by decide +kernel⟩, List.mem_of_getElem? (i := 17) (by decide +kernel), List.mem_of_getElem? (i := 431) (by decide +kernel), List.mem_of_getElem? (i := 432) (by decide +kernel)⟩
theorem lw_p11 : lw_okq (⟨"SumBlocks$Memory", "placeFor", "(I)I"⟩, 7) := ⟨⟨by decide +kernel, by decide +kernel⟩, List.mem_of_getElem? (i := 25) (by decide +kernel), List.mem_of_getElem? (i := 443) (by decide +kernel), List.mem_of_getElem? (i := 444) (by decide +kernel)⟩
theorem lw_p12 : lw_okq (⟨"SumBlocks$Memory", "isCutFor", "(II)Z"⟩, 7) := ⟨⟨by decide +kernel, by decide +kernel⟩, List.mem_of_getElem? (i := 25) (by decide +kernel), List.mem_of_getElem? (i := 452) (by decide +kernel), List.mem_of_getElem? (i := 453) (by decide +kernel)⟩
theorem lw_p13 : lw_okq (⟨"SumBlocks$Memory", "goesRight", "(II)Z"⟩, 7) := ⟨⟨by decide +kernel, by decide +kernel⟩, List.mem_of_getElem? (i := 25) (by decide +kernel), List.mem_of_getElem? (i := 456) (by decide +kernel), List.mem_of_getElem? (i := 457) (by decide +kernel)⟩
theorem lw_p14 : lw_okq (⟨"java/lang/Throwable", "fillInStackTrace", "(I)Ljava/lang/Throwable;"⟩, 6) := ⟨⟨by decide +kernel, by decide +kernel⟩, List.mem_of_getElem? (i := 513) (by decide +kernel), List.mem_of_getElem? (i := 511) (by decide +kernel), List.mem_of_getElem? (i := 512) (by decide +kernel)⟩
theorem lw_p15 : lw_okq (⟨"SumBlocks$Memory", "numberForNewUse", "()I"⟩, 7) := ⟨⟨by decide +kernel, by decide +kernel⟩, List.mem_of_getElem? (i := 25) (by decide +kernel), List.mem_of_getElem? (i := 559) (by decide +kernel), List.mem_of_getElem? (i := 560) (by decide +kernel)⟩
def lw_privs_1 : List (MethodName × Nat) := [(⟨"SumBlocks$Blocks", "put", "(IIIII)V"⟩, 6), (⟨"SumBlocks$SavedStates", "stateAt", "(I)LSumBlocks$Memory;"⟩, 3), (⟨"SumBlocks$Memory", "replaceBySpan", "(I)V"⟩, 7), (⟨"SumBlocks$Blocks", "move", "(II)V"⟩, 6), (⟨"SumBlocks$Memory", "usedCells", "()I"⟩, 7), (⟨"SumBlocks$Memory", "wishedCells", "()I"⟩, 7), (⟨"SumBlocks", "countOf", "(I)I"⟩, 3), (⟨"SumBlocks$Memory", "manyUses", "()I"⟩, 7), (⟨"SumBlocks", "mixedWithBlocks", "(J)J"⟩, 3), (⟨"SumBlocks", "mixedWithUses", "(J)J"⟩, 3), (⟨"SumBlocks", "mixedWithWish", "(JI)J"⟩, 3), (⟨"SumBlocks$Memory", "placeFor", "(I)I"⟩, 7), (⟨"SumBlocks$Memory", "isCutFor", "(II)Z"⟩, 7), (⟨"SumBlocks$Memory", "goesRight", "(II)Z"⟩, 7), (⟨"java/lang/Throwable", "fillInStackTrace", "(I)Ljava/lang/Throwable;"⟩, 6), (⟨"SumBlocks$Memory", "numberForNewUse", "()I"⟩, 7)]
theorem lw_r1 : ∀ q ∈ lw_privs_1, lw_okq q := List.forall_mem_cons.mpr ⟨lw_p0, List.forall_mem_cons.mpr ⟨lw_p1, List.forall_mem_cons.mpr ⟨lw_p2, List.forall_mem_cons.mpr ⟨lw_p3, List.forall_mem_cons.mpr ⟨lw_p4, List.forall_mem_cons.mpr ⟨lw_p5, List.forall_mem_cons.mpr ⟨lw_p6, List.forall_mem_cons.mpr ⟨lw_p7, List.forall_mem_cons.mpr ⟨lw_p8, List.forall_mem_cons.mpr ⟨lw_p9, List.forall_mem_cons.mpr ⟨lw_p10, List.forall_mem_cons.mpr ⟨lw_p11, List.forall_mem_cons.mpr ⟨lw_p12, List.forall_mem_cons.mpr ⟨lw_p13, List.forall_mem_cons.mpr ⟨lw_p14, List.forall_mem_cons.mpr ⟨lw_p15, fun _ h => absurd h List.not_mem_nil⟩⟩⟩⟩⟩⟩⟩⟩⟩⟩⟩⟩⟩⟩⟩⟩
theorem lw_p16 : lw_okq (⟨"SumBlocks$Memory", "cutAt", "(I)V"⟩, 7) := ⟨⟨by decide +kernel, by decide +kernel⟩, List.mem_of_getElem? (i := 25) (by decide +kernel), List.mem_of_getElem? (i := 583) (by decide +kernel), List.mem_of_getElem? (i := 584) (by decide +kernel)⟩
theorem lw_p17 : lw_okq (⟨"SumBlocks", "carryOut", "(II)Z"⟩, 3) := ⟨⟨by decide +kernel, by decide +kernel⟩, List.mem_of_getElem? (i := 17) (by decide +kernel), List.mem_of_getElem? (i := 701) (by decide +kernel), List.mem_of_getElem? (i := 702) (by decide +kernel)⟩
theorem lw_p18 : lw_okq (⟨"SumBlocksModel", "empties", "(I)V"⟩, 12) := ⟨⟨by decide +kernel, by decide +kernel⟩, List.mem_of_getElem? (i := 812) (by decide +kernel), List.mem_of_getElem? (i := 818) (by decide +kernel), List.mem_of_getElem? (i := 819) (by decide +kernel)⟩
theorem lw_p19 : lw_okq (⟨"SumBlocksModel", "lay", "(IIIII)V"⟩, 12) := ⟨⟨by decide +kernel, by decide +kernel⟩, List.mem_of_getElem? (i := 812) (by decide +kernel), List.mem_of_getElem? (i := 822) (by decide +kernel), List.mem_of_getElem? (i := 823) (by decide +kernel)⟩
theorem lw_p20 : lw_okq (⟨"SumBlocksModel", "put", "(III)V"⟩, 12) := ⟨⟨by decide +kernel, by decide +kernel⟩, List.mem_of_getElem? (i := 812) (by decide +kernel), List.mem_of_getElem? (i := 826) (by decide +kernel), List.mem_of_getElem? (i := 827) (by decide +kernel)⟩
theorem lw_p21 : lw_okq (⟨"SumBlocksModel", "save", "()V"⟩, 12) := ⟨⟨by decide +kernel, by decide +kernel⟩, List.mem_of_getElem? (i := 812) (by decide +kernel), List.mem_of_getElem? (i := 878) (by decide +kernel), List.mem_of_getElem? (i := 879) (by decide +kernel)⟩
theorem lw_p22 : lw_okq (⟨"SumBlocksModel", "canWant", "(I)Z"⟩, 12) := ⟨⟨by decide +kernel, by decide +kernel⟩, List.mem_of_getElem? (i := 812) (by decide +kernel), List.mem_of_getElem? (i := 892) (by decide +kernel), List.mem_of_getElem? (i := 893) (by decide +kernel)⟩
theorem lw_p23 : lw_okq (⟨"SumBlocksModel", "freeNumber", "()I"⟩, 12) := ⟨⟨by decide +kernel, by decide +kernel⟩, List.mem_of_getElem? (i := 812) (by decide +kernel), List.mem_of_getElem? (i := 896) (by decide +kernel), List.mem_of_getElem? (i := 897) (by decide +kernel)⟩
theorem lw_p24 : lw_okq (⟨"SumBlocksModel", "blockFor", "(I)I"⟩, 12) := ⟨⟨by decide +kernel, by decide +kernel⟩, List.mem_of_getElem? (i := 812) (by decide +kernel), List.mem_of_getElem? (i := 903) (by decide +kernel), List.mem_of_getElem? (i := 904) (by decide +kernel)⟩
theorem lw_p25 : lw_okq (⟨"SumBlocksModel", "isFree", "(I)Z"⟩, 12) := ⟨⟨by decide +kernel, by decide +kernel⟩, List.mem_of_getElem? (i := 812) (by decide +kernel), List.mem_of_getElem? (i := 907) (by decide +kernel), List.mem_of_getElem? (i := 908) (by decide +kernel)⟩
theorem lw_p26 : lw_okq (⟨"SumBlocksModel", "of", "(II)I"⟩, 12) := ⟨⟨by decide +kernel, by decide +kernel⟩, List.mem_of_getElem? (i := 812) (by decide +kernel), List.mem_of_getElem? (i := 911) (by decide +kernel), List.mem_of_getElem? (i := 912) (by decide +kernel)⟩
theorem lw_p27 : lw_okq (⟨"SumBlocksModel", "wants", "(I)I"⟩, 12) := ⟨⟨by decide +kernel, by decide +kernel⟩, List.mem_of_getElem? (i := 812) (by decide +kernel), List.mem_of_getElem? (i := 915) (by decide +kernel), List.mem_of_getElem? (i := 916) (by decide +kernel)⟩
theorem lw_p28 : lw_okq (⟨"SumBlocksModel", "cutDown", "(II)I"⟩, 12) := ⟨⟨by decide +kernel, by decide +kernel⟩, List.mem_of_getElem? (i := 812) (by decide +kernel), List.mem_of_getElem? (i := 919) (by decide +kernel), List.mem_of_getElem? (i := 920) (by decide +kernel)⟩
theorem lw_p29 : lw_okq (⟨"SumBlocksModel", "canCut", "(I)Z"⟩, 12) := ⟨⟨by decide +kernel, by decide +kernel⟩, List.mem_of_getElem? (i := 812) (by decide +kernel), List.mem_of_getElem? (i := 923) (by decide +kernel), List.mem_of_getElem? (i := 924) (by decide +kernel)⟩
theorem lw_p30 : lw_okq (⟨"SumBlocksModel", "cut", "(I)V"⟩, 12) := ⟨⟨by decide +kernel, by decide +kernel⟩, List.mem_of_getElem? (i := 812) (by decide +kernel), List.mem_of_getElem? (i := 927) (by decide +kernel), List.mem_of_getElem? (i := 928) (by decide +kernel)⟩
theorem lw_p31 : lw_okq (⟨"SumBlocksModel", "isUse", "(I)Z"⟩, 12) := ⟨⟨by decide +kernel, by decide +kernel⟩, List.mem_of_getElem? (i := 812) (by decide +kernel), List.mem_of_getElem? (i := 935) (by decide +kernel), List.mem_of_getElem? (i := 936) (by decide +kernel)⟩
def lw_privs_2 : List (MethodName × Nat) := [(⟨"SumBlocks$Memory", "cutAt", "(I)V"⟩, 7), (⟨"SumBlocks", "carryOut", "(II)Z"⟩, 3), (⟨"SumBlocksModel", "empties", "(I)V"⟩, 12), (⟨"SumBlocksModel", "lay", "(IIIII)V"⟩, 12), (⟨"SumBlocksModel", "put", "(III)V"⟩, 12), (⟨"SumBlocksModel", "save", "()V"⟩, 12), (⟨"SumBlocksModel", "canWant", "(I)Z"⟩, 12), (⟨"SumBlocksModel", "freeNumber", "()I"⟩, 12), (⟨"SumBlocksModel", "blockFor", "(I)I"⟩, 12), (⟨"SumBlocksModel", "isFree", "(I)Z"⟩, 12), (⟨"SumBlocksModel", "of", "(II)I"⟩, 12), (⟨"SumBlocksModel", "wants", "(I)I"⟩, 12), (⟨"SumBlocksModel", "cutDown", "(II)I"⟩, 12), (⟨"SumBlocksModel", "canCut", "(I)Z"⟩, 12), (⟨"SumBlocksModel", "cut", "(I)V"⟩, 12), (⟨"SumBlocksModel", "isUse", "(I)Z"⟩, 12)]
theorem lw_r2 : ∀ q ∈ lw_privs_2, lw_okq q := List.forall_mem_cons.mpr ⟨lw_p16, List.forall_mem_cons.mpr ⟨lw_p17, List.forall_mem_cons.mpr ⟨lw_p18, List.forall_mem_cons.mpr ⟨lw_p19, List.forall_mem_cons.mpr ⟨lw_p20, List.forall_mem_cons.mpr ⟨lw_p21, List.forall_mem_cons.mpr ⟨lw_p22, List.forall_mem_cons.mpr ⟨lw_p23, List.forall_mem_cons.mpr ⟨lw_p24, List.forall_mem_cons.mpr ⟨lw_p25, List.forall_mem_cons.mpr ⟨lw_p26, List.forall_mem_cons.mpr ⟨lw_p27, List.forall_mem_cons.mpr ⟨lw_p28, List.forall_mem_cons.mpr ⟨lw_p29, List.forall_mem_cons.mpr ⟨lw_p30, List.forall_mem_cons.mpr ⟨lw_p31, fun _ h => absurd h List.not_mem_nil⟩⟩⟩⟩⟩⟩⟩⟩⟩⟩⟩⟩⟩⟩⟩⟩
theorem lw_p32 : lw_okq (⟨"SumBlocksModel", "gives", "(I)I"⟩, 12) := ⟨⟨by decide +kernel, by decide +kernel⟩, List.mem_of_getElem? (i := 812) (by decide +kernel), List.mem_of_getElem? (i := 939) (by decide +kernel), List.mem_of_getElem? (i := 940) (by decide +kernel)⟩
theorem lw_p33 : lw_okq (⟨"SumBlocksModel", "placeOf", "(I)I"⟩, 12) := ⟨⟨by decide +kernel, by decide +kernel⟩, List.mem_of_getElem? (i := 812) (by decide +kernel), List.mem_of_getElem? (i := 943) (by decide +kernel), List.mem_of_getElem? (i := 944) (by decide +kernel)⟩
theorem lw_p34 : lw_okq (⟨"SumBlocksModel", "partnerOf", "(I)I"⟩, 12) := ⟨⟨by decide +kernel, by decide +kernel⟩, List.mem_of_getElem? (i := 812) (by decide +kernel), List.mem_of_getElem? (i := 947) (by decide +kernel), List.mem_of_getElem? (i := 948) (by decide +kernel)⟩
theorem lw_p35 : lw_okq (⟨"SumBlocksModel", "isBlock", "(I)Z"⟩, 12) := ⟨⟨by decide +kernel, by decide +kernel⟩, List.mem_of_getElem? (i := 812) (by decide +kernel), List.mem_of_getElem? (i := 951) (by decide +kernel), List.mem_of_getElem? (i := 952) (by decide +kernel)⟩
theorem lw_p36 : lw_okq (⟨"SumBlocksModel", "join", "(I)V"⟩, 12) := ⟨⟨by decide +kernel, by decide +kernel⟩, List.mem_of_getElem? (i := 812) (by decide +kernel), List.mem_of_getElem? (i := 955) (by decide +kernel), List.mem_of_getElem? (i := 956) (by decide +kernel)⟩
theorem lw_p37 : lw_okq (⟨"SumBlocksModel", "uses", "()I"⟩, 12) := ⟨⟨by decide +kernel, by decide +kernel⟩, List.mem_of_getElem? (i := 812) (by decide +kernel), List.mem_of_getElem? (i := 963) (by decide +kernel), List.mem_of_getElem? (i := 964) (by decide +kernel)⟩
theorem lw_p38 : lw_okq (⟨"SumBlocksModel", "reachOf", "(II)I"⟩, 12) := ⟨⟨by decide +kernel, by decide +kernel⟩, List.mem_of_getElem? (i := 812) (by decide +kernel), List.mem_of_getElem? (i := 971) (by decide +kernel), List.mem_of_getElem? (i := 972) (by decide +kernel)⟩
theorem lw_p39 : lw_okq (⟨"SumBlocksModel", "keep", "()V"⟩, 12) := ⟨⟨by decide +kernel, by decide +kernel⟩, List.mem_of_getElem? (i := 812) (by decide +kernel), List.mem_of_getElem? (i := 975) (by decide +kernel), List.mem_of_getElem? (i := 976) (by decide +kernel)⟩
theorem lw_p40 : lw_okq (⟨"SumBlocksModel", "extend", "(II)V"⟩, 12) := ⟨⟨by decide +kernel, by decide +kernel⟩, List.mem_of_getElem? (i := 812) (by decide +kernel), List.mem_of_getElem? (i := 979) (by decide +kernel), List.mem_of_getElem? (i := 980) (by decide +kernel)⟩
theorem lw_p41 : lw_okq (⟨"SumBlocksModel", "cellsOf", "(I)I"⟩, 12) := ⟨⟨by decide +kernel, by decide +kernel⟩, List.mem_of_getElem? (i := 812) (by decide +kernel), List.mem_of_getElem? (i := 983) (by decide +kernel), List.mem_of_getElem? (i := 984) (by decide +kernel)⟩
theorem lw_p42 : lw_okq (⟨"SumBlocksModel", "canExtend", "(I)Z"⟩, 12) := ⟨⟨by decide +kernel, by decide +kernel⟩, List.mem_of_getElem? (i := 812) (by decide +kernel), List.mem_of_getElem? (i := 987) (by decide +kernel), List.mem_of_getElem? (i := 988) (by decide +kernel)⟩
theorem lw_p43 : lw_okq (⟨"SumBlocksModel", "layBack", "()V"⟩, 12) := ⟨⟨by decide +kernel, by decide +kernel⟩, List.mem_of_getElem? (i := 812) (by decide +kernel), List.mem_of_getElem? (i := 991) (by decide +kernel), List.mem_of_getElem? (i := 992) (by decide +kernel)⟩
theorem lw_p44 : lw_okq (⟨"SumBlocksModel", "rightUpTo", "()I"⟩, 12) := ⟨⟨by decide +kernel, by decide +kernel⟩, List.mem_of_getElem? (i := 812) (by decide +kernel), List.mem_of_getElem? (i := 1015) (by decide +kernel), List.mem_of_getElem? (i := 1016) (by decide +kernel)⟩
theorem lw_p45 : lw_okq (⟨"SumBlocksModel", "takes", "(I)Z"⟩, 12) := ⟨⟨by decide +kernel, by decide +kernel⟩, List.mem_of_getElem? (i := 812) (by decide +kernel), List.mem_of_getElem? (i := 1019) (by decide +kernel), List.mem_of_getElem? (i := 1020) (by decide +kernel)⟩
theorem lw_p46 : lw_okq (⟨"SumBlocksModel", "takesDigit", "(I)Z"⟩, 12) := ⟨⟨by decide +kernel, by decide +kernel⟩, List.mem_of_getElem? (i := 812) (by decide +kernel), List.mem_of_getElem? (i := 1023) (by decide +kernel), List.mem_of_getElem? (i := 1024) (by decide +kernel)⟩
theorem lw_p47 : lw_okq (⟨"SumBlocksModel", "carries", "(I)Z"⟩, 12) := ⟨⟨by decide +kernel, by decide +kernel⟩, List.mem_of_getElem? (i := 812) (by decide +kernel), List.mem_of_getElem? (i := 1031) (by decide +kernel), List.mem_of_getElem? (i := 1032) (by decide +kernel)⟩
def lw_privs_3 : List (MethodName × Nat) := [(⟨"SumBlocksModel", "gives", "(I)I"⟩, 12), (⟨"SumBlocksModel", "placeOf", "(I)I"⟩, 12), (⟨"SumBlocksModel", "partnerOf", "(I)I"⟩, 12), (⟨"SumBlocksModel", "isBlock", "(I)Z"⟩, 12), (⟨"SumBlocksModel", "join", "(I)V"⟩, 12), (⟨"SumBlocksModel", "uses", "()I"⟩, 12), (⟨"SumBlocksModel", "reachOf", "(II)I"⟩, 12), (⟨"SumBlocksModel", "keep", "()V"⟩, 12), (⟨"SumBlocksModel", "extend", "(II)V"⟩, 12), (⟨"SumBlocksModel", "cellsOf", "(I)I"⟩, 12), (⟨"SumBlocksModel", "canExtend", "(I)Z"⟩, 12), (⟨"SumBlocksModel", "layBack", "()V"⟩, 12), (⟨"SumBlocksModel", "rightUpTo", "()I"⟩, 12), (⟨"SumBlocksModel", "takes", "(I)Z"⟩, 12), (⟨"SumBlocksModel", "takesDigit", "(I)Z"⟩, 12), (⟨"SumBlocksModel", "carries", "(I)Z"⟩, 12)]
theorem lw_r3 : ∀ q ∈ lw_privs_3, lw_okq q := List.forall_mem_cons.mpr ⟨lw_p32, List.forall_mem_cons.mpr ⟨lw_p33, List.forall_mem_cons.mpr ⟨lw_p34, List.forall_mem_cons.mpr ⟨lw_p35, List.forall_mem_cons.mpr ⟨lw_p36, List.forall_mem_cons.mpr ⟨lw_p37, List.forall_mem_cons.mpr ⟨lw_p38, List.forall_mem_cons.mpr ⟨lw_p39, List.forall_mem_cons.mpr ⟨lw_p40, List.forall_mem_cons.mpr ⟨lw_p41, List.forall_mem_cons.mpr ⟨lw_p42, List.forall_mem_cons.mpr ⟨lw_p43, List.forall_mem_cons.mpr ⟨lw_p44, List.forall_mem_cons.mpr ⟨lw_p45, List.forall_mem_cons.mpr ⟨lw_p46, List.forall_mem_cons.mpr ⟨lw_p47, fun _ h => absurd h List.not_mem_nil⟩⟩⟩⟩⟩⟩⟩⟩⟩⟩⟩⟩⟩⟩⟩⟩
theorem lw_p48 : lw_okq (⟨"SumBlocksModel", "blockNow", "(II)I"⟩, 12) := ⟨⟨by decide +kernel, by decide +kernel⟩, List.mem_of_getElem? (i := 812) (by decide +kernel), List.mem_of_getElem? (i := 1050) (by decide +kernel), List.mem_of_getElem? (i := 1051) (by decide +kernel)⟩
theorem lw_p49 : lw_okq (⟨"SumBlocksModel", "useNow", "(II)I"⟩, 12) := ⟨⟨by decide +kernel, by decide +kernel⟩, List.mem_of_getElem? (i := 812) (by decide +kernel), List.mem_of_getElem? (i := 1061) (by decide +kernel), List.mem_of_getElem? (i := 1062) (by decide +kernel)⟩
theorem lw_p50 : lw_okq (⟨"SumBlocksModel", "blockWith", "(I)I"⟩, 12) := ⟨⟨by decide +kernel, by decide +kernel⟩, List.mem_of_getElem? (i := 812) (by decide +kernel), List.mem_of_getElem? (i := 1069) (by decide +kernel), List.mem_of_getElem? (i := 1070) (by decide +kernel)⟩
theorem lw_p51 : lw_okq (⟨"SumBlocksModel", "manyOf", "(IZ)I"⟩, 12) := ⟨⟨by decide +kernel, by decide +kernel⟩, List.mem_of_getElem? (i := 812) (by decide +kernel), List.mem_of_getElem? (i := 1077) (by decide +kernel), List.mem_of_getElem? (i := 1078) (by decide +kernel)⟩
theorem lw_p52 : lw_okq (⟨"SumBlocksModel", "counted", "(I)I"⟩, 12) := ⟨⟨by decide +kernel, by decide +kernel⟩, List.mem_of_getElem? (i := 812) (by decide +kernel), List.mem_of_getElem? (i := 1085) (by decide +kernel), List.mem_of_getElem? (i := 1086) (by decide +kernel)⟩
theorem lw_p53 : lw_okq (⟨"SumBlocksModel", "freeBlocks", "()I"⟩, 12) := ⟨⟨by decide +kernel, by decide +kernel⟩, List.mem_of_getElem? (i := 812) (by decide +kernel), List.mem_of_getElem? (i := 1089) (by decide +kernel), List.mem_of_getElem? (i := 1090) (by decide +kernel)⟩
theorem lw_p54 : lw_okq (⟨"SumBlocksModel", "freeCells", "()I"⟩, 12) := ⟨⟨by decide +kernel, by decide +kernel⟩, List.mem_of_getElem? (i := 812) (by decide +kernel), List.mem_of_getElem? (i := 1093) (by decide +kernel), List.mem_of_getElem? (i := 1094) (by decide +kernel)⟩
theorem lw_p55 : lw_okq (⟨"SumBlocksModel", "wished", "()I"⟩, 12) := ⟨⟨by decide +kernel, by decide +kernel⟩, List.mem_of_getElem? (i := 812) (by decide +kernel), List.mem_of_getElem? (i := 1097) (by decide +kernel), List.mem_of_getElem? (i := 1098) (by decide +kernel)⟩
theorem lw_p56 : lw_okq (⟨"SumBlocksModel", "usedCells", "()I"⟩, 12) := ⟨⟨by decide +kernel, by decide +kernel⟩, List.mem_of_getElem? (i := 812) (by decide +kernel), List.mem_of_getElem? (i := 1101) (by decide +kernel), List.mem_of_getElem? (i := 1102) (by decide +kernel)⟩
theorem lw_p57 : lw_okq (⟨"SumBlocksModel", "greatestFree", "()I"⟩, 12) := ⟨⟨by decide +kernel, by decide +kernel⟩, List.mem_of_getElem? (i := 812) (by decide +kernel), List.mem_of_getElem? (i := 1105) (by decide +kernel), List.mem_of_getElem? (i := 1106) (by decide +kernel)⟩
theorem lw_p58 : lw_okq (⟨"SumBlocksModel", "wantedThen", "(II)I"⟩, 12) := ⟨⟨by decide +kernel, by decide +kernel⟩, List.mem_of_getElem? (i := 812) (by decide +kernel), List.mem_of_getElem? (i := 1117) (by decide +kernel), List.mem_of_getElem? (i := 1118) (by decide +kernel)⟩
theorem lw_p59 : lw_okq (⟨"SumBlocksModel", "givenThen", "(I)I"⟩, 12) := ⟨⟨by decide +kernel, by decide +kernel⟩, List.mem_of_getElem? (i := 812) (by decide +kernel), List.mem_of_getElem? (i := 1125) (by decide +kernel), List.mem_of_getElem? (i := 1126) (by decide +kernel)⟩
theorem lw_p60 : lw_okq (⟨"SumBlocksModel", "reachNow", "(I)I"⟩, 12) := ⟨⟨by decide +kernel, by decide +kernel⟩, List.mem_of_getElem? (i := 812) (by decide +kernel), List.mem_of_getElem? (i := 1133) (by decide +kernel), List.mem_of_getElem? (i := 1134) (by decide +kernel)⟩
theorem lw_p61 : lw_okq (⟨"SumBlocksModel", "blockerNow", "()I"⟩, 12) := ⟨⟨by decide +kernel, by decide +kernel⟩, List.mem_of_getElem? (i := 812) (by decide +kernel), List.mem_of_getElem? (i := 1141) (by decide +kernel), List.mem_of_getElem? (i := 1142) (by decide +kernel)⟩
theorem lw_p62 : lw_okq (⟨"SumBlocksModel", "wayOf", "(I)I"⟩, 12) := ⟨⟨by decide +kernel, by decide +kernel⟩, List.mem_of_getElem? (i := 812) (by decide +kernel), List.mem_of_getElem? (i := 1149) (by decide +kernel), List.mem_of_getElem? (i := 1150) (by decide +kernel)⟩
theorem lw_p63 : lw_okq (⟨"SumBlocksModel", "blockAt", "(II)I"⟩, 12) := ⟨⟨by decide +kernel, by decide +kernel⟩, List.mem_of_getElem? (i := 812) (by decide +kernel), List.mem_of_getElem? (i := 1153) (by decide +kernel), List.mem_of_getElem? (i := 1154) (by decide +kernel)⟩
def lw_privs_4 : List (MethodName × Nat) := [(⟨"SumBlocksModel", "blockNow", "(II)I"⟩, 12), (⟨"SumBlocksModel", "useNow", "(II)I"⟩, 12), (⟨"SumBlocksModel", "blockWith", "(I)I"⟩, 12), (⟨"SumBlocksModel", "manyOf", "(IZ)I"⟩, 12), (⟨"SumBlocksModel", "counted", "(I)I"⟩, 12), (⟨"SumBlocksModel", "freeBlocks", "()I"⟩, 12), (⟨"SumBlocksModel", "freeCells", "()I"⟩, 12), (⟨"SumBlocksModel", "wished", "()I"⟩, 12), (⟨"SumBlocksModel", "usedCells", "()I"⟩, 12), (⟨"SumBlocksModel", "greatestFree", "()I"⟩, 12), (⟨"SumBlocksModel", "wantedThen", "(II)I"⟩, 12), (⟨"SumBlocksModel", "givenThen", "(I)I"⟩, 12), (⟨"SumBlocksModel", "reachNow", "(I)I"⟩, 12), (⟨"SumBlocksModel", "blockerNow", "()I"⟩, 12), (⟨"SumBlocksModel", "wayOf", "(I)I"⟩, 12), (⟨"SumBlocksModel", "blockAt", "(II)I"⟩, 12)]
theorem lw_r4 : ∀ q ∈ lw_privs_4, lw_okq q := List.forall_mem_cons.mpr ⟨lw_p48, List.forall_mem_cons.mpr ⟨lw_p49, List.forall_mem_cons.mpr ⟨lw_p50, List.forall_mem_cons.mpr ⟨lw_p51, List.forall_mem_cons.mpr ⟨lw_p52, List.forall_mem_cons.mpr ⟨lw_p53, List.forall_mem_cons.mpr ⟨lw_p54, List.forall_mem_cons.mpr ⟨lw_p55, List.forall_mem_cons.mpr ⟨lw_p56, List.forall_mem_cons.mpr ⟨lw_p57, List.forall_mem_cons.mpr ⟨lw_p58, List.forall_mem_cons.mpr ⟨lw_p59, List.forall_mem_cons.mpr ⟨lw_p60, List.forall_mem_cons.mpr ⟨lw_p61, List.forall_mem_cons.mpr ⟨lw_p62, List.forall_mem_cons.mpr ⟨lw_p63, fun _ h => absurd h List.not_mem_nil⟩⟩⟩⟩⟩⟩⟩⟩⟩⟩⟩⟩⟩⟩⟩⟩
theorem lw_p64 : lw_okq (⟨"SumBlocksModel", "share", "()D"⟩, 12) := ⟨⟨by decide +kernel, by decide +kernel⟩, List.mem_of_getElem? (i := 812) (by decide +kernel), List.mem_of_getElem? (i := 1161) (by decide +kernel), List.mem_of_getElem? (i := 1162) (by decide +kernel)⟩
theorem lw_p65 : lw_okq (⟨"SumBlocksModel", "mix", "(J)V"⟩, 12) := ⟨⟨by decide +kernel, by decide +kernel⟩, List.mem_of_getElem? (i := 812) (by decide +kernel), List.mem_of_getElem? (i := 1170) (by decide +kernel), List.mem_of_getElem? (i := 1171) (by decide +kernel)⟩
theorem lw_p66 : lw_okq (⟨"SumBlocksModel", "mixBlock", "(I)V"⟩, 12) := ⟨⟨by decide +kernel, by decide +kernel⟩, List.mem_of_getElem? (i := 812) (by decide +kernel), List.mem_of_getElem? (i := 1175) (by decide +kernel), List.mem_of_getElem? (i := 1176) (by decide +kernel)⟩
theorem lw_p67 : lw_okq (⟨"SumBlocksModel", "mixUse", "(I)V"⟩, 12) := ⟨⟨by decide +kernel, by decide +kernel⟩, List.mem_of_getElem? (i := 812) (by decide +kernel), List.mem_of_getElem? (i := 1179) (by decide +kernel), List.mem_of_getElem? (i := 1180) (by decide +kernel)⟩
theorem lw_p68 : lw_okq (⟨"SumBlocksModel", "mixWish", "(I)V"⟩, 12) := ⟨⟨by decide +kernel, by decide +kernel⟩, List.mem_of_getElem? (i := 812) (by decide +kernel), List.mem_of_getElem? (i := 1183) (by decide +kernel), List.mem_of_getElem? (i := 1184) (by decide +kernel)⟩
def lw_privs_5 : List (MethodName × Nat) := [(⟨"SumBlocksModel", "share", "()D"⟩, 12), (⟨"SumBlocksModel", "mix", "(J)V"⟩, 12), (⟨"SumBlocksModel", "mixBlock", "(I)V"⟩, 12), (⟨"SumBlocksModel", "mixUse", "(I)V"⟩, 12), (⟨"SumBlocksModel", "mixWish", "(I)V"⟩, 12)]
theorem lw_r5 : ∀ q ∈ lw_privs_5, lw_okq q := List.forall_mem_cons.mpr ⟨lw_p64, List.forall_mem_cons.mpr ⟨lw_p65, List.forall_mem_cons.mpr ⟨lw_p66, List.forall_mem_cons.mpr ⟨lw_p67, List.forall_mem_cons.mpr ⟨lw_p68, fun _ h => absurd h List.not_mem_nil⟩⟩⟩⟩⟩
def lw_privs : List (MethodName × Nat) := lw_privs_1 ++ (lw_privs_2 ++ (lw_privs_3 ++ (lw_privs_4 ++ (lw_privs_5))))
def lw_tbl : List Cond := k2_sels lw_privs ++ tables_1
theorem lw_privs_ok : ∀ q ∈ lw_privs, lw_okq q := by
  show ∀ q ∈ lw_privs_1 ++ (lw_privs_2 ++ (lw_privs_3 ++ (lw_privs_4 ++ (lw_privs_5)))), lw_okq q
  exact List.forall_mem_append.mpr ⟨lw_r1, List.forall_mem_append.mpr ⟨lw_r2, List.forall_mem_append.mpr ⟨lw_r3, List.forall_mem_append.mpr ⟨lw_r4, lw_r5⟩⟩⟩⟩
/-- the streams that the claim lets the run draw from -/
abbrev lw_cs : List Choice := [Jvm.Choice.named "NaN.bits"]
theorem lw_bits : nanBits ∈ lw_cs := by first | decide | exact List.mem_cons_self | simp [lw_cs, nanBits]
-- ===== end of PART A; then your names; then what follows =====
/-! ===== BEGIN words of one list among another's, by their places ===== -/
theorem goodIn_r {big : List Cond} (ws : List Cond) (ps : List Nat) (hp : ws = ps.filterMap (fun i => big[i]?)) (h : ws.all goodWord = true) : GoodIn big ws := by
  intro w hw
  have h1 := List.all_eq_true.mp h w hw
  rw [hp] at hw
  obtain ⟨i, -, hi⟩ := List.mem_filterMap.mp hw
  have hm : w ∈ big := by first | exact List.mem_of_getElem? hi | exact List.getElem?_mem hi
  exact ⟨hm, good_of_word h1⟩
theorem goodIn_app {big a b : List Cond} (ha : GoodIn big a) (hb : GoodIn big b) : GoodIn big (a ++ b) := fun w h => (List.mem_append.mp h).elim (ha w) (hb w)
theorem goodIn_ca {big a b : List Cond} {c : Cond} (ha : GoodIn big (c :: a)) (hb : GoodIn big b) : GoodIn big (c :: (a ++ b)) := fun w h => (List.mem_cons.mp h).elim (fun e => ha w (List.mem_cons.mpr (Or.inl e))) (fun h => (List.mem_append.mp h).elim (fun h => ha w (List.mem_cons.mpr (Or.inr h))) (hb w))
theorem goodIn_sub {big ws : List Cond} (hm : ∀ w ∈ ws, w ∈ big) (h : ws.all goodWord = true) : GoodIn big ws := fun w hw => ⟨hm w hw, good_of_word (List.all_eq_true.mp h w hw)⟩
/-! ===== END ===== -/

/-! ===== BEGIN exceptions that leave a method, and their catching by the caller (launches without stack traces) ===== -/
section VXA
/-! The laws vx_back, vx_callV, vx_callS, vx_callSW, vx_throw0, vx_throwS follow proofs of the library, with one case more: JvmDerived/Free/Laws.lean (Back.of_free), Shelf42/LK1.lean (callV, callS), Shelf/KitTraced.lean (throwNew0V, throwNewS). -/
/-- where a method has thrown q: the class by its name, the cell, what was written, the world -/
def vx_T (XC : String → State → State → Prop) (st : State) (q : Addr) (t : State) (mc ms : Nat) (free : Addr → Prop) : Prop :=
  ∃ (E : String) (ce : Cell) (L : List Loc), XC E st t ∧ t.heap[q]? = some ce ∧ ce.vm = .none ∧ st.vm.findClass E = some ce.cls ∧ st.WarmedH t.vm ∧ st.sameButNew ({ t with vm := st.vm } : State) L mc ms ∧ ∀ z ∈ L, free z.base
def vx_Q (Qc : Array Value → State → Outcome → State → Prop) (XC : String → State → State → Prop) (mc ms : Nat) (free : Addr → Prop) : Array Value → State → Outcome → State → Prop := fun a st o t =>
  (Qc a st o t ∧ ∃ L, FrameEnd st o t L mc ms ∧ ∀ q ∈ L, free q.base) ∨ ∃ q, o = .threw q ∧ vx_T XC st q t mc ms free
/-- a callee that returns or throws -/
def vx_Met (l : Launch) (y : MethodName) (ws : List Cond) (rm : Room) (Pc : Array Value → State → Prop) (Qc : Array Value → State → Outcome → State → Prop) (XC : String → State → State → Prop) (mc ms : Nat) (free : Addr → Prop) : Prop :=
  MetFree l y (headSpec ws rm) Pc (fun _ _ _ _ _ => True) (vx_Q Qc XC mc ms free)
def vx_Post (XC : String → State → State → Prop) (mc ms : Nat) (free : Addr → Prop) : Pt → Array Value → Addr → Pt → Prop := fun A a q B =>
  ∃ (g : JFrame) (mk : MethodId) (t : State) (L : List Loc) (E : String) (ce : Cell), B.U.heap = t.heap ∧ B.U.vm = t.vm ∧ XC E (A.U.calling g mk a) t ∧ t.heap[q]? = some ce ∧ ce.vm = .none ∧ A.U.vm.findClass E = some ce.cls ∧ B.locs = A.locs ++ L ∧ (∀ z ∈ L, free z.base) ∧ B.cells = A.cells + mc ∧ B.slots = A.slots + ms
def vx_Back (l : Launch) (R : Room) (p : Program) (e : Env) (below : List Frame) (s : State) (sargs : Array Value) (y : MethodName) (len W9 : Nat)
    (Pre : Pt → Array Value → Prop) (Post : Pt → Array Value → Option Value → Pt → Prop) (PostX : Pt → Array Value → Addr → Pt → Prop) : Prop :=
  ∀ (m : MethodId) (meth : Method) (c : Code) (A : Pt) (g : JFrame) (ig : Instr) (mk : MethodId) (a : Array Value),
    Stand p l e R s m sargs below meth c A.U A.locs A.cells A.slots → g.method = m → g.locals.size = c.maxLocals → decode c.code g.pc = .ok (ig, len) →
    2 * g.monitorRoom + (g.stack.map fun v => v.category).sum ≤ W9 → A.U.methodNamed? y = some mk → Pre A a →
    (∃ (v : Option Value) (B : Pt), Stand p l e R s m sargs below meth c B.U B.locs B.cells B.slots ∧ Post A a v B ∧
      Steps p.tables e below (doInvoke e (A.U.setTop g) [] mk a).1 (B.U.setTop { g with pc := g.pc + len, stack := v.toList ++ g.stack })) ∨
    (∃ (q : Addr) (B : Pt), Stand p l e R s m sargs below meth c B.U B.locs B.cells B.slots ∧ PostX A a q B ∧
      Steps p.tables e below (doInvoke e (A.U.setTop g) [] mk a).1 ((B.U.setTop g).pushFrame (.throwing q)))
section Payer
variable {l : Launch} {R : Room} {p : Program} {e : Env} {below : List Frame} {s : State} {sargs : Array Value} {y : MethodName} {len W9 : Nat}
theorem vx_back {ws : List Cond} {rm : Room} {Pc : Array Value → State → Prop} {Qc : Array Value → State → Outcome → State → Prop} {XC : String → State → State → Prop} {mc ms : Nat} {free : Addr → Prop} {bytes : ByteArray} {maxL : Nat} {ret : Option FieldType}
    (hM : vx_Met l y ws rm Pc Qc XC mc ms free) (hblind : FrameBlind Pc) (hrc : rm.cells = mc) (hrs : rm.slots = ms)
    (hframes : rm.frames + 1 ≤ R.frames) (hlocals : W9 + (maxL + 11) + rm.locals ≤ R.locals)
    (hws : ∀ w ∈ ws, ∀ a' U, s.WarmedH U.vm → w.before a' U = true) (hcode : Cond.code y bytes maxL ret ∈ ws) (hinit : ∀ a' U, s.WarmedH U.vm → (Cond.initialized y.cls).before a' U = true) :
    vx_Back l R p e below s sargs y len W9 (PreOf R mc ms Pc) (PostOf Qc mc ms free) (vx_Post XC mc ms free) := by
  intro m meth c A g ig mk a X hg hsize hdg hW hn hp
  have h1 : (headSpec ws rm).pre.before a A.U = true := atoms_intro fun w hw => hws w hw _ _ X.warmed
  have h2 : (Cond.code y bytes maxL ret).before a A.U = true := hws _ hcode _ _ X.warmed
  have h3 : (Cond.initialized y.cls).before a A.U = true := hinit _ _ X.warmed
  have h4 : A.cells + (headSpec ws rm).room.cells ≤ R.cells := by rw [show (headSpec ws rm).room.cells = mc from hrc]; exact hp.1
  have h5 : A.slots + (headSpec ws rm).room.slots ≤ R.slots := by rw [show (headSpec ws rm).room.slots = ms from hrs]; exact hp.2.1
  have hPc : Pc a (A.U.calling g mk a) := hblind _ _ _ _ hp.2.2
  obtain ⟨U, Ls, c0, s0⟩ := A
  dsimp only [Pt.U, Pt.locs, Pt.cells, Pt.slots] at h1 h2 h3 h4 h5 X hn hPc ⊢
  obtain ⟨methY, cY, hmY, hcY, -, hlY, -, -, -, -⟩ := Cond.code_spec hn h2
  obtain ⟨kY, hkY, -⟩ := className_of_methodNamed hn
  have hinitY : kY.init = .initialized := Cond.initialized_spec (findClass_of_methodNamed hn) hkY h3
  have h : At U g.method c below := by rw [hg]; exact X.here
  have hlocals9 : W9 + (maxL + 11) + (headSpec ws rm).room.locals ≤ R.locals := hlocals
  have happ : (headSpec ws rm).appliesLoose y e.platform (U.calling g mk a) = true :=
    Spec.appliesLoose_calling (g := g) h hdg hn hkY hinitY
      (X.room_calling (g := g) (R' := (headSpec ws rm).room) hsize hmY hcY hframes (by rw [hlY]; omega) h4 h5) h1
  obtain ⟨mid, hmid⟩ := h.above
  have hfr : (U.setTop g).frames = (.java g :: mid) ++ below := by rw [State.frames_setTop' g h.top, hmid]; rfl
  obtain ⟨o, s₂, hsteps, -, hend, hq⟩ := Steps.callFree hM p X.admits X.cas X.clock (acts := []) hfr happ hPc trivial
  have hq' : vx_Q Qc XC mc ms free a (U.calling g mk a) o s₂ := hq
  rw [State.frames_setTop' g h.top] at hend
  obtain ⟨g₀, hg0⟩ := Option.isSome_iff_exists.mp h.top
  obtain ⟨r, hr⟩ := State.topJava?_eq_some.mp hg0
  have hr' : (({ U with heap := s₂.heap, slotsUsed := s₂.slotsUsed } : State).setVm s₂.vm).frames = .java g₀ :: r := hr
  rcases hq' with ⟨hqc, L, hfe, hL⟩ | ⟨q, rfl, E, ce, L, hx, hce, hcv, hcl, hW₂, hsm, hL⟩
  · obtain ⟨⟨v, rfl⟩, hW₂, e2, q2, q3, q4, q5, q6⟩ := id hfe
    have e3 : s₂ = ({ (U.calling g mk a).setFrames s₂.frames with heap := s₂.heap, slotsUsed := s₂.slotsUsed } : State).setVm s₂.vm := by
      have : s₂ = ({ s₂ with vm := (U.calling g mk a).vm } : State).setVm s₂.vm := rfl
      rw [e2] at this
      exact this
    obtain ⟨c₂, i₂, len₂, hc₂, hd₂, hf₂⟩ := hend
    have hW' : U.WarmedH s₂.vm := hW₂
    have hcc : c₂ = c := by
      have h1 : s₂.code? g.method = U.code? g.method := by
        rw [State.code?_eq, State.code?_eq, hW'.alike.method?]
      exact Option.some.inj (hc₂.symm.trans (h1.trans h.code))
    subst hcc
    have hlen : len₂ = len := by rw [hdg] at hd₂; cases hd₂; rfl
    subst hlen
    have hs₂ : s₂ = (({ U with heap := s₂.heap, slotsUsed := s₂.slotsUsed } : State).setVm s₂.vm).setTop { g with pc := g.pc + len₂, stack := v.toList ++ g.stack } := by
      refine e3.trans ?_
      rw [hf₂, State.calling_eq h.top, State.setFrames_setFrames, State.setTop_of_frames _ hr', hr]
      rfl
    have hsame : U.sameButNew ({ U with heap := s₂.heap, slotsUsed := s₂.slotsUsed } : State) L mc ms := by
      refine ⟨?_, q2, q3, q4, q5, q6⟩
      obtain ⟨t, ht, -⟩ := State.frames_cons hr
      show ({ U with heap := s₂.heap, slotsUsed := s₂.slotsUsed } : State) = { U.setFrames U.frames with heap := s₂.heap, slotsUsed := s₂.slotsUsed }
      rw [State.setFrames_self ht]
    subst hg
    refine Or.inl ⟨v, ⟨(({ U with heap := s₂.heap, slotsUsed := s₂.slotsUsed } : State).setVm s₂.vm), Ls ++ L, c0 + mc, s0 + ms⟩,
      ⟨X.admits, X.cas, X.clock, X.frames, X.room, X.hears, X.method, X.code, (X.here.setHeapUsed s₂.heap s₂.slotsUsed).setVm hW'.alike, X.tail, State.WarmedH.trans X.warmed hW', X.limits, X.bytes, X.same.trans (hsame.setVm s.vm)⟩,
      ⟨g, mk, s₂, L, rfl, rfl, hqc, rfl, hL, rfl, rfl⟩, ?_⟩
    show Steps p.tables e below _ ((({ U with heap := s₂.heap, slotsUsed := s₂.slotsUsed } : State).setVm s₂.vm).setTop { g with pc := g.pc + len₂, stack := v.toList ++ g.stack })
    rw [← hs₂]
    exact hsteps
  · obtain ⟨e2, q2, q3, q4, q5, q6⟩ := id hsm
    have e3 : s₂ = ({ (U.calling g mk a).setFrames s₂.frames with heap := s₂.heap, slotsUsed := s₂.slotsUsed } : State).setVm s₂.vm := by
      have : s₂ = ({ s₂ with vm := (U.calling g mk a).vm } : State).setVm s₂.vm := rfl
      rw [e2] at this
      exact this
    have hf₂ : s₂.frames = .throwing q :: .java g :: U.frames.tail := hend
    have hW' : U.WarmedH s₂.vm := hW₂
    have hs₂ : s₂ = ((({ U with heap := s₂.heap, slotsUsed := s₂.slotsUsed } : State).setVm s₂.vm).setTop g).pushFrame (.throwing q) := by
      refine e3.trans ?_
      rw [hf₂, State.calling_eq h.top, State.setFrames_setFrames, State.pushFrame, State.frames_setTop _ hr', State.setTop_of_frames _ hr', State.setFrames_setFrames, hr]
      rfl
    have hsame : U.sameButNew ({ U with heap := s₂.heap, slotsUsed := s₂.slotsUsed } : State) L mc ms := by
      refine ⟨?_, q2, q3, q4, q5, q6⟩
      obtain ⟨t, ht, -⟩ := State.frames_cons hr
      show ({ U with heap := s₂.heap, slotsUsed := s₂.slotsUsed } : State) = { U.setFrames U.frames with heap := s₂.heap, slotsUsed := s₂.slotsUsed }
      rw [State.setFrames_self ht]
    subst hg
    refine Or.inr ⟨q, ⟨(({ U with heap := s₂.heap, slotsUsed := s₂.slotsUsed } : State).setVm s₂.vm), Ls ++ L, c0 + mc, s0 + ms⟩,
      ⟨X.admits, X.cas, X.clock, X.frames, X.room, X.hears, X.method, X.code, (X.here.setHeapUsed s₂.heap s₂.slotsUsed).setVm hW'.alike, X.tail, State.WarmedH.trans X.warmed hW', X.limits, X.bytes, X.same.trans (hsame.setVm s.vm)⟩,
      ⟨g, mk, s₂, L, E, ce, rfl, rfl, hx, hce, hcv, hcl, rfl, hL, rfl, rfl⟩, ?_⟩
    show Steps p.tables e below _ (((({ U with heap := s₂.heap, slotsUsed := s₂.slotsUsed } : State).setVm s₂.vm).setTop g).pushFrame (.throwing q))
    rw [← hs₂]
    exact hsteps
end Payer
section Calls
variable {p : Program} {l : Launch} {e : Env} {R : Room} {s : State} {m : MethodId} {args : Array Value} {below : List Frame} {meth : Method} {c : Code} {T : State} {locs : List Loc} {cells slots : Nat}
theorem vx_callV (X : Stand p l e R s m args below meth c T locs cells slots) (hexec : p.tables.exec = Jvm.exec) {own C : String} {index : Nat} {y : MethodName} {bytes : ByteArray} {maxL : Nat} {ret : Option FieldType}
    (hown : s.vm.findClass own = some m.cls) (hlink : (Cond.methodLink own index y).before args s = true) (hinst : (Cond.instanceMethod y).before args s = true) (hsel : (Cond.selects C y y).before args s = true)
    (hcode : (Cond.code y bytes maxL ret).before args s = true) (hy : y.cls ≠ "java/lang/invoke/MethodHandle" ∧ y.cls ≠ "java/lang/invoke/VarHandle")
    {W9 : Nat} {Pre : Pt → Array Value → Prop} {Post : Pt → Array Value → Option Value → Pt → Prop} {PostX : Pt → Array Value → Addr → Pt → Prop} (hK : vx_Back l R p e below s args y 3 W9 Pre Post PostX)
    {b : Addr} {cellB : Cell} (hcell : T.heap[b]? = some cellB) (hobj : cellB.vm.isStatics = false) (hcls : s.vm.findClass C = some cellB.cls)
    {g : JFrame} (hg : g.method = m) (hsize : g.locals.size = c.maxLocals) {argsL rest : List Value} (hlen : ∀ sig, parseMethodDescriptor y.desc = some sig → argsL.length = sig.parameters.length)
    (hstack : g.stack = argsL.reverse ++ .ref b :: rest) (hW : 2 * g.monitorRoom + (rest.map fun v => v.category).sum ≤ W9) (hdg : decode c.code g.pc = .ok (.invokevirtual index, 3))
    (hpre : ∀ vm₁, s.WarmedH vm₁ → Pre ⟨T.setVm vm₁, locs, cells, slots⟩ (Value.ref b :: argsL).toArray) :
    (∃ (v : Option Value) (vm₁ : Vm) (B : Pt), s.WarmedH vm₁ ∧ Stand p l e R s m args below meth c B.U B.locs B.cells B.slots ∧ Post ⟨T.setVm vm₁, locs, cells, slots⟩ (Value.ref b :: argsL).toArray v B ∧
      ∀ target, Steps p.tables e below (B.U.setTop { g with pc := g.pc + 3, stack := v.toList ++ rest }) target → Steps p.tables e below (T.setTop g) target) ∨
    (∃ (q : Addr) (vm₁ : Vm) (B : Pt), s.WarmedH vm₁ ∧ Stand p l e R s m args below meth c B.U B.locs B.cells B.slots ∧ PostX ⟨T.setVm vm₁, locs, cells, slots⟩ (Value.ref b :: argsL).toArray q B ∧
      Steps p.tables e below (T.setTop g) ((B.U.setTop { g with stack := rest }).pushFrame (.throwing q))) := by
  obtain ⟨mk, methM, hnamed, hmethM, hstM, habM⟩ := Cond.instanceMethod_spec hinst
  obtain ⟨methM', cM, hmethM', -, -, -, -, -, -, hsigM⟩ := Cond.code_spec hnamed hcode
  cases hmethM.symm.trans hmethM'
  obtain ⟨c2, r2, m2, q1, q2, q3, q4, kP, hkP, hkPi⟩ := Cond.selects_spec hsel
  cases hcls.symm.trans q1
  cases (State.methodFound?_of_named hnamed hy).symm.trans q2
  cases hnamed.symm.trans q3
  have hselP : selectMethod e.platform s.vm cellB.cls mk = .method mk := by rw [Launch.admits_selectMethod X.admits]; exact q4
  obtain ⟨vm₁, X₁, hstep₁⟩ := X.invokevirtual hexec hown hlink hnamed hmethM hstM hkP hkPi hy (a := b) (cell := cellB) hcell
    (fun z h => by rw [h] at hobj; cases hobj) hselP hmethM habM hkP hkPi (g := g) hg (argsL := argsL) (rest := rest) (hlen _ hsigM) hstack hdg
  rcases hK m meth c ⟨T.setVm vm₁, locs, cells, slots⟩ { g with stack := rest } (.invokevirtual index) mk (Value.ref b :: argsL).toArray X₁ hg hsize hdg hW (X₁.named hnamed) (hpre vm₁ X₁.warmed) with ⟨v, B, X', hpost, hsteps⟩ | ⟨q, B, X', hpost, hsteps⟩
  · exact Or.inl ⟨v, vm₁, B, X₁.warmed, X', hpost, fun target h => hstep₁ _ fun acts => by rw [doInvoke_state]; exact hsteps.trans h⟩
  · exact Or.inr ⟨q, vm₁, B, X₁.warmed, X', hpost, hstep₁ _ fun acts => by rw [doInvoke_state]; exact hsteps⟩
theorem vx_callS (X : Stand p l e R s m args below meth c T locs cells slots) (hexec : p.tables.exec = Jvm.exec) {own : String} {index : Nat} {y : MethodName} {bytes : ByteArray} {maxL : Nat} {ret : Option FieldType}
    (hown : s.vm.findClass own = some m.cls) (hlink : (Cond.methodLink own index y).before args s = true) (hstat : (Cond.static y).before args s = true) (hinit : (Cond.initialized y.cls).before args s = true)
    (hcode : (Cond.code y bytes maxL ret).before args s = true) (hy : y.cls ≠ "java/lang/invoke/MethodHandle" ∧ y.cls ≠ "java/lang/invoke/VarHandle")
    {W9 : Nat} {Pre : Pt → Array Value → Prop} {Post : Pt → Array Value → Option Value → Pt → Prop} {PostX : Pt → Array Value → Addr → Pt → Prop} (hK : vx_Back l R p e below s args y 3 W9 Pre Post PostX)
    {g : JFrame} (hg : g.method = m) (hsize : g.locals.size = c.maxLocals) {argsL rest : List Value} (hlen : ∀ sig, parseMethodDescriptor y.desc = some sig → argsL.length = sig.parameters.length)
    (hstack : g.stack = argsL.reverse ++ rest) (hW : 2 * g.monitorRoom + (rest.map fun v => v.category).sum ≤ W9) (hdg : decode c.code g.pc = .ok (.invokestatic index, 3))
    (hpre : ∀ vm₁, s.WarmedH vm₁ → Pre ⟨T.setVm vm₁, locs, cells, slots⟩ argsL.toArray) :
    (∃ (v : Option Value) (vm₁ : Vm) (B : Pt), s.WarmedH vm₁ ∧ Stand p l e R s m args below meth c B.U B.locs B.cells B.slots ∧ Post ⟨T.setVm vm₁, locs, cells, slots⟩ argsL.toArray v B ∧
      ∀ target, Steps p.tables e below (B.U.setTop { g with pc := g.pc + 3, stack := v.toList ++ rest }) target → Steps p.tables e below (T.setTop g) target) ∨
    (∃ (q : Addr) (vm₁ : Vm) (B : Pt), s.WarmedH vm₁ ∧ Stand p l e R s m args below meth c B.U B.locs B.cells B.slots ∧ PostX ⟨T.setVm vm₁, locs, cells, slots⟩ argsL.toArray q B ∧
      Steps p.tables e below (T.setTop g) ((B.U.setTop { g with stack := rest }).pushFrame (.throwing q))) := by
  obtain ⟨mk, hnamed⟩ := Cond.code_named hcode
  obtain ⟨methM, cM, hmethM, -, -, -, -, -, -, hsigM⟩ := Cond.code_spec hnamed hcode
  have hstatic : methM.isStatic = true := Cond.static_spec hnamed hmethM hstat
  obtain ⟨kP, hkP, -⟩ := className_of_methodNamed hnamed
  have hinitP : kP.init = .initialized := Cond.initialized_spec (findClass_of_methodNamed hnamed) hkP hinit
  obtain ⟨vm₁, X₁, hstep₁⟩ := X.invokestatic hexec hown hlink hnamed hmethM hstatic hkP hinitP hy (g := g) hg (argsL := argsL) (rest := rest) (hlen _ hsigM) hstack hdg
  rcases hK m meth c ⟨T.setVm vm₁, locs, cells, slots⟩ { g with stack := rest } (.invokestatic index) mk argsL.toArray X₁ hg hsize hdg hW (X₁.named hnamed) (hpre vm₁ X₁.warmed) with ⟨v, B, X', hpost, hsteps⟩ | ⟨q, B, X', hpost, hsteps⟩
  · exact Or.inl ⟨v, vm₁, B, X₁.warmed, X', hpost, fun target h => hstep₁ _ fun acts => by rw [doInvoke_state]; exact hsteps.trans h⟩
  · exact Or.inr ⟨q, vm₁, B, X₁.warmed, X', hpost, hstep₁ _ fun acts => by rw [doInvoke_state]; exact hsteps⟩
end Calls
theorem vx_cls {s : State} {T : State} {vm₁ : Vm} {E : String} {k : ClassId} (hW : s.WarmedH vm₁) (h : (T.setVm vm₁).vm.findClass E = some k) : s.vm.findClass E = some k := by
  have h1 : vm₁.findClass E = some k := h
  rw [hW.alike.findClass] at h1
  exact h1
/-- the method's frame g, with q thrown over it -/
def vx_W (p : Program) (l : Launch) (e : Env) (R : Room) (s : State) (m : MethodId) (args : Array Value) (below : List Frame) (meth : Method) (c : Code) (H : Heap) (locs : List Loc) (cells slots : Nat) (Q : State → Prop) (g : JFrame) (q : Addr) : Prop :=
  ∀ T : State, T.heap = H → Stand p l e R s m args below meth c T locs cells slots → ∃ t, Steps p.tables e below ((T.setTop g).pushFrame (.throwing q)) t ∧ Q t
def vx_Run (p : Program) (l : Launch) (e : Env) (R : Room) (s : State) (m : MethodId) (args : Array Value) (below : List Frame) (meth : Method) (c : Code) (H : Heap) (locs : List Loc) (cells slots mc ms : Nat) (g : JFrame) (rest : List Value) (Qa : State → Outcome → State → Prop) (XC : String → State → State → Prop) (free : Addr → Prop) : Prop :=
  ∀ T : State, T.heap = H → Stand p l e R s m args below meth c T locs cells slots →
    (∃ (v : Option Value) (st₀ t T' : State) (L : List Loc), st₀.heap = H ∧ Stand p l e R s m args below meth c T' (locs ++ L) (cells + mc) (slots + ms) ∧ (∀ q ∈ L, free q.base) ∧ T'.heap = t.heap ∧ T'.vm = t.vm ∧ Qa st₀ (.returned v) t ∧
      Goes p e below T g T' { g with pc := g.pc + 3, stack := v.toList ++ rest }) ∨
    (∃ (q : Addr) (st₀ t T' : State) (L : List Loc) (E : String) (ce : Cell), st₀.heap = H ∧ Stand p l e R s m args below meth c T' (locs ++ L) (cells + mc) (slots + ms) ∧ (∀ z ∈ L, free z.base) ∧ T'.heap = t.heap ∧ T'.vm = t.vm ∧ XC E st₀ t ∧ t.heap[q]? = some ce ∧ ce.vm = .none ∧ s.vm.findClass E = some ce.cls ∧
      Steps p.tables e below (T.setTop g) ((T'.setTop { g with stack := rest }).pushFrame (.throwing q)))
def vx_X {S : Type} (px : S → Prop) (B : String → S → State → Prop) (A : Nat → Prop) : String → State → State → Prop := fun E st t => ∃ u : S, px u ∧ B E u t ∧ va_F A st t
section Runs
variable {p : Program} {l : Launch} {e : Env} {R : Room} {s : State} {m : MethodId} {args : Array Value} {below : List Frame} {meth : Method} {c : Code} {H : Heap} {locs : List Loc} {cells slots : Nat}
variable {y : MethodName} {bytes cc : ByteArray} {maxL nL mc ms n index : Nat} {ret : Option FieldType} {ws : List Cond} {rm : Room} {Pc : Array Value → State → Prop} {Qc : Array Value → State → Outcome → State → Prop} {XC : String → State → State → Prop} {free : Addr → Prop} {Ts : List Cond} {own C : String} {b : Addr} {As rest : List Value} {g : JFrame}
theorem vx_callBack (cb : CallB R s args own index y bytes maxL ret ws rm mc ms n) (hM : vx_Met l y ws rm Pc Qc XC mc ms free) (hbl : FrameBlind Pc) : vx_Back l R p e below s args y 3 8 (PreOf R mc ms Pc) (PostOf Qc mc ms free) (vx_Post XC mc ms free) := by
  obtain ⟨hrc, hrs, hfr, hlo, hws, hcw, -, hini, -⟩ := cb
  exact vx_back (bytes := bytes) (maxL := maxL) (ret := ret) hM hbl hrc hrs hfr hlo hws hcw (fun a' U hW => word_at hW (Or.inl (by first | rfl | simp [Cond.onTables, Cond.keeps, Cond.steady])) hini)
theorem vx_runV (S : CallFix p m c cc nL s args Ts own) (hM : vx_Met l y ws rm Pc Qc XC mc ms free) (cw : CallW R s args own C index y bytes maxL ret ws rm mc ms n) (hp : PreV s H C b Pc As)
    (hg : g.method = m) (hn : As.length = n) (hsize : g.locals.size = nL) (hstack : g.stack = As.reverse ++ .ref b :: rest) (hW : 2 * g.monitorRoom + (rest.map fun v => v.category).sum ≤ 8) (hdg : decode cc g.pc = .ok (.invokevirtual index, 3)) (hf : cells + mc ≤ R.cells ∧ slots + ms ≤ R.slots) :
    vx_Run p l e R s m args below meth c H locs cells slots mc ms g rest (Qc (Value.ref b :: As).toArray) XC free := by
  have hK : vx_Back l R p e below s args y 3 8 (PreOf R mc ms Pc) (PostOf Qc mc ms free) (vx_Post XC mc ms free) := vx_callBack cw.1 hM hp.1
  obtain ⟨⟨-, -, -, -, -, -, hcode, -, hy, hlen, hl⟩, hin, hse⟩ := cw
  obtain ⟨hx, hb, hml, ho, -⟩ := S
  obtain ⟨-, ⟨cellB, hcB, hoB, hclB⟩, hPc⟩ := hp
  intro T hT X
  rcases vx_callV X hx (C := C) (bytes := bytes) (maxL := maxL) (ret := ret) ho hl hin hse hcode hy hK (by rw [hT]; exact hcB) hoB hclB hg (hsize.trans hml.symm) (argsL := As) (rest := rest) (fun sig h => hn.trans (hlen sig h)) hstack hW (by rw [hb]; exact hdg)
    (fun vm₁ hW₁ => ⟨hf.1, hf.2, hPc (T.setVm vm₁) hT hW₁⟩) with ⟨v, vm₁, ⟨U', l2, c2, s2⟩, hW₁, X', ⟨g', mk, t, L, e1, e2, hq, h1, hL, h2, h3⟩, st⟩ | ⟨q, vm₁, ⟨U', l2, c2, s2⟩, hW₁, X', ⟨g', mk, t, L, E, ce, e1, e2, hq, hce, hcv, hcl, h1, hL, h2, h3⟩, st⟩
  · dsimp only [Pt.U, Pt.locs, Pt.cells, Pt.slots] at X' e1 e2 h1 h2 h3 st
    subst h1; subst h2; subst h3
    exact Or.inl ⟨v, (T.setVm vm₁).calling g' mk (Value.ref b :: As).toArray, t, U', L, hT, X', hL, e1, e2, hq, st⟩
  · dsimp only [Pt.U, Pt.locs, Pt.cells, Pt.slots] at X' e1 e2 h1 h2 h3 st hcl
    subst h1; subst h2; subst h3
    exact Or.inr ⟨q, (T.setVm vm₁).calling g' mk (Value.ref b :: As).toArray, t, U', L, E, ce, hT, X', hL, e1, e2, hq, hce, hcv, vx_cls hW₁ hcl, st⟩
theorem vx_runS (S : CallFix p m c cc nL s args Ts own) (hM : vx_Met l y ws rm Pc Qc XC mc ms free) (cw : CallB R s args own index y bytes maxL ret ws rm mc ms n ∧ (Cond.static y).before args s = true) (hp : PreS s H Pc As)
    (hg : g.method = m) (hn : As.length = n) (hsize : g.locals.size = nL) (hstack : g.stack = As.reverse ++ rest) (hW : 2 * g.monitorRoom + (rest.map fun v => v.category).sum ≤ 8) (hdg : decode cc g.pc = .ok (.invokestatic index, 3)) (hf : cells + mc ≤ R.cells ∧ slots + ms ≤ R.slots) :
    vx_Run p l e R s m args below meth c H locs cells slots mc ms g rest (Qc As.toArray) XC free := by
  have hK : vx_Back l R p e below s args y 3 8 (PreOf R mc ms Pc) (PostOf Qc mc ms free) (vx_Post XC mc ms free) := vx_callBack cw.1 hM hp.1
  obtain ⟨⟨-, -, -, -, -, -, hcode, hini, hy, hlen, hl⟩, hstt⟩ := cw
  obtain ⟨hx, hb, hml, ho, -⟩ := S
  intro T hT X
  rcases vx_callS X hx (bytes := bytes) (maxL := maxL) (ret := ret) ho hl hstt hini hcode hy hK hg (hsize.trans hml.symm) (argsL := As) (rest := rest) (fun sig h => hn.trans (hlen sig h)) hstack hW (by rw [hb]; exact hdg)
    (fun vm₁ hW₁ => ⟨hf.1, hf.2, hp.2 (T.setVm vm₁) hT hW₁⟩) with ⟨v, vm₁, ⟨U', l2, c2, s2⟩, hW₁, X', ⟨g', mk, t, L, e1, e2, hq, h1, hL, h2, h3⟩, st⟩ | ⟨q, vm₁, ⟨U', l2, c2, s2⟩, hW₁, X', ⟨g', mk, t, L, E, ce, e1, e2, hq, hce, hcv, hcl, h1, hL, h2, h3⟩, st⟩
  · dsimp only [Pt.U, Pt.locs, Pt.cells, Pt.slots] at X' e1 e2 h1 h2 h3 st
    subst h1; subst h2; subst h3
    exact Or.inl ⟨v, (T.setVm vm₁).calling g' mk As.toArray, t, U', L, hT, X', hL, e1, e2, hq, st⟩
  · dsimp only [Pt.U, Pt.locs, Pt.cells, Pt.slots] at X' e1 e2 h1 h2 h3 st hcl
    subst h1; subst h2; subst h3
    exact Or.inr ⟨q, (T.setVm vm₁).calling g' mk As.toArray, t, U', L, E, ce, hT, X', hL, e1, e2, hq, hce, hcv, vx_cls hW₁ hcl, st⟩
end Runs
section Rows
variable {p : Program} {l : Launch} {e : Env} {R : Room} {s : State} {m : MethodId} {args : Array Value} {below : List Frame} {meth : Method} {c : Code} {H : Heap} {locs : List Loc} {cells slots : Nat} {Q : State → Prop}
variable {mc ms : Nat} {free : Addr → Prop} {A0 A1 : Nat → Prop} {H0 : Heap} {a : Array Value} {pc : Nat} {ls : Array Slot} {st0 rest : List Value}
theorem vx_keep {st₀ t T' : State} {L : List Loc} (h0 : st₀.heap = H) (e1 : T'.heap = t.heap) (hS : va_S A0 H0 H locs) (hA : ∀ q, q < H.size → A1 q → A0 q) (hf : ∀ q, free q → A0 q) (hL : ∀ q ∈ L, free q.base) (hF : va_F A1 st₀ t) :
    H.size ≤ T'.heap.size ∧ (∀ q : Nat, q < H.size → ¬ A1 q → T'.heap[q]? = H[q]?) ∧ va_S A0 H0 T'.heap (locs ++ L) := by
  obtain ⟨hz, hk⟩ := hF
  rw [h0] at hz hk
  exact ⟨by rw [e1]; exact hz, fun q h1 h2 => by rw [e1]; exact hk q h1 h2,
    ⟨Nat.le_trans hS.1 (by rw [e1]; exact hz), fun q h1 h2 => by rw [e1, hk q (Nat.lt_of_lt_of_le h1 hS.1) (fun z => h2 (hA q (Nat.lt_of_lt_of_le h1 hS.1) z))]; exact hS.2.1 q h1 h2, fun q hq => by
      rcases List.mem_append.mp hq with h | h
      · exact hS.2.2 q h
      · exact hf _ (hL q h)⟩⟩
theorem vx_calli {S SX : Type} {post : Int32 → S → Prop} {px : SX → Prop} {B : S → State → Prop} {BX : String → SX → State → Prop} {AX : Nat → Prop} (hr : vx_Run p l e R s m args below meth c H locs cells slots mc ms (F0 m pc ls st0) rest (va_Qi post B A1 a) (vx_X px BX AX) free) (hS : va_S A0 H0 H locs) (hA : ∀ q, q < H.size → A1 q → A0 q) (hf : ∀ q, free q → A0 q) (hAX : ∀ q, q < H.size → AX q → A0 q)
    (kx : ∀ (E : String) (ce : Cell) (q9 : Addr) (u : SX) (t : State) (H1 : Heap) (locs1 : List Loc), t.heap = H1 → s.vm.Alike t.vm → px u → BX E u t → H.size ≤ H1.size → (∀ q : Nat, q < H.size → ¬ AX q → H1[q]? = H[q]?) → va_S A0 H0 H1 locs1 → H1[q9]? = some ce → ce.vm = .none → s.vm.findClass E = some ce.cls → vx_W p l e R s m args below meth c H1 locs1 (cells + mc) (slots + ms) Q (F0 m pc ls rest) q9)
    (kk : ∀ (r : Int32) (u : S) (t : State) (H1 : Heap) (locs1 : List Loc), t.heap = H1 → s.vm.Alike t.vm → post r u → B u t → H.size ≤ H1.size → (∀ q : Nat, q < H.size → ¬ A1 q → H1[q]? = H[q]?) → va_S A0 H0 H1 locs1 → W p l e R s m args below meth c H1 locs1 (cells + mc) (slots + ms) Q (F0 m (pc + 3) ls (.int r :: rest))) : W p l e R s m args below meth c H locs cells slots Q (F0 m pc ls st0) := by
  intro T hT X
  rcases hr T hT X with ⟨v, st₀, t, T', L, h0, X', hL, e1, e2, ⟨⟨r, u, hv, hp, hb⟩, hF⟩, st⟩ | ⟨q, st₀, t, T', L, E, ce, h0, X', hL, e1, e2, ⟨u, hp, hb, hF⟩, hce, hcv, hcl, st⟩
  · cases hv
    obtain ⟨k1, k2, k3⟩ := vx_keep h0 e1 hS hA hf hL hF
    obtain ⟨t2, a1, b1⟩ := kk r u t T'.heap (locs ++ L) e1.symm (by rw [← e2]; exact X'.warmed.alike) hp hb k1 k2 k3 T' rfl X'
    exact ⟨t2, st t2 a1, b1⟩
  · obtain ⟨k1, k2, k3⟩ := vx_keep h0 e1 hS hAX hf hL hF
    obtain ⟨t2, a1, b1⟩ := kx E ce q u t T'.heap (locs ++ L) e1.symm (by rw [← e2]; exact X'.warmed.alike) hp hb k1 k2 k3 (by rw [e1]; exact hce) hcv hcl T' rfl X'
    exact ⟨t2, st.trans a1, b1⟩
theorem vx_calll {S SX : Type} {post : Int64 → S → Prop} {px : SX → Prop} {B : S → State → Prop} {BX : String → SX → State → Prop} {AX : Nat → Prop} (hr : vx_Run p l e R s m args below meth c H locs cells slots mc ms (F0 m pc ls st0) rest (va_Ql post B A1 a) (vx_X px BX AX) free) (hS : va_S A0 H0 H locs) (hA : ∀ q, q < H.size → A1 q → A0 q) (hf : ∀ q, free q → A0 q) (hAX : ∀ q, q < H.size → AX q → A0 q)
    (kx : ∀ (E : String) (ce : Cell) (q9 : Addr) (u : SX) (t : State) (H1 : Heap) (locs1 : List Loc), t.heap = H1 → s.vm.Alike t.vm → px u → BX E u t → H.size ≤ H1.size → (∀ q : Nat, q < H.size → ¬ AX q → H1[q]? = H[q]?) → va_S A0 H0 H1 locs1 → H1[q9]? = some ce → ce.vm = .none → s.vm.findClass E = some ce.cls → vx_W p l e R s m args below meth c H1 locs1 (cells + mc) (slots + ms) Q (F0 m pc ls rest) q9)
    (kk : ∀ (r : Int64) (u : S) (t : State) (H1 : Heap) (locs1 : List Loc), t.heap = H1 → s.vm.Alike t.vm → post r u → B u t → H.size ≤ H1.size → (∀ q : Nat, q < H.size → ¬ A1 q → H1[q]? = H[q]?) → va_S A0 H0 H1 locs1 → W p l e R s m args below meth c H1 locs1 (cells + mc) (slots + ms) Q (F0 m (pc + 3) ls (.long r :: rest))) : W p l e R s m args below meth c H locs cells slots Q (F0 m pc ls st0) := by
  intro T hT X
  rcases hr T hT X with ⟨v, st₀, t, T', L, h0, X', hL, e1, e2, ⟨⟨r, u, hv, hp, hb⟩, hF⟩, st⟩ | ⟨q, st₀, t, T', L, E, ce, h0, X', hL, e1, e2, ⟨u, hp, hb, hF⟩, hce, hcv, hcl, st⟩
  · cases hv
    obtain ⟨k1, k2, k3⟩ := vx_keep h0 e1 hS hA hf hL hF
    obtain ⟨t2, a1, b1⟩ := kk r u t T'.heap (locs ++ L) e1.symm (by rw [← e2]; exact X'.warmed.alike) hp hb k1 k2 k3 T' rfl X'
    exact ⟨t2, st t2 a1, b1⟩
  · obtain ⟨k1, k2, k3⟩ := vx_keep h0 e1 hS hAX hf hL hF
    obtain ⟨t2, a1, b1⟩ := kx E ce q u t T'.heap (locs ++ L) e1.symm (by rw [← e2]; exact X'.warmed.alike) hp hb k1 k2 k3 (by rw [e1]; exact hce) hcv hcl T' rfl X'
    exact ⟨t2, st.trans a1, b1⟩
theorem vx_callf {S SX : Type} {post : UInt32 → S → Prop} {px : SX → Prop} {B : S → State → Prop} {BX : String → SX → State → Prop} {AX : Nat → Prop} (hr : vx_Run p l e R s m args below meth c H locs cells slots mc ms (F0 m pc ls st0) rest (va_Qf post B A1 a) (vx_X px BX AX) free) (hS : va_S A0 H0 H locs) (hA : ∀ q, q < H.size → A1 q → A0 q) (hf : ∀ q, free q → A0 q) (hAX : ∀ q, q < H.size → AX q → A0 q)
    (kx : ∀ (E : String) (ce : Cell) (q9 : Addr) (u : SX) (t : State) (H1 : Heap) (locs1 : List Loc), t.heap = H1 → s.vm.Alike t.vm → px u → BX E u t → H.size ≤ H1.size → (∀ q : Nat, q < H.size → ¬ AX q → H1[q]? = H[q]?) → va_S A0 H0 H1 locs1 → H1[q9]? = some ce → ce.vm = .none → s.vm.findClass E = some ce.cls → vx_W p l e R s m args below meth c H1 locs1 (cells + mc) (slots + ms) Q (F0 m pc ls rest) q9)
    (kk : ∀ (r : UInt32) (u : S) (t : State) (H1 : Heap) (locs1 : List Loc), t.heap = H1 → s.vm.Alike t.vm → post r u → B u t → H.size ≤ H1.size → (∀ q : Nat, q < H.size → ¬ A1 q → H1[q]? = H[q]?) → va_S A0 H0 H1 locs1 → W p l e R s m args below meth c H1 locs1 (cells + mc) (slots + ms) Q (F0 m (pc + 3) ls (.float r :: rest))) : W p l e R s m args below meth c H locs cells slots Q (F0 m pc ls st0) := by
  intro T hT X
  rcases hr T hT X with ⟨v, st₀, t, T', L, h0, X', hL, e1, e2, ⟨⟨r, u, hv, hp, hb⟩, hF⟩, st⟩ | ⟨q, st₀, t, T', L, E, ce, h0, X', hL, e1, e2, ⟨u, hp, hb, hF⟩, hce, hcv, hcl, st⟩
  · cases hv
    obtain ⟨k1, k2, k3⟩ := vx_keep h0 e1 hS hA hf hL hF
    obtain ⟨t2, a1, b1⟩ := kk r u t T'.heap (locs ++ L) e1.symm (by rw [← e2]; exact X'.warmed.alike) hp hb k1 k2 k3 T' rfl X'
    exact ⟨t2, st t2 a1, b1⟩
  · obtain ⟨k1, k2, k3⟩ := vx_keep h0 e1 hS hAX hf hL hF
    obtain ⟨t2, a1, b1⟩ := kx E ce q u t T'.heap (locs ++ L) e1.symm (by rw [← e2]; exact X'.warmed.alike) hp hb k1 k2 k3 (by rw [e1]; exact hce) hcv hcl T' rfl X'
    exact ⟨t2, st.trans a1, b1⟩
theorem vx_calld {S SX : Type} {post : UInt64 → S → Prop} {px : SX → Prop} {B : S → State → Prop} {BX : String → SX → State → Prop} {AX : Nat → Prop} (hr : vx_Run p l e R s m args below meth c H locs cells slots mc ms (F0 m pc ls st0) rest (va_Qd post B A1 a) (vx_X px BX AX) free) (hS : va_S A0 H0 H locs) (hA : ∀ q, q < H.size → A1 q → A0 q) (hf : ∀ q, free q → A0 q) (hAX : ∀ q, q < H.size → AX q → A0 q)
    (kx : ∀ (E : String) (ce : Cell) (q9 : Addr) (u : SX) (t : State) (H1 : Heap) (locs1 : List Loc), t.heap = H1 → s.vm.Alike t.vm → px u → BX E u t → H.size ≤ H1.size → (∀ q : Nat, q < H.size → ¬ AX q → H1[q]? = H[q]?) → va_S A0 H0 H1 locs1 → H1[q9]? = some ce → ce.vm = .none → s.vm.findClass E = some ce.cls → vx_W p l e R s m args below meth c H1 locs1 (cells + mc) (slots + ms) Q (F0 m pc ls rest) q9)
    (kk : ∀ (r : UInt64) (u : S) (t : State) (H1 : Heap) (locs1 : List Loc), t.heap = H1 → s.vm.Alike t.vm → post r u → B u t → H.size ≤ H1.size → (∀ q : Nat, q < H.size → ¬ A1 q → H1[q]? = H[q]?) → va_S A0 H0 H1 locs1 → W p l e R s m args below meth c H1 locs1 (cells + mc) (slots + ms) Q (F0 m (pc + 3) ls (.double r :: rest))) : W p l e R s m args below meth c H locs cells slots Q (F0 m pc ls st0) := by
  intro T hT X
  rcases hr T hT X with ⟨v, st₀, t, T', L, h0, X', hL, e1, e2, ⟨⟨r, u, hv, hp, hb⟩, hF⟩, st⟩ | ⟨q, st₀, t, T', L, E, ce, h0, X', hL, e1, e2, ⟨u, hp, hb, hF⟩, hce, hcv, hcl, st⟩
  · cases hv
    obtain ⟨k1, k2, k3⟩ := vx_keep h0 e1 hS hA hf hL hF
    obtain ⟨t2, a1, b1⟩ := kk r u t T'.heap (locs ++ L) e1.symm (by rw [← e2]; exact X'.warmed.alike) hp hb k1 k2 k3 T' rfl X'
    exact ⟨t2, st t2 a1, b1⟩
  · obtain ⟨k1, k2, k3⟩ := vx_keep h0 e1 hS hAX hf hL hF
    obtain ⟨t2, a1, b1⟩ := kx E ce q u t T'.heap (locs ++ L) e1.symm (by rw [← e2]; exact X'.warmed.alike) hp hb k1 k2 k3 (by rw [e1]; exact hce) hcv hcl T' rfl X'
    exact ⟨t2, st.trans a1, b1⟩
theorem vx_callv {S SX : Type} {post : S → Prop} {px : SX → Prop} {B : S → State → Prop} {BX : String → SX → State → Prop} {AX : Nat → Prop} (hr : vx_Run p l e R s m args below meth c H locs cells slots mc ms (F0 m pc ls st0) rest (va_Qv post B A1 a) (vx_X px BX AX) free) (hS : va_S A0 H0 H locs) (hA : ∀ q, q < H.size → A1 q → A0 q) (hf : ∀ q, free q → A0 q) (hAX : ∀ q, q < H.size → AX q → A0 q)
    (kx : ∀ (E : String) (ce : Cell) (q9 : Addr) (u : SX) (t : State) (H1 : Heap) (locs1 : List Loc), t.heap = H1 → s.vm.Alike t.vm → px u → BX E u t → H.size ≤ H1.size → (∀ q : Nat, q < H.size → ¬ AX q → H1[q]? = H[q]?) → va_S A0 H0 H1 locs1 → H1[q9]? = some ce → ce.vm = .none → s.vm.findClass E = some ce.cls → vx_W p l e R s m args below meth c H1 locs1 (cells + mc) (slots + ms) Q (F0 m pc ls rest) q9)
    (kk : ∀ (u : S) (t : State) (H1 : Heap) (locs1 : List Loc), t.heap = H1 → s.vm.Alike t.vm → post u → B u t → H.size ≤ H1.size → (∀ q : Nat, q < H.size → ¬ A1 q → H1[q]? = H[q]?) → va_S A0 H0 H1 locs1 → W p l e R s m args below meth c H1 locs1 (cells + mc) (slots + ms) Q (F0 m (pc + 3) ls (rest))) : W p l e R s m args below meth c H locs cells slots Q (F0 m pc ls st0) := by
  intro T hT X
  rcases hr T hT X with ⟨v, st₀, t, T', L, h0, X', hL, e1, e2, ⟨⟨u, hv, hp, hb⟩, hF⟩, st⟩ | ⟨q, st₀, t, T', L, E, ce, h0, X', hL, e1, e2, ⟨u, hp, hb, hF⟩, hce, hcv, hcl, st⟩
  · cases hv
    obtain ⟨k1, k2, k3⟩ := vx_keep h0 e1 hS hA hf hL hF
    obtain ⟨t2, a1, b1⟩ := kk u t T'.heap (locs ++ L) e1.symm (by rw [← e2]; exact X'.warmed.alike) hp hb k1 k2 k3 T' rfl X'
    exact ⟨t2, st t2 a1, b1⟩
  · obtain ⟨k1, k2, k3⟩ := vx_keep h0 e1 hS hAX hf hL hF
    obtain ⟨t2, a1, b1⟩ := kx E ce q u t T'.heap (locs ++ L) e1.symm (by rw [← e2]; exact X'.warmed.alike) hp hb k1 k2 k3 (by rw [e1]; exact hce) hcv hcl T' rfl X'
    exact ⟨t2, st.trans a1, b1⟩
/-- caught by the row x of this method's table; the rows ahead don't take it -/
theorem vx_catch {own name : String} {E : String} {ce : Cell} {q : Addr} (hown : s.vm.findClass own = some m.cls) (pre : List ExceptionTableEntry) (x : ExceptionTableEntry) (suf : List ExceptionTableEntry) (hsplit : c.exceptionTable.toList = pre ++ x :: suf)
    (hpass : ∀ z ∈ pre, covers z pc = false ∨ (z.catchType ≠ 0 ∧ ∃ nm : String, (Cond.classLink own z.catchType nm).before args s = true ∧ va_Nc E nm s)) (hx : covers x pc = true) (h0 : x.catchType ≠ 0)
    (hlink : (Cond.classLink own x.catchType name).before args s = true) (hcast : (Cond.castable E name).before args s = true) (hcell : H[q]? = some ce) (hv : ce.vm = .none) (hcl : s.vm.findClass E = some ce.cls)
    (kk : W p l e R s m args below meth c H locs cells slots Q (F0 m x.handlerPc ls [.ref q])) : vx_W p l e R s m args below meth c H locs cells slots Q (F0 m pc ls rest) q := by
  intro T hT X
  have hpl : e.platform.magicAccessors = ({} : Platform).magicAccessors := by rw [X.admits.platform]
  obtain ⟨c3, c4, hc3, hc4, hasg⟩ := Cond.castable_spec hcast
  cases Option.some.inj (hc3.symm.trans hcl)
  obtain ⟨c5, hc5, hcl5⟩ := Cond.classLink_spec hown hlink e.platform hpl
  cases Option.some.inj (hc4.symm.trans hc5)
  obtain ⟨vm', X', st⟩ := X.thenCaughtThrough q (g := F0 m pc ls rest) rfl (Steps.refl _) (by rw [hT]; exact hcell) (by rw [hv]; rfl) (by obtain ⟨k9, h9, -⟩ := Vm.findClass_spec hcl; exact ⟨k9, h9⟩) pre x suf hsplit
    (fun z hz => by
      rcases hpass z hz with h | ⟨hz0, nm, hl1, hn1⟩
      · exact Or.inl h
      · obtain ⟨c6, hc6, hcl6⟩ := Cond.classLink_spec hown hl1 e.platform hpl
        obtain ⟨a8, b8, h1, h2, h3⟩ := hn1
        cases Option.some.inj (h1.symm.trans hcl)
        cases Option.some.inj (h2.symm.trans hc6)
        exact Or.inr ⟨hz0, _, hcl6, h3⟩) hx (Or.inr ⟨h0, c4, hcl5, hasg⟩)
  obtain ⟨t, a1, b1⟩ := kk (T.setVm vm') hT X'
  exact ⟨t, st.trans a1, b1⟩
end Rows
section Ends
variable {p : Program} {l : Launch} {e : Env} {R : Room} {s : State} {m : MethodId} {args : Array Value} {below : List Frame} {meth : Method} {c : Code} {H : Heap} {locs : List Loc} {cells slots : Nat} {Q : State → Prop}
variable {mc ms : Nat} {free : Addr → Prop} {A0 A1 : Nat → Prop} {H0 : Heap} {a : Array Value} {ls : Array Slot} {st0 rest : List Value}
variable {Qc : Array Value → State → Outcome → State → Prop} {XC : String → State → State → Prop}
/-- what a body that may throw owes at its end -/
def vx_MQ (below : List Frame) (Qc : Array Value → State → Outcome → State → Prop) (XC : String → State → State → Prop) (a : Array Value) (s : State) (mc ms : Nat) (free : Addr → Prop) : State → Prop := fun t =>
  ∃ o, t.status = .running ∧ Ended t below o ∧ vx_Q Qc XC mc ms free a s o t
theorem vx_ret {g : JFrame} {mc ms : Nat} (k : W p l e R s m args below meth c H locs cells slots (MQ below Qc args s mc ms free) g) : W p l e R s m args below meth c H locs cells slots (vx_MQ below Qc XC args s mc ms free) g := by
  intro T hT X
  obtain ⟨t, a1, o, b1, b2, b3, b4⟩ := k T hT X
  exact ⟨t, a1, o, b1, b2, Or.inl ⟨b3, b4⟩⟩
/-- not caught here: it goes on to the caller -/
theorem vx_widen {g : JFrame} {q : Addr} {k n : Nat} (h1 : cells ≤ k) (h2 : slots ≤ n) (kk : vx_W p l e R s m args below meth c H locs k n Q g q) : vx_W p l e R s m args below meth c H locs cells slots Q g q := fun T hT X => kk T hT (stand_widen X h1 h2)
theorem vx_out {pc : Nat} {E : String} {ce : Cell} {q : Addr} {mc ms : Nat} (hout : ∀ x ∈ c.exceptionTable.toList, covers x pc = false) (hlocks : meth.locks = false) (hcell : H[q]? = some ce) (hv : ce.vm = .none) (hcl : s.vm.findClass E = some ce.cls)
    (hx : ∀ t : State, t.heap = H → s.vm.Alike t.vm → XC E s t) (hf : ∀ z ∈ locs, free z.base) (hc : cells ≤ mc) (hs : slots ≤ ms) :
    vx_W p l e R s m args below meth c H locs cells slots (vx_MQ below Qc XC args s mc ms free) (F0 m pc ls rest) q := by
  intro T hT X
  obtain ⟨st1, hrun, hend, hW, hsm⟩ := X.leaveThrown q (g := F0 m pc ls rest) rfl rfl rfl hout hlocks
  have hcell9 : (T.setFrames (.throwing q :: below)).heap[q]? = some ce := by
    show T.heap[q]? = some ce
    rw [hT]; exact hcell
  exact ⟨_, st1, .threw q, hrun, hend, Or.inr ⟨q, rfl, E, ce, locs, hx _ hT hW.alike, hcell9, hv, hcl, hW, hsm.mono hc hs, hf⟩⟩
theorem vx_frame {U : State} {k n : Nat} (h : s.sameButNew ({ U with vm := s.vm } : State) locs k n) : s.heap.size ≤ U.heap.size ∧ ∀ q : Nat, q < s.heap.size → (∀ z ∈ locs, z.base ≠ q) → U.heap[q]? = s.heap[q]? := by
  obtain ⟨-, h2, -, -, -, h6⟩ := h
  refine ⟨h2, fun q hq hz => ?_⟩
  obtain ⟨c9, e1, e2, e3, e4⟩ := h6 q _ (Array.getElem?_eq_getElem hq)
  have hs : c9.slots = (s.heap[q]).slots := Array.ext_getElem? fun i => e4 i fun hm => hz _ hm rfl
  have h9 : c9 = s.heap[q] := by
    rw [hs] at e2
    exact e2
  have e5 : U.heap[q]? = some c9 := e1
  rw [e5, h9, Array.getElem?_eq_getElem hq]
/-- the words of a throw but the four that speak of the heap -/
def vx_no (w : Cond) : Bool := decide (w ≠ .isRef (.static Bundle.tN "UNASSIGNED_STACK" Bundle.steD)) && decide (w ≠ .isRef (.static Bundle.tN "SUPPRESSED_SENTINEL" Bundle.listD)) && decide (w ≠ .laysStatic Bundle.tN "UNASSIGNED_STACK" Bundle.steD) && decide (w ≠ .laysStatic Bundle.tN "SUPPRESSED_SENTINEL" Bundle.listD)
def vx_at0 (own : String) (ic : Nat) (X : String) (names : List String) : List Cond := (Bundle.ownAtoms0 own ic X names).filter vx_no
def vx_atS (own : String) (ic : Nat) (X : String) (names : List String) : List Cond := (Bundle.ownAtoms own ic X names).filter vx_no
/-- a word that the tables alone decide, or a good one -/
def vx_ot (w : Cond) : Bool := w.onTables || goodWord w
theorem vx_ot_at {args a' : Array Value} {s U : State} {w : Cond} (hW : s.WarmedH U.vm) (hvm : s.vm = U.vm) (hg : vx_ot w = true) (h : w.before args s = true) : w.before a' U = true := by
  simp only [vx_ot, Bool.or_eq_true] at hg
  rcases hg with hg | hg
  · exact va_tabs hg hvm h
  · exact word_at hW (good_of_word hg) h
/-- a list's words: the good ones out of the method's own list, the others by premises of their own -/
theorem vx_hat {args : Array Value} {s : State} {L B : List Cond} (h1 : ∀ w ∈ L.filter goodWord, w.before args s = true) (h2 : ∀ w ∈ L.filter (fun w => !goodWord w), w ∈ B) (h3 : ∀ w ∈ B, w.before args s = true) : ∀ w ∈ L, w.before args s = true := by
  intro w hw
  by_cases g : goodWord w = true
  · exact h1 w (List.mem_filter.mpr ⟨hw, g⟩)
  · refine h3 w (h2 w (List.mem_filter.mpr ⟨hw, ?_⟩))
    show (!goodWord w) = true
    cases hgw : goodWord w
    · rfl
    · exact absurd hgw g
theorem vx_c {args : Array Value} {s : State} {w : Cond} {B : List Cond} (h : w.before args s = true) (t : ∀ w ∈ B, w.before args s = true) : ∀ w' ∈ w :: B, w'.before args s = true := fun w' h' => (List.mem_cons.mp h').elim (fun e => by rw [e]; exact h) (t w')
theorem vx_n {args : Array Value} {s : State} : ∀ w ∈ ([] : List Cond), w.before args s = true := fun _ h => nomatch h
theorem vx_own {args : Array Value} {s : State} {L : List Cond} (h1 : ∀ w ∈ L.filter vx_no, w.before args s = true)
    (hU : (Cond.isRef (.static Bundle.tN "UNASSIGNED_STACK" Bundle.steD)).before args s = true) (hN : (Cond.isRef (.static Bundle.tN "SUPPRESSED_SENTINEL" Bundle.listD)).before args s = true)
    (lU : (Cond.laysStatic Bundle.tN "UNASSIGNED_STACK" Bundle.steD).before args s = true) (lN : (Cond.laysStatic Bundle.tN "SUPPRESSED_SENTINEL" Bundle.listD).before args s = true) : ∀ w ∈ L, w.before args s = true := by
  intro w hw
  by_cases e1 : w = .isRef (.static Bundle.tN "UNASSIGNED_STACK" Bundle.steD)
  · rw [e1]; exact hU
  · by_cases e2 : w = .isRef (.static Bundle.tN "SUPPRESSED_SENTINEL" Bundle.listD)
    · rw [e2]; exact hN
    · by_cases e3 : w = .laysStatic Bundle.tN "UNASSIGNED_STACK" Bundle.steD
      · rw [e3]; exact lU
      · by_cases e4 : w = .laysStatic Bundle.tN "SUPPRESSED_SENTINEL" Bundle.listD
        · rw [e4]; exact lN
        · exact h1 w (List.mem_filter.mpr ⟨hw, by unfold vx_no; rw [decide_eq_true e1, decide_eq_true e2, decide_eq_true e3, decide_eq_true e4]; rfl⟩)
/-- where a static field lies, its class's statics cell in H -/
def vx_L (C n d : String) (A : Nat → Prop) (U : State) (H : Heap) : Prop := ∃ (c : ClassId) (k : Class) (i : Nat) (f : Field) (a : Nat) (cell : Cell), U.vm.findClass C = some c ∧ U.fieldFound? C n d = some (c, k, i, f) ∧ f.isStatic = true ∧ k.statics = some a ∧ H[a]? = some cell ∧ cell.vm.isStatics = true ∧ cell.cls = c ∧ f.slot < cell.slots.size ∧ k.staticTypes[f.slot]? = some f.type ∧ ¬ A a
theorem vx_L.moved {C n d : String} {A : Nat → Prop} {u U : State} {H : Heap} (hvm : u.vm.Alike U.vm) (h : vx_L C n d A u H) : vx_L C n d A U H := by
  obtain ⟨c, k, i, f, a, cell, h1, h2, h3, h4, h5, h6, h7, h8, h9, h10⟩ := h
  obtain ⟨k', hi', he⟩ := State.fieldFound?_setVm hvm h2
  exact ⟨c, k', i, f, a, cell, by rw [hvm.findClass]; exact h1, hi', h3, by rw [he]; exact h4, h5, h6, h7, h8, by rw [he]; exact h9, h10⟩
theorem vx_L.kept {C n d : String} {A : Nat → Prop} {U : State} {H H1 : Heap} (h : vx_L C n d A U H) (hq : ∀ a : Nat, a < H.size → ¬ A a → H1[a]? = H[a]?) : vx_L C n d A U H1 := by
  obtain ⟨c, k, i, f, a, cell, h1, h2, h3, h4, h5, h6, h7, h8, h9, h10⟩ := h
  exact ⟨c, k, i, f, a, cell, h1, h2, h3, h4, by rw [hq a (Array.getElem?_eq_some_iff.mp h5).1 h10]; exact h5, h6, h7, h8, h9, h10⟩
theorem vx_L.narrow {C n d : String} {A B : Nat → Prop} {U : State} {H : Heap} (h : vx_L C n d A U H) (hAB : ∀ q, B q → A q) : vx_L C n d B U H := by
  obtain ⟨c, k, i, f, a, cell, h1, h2, h3, h4, h5, h6, h7, h8, h9, h10⟩ := h
  exact ⟨c, k, i, f, a, cell, h1, h2, h3, h4, h5, h6, h7, h8, h9, fun z => h10 (hAB _ z)⟩
theorem vx_L.word {C n d : String} {A : Nat → Prop} {s : State} {args : Array Value} (h : vx_L C n d A s s.heap) : (Cond.laysStatic C n d).before args s = true := by
  obtain ⟨c, k, i, f, a, cell, h1, h2, h3, h4, h5, h6, h7, h8, h9, -⟩ := h
  show (Cond.laysStatic C n d).holds args s none s [] = true
  exact Cond.laysStatic_of h1 h2 h3 h4 h5 h6 h7 h8 h9
/-- .. and what it holds: null or some reference -/
def vx_Zq (C n d : String) (A : Nat → Prop) (U : State) (H : Heap) : Prop := va_Zq C n d A U H ∧ vx_L C n d A U H
theorem vx_Zq.moved {C n d : String} {A : Nat → Prop} {u U : State} {H : Heap} (hvm : u.vm.Alike U.vm) (h : vx_Zq C n d A u H) : vx_Zq C n d A U H := ⟨va_Zq.moved hvm h.1, vx_L.moved hvm h.2⟩
theorem vx_Zq.kept {C n d : String} {A : Nat → Prop} {U : State} {H H1 : Heap} (h : vx_Zq C n d A U H) (hq : ∀ a : Nat, a < H.size → ¬ A a → H1[a]? = H[a]?) : vx_Zq C n d A U H1 := ⟨va_Zq.kept h.1 hq, vx_L.kept h.2 hq⟩
theorem vx_Zq.narrow {C n d : String} {A B : Nat → Prop} {U : State} {H : Heap} (h : vx_Zq C n d A U H) (hAB : ∀ q, B q → A q) : vx_Zq C n d B U H := ⟨va_Zq.narrow h.1 hAB, vx_L.narrow h.2 hAB⟩
theorem vx_Zqof {args : Array Value} {s : State} {C n d : String} {A : Nat → Prop} (hl : (Cond.laysStatic C n d).before args s = true) (hini : (Cond.initialized C).before args s = true) (h : (Cond.isRef (.static C n d)).before args s = true) (hA : ∀ a : Nat, a < s.heap.size → ¬ A a) : vx_Zq C n d A s s.heap := by
  refine ⟨va_Zqof hl hini h hA, ?_⟩
  obtain ⟨c, k, i, f, a, cell, h1, h2, h3, h4, h5, h6, h7, h8, h9⟩ := Cond.laysStatic_spec hl
  exact ⟨c, k, i, f, a, cell, h1, h2, h3, h4, h5, h6, h7, h8, h9, hA a (Array.getElem?_eq_some_iff.mp h5).1⟩
theorem vx_isRef {C n d : String} {v : Value} {A : Nat → Prop} {s : State} {args : Array Value} (h : va_Z C n d v A s s.heap) (hv : v.isRef = true) : (Cond.isRef (.static C n d)).before args s = true := by
  obtain ⟨cf, kf, fi, f, a, cell, h1, h2, h3, h4, h5, h6, h7, -⟩ := h
  have he : (Term.static C n d).eval args s none [] s = some v := by
    simp [Term.eval, State.fieldNamed?, h1, h2, h4, h5, h6, h7]
  simp only [Cond.before, Cond.holds, Cond.value, he]
  cases v <;> simp_all [Value.isRef]
theorem vx_isRefq {C n d : String} {A : Nat → Prop} {s : State} {args : Array Value} (h : va_Zq C n d A s s.heap) : (Cond.isRef (.static C n d)).before args s = true := by
  rcases h with h | ⟨t, h⟩
  · exact vx_isRef h rfl
  · exact vx_isRef h rfl
/-- the same frame, seen from here: as if the method were called anew in this heap -/
theorem vx_rebase {T : State} (X : Stand p l e R s m args below meth c T locs cells slots) {R' : Room} (hf : R'.frames ≤ R.frames) (hl : R'.locals ≤ R.locals) (hc : cells + R'.cells ≤ R.cells) (hs : slots + R'.slots ≤ R.slots) :
    Stand p l e R' ((T.setVm s.vm).setFrames (.invoking m args :: below)) m args below meth c T [] 0 0 := by
  have htop : (T.setVm s.vm).topJava?.isSome := X.here.top
  have hF : ((T.setVm s.vm).setFrames (.invoking m args :: below)).frames = .invoking m args :: below := State.frames_setFrames _ (State.cur_lt_of_top htop)
  obtain ⟨g₀, hg0⟩ := Option.isSome_iff_exists.mp htop
  obtain ⟨r, hr⟩ := State.topJava?_eq_some.mp hg0
  have hl9 : e.platform.stackLimits (T.setVm s.vm).me = e.platform.stackLimits s.me := X.limits
  have hb9 : (T.setVm s.vm).me.stackBytes = s.me.stackBytes := X.bytes
  refine ⟨X.admits, X.cas, X.clock, hF, ?_, X.hears, X.method, X.code, X.here, X.tail, X.warmed, ?_, ?_, ?_⟩
  · have h := X.room
    have hU : ((T.setVm s.vm).setFrames (.invoking m args :: below)).localsInUse = s.localsInUse := by
      rw [State.localsInUse_invoking hF (meth := meth) (c := c) X.method X.code, State.localsInUse_invoking X.frames X.method X.code]
    simp only [State.hasRoom, Bool.and_eq_true, decide_eq_true_eq] at h ⊢
    obtain ⟨⟨⟨⟨h1, h2, h3, h4, h5, h6⟩, h7⟩, h8⟩, h9⟩ := h
    rw [X.frames, List.length_cons] at h2 h3
    have q1 := X.heapSize
    have q2 := X.used
    simp only [hF, hU, List.length_cons, State.stackLimits_setFrames, State.stackBytes_setFrames, hl9, hb9]
    refine ⟨⟨⟨⟨by omega, by omega, by omega, by omega, by omega, h6⟩, ?_⟩, ?_⟩, X.book⟩
    · show T.heap.size + R'.cells ≤ e.platform.maxCells
      omega
    · show T.slotsUsed + R'.slots ≤ e.platform.maxSlots
      omega
  · rw [State.stackLimits_setFrames]; rfl
  · rw [State.stackBytes_setFrames]; rfl
  · refine ⟨?_, Nat.le_refl _, Nat.le_refl _, ?_, ?_, fun a c9 h9 => ⟨c9, h9, rfl, rfl, fun _ _ => rfl⟩⟩
    · obtain ⟨t, ht, -⟩ := State.frames_cons hr
      show T.setVm s.vm = { ((T.setVm s.vm).setFrames (.invoking m args :: below)).setFrames (T.setVm s.vm).frames with heap := T.heap, slotsUsed := T.slotsUsed }
      rw [State.setFrames_setFrames, State.setFrames_self ht]
      rfl
    · show T.slotsUsed = T.slotsUsed + ((T.heap.toList.drop T.heap.size).map (·.slots.size)).sum
      rw [List.drop_eq_nil_of_le (Nat.le_of_eq Array.length_toList)]
      rfl
    · show ((T.heap.toList.drop T.heap.size).map (·.slots.size)).sum ≤ 0
      rw [List.drop_eq_nil_of_le (Nat.le_of_eq Array.length_toList)]
      exact Nat.le_refl _
/-- 'throw new E()': new; dup; invokespecial; athrow -/
theorem vx_throw0 {cc : ByteArray} {pc : Nat} (hexec : p.tables.exec = Jvm.exec) (hb : c.code = cc) (hl : l.stackTraces = false) {own cls : String} {names : List String} {ik ic mc ms : Nat} {A : Nat → Prop}
    (hown : s.vm.findClass own = some m.cls) (hcls : Bundle.fit cls = true) (hnames : ∀ n ∈ names, Bundle.fit n = true)
    (hk : (Cond.classLink own ik cls).before args s = true) (hini : (Cond.initialized cls).before args s = true) (hat : ∀ w ∈ vx_at0 own ic cls names, w.before args s = true)
    (hgood : ∀ w ∈ Cond.classLink own ik cls :: Cond.initialized cls :: vx_at0 own ic cls names, vx_ot w = true)
    (hU : vx_Zq Bundle.tN "UNASSIGNED_STACK" Bundle.steD A s s.heap) (hN : vx_Zq Bundle.tN "SUPPRESSED_SENTINEL" Bundle.listD A s s.heap) (hS : va_S A s.heap H locs) (hsize : ls.size = c.maxLocals)
    (d0 : decode cc pc = .ok (.new ik, 3)) (d3 : decode cc (pc + 3) = .ok (.dup, 1)) (d4 : decode cc (pc + 4) = .ok (.invokespecial ic, 3)) (d7 : decode cc (pc + 7) = .ok (.athrow, 1))
    (hout : ∀ x ∈ c.exceptionTable.toList, covers x (pc + 7) = false)
    (hRframes : names.length + 3 < R.frames) (hRlocals : (rest.map fun v => v.category).sum + (13 * (names.length + 1) + 42) ≤ R.locals) (hRcells : cells + 1 ≤ R.cells) (hRslots : slots + 6 ≤ R.slots) (hlocks : meth.locks = false)
    (hx : ∀ t : State, s.vm.Alike t.vm → H.size ≤ t.heap.size → (∀ q : Nat, q < H.size → t.heap[q]? = H[q]?) → XC cls s t)
    (hf : ∀ z ∈ locs, free z.base) (hc : cells + 1 ≤ mc) (hs : slots + 6 ≤ ms) :
    W p l e R s m args below meth c H locs cells slots (vx_MQ below Qc XC args s mc ms free) (F0 m pc ls rest) := by
  intro T hT X
  have htr : e.platform.stackTraces = false := (show e.platform.stackTraces = l.stackTraces by rw [X.admits.platform]).trans hl
  have Y := vx_rebase X (R' := { frames := R.frames, locals := R.locals, cells := 1, slots := 6 }) (Nat.le_refl _) (Nat.le_refl _) hRcells hRslots
  obtain ⟨s', hA⟩ : ∃ z, z = (T.setVm s.vm).setFrames (.invoking m args :: below) := ⟨_, rfl⟩
  rw [← hA] at Y
  have hvm : s'.vm = s.vm := by rw [hA]; rfl
  have hhp : s'.heap = H := by rw [hA]; exact hT
  have hW0 : s.WarmedH s'.vm := by rw [hvm]; exact State.WarmedH.refl s
  have hat' : ∀ w ∈ vx_at0 own ic cls names, w.before args s' = true := fun w hw => vx_ot_at hW0 hvm.symm (hgood w (List.mem_cons_of_mem _ (List.mem_cons_of_mem _ hw))) (hat w hw)
  have hk' : (Cond.classLink own ik cls).before args s' = true := vx_ot_at hW0 hvm.symm (hgood _ List.mem_cons_self) hk
  have hini' : (Cond.initialized cls).before args s' = true := vx_ot_at hW0 hvm.symm (hgood _ (List.mem_cons_of_mem _ List.mem_cons_self)) hini
  have hU' : vx_Zq Bundle.tN "UNASSIGNED_STACK" Bundle.steD A s' s'.heap := by rw [hhp]; exact vx_Zq.moved hW0.alike (hU.kept hS.2.1)
  have hN' : vx_Zq Bundle.tN "SUPPRESSED_SENTINEL" Bundle.listD A s' s'.heap := by rw [hhp]; exact vx_Zq.moved hW0.alike (hN.kept hS.2.1)
  have h : ∀ w ∈ Bundle.ownAtoms0 own ic cls names, w.before args s' = true := vx_own hat' (vx_isRefq hU'.1) (vx_isRefq hN'.1) hU'.2.word hN'.2.word
  have hown' : s'.vm.findClass own = some m.cls := by rw [hvm]; exact hown
  have hins : (Cond.instantiable cls 6).before args s' = true := h _ (by simp [Bundle.ownAtoms0])
  obtain ⟨vm₁, cX, kX, hfX, hkX, -, -, X₁, st1⟩ := Y.newCold hexec (own := own) (C := cls) (index := ik) (n := 6) hown' hk' hins hini'
    (g := F0 m pc ls rest) rfl (by rw [hb]; exact d0) (Nat.le_refl _) (Nat.le_refl _)
  generalize hT1 : (T.setVm vm₁).pushCell { cls := cX, slots := kX.instanceTypes.map defaultValue, vm := .none } = T1 at X₁ st1
  have hcat : (Value.ref T.heap.size).category = 1 := rfl
  have hcellA : T1.heap[T.heap.size]? = some (freshCell cX kX) := by rw [← hT1]; exact State.heap_pushCell_size _ _
  have d3' : decode c.code (pc + 3) = .ok (.dup, 1) := by rw [hb]; exact d3
  obtain ⟨U, hsteps, hrun, hend, hW, hsame, ce, hce, hO⟩ := X₁.ctorThrow0 hexec htr (own := own) (cls := cls) (names := names) (ic := ic) hown' hcls hnames h (fun x hx => nomatch hx) hfX hkX hcellA (by rw [hhp, hT]; exact Nat.le_refl _)
    (g := { method := m, pc := pc + 4, locals := ls, stack := .ref T.heap.size :: .ref T.heap.size :: rest, locked := none }) rfl hsize rfl rfl (rest := rest) rfl
    (by rw [hb]; exact d4) (by rw [hb]; exact d7) hout hRframes (by simp only [List.map_cons, List.sum_cons, hcat]; omega) hlocks
  obtain ⟨f1, f2⟩ := vx_frame hsame
  rw [hhp] at f1 f2
  have hWs : s.WarmedH U.vm := State.WarmedH.trans hW0 hW
  have hcl : s.vm.findClass cls = some ce.cls := by
    have h9 := hO.cls
    rw [hvm] at h9
    exact h9
  have hall : s.sameButNew ({ U with vm := s.vm } : State) locs mc ms := by
    subst hA
    obtain ⟨e1, e2⟩ := hsame
    rw [State.setFrames_setFrames] at e1
    have h2 : (T.setVm s.vm).sameButNew ({ U with vm := s.vm } : State) [] (0 + 1) (0 + 6) := ⟨e1, e2⟩
    have h3 := X.same.trans h2
    rw [List.append_nil] at h3
    exact h3.mono hc hs
  refine ⟨U, ?_, .threw T.heap.size, hrun, hend, Or.inr ⟨T.heap.size, rfl, cls, ce, locs, hx U hWs.alike f1 (fun q hq => f2 q hq (fun z hz => nomatch hz)), hce, hO.vm, hcl, hWs, hall, hf⟩⟩
  refine st1 _ ?_
  show Steps p.tables e below (T1.setTop { method := m, pc := pc + 3, locals := ls, stack := .ref T.heap.size :: rest, locked := none }) _
  jvm_step X₁.here [X₁.here.top, hexec, d3', Value.category]
  exact hsteps
/-- 'throw new E("text")': new; dup; ldc; invokespecial; athrow -/
theorem vx_throwS {cc : ByteArray} {pc : Nat} (hexec : p.tables.exec = Jvm.exec) (hb : c.code = cc) (hl : l.stackTraces = false) {own cls text : String} {names : List String} {ik is ic mc ms sa : Nat} {A : Nat → Prop}
    (hown : s.vm.findClass own = some m.cls) (hcls : Bundle.fit cls = true) (hnames : ∀ n ∈ names, Bundle.fit n = true)
    (hk : (Cond.classLink own ik cls).before args s = true) (hini : (Cond.initialized cls).before args s = true) (hstr : vk_R own is text sa s) (hat : ∀ w ∈ vx_atS own ic cls names, w.before args s = true)
    (hgood : ∀ w ∈ Cond.classLink own ik cls :: Cond.initialized cls :: vx_atS own ic cls names, vx_ot w = true)
    (hU : vx_Zq Bundle.tN "UNASSIGNED_STACK" Bundle.steD A s s.heap) (hN : vx_Zq Bundle.tN "SUPPRESSED_SENTINEL" Bundle.listD A s s.heap) (hS : va_S A s.heap H locs) (hsize : ls.size = c.maxLocals)
    (d0 : decode cc pc = .ok (.new ik, 3)) (d3 : decode cc (pc + 3) = .ok (.dup, 1)) (d4 : decode cc (pc + 4) = .ok (.ldc is, 2)) (d6 : decode cc (pc + 6) = .ok (.invokespecial ic, 3)) (d9 : decode cc (pc + 9) = .ok (.athrow, 1))
    (hout : ∀ x ∈ c.exceptionTable.toList, covers x (pc + 9) = false)
    (hRframes : names.length + 3 < R.frames) (hRlocals : (rest.map fun v => v.category).sum + (13 * (names.length + 1) + 43) ≤ R.locals) (hRcells : cells + 1 ≤ R.cells) (hRslots : slots + 6 ≤ R.slots) (hlocks : meth.locks = false)
    (hx : ∀ t : State, s.vm.Alike t.vm → H.size ≤ t.heap.size → (∀ q : Nat, q < H.size → t.heap[q]? = H[q]?) → XC cls s t)
    (hf : ∀ z ∈ locs, free z.base) (hc : cells + 1 ≤ mc) (hs : slots + 6 ≤ ms) :
    W p l e R s m args below meth c H locs cells slots (vx_MQ below Qc XC args s mc ms free) (F0 m pc ls rest) := by
  intro T hT X
  have htr : e.platform.stackTraces = false := (show e.platform.stackTraces = l.stackTraces by rw [X.admits.platform]).trans hl
  have Y := vx_rebase X (R' := { frames := R.frames, locals := R.locals, cells := 1, slots := 6 }) (Nat.le_refl _) (Nat.le_refl _) hRcells hRslots
  obtain ⟨s', hA⟩ : ∃ z, z = (T.setVm s.vm).setFrames (.invoking m args :: below) := ⟨_, rfl⟩
  rw [← hA] at Y
  have hvm : s'.vm = s.vm := by rw [hA]; rfl
  have hhp : s'.heap = H := by rw [hA]; exact hT
  have hW0 : s.WarmedH s'.vm := by rw [hvm]; exact State.WarmedH.refl s
  have hat' : ∀ w ∈ vx_atS own ic cls names, w.before args s' = true := fun w hw => vx_ot_at hW0 hvm.symm (hgood w (List.mem_cons_of_mem _ (List.mem_cons_of_mem _ hw))) (hat w hw)
  have hk' : (Cond.classLink own ik cls).before args s' = true := vx_ot_at hW0 hvm.symm (hgood _ List.mem_cons_self) hk
  have hini' : (Cond.initialized cls).before args s' = true := vx_ot_at hW0 hvm.symm (hgood _ (List.mem_cons_of_mem _ List.mem_cons_self)) hini
  have hU' : vx_Zq Bundle.tN "UNASSIGNED_STACK" Bundle.steD A s' s'.heap := by rw [hhp]; exact vx_Zq.moved hW0.alike (hU.kept hS.2.1)
  have hN' : vx_Zq Bundle.tN "SUPPRESSED_SENTINEL" Bundle.listD A s' s'.heap := by rw [hhp]; exact vx_Zq.moved hW0.alike (hN.kept hS.2.1)
  have h : ∀ w ∈ Bundle.ownAtoms own ic cls names, w.before args s' = true := vx_own hat' (vx_isRefq hU'.1) (vx_isRefq hN'.1) hU'.2.word hN'.2.word
  have hown' : s'.vm.findClass own = some m.cls := by rw [hvm]; exact hown
  have hins : (Cond.instantiable cls 6).before args s' = true := h _ (by simp [Bundle.ownAtoms])
  obtain ⟨vm₁, cX, kX, hfX, hkX, -, -, X₁, st1⟩ := Y.newCold hexec (own := own) (C := cls) (index := ik) (n := 6) hown' hk' hins hini'
    (g := F0 m pc ls rest) rfl (by rw [hb]; exact d0) (Nat.le_refl _) (Nat.le_refl _)
  generalize hT1 : (T.setVm vm₁).pushCell { cls := cX, slots := kX.instanceTypes.map defaultValue, vm := .none } = T1 at X₁ st1
  have hcat : (Value.ref T.heap.size).category = 1 := rfl
  have hcellA : T1.heap[T.heap.size]? = some (freshCell cX kX) := by rw [← hT1]; exact State.heap_pushCell_size _ _
  have d3' : decode c.code (pc + 3) = .ok (.dup, 1) := by rw [hb]; exact d3
  have d4' : decode c.code (pc + 4) = .ok (.ldc is, 2) := by rw [hb]; exact d4
  have hstr' : vk_R own is text sa s' := vk_R.warm hW0 hstr
  obtain ⟨U, hsteps, hrun, hend, hW, hsame, ce, hce, hO⟩ := X₁.ctorThrowS hexec htr (own := own) (cls := cls) (names := names) (ic := ic) hown' hcls hnames h (fun x hx => nomatch hx) hfX hkX hcellA (by rw [hhp, hT]; exact Nat.le_refl _) (msg := .ref sa) rfl
    (g := { method := m, pc := pc + 6, locals := ls, stack := .ref sa :: .ref T.heap.size :: .ref T.heap.size :: rest, locked := none }) rfl hsize rfl rfl (rest := rest) rfl
    (by rw [hb]; exact d6) (by rw [hb]; exact d9) hout hRframes (by simp only [List.map_cons, List.sum_cons, hcat]; omega) hlocks
  obtain ⟨f1, f2⟩ := vx_frame hsame
  rw [hhp] at f1 f2
  have hWs : s.WarmedH U.vm := State.WarmedH.trans hW0 hW
  have hcl : s.vm.findClass cls = some ce.cls := by
    have h9 := hO.cls
    rw [hvm] at h9
    exact h9
  have hall : s.sameButNew ({ U with vm := s.vm } : State) locs mc ms := by
    subst hA
    obtain ⟨e1, e2⟩ := hsame
    rw [State.setFrames_setFrames] at e1
    have h2 : (T.setVm s.vm).sameButNew ({ U with vm := s.vm } : State) [] (0 + 1) (0 + 6) := ⟨e1, e2⟩
    have h3 := X.same.trans h2
    rw [List.append_nil] at h3
    exact h3.mono hc hs
  refine ⟨U, ?_, .threw T.heap.size, hrun, hend, Or.inr ⟨T.heap.size, rfl, cls, ce, locs, hx U hWs.alike f1 (fun q hq => f2 q hq (fun z hz => nomatch hz)), hce, hO.vm, hcl, hWs, hall, hf⟩⟩
  refine st1 _ ?_
  show Steps p.tables e below (T1.setTop { method := m, pc := pc + 3, locals := ls, stack := .ref T.heap.size :: rest, locked := none }) _
  jvm_step X₁.here [X₁.here.top, hexec, d3', Value.category]
  exact X₁.ldcString hexec (own := own) (text := text) (index := is) (a := sa) hown' hstr'.1 hstr'.2
    (g := { method := m, pc := pc + 4, locals := ls, stack := .ref T.heap.size :: .ref T.heap.size :: rest, locked := none }) rfl d4' _ hsteps
/-- 'throw new E("text")', the text by a wide index -/
theorem vx_throwSW {cc : ByteArray} {pc : Nat} (hexec : p.tables.exec = Jvm.exec) (hb : c.code = cc) (hl : l.stackTraces = false) {own cls text : String} {names : List String} {ik is ic mc ms sa : Nat} {A : Nat → Prop}
    (hown : s.vm.findClass own = some m.cls) (hcls : Bundle.fit cls = true) (hnames : ∀ n ∈ names, Bundle.fit n = true)
    (hk : (Cond.classLink own ik cls).before args s = true) (hini : (Cond.initialized cls).before args s = true) (hstr : vk_R own is text sa s) (hat : ∀ w ∈ vx_atS own ic cls names, w.before args s = true)
    (hgood : ∀ w ∈ Cond.classLink own ik cls :: Cond.initialized cls :: vx_atS own ic cls names, vx_ot w = true)
    (hU : vx_Zq Bundle.tN "UNASSIGNED_STACK" Bundle.steD A s s.heap) (hN : vx_Zq Bundle.tN "SUPPRESSED_SENTINEL" Bundle.listD A s s.heap) (hS : va_S A s.heap H locs) (hsize : ls.size = c.maxLocals)
    (d0 : decode cc pc = .ok (.new ik, 3)) (d3 : decode cc (pc + 3) = .ok (.dup, 1)) (d4 : decode cc (pc + 4) = .ok (.ldc_w is, 3)) (d7 : decode cc (pc + 7) = .ok (.invokespecial ic, 3)) (d10 : decode cc (pc + 10) = .ok (.athrow, 1))
    (hout : ∀ x ∈ c.exceptionTable.toList, covers x (pc + 10) = false)
    (hRframes : names.length + 3 < R.frames) (hRlocals : (rest.map fun v => v.category).sum + (13 * (names.length + 1) + 43) ≤ R.locals) (hRcells : cells + 1 ≤ R.cells) (hRslots : slots + 6 ≤ R.slots) (hlocks : meth.locks = false)
    (hx : ∀ t : State, s.vm.Alike t.vm → H.size ≤ t.heap.size → (∀ q : Nat, q < H.size → t.heap[q]? = H[q]?) → XC cls s t)
    (hf : ∀ z ∈ locs, free z.base) (hc : cells + 1 ≤ mc) (hs : slots + 6 ≤ ms) :
    W p l e R s m args below meth c H locs cells slots (vx_MQ below Qc XC args s mc ms free) (F0 m pc ls rest) := by
  intro T hT X
  have htr : e.platform.stackTraces = false := (show e.platform.stackTraces = l.stackTraces by rw [X.admits.platform]).trans hl
  have Y := vx_rebase X (R' := { frames := R.frames, locals := R.locals, cells := 1, slots := 6 }) (Nat.le_refl _) (Nat.le_refl _) hRcells hRslots
  obtain ⟨s', hA⟩ : ∃ z, z = (T.setVm s.vm).setFrames (.invoking m args :: below) := ⟨_, rfl⟩
  rw [← hA] at Y
  have hvm : s'.vm = s.vm := by rw [hA]; rfl
  have hhp : s'.heap = H := by rw [hA]; exact hT
  have hW0 : s.WarmedH s'.vm := by rw [hvm]; exact State.WarmedH.refl s
  have hat' : ∀ w ∈ vx_atS own ic cls names, w.before args s' = true := fun w hw => vx_ot_at hW0 hvm.symm (hgood w (List.mem_cons_of_mem _ (List.mem_cons_of_mem _ hw))) (hat w hw)
  have hk' : (Cond.classLink own ik cls).before args s' = true := vx_ot_at hW0 hvm.symm (hgood _ List.mem_cons_self) hk
  have hini' : (Cond.initialized cls).before args s' = true := vx_ot_at hW0 hvm.symm (hgood _ (List.mem_cons_of_mem _ List.mem_cons_self)) hini
  have hU' : vx_Zq Bundle.tN "UNASSIGNED_STACK" Bundle.steD A s' s'.heap := by rw [hhp]; exact vx_Zq.moved hW0.alike (hU.kept hS.2.1)
  have hN' : vx_Zq Bundle.tN "SUPPRESSED_SENTINEL" Bundle.listD A s' s'.heap := by rw [hhp]; exact vx_Zq.moved hW0.alike (hN.kept hS.2.1)
  have h : ∀ w ∈ Bundle.ownAtoms own ic cls names, w.before args s' = true := vx_own hat' (vx_isRefq hU'.1) (vx_isRefq hN'.1) hU'.2.word hN'.2.word
  have hown' : s'.vm.findClass own = some m.cls := by rw [hvm]; exact hown
  have hins : (Cond.instantiable cls 6).before args s' = true := h _ (by simp [Bundle.ownAtoms])
  obtain ⟨vm₁, cX, kX, hfX, hkX, -, -, X₁, st1⟩ := Y.newCold hexec (own := own) (C := cls) (index := ik) (n := 6) hown' hk' hins hini'
    (g := F0 m pc ls rest) rfl (by rw [hb]; exact d0) (Nat.le_refl _) (Nat.le_refl _)
  generalize hT1 : (T.setVm vm₁).pushCell { cls := cX, slots := kX.instanceTypes.map defaultValue, vm := .none } = T1 at X₁ st1
  have hcat : (Value.ref T.heap.size).category = 1 := rfl
  have hcellA : T1.heap[T.heap.size]? = some (freshCell cX kX) := by rw [← hT1]; exact State.heap_pushCell_size _ _
  have d3' : decode c.code (pc + 3) = .ok (.dup, 1) := by rw [hb]; exact d3
  have d4' : decode c.code (pc + 4) = .ok (.ldc_w is, 3) := by rw [hb]; exact d4
  have hstr' : vk_R own is text sa s' := vk_R.warm hW0 hstr
  obtain ⟨U, hsteps, hrun, hend, hW, hsame, ce, hce, hO⟩ := X₁.ctorThrowS hexec htr (own := own) (cls := cls) (names := names) (ic := ic) hown' hcls hnames h (fun x hx => nomatch hx) hfX hkX hcellA (by rw [hhp, hT]; exact Nat.le_refl _) (msg := .ref sa) rfl
    (g := { method := m, pc := pc + 7, locals := ls, stack := .ref sa :: .ref T.heap.size :: .ref T.heap.size :: rest, locked := none }) rfl hsize rfl rfl (rest := rest) rfl
    (by rw [hb]; exact d7) (by rw [hb]; exact d10) hout hRframes (by simp only [List.map_cons, List.sum_cons, hcat]; omega) hlocks
  obtain ⟨f1, f2⟩ := vx_frame hsame
  rw [hhp] at f1 f2
  have hWs : s.WarmedH U.vm := State.WarmedH.trans hW0 hW
  have hcl : s.vm.findClass cls = some ce.cls := by
    have h9 := hO.cls
    rw [hvm] at h9
    exact h9
  have hall : s.sameButNew ({ U with vm := s.vm } : State) locs mc ms := by
    subst hA
    obtain ⟨e1, e2⟩ := hsame
    rw [State.setFrames_setFrames] at e1
    have h2 : (T.setVm s.vm).sameButNew ({ U with vm := s.vm } : State) [] (0 + 1) (0 + 6) := ⟨e1, e2⟩
    have h3 := X.same.trans h2
    rw [List.append_nil] at h3
    exact h3.mono hc hs
  refine ⟨U, ?_, .threw T.heap.size, hrun, hend, Or.inr ⟨T.heap.size, rfl, cls, ce, locs, hx U hWs.alike f1 (fun q hq => f2 q hq (fun z hz => nomatch hz)), hce, hO.vm, hcl, hWs, hall, hf⟩⟩
  refine st1 _ ?_
  show Steps p.tables e below (T1.setTop { method := m, pc := pc + 3, locals := ls, stack := .ref T.heap.size :: rest, locked := none }) _
  jvm_step X₁.here [X₁.here.top, hexec, d3', Value.category]
  exact X₁.ldcStringW hexec (own := own) (text := text) (index := is) (a := sa) hown' hstr'.1 hstr'.2
    (g := { method := m, pc := pc + 4, locals := ls, stack := .ref T.heap.size :: .ref T.heap.size :: rest, locked := none }) rfl d4' _ hsteps
end Ends
section Bodies
variable {l : Launch}
theorem vx_ofW {y : MethodName} {ws ws' : List Cond} {rm : Room} {Pc : Array Value → State → Prop} {Qc : Array Value → State → Outcome → State → Prop} {XC : String → State → State → Prop} {mc ms : Nat} {free : Addr → Prop} {cc : ByteArray} {maxL : Nat} {ret : Option FieldType}
    (hy : plainName y.cls = true) (hw : ws = Cond.code y cc maxL ret :: ws')
    (body : ∀ p e s m args below meth c s₁, BodyLoose p l y (headSpec ws rm) cc maxL ret e s m args below meth c s₁ → c.maxLocals = maxL → (∀ x ∈ c.exceptionTable.toList, False) → Pc args s →
      W p l e (headSpec ws rm).room s m args below meth c s.heap [] 0 0 (vx_MQ below Qc XC args s mc ms free) (entryFrame m args maxL)) : vx_Met l y ws rm Pc Qc XC mc ms free := by
  refine MetFree.of_bodyS (code := cc) (maxLocals := maxL) (ret := ret) hy ?_ ?_
  · intro args s m h hn
    obtain ⟨meth, c, h1, h2, h3, h4, h5, h6, -, -⟩ := Cond.code_spec hn (atoms_spec (ws := ws) h _ (by rw [hw]; exact List.mem_cons_self))
    exact ⟨meth, c, h1, h2, h3, h4, h5, h6⟩
  · intro p e s m args below meth c s₁ B hml hP _
    have hh0 : s₁.heap = s.heap := by rw [B.state]; rfl
    have ht : ∀ x ∈ c.exceptionTable.toList, False := by
      obtain ⟨meth9, c9, h1, h2, -, -, -, -, h7, -⟩ := Cond.code_spec B.named (atoms_spec (ws := ws) B.pre _ (by rw [hw]; exact List.mem_cons_self))
      cases Option.some.inj (h1.symm.trans B.method)
      cases Option.some.inj (h2.symm.trans (Stand.of_body B).code)
      intro x hx
      rw [Array.isEmpty_iff.mp h7] at hx
      cases hx
    obtain ⟨t, a1, o, b1, b2, b3⟩ := body p e s m args below meth c s₁ B hml ht hP s₁ hh0 (Stand.of_body B)
    exact ⟨t, o, a1, b1, b2, b3⟩
/-- the table of a body with handlers -/
theorem vx_table {p : Program} {x y : MethodName} {S : Spec} {cc bytes : ByteArray} {maxL maxL' : Nat} {ret ret' : Option FieldType} {e : Env} {s s₁ : State} {m : MethodId} {args : Array Value} {below : List Frame} {meth : Method} {c : Code} {hh : List (Nat × Nat × Nat × Nat)}
    (B : BodyLoose p l y S cc maxL ret e s m args below meth c s₁) (h : (Cond.codeWith y bytes maxL' ret' hh).before args s = true) : c.exceptionTable.toList = tableOf hh := by
  obtain ⟨m9, meth9, c9, hn9, h1, h2, -, -, h6, -⟩ := Cond.codeWith_spec h
  cases Option.some.inj (hn9.symm.trans B.named)
  cases Option.some.inj (h1.symm.trans B.method)
  cases Option.some.inj (h2.symm.trans (Stand.of_body B).code)
  rw [← h6, table_eq]
end Bodies
end VXA
/-! ===== END ===== -/
/-! ===== BEGIN a static call of a method with an exception table ===== -/
section VXS
variable {p : Program} {l : Launch} {e : Env} {R : Room} {s : State} {m : MethodId} {args : Array Value} {below : List Frame} {meth : Method} {c : Code} {T : State} {H : Heap} {locs : List Loc} {cells slots : Nat}
abbrev vx_CSW (R : Room) (s : State) (args : Array Value) (own : String) (index : Nat) (y : MethodName) (bytes : ByteArray) (maxL : Nat) (ret : Option FieldType) (hh : List (Nat × Nat × Nat × Nat)) (ws : List Cond) (rm : Room) (mc ms n : Nat) : Prop :=
  (rm.cells = mc ∧ rm.slots = ms ∧ rm.frames + 1 ≤ R.frames ∧ 8 + (maxL + 11) + rm.locals ≤ R.locals ∧ (∀ w ∈ ws, ∀ (a' : Array Value) (U : State), s.WarmedH U.vm → w.before a' U = true) ∧ Cond.codeWith y bytes maxL ret hh ∈ ws) ∧
  (Cond.codeWith y bytes maxL ret hh).before args s = true ∧ (Cond.initialized y.cls).before args s = true ∧ (y.cls ≠ "java/lang/invoke/MethodHandle" ∧ y.cls ≠ "java/lang/invoke/VarHandle") ∧
  (∀ sig, parseMethodDescriptor y.desc = some sig → n = sig.parameters.length) ∧ (Cond.methodLink own index y).before args s = true ∧ (Cond.static y).before args s = true
theorem vx_cwSW {own : String} {index maxL mc ms : Nat} {y : MethodName} {bytes : ByteArray} {ret : Option FieldType} {hh : List (Nat × Nat × Nat × Nat)} {Ts ws ws' : List Cond} {rm : Room} (n : Nat) (ht : ∀ w ∈ Ts, w.before args s = true) (hT : GoodIn Ts (va_wsS own index y ws)) (hw : ws = Cond.codeWith y bytes maxL ret hh :: ws') (hrc : rm.cells = mc) (hrs : rm.slots = ms)
    (hd : y.cls ≠ "java/lang/invoke/MethodHandle" ∧ y.cls ≠ "java/lang/invoke/VarHandle" ∧ (parseMethodDescriptor y.desc).map (fun d => d.parameters.length) = some n) (hR : rm.frames + 1 ≤ R.frames ∧ 8 + (maxL + 11) + rm.locals ≤ R.locals) :
    vx_CSW R s args own index y bytes maxL ret hh ws rm mc ms n := by
  have ok : ∀ w ∈ va_wsS own index y ws, w.before args s = true := fun w h => ht w (hT w h).1
  have hG : GoodIn Ts ws := fun w h => hT w (by unfold va_wsS; exact List.mem_append_right _ h)
  have hc : Cond.codeWith y bytes maxL ret hh ∈ ws := by rw [hw]; exact List.mem_cons_self
  refine ⟨⟨hrc, hrs, hR.1, hR.2, pay_in ht hG, hc⟩, ht _ (hG _ hc).1, ok _ (by simp [va_wsS]), ⟨hd.1, hd.2.1⟩, fun sig h => ?_, ok _ (by simp [va_wsS]), ok _ (by simp [va_wsS])⟩
  have h2 := hd.2.2
  rw [h] at h2
  exact (Option.some.inj h2).symm
theorem vx_callSW (X : Stand p l e R s m args below meth c T locs cells slots) (hexec : p.tables.exec = Jvm.exec) {own : String} {index : Nat} {y : MethodName} {bytes : ByteArray} {maxL : Nat} {ret : Option FieldType} {hh : List (Nat × Nat × Nat × Nat)}
    (hown : s.vm.findClass own = some m.cls) (hlink : (Cond.methodLink own index y).before args s = true) (hstat : (Cond.static y).before args s = true) (hinit : (Cond.initialized y.cls).before args s = true)
    (hcode : (Cond.codeWith y bytes maxL ret hh).before args s = true) (hy : y.cls ≠ "java/lang/invoke/MethodHandle" ∧ y.cls ≠ "java/lang/invoke/VarHandle")
    {W9 : Nat} {Pre : Pt → Array Value → Prop} {Post : Pt → Array Value → Option Value → Pt → Prop} (hK : Back l R p e below s args y 3 W9 Pre Post)
    {g : JFrame} (hg : g.method = m) (hsize : g.locals.size = c.maxLocals) {argsL rest : List Value} (hlen : ∀ sig, parseMethodDescriptor y.desc = some sig → argsL.length = sig.parameters.length)
    (hstack : g.stack = argsL.reverse ++ rest) (hW : 2 * g.monitorRoom + (rest.map fun v => v.category).sum ≤ W9) (hdg : decode c.code g.pc = .ok (.invokestatic index, 3))
    (hpre : ∀ vm₁, s.WarmedH vm₁ → Pre ⟨T.setVm vm₁, locs, cells, slots⟩ argsL.toArray) :
    ∃ (v : Option Value) (vm₁ : Vm) (B : Pt), s.WarmedH vm₁ ∧ Stand p l e R s m args below meth c B.U B.locs B.cells B.slots ∧ Post ⟨T.setVm vm₁, locs, cells, slots⟩ argsL.toArray v B ∧
      ∀ target, Steps p.tables e below (B.U.setTop { g with pc := g.pc + 3, stack := v.toList ++ rest }) target → Steps p.tables e below (T.setTop g) target := by
  obtain ⟨mk, methM, cM, hnamed, hmethM, -, -, -, -, -, -, hsigM⟩ := Cond.codeWith_spec hcode
  have hstatic : methM.isStatic = true := Cond.static_spec hnamed hmethM hstat
  obtain ⟨kP, hkP, -⟩ := className_of_methodNamed hnamed
  have hinitP : kP.init = .initialized := Cond.initialized_spec (findClass_of_methodNamed hnamed) hkP hinit
  obtain ⟨vm₁, X₁, hstep₁⟩ := X.invokestatic hexec hown hlink hnamed hmethM hstatic hkP hinitP hy (g := g) hg (argsL := argsL) (rest := rest) (hlen _ hsigM) hstack hdg
  obtain ⟨v, B, X', hpost, hsteps⟩ := hK m meth c ⟨T.setVm vm₁, locs, cells, slots⟩ { g with stack := rest } (.invokestatic index) mk argsL.toArray X₁ hg hsize hdg hW (X₁.named hnamed) (hpre vm₁ X₁.warmed)
  exact ⟨v, vm₁, B, X₁.warmed, X', hpost, fun target h => hstep₁ _ fun acts => by rw [doInvoke_state]; exact hsteps.trans h⟩
theorem vx_runSW {y : MethodName} {bytes cc : ByteArray} {maxL nL mc ms n index : Nat} {ret : Option FieldType} {hh : List (Nat × Nat × Nat × Nat)} {ws : List Cond} {rm : Room} {Pc : Array Value → State → Prop} {Qc : Array Value → State → Outcome → State → Prop} {free : Addr → Prop} {Ts : List Cond} {own : String} {As rest : List Value} {g : JFrame}
    (S : CallFix p m c cc nL s args Ts own) (hM : Met l y ws rm Pc Qc mc ms free) (cw : vx_CSW R s args own index y bytes maxL ret hh ws rm mc ms n) (hp : PreS s H Pc As)
    (hg : g.method = m) (hn : As.length = n) (hsize : g.locals.size = nL) (hstack : g.stack = As.reverse ++ rest) (hW : 2 * g.monitorRoom + (rest.map fun v => v.category).sum ≤ 8) (hdg : decode cc g.pc = .ok (.invokestatic index, 3)) (hf : cells + mc ≤ R.cells ∧ slots + ms ≤ R.slots) :
    va_Run p l e R s m args below meth c H locs cells slots mc ms g rest (Qc As.toArray) (free) := by
  obtain ⟨⟨hrc, hrs, hfr, hlo, hws, hcw⟩, hcode, hini, hy, hlen, hl, hstt⟩ := cw
  have hK : Back l R p e below s args y 3 8 (PreOf R mc ms Pc) (PostOf Qc mc ms free) := va_backW (hh := hh) (bytes := bytes) (maxL := maxL) (ret := ret) hM hp.1 hrc hrs hfr hlo hws hcw (fun a' U hW => word_at hW (Or.inl (by first | rfl | simp [Cond.onTables, Cond.keeps, Cond.steady])) hini)
  obtain ⟨hx, hb, hml, ho, -⟩ := S
  intro T hT X
  obtain ⟨v, vm₁, ⟨U', l2, c2, s2⟩, hW₁, X', ⟨g', mk, t, L, e1, e2, hq, h1, hL, h2, h3⟩, st⟩ := vx_callSW X hx (hh := hh) (bytes := bytes) (maxL := maxL) (ret := ret) ho hl hstt hini hcode hy hK hg (hsize.trans hml.symm) (argsL := As) (rest := rest) (fun sig h => hn.trans (hlen sig h)) hstack hW (by rw [hb]; exact hdg)
    (fun vm₁ hW₁ => ⟨hf.1, hf.2, hp.2 (T.setVm vm₁) hT hW₁⟩)
  dsimp only [Pt.U, Pt.locs, Pt.cells, Pt.slots] at X' e1 e2 h1 h2 h3 st
  subst h1; subst h2; subst h3
  exact ⟨v, (T.setVm vm₁).calling g' mk As.toArray, t, U', L, hT, X', hL, e1, e2, hq, st⟩
/-- not caught here, past rows that name other classes: it goes on to the caller -/
theorem vx_outP {p : Program} {l : Launch} {e : Env} {R : Room} {s : State} {m : MethodId} {args : Array Value} {below : List Frame} {meth : Method} {c : Code} {H : Heap} {locs : List Loc} {cells slots : Nat} {free : Addr → Prop} {ls : Array Slot} {rest : List Value} {Qc : Array Value → State → Outcome → State → Prop} {XC : String → State → State → Prop}
    {pc : Nat} {own E : String} {ce : Cell} {q : Addr} {mc ms : Nat} (hown : s.vm.findClass own = some m.cls) (hlocks : meth.locks = false)
    (hpass : ∀ z ∈ c.exceptionTable.toList, covers z pc = false ∨ (z.catchType ≠ 0 ∧ ∃ nm : String, (Cond.classLink own z.catchType nm).before args s = true ∧ va_Nc E nm s)) (hcell : H[q]? = some ce) (hv : ce.vm = .none) (hcl : s.vm.findClass E = some ce.cls)
    (hx : ∀ t : State, t.heap = H → s.vm.Alike t.vm → XC E s t) (hf : ∀ z ∈ locs, free z.base) (hc : cells ≤ mc) (hs : slots ≤ ms) :
    vx_W p l e R s m args below meth c H locs cells slots (vx_MQ below Qc XC args s mc ms free) (F0 m pc ls rest) q := by
  intro T hT X
  have hpl : e.platform.magicAccessors = ({} : Platform).magicAccessors := by rw [X.admits.platform]
  obtain ⟨vm', hW', X', st⟩ := X.outThrough hlocks q (g := F0 m pc ls rest) rfl rfl rfl (cell := ce) (by rw [hT]; exact hcell) (by rw [hv]; rfl)
    (by obtain ⟨k9, h9, -⟩ := Vm.findClass_spec hcl; exact ⟨k9, h9⟩) (fun z hz => by
      rcases hpass z hz with h | ⟨hz0, nm, hl1, hn1⟩
      · exact Or.inl h
      · obtain ⟨c6, hc6, hcl6⟩ := Cond.classLink_spec hown hl1 e.platform hpl
        obtain ⟨a8, b8, h1, h2, h3⟩ := hn1
        cases Option.some.inj (h1.symm.trans hcl)
        cases Option.some.inj (h2.symm.trans hc6)
        exact Or.inr ⟨hz0, _, hcl6, h3⟩)
  obtain ⟨g₀, hfr⟩ := X'.frames_eq
  have hcell9 : ((T.setVm vm').setFrames (.throwing q :: below)).heap[q]? = some ce := by
    show T.heap[q]? = some ce
    rw [hT]; exact hcell
  have hend : Ended ((T.setVm vm').setFrames (.throwing q :: below)) below (.threw q) := State.frames_setFrames _ (State.cur_lt_of_frames hfr)
  refine ⟨(T.setVm vm').setFrames (.throwing q :: below), ?_, .threw q, X'.here.running, hend, Or.inr ⟨q, rfl, E, ce, locs, hx _ hT (X'.ends _).1.alike, hcell9, hv, hcl, (X'.ends _).1, (X'.ends _).2.mono hc hs, hf⟩⟩
  rw [X.pushThrowing_eq]
  exact st
/-- a thing of a world lies in the heap -/
theorem vx_lt {D : va_G} {cl : List vw_C} {ws : va_W} {H1 : Heap} (h : va_P D cl ws H1) {k : Nat} {q : Nat × va_E} (hk : ws[k]? = some q) : q.1 < H1.size := (h k q hk).lt
end VXS
/-! ===== END ===== -/
/-! ===== BEGIN methods with a table of their own: called by a name, returning or throwing ===== -/
section VXH
/-! vx_backW, vx_callVX, vx_callSX, vx_callVW, vx_runVW, vx_runVX, vx_runSX, vx_ofWH follow the same proofs as their sisters above (Free/Laws.lean, Shelf42/LK1.lean); vx_outP calls Shelf42/NT130.lean (outThrough). -/
section
variable {l : Launch} {R : Room} {p : Program} {e : Env} {below : List Frame} {s : State} {sargs : Array Value} {y : MethodName} {len W9 : Nat}
theorem vx_backW {ws : List Cond} {rm : Room} {Pc : Array Value → State → Prop} {Qc : Array Value → State → Outcome → State → Prop} {XC : String → State → State → Prop} {mc ms : Nat} {free : Addr → Prop} {bytes : ByteArray} {maxL : Nat} {ret : Option FieldType} {hh : List (Nat × Nat × Nat × Nat)}
    (hM : vx_Met l y ws rm Pc Qc XC mc ms free) (hblind : FrameBlind Pc) (hrc : rm.cells = mc) (hrs : rm.slots = ms)
    (hframes : rm.frames + 1 ≤ R.frames) (hlocals : W9 + (maxL + 11) + rm.locals ≤ R.locals)
    (hws : ∀ w ∈ ws, ∀ a' U, s.WarmedH U.vm → w.before a' U = true) (hcode : Cond.codeWith y bytes maxL ret hh ∈ ws) (hinit : ∀ a' U, s.WarmedH U.vm → (Cond.initialized y.cls).before a' U = true) :
    vx_Back l R p e below s sargs y len W9 (PreOf R mc ms Pc) (PostOf Qc mc ms free) (vx_Post XC mc ms free) := by
  intro m meth c A g ig mk a X hg hsize hdg hW hn hp
  have h1 : (headSpec ws rm).pre.before a A.U = true := atoms_intro fun w hw => hws w hw _ _ X.warmed
  have h2 : (Cond.codeWith y bytes maxL ret hh).before a A.U = true := hws _ hcode _ _ X.warmed
  have h3 : (Cond.initialized y.cls).before a A.U = true := hinit _ _ X.warmed
  have h4 : A.cells + (headSpec ws rm).room.cells ≤ R.cells := by rw [show (headSpec ws rm).room.cells = mc from hrc]; exact hp.1
  have h5 : A.slots + (headSpec ws rm).room.slots ≤ R.slots := by rw [show (headSpec ws rm).room.slots = ms from hrs]; exact hp.2.1
  have hPc : Pc a (A.U.calling g mk a) := hblind _ _ _ _ hp.2.2
  obtain ⟨U, Ls, c0, s0⟩ := A
  dsimp only [Pt.U, Pt.locs, Pt.cells, Pt.slots] at h1 h2 h3 h4 h5 X hn hPc ⊢
  obtain ⟨m9, methY, cY, hn9, hmY, hcY, -, hlY, -⟩ := Cond.codeWith_spec h2
  cases Option.some.inj (hn9.symm.trans hn)
  obtain ⟨kY, hkY, -⟩ := className_of_methodNamed hn
  have hinitY : kY.init = .initialized := Cond.initialized_spec (findClass_of_methodNamed hn) hkY h3
  have h : At U g.method c below := by rw [hg]; exact X.here
  have hlocals9 : W9 + (maxL + 11) + (headSpec ws rm).room.locals ≤ R.locals := hlocals
  have happ : (headSpec ws rm).appliesLoose y e.platform (U.calling g mk a) = true :=
    Spec.appliesLoose_calling (g := g) h hdg hn hkY hinitY
      (X.room_calling (g := g) (R' := (headSpec ws rm).room) hsize hmY hcY hframes (by rw [hlY]; omega) h4 h5) h1
  obtain ⟨mid, hmid⟩ := h.above
  have hfr : (U.setTop g).frames = (.java g :: mid) ++ below := by rw [State.frames_setTop' g h.top, hmid]; rfl
  obtain ⟨o, s₂, hsteps, -, hend, hq⟩ := Steps.callFree hM p X.admits X.cas X.clock (acts := []) hfr happ hPc trivial
  have hq' : vx_Q Qc XC mc ms free a (U.calling g mk a) o s₂ := hq
  rw [State.frames_setTop' g h.top] at hend
  obtain ⟨g₀, hg0⟩ := Option.isSome_iff_exists.mp h.top
  obtain ⟨r, hr⟩ := State.topJava?_eq_some.mp hg0
  have hr' : (({ U with heap := s₂.heap, slotsUsed := s₂.slotsUsed } : State).setVm s₂.vm).frames = .java g₀ :: r := hr
  rcases hq' with ⟨hqc, L, hfe, hL⟩ | ⟨q, rfl, E, ce, L, hx, hce, hcv, hcl, hW₂, hsm, hL⟩
  · obtain ⟨⟨v, rfl⟩, hW₂, e2, q2, q3, q4, q5, q6⟩ := id hfe
    have e3 : s₂ = ({ (U.calling g mk a).setFrames s₂.frames with heap := s₂.heap, slotsUsed := s₂.slotsUsed } : State).setVm s₂.vm := by
      have : s₂ = ({ s₂ with vm := (U.calling g mk a).vm } : State).setVm s₂.vm := rfl
      rw [e2] at this
      exact this
    obtain ⟨c₂, i₂, len₂, hc₂, hd₂, hf₂⟩ := hend
    have hW' : U.WarmedH s₂.vm := hW₂
    have hcc : c₂ = c := by
      have h1 : s₂.code? g.method = U.code? g.method := by
        rw [State.code?_eq, State.code?_eq, hW'.alike.method?]
      exact Option.some.inj (hc₂.symm.trans (h1.trans h.code))
    subst hcc
    have hlen : len₂ = len := by rw [hdg] at hd₂; cases hd₂; rfl
    subst hlen
    have hs₂ : s₂ = (({ U with heap := s₂.heap, slotsUsed := s₂.slotsUsed } : State).setVm s₂.vm).setTop { g with pc := g.pc + len₂, stack := v.toList ++ g.stack } := by
      refine e3.trans ?_
      rw [hf₂, State.calling_eq h.top, State.setFrames_setFrames, State.setTop_of_frames _ hr', hr]
      rfl
    have hsame : U.sameButNew ({ U with heap := s₂.heap, slotsUsed := s₂.slotsUsed } : State) L mc ms := by
      refine ⟨?_, q2, q3, q4, q5, q6⟩
      obtain ⟨t, ht, -⟩ := State.frames_cons hr
      show ({ U with heap := s₂.heap, slotsUsed := s₂.slotsUsed } : State) = { U.setFrames U.frames with heap := s₂.heap, slotsUsed := s₂.slotsUsed }
      rw [State.setFrames_self ht]
    subst hg
    refine Or.inl ⟨v, ⟨(({ U with heap := s₂.heap, slotsUsed := s₂.slotsUsed } : State).setVm s₂.vm), Ls ++ L, c0 + mc, s0 + ms⟩,
      ⟨X.admits, X.cas, X.clock, X.frames, X.room, X.hears, X.method, X.code, (X.here.setHeapUsed s₂.heap s₂.slotsUsed).setVm hW'.alike, X.tail, State.WarmedH.trans X.warmed hW', X.limits, X.bytes, X.same.trans (hsame.setVm s.vm)⟩,
      ⟨g, mk, s₂, L, rfl, rfl, hqc, rfl, hL, rfl, rfl⟩, ?_⟩
    show Steps p.tables e below _ ((({ U with heap := s₂.heap, slotsUsed := s₂.slotsUsed } : State).setVm s₂.vm).setTop { g with pc := g.pc + len₂, stack := v.toList ++ g.stack })
    rw [← hs₂]
    exact hsteps
  · obtain ⟨e2, q2, q3, q4, q5, q6⟩ := id hsm
    have e3 : s₂ = ({ (U.calling g mk a).setFrames s₂.frames with heap := s₂.heap, slotsUsed := s₂.slotsUsed } : State).setVm s₂.vm := by
      have : s₂ = ({ s₂ with vm := (U.calling g mk a).vm } : State).setVm s₂.vm := rfl
      rw [e2] at this
      exact this
    have hf₂ : s₂.frames = .throwing q :: .java g :: U.frames.tail := hend
    have hW' : U.WarmedH s₂.vm := hW₂
    have hs₂ : s₂ = ((({ U with heap := s₂.heap, slotsUsed := s₂.slotsUsed } : State).setVm s₂.vm).setTop g).pushFrame (.throwing q) := by
      refine e3.trans ?_
      rw [hf₂, State.calling_eq h.top, State.setFrames_setFrames, State.pushFrame, State.frames_setTop _ hr', State.setTop_of_frames _ hr', State.setFrames_setFrames, hr]
      rfl
    have hsame : U.sameButNew ({ U with heap := s₂.heap, slotsUsed := s₂.slotsUsed } : State) L mc ms := by
      refine ⟨?_, q2, q3, q4, q5, q6⟩
      obtain ⟨t, ht, -⟩ := State.frames_cons hr
      show ({ U with heap := s₂.heap, slotsUsed := s₂.slotsUsed } : State) = { U.setFrames U.frames with heap := s₂.heap, slotsUsed := s₂.slotsUsed }
      rw [State.setFrames_self ht]
    subst hg
    refine Or.inr ⟨q, ⟨(({ U with heap := s₂.heap, slotsUsed := s₂.slotsUsed } : State).setVm s₂.vm), Ls ++ L, c0 + mc, s0 + ms⟩,
      ⟨X.admits, X.cas, X.clock, X.frames, X.room, X.hears, X.method, X.code, (X.here.setHeapUsed s₂.heap s₂.slotsUsed).setVm hW'.alike, X.tail, State.WarmedH.trans X.warmed hW', X.limits, X.bytes, X.same.trans (hsame.setVm s.vm)⟩,
      ⟨g, mk, s₂, L, E, ce, rfl, rfl, hx, hce, hcv, hcl, rfl, hL, rfl, rfl⟩, ?_⟩
    show Steps p.tables e below _ (((({ U with heap := s₂.heap, slotsUsed := s₂.slotsUsed } : State).setVm s₂.vm).setTop g).pushFrame (.throwing q))
    rw [← hs₂]
    exact hsteps
end
variable {p : Program} {l : Launch} {e : Env} {R : Room} {s : State} {m : MethodId} {args : Array Value} {below : List Frame} {meth : Method} {c : Code} {T : State} {H : Heap} {locs : List Loc} {cells slots : Nat}
theorem vx_callVX (X : Stand p l e R s m args below meth c T locs cells slots) (hexec : p.tables.exec = Jvm.exec) {own C : String} {index : Nat} {y : MethodName} {bytes : ByteArray} {maxL : Nat} {ret : Option FieldType} {hh : List (Nat × Nat × Nat × Nat)}
    (hown : s.vm.findClass own = some m.cls) (hlink : (Cond.methodLink own index y).before args s = true) (hinst : (Cond.instanceMethod y).before args s = true) (hsel : (Cond.selects C y y).before args s = true)
    (hcode : (Cond.codeWith y bytes maxL ret hh).before args s = true) (hy : y.cls ≠ "java/lang/invoke/MethodHandle" ∧ y.cls ≠ "java/lang/invoke/VarHandle")
    {W9 : Nat} {Pre : Pt → Array Value → Prop} {Post : Pt → Array Value → Option Value → Pt → Prop} {PostX : Pt → Array Value → Addr → Pt → Prop} (hK : vx_Back l R p e below s args y 3 W9 Pre Post PostX)
    {b : Addr} {cellB : Cell} (hcell : T.heap[b]? = some cellB) (hobj : cellB.vm.isStatics = false) (hcls : s.vm.findClass C = some cellB.cls)
    {g : JFrame} (hg : g.method = m) (hsize : g.locals.size = c.maxLocals) {argsL rest : List Value} (hlen : ∀ sig, parseMethodDescriptor y.desc = some sig → argsL.length = sig.parameters.length)
    (hstack : g.stack = argsL.reverse ++ .ref b :: rest) (hW : 2 * g.monitorRoom + (rest.map fun v => v.category).sum ≤ W9) (hdg : decode c.code g.pc = .ok (.invokevirtual index, 3))
    (hpre : ∀ vm₁, s.WarmedH vm₁ → Pre ⟨T.setVm vm₁, locs, cells, slots⟩ (Value.ref b :: argsL).toArray) :
    (∃ (v : Option Value) (vm₁ : Vm) (B : Pt), s.WarmedH vm₁ ∧ Stand p l e R s m args below meth c B.U B.locs B.cells B.slots ∧ Post ⟨T.setVm vm₁, locs, cells, slots⟩ (Value.ref b :: argsL).toArray v B ∧
      ∀ target, Steps p.tables e below (B.U.setTop { g with pc := g.pc + 3, stack := v.toList ++ rest }) target → Steps p.tables e below (T.setTop g) target) ∨
    (∃ (q : Addr) (vm₁ : Vm) (B : Pt), s.WarmedH vm₁ ∧ Stand p l e R s m args below meth c B.U B.locs B.cells B.slots ∧ PostX ⟨T.setVm vm₁, locs, cells, slots⟩ (Value.ref b :: argsL).toArray q B ∧
      Steps p.tables e below (T.setTop g) ((B.U.setTop { g with stack := rest }).pushFrame (.throwing q))) := by
  obtain ⟨mk, methM, hnamed, hmethM, hstM, habM⟩ := Cond.instanceMethod_spec hinst
  obtain ⟨m8, methM', cM, hn8, hmethM', -, -, -, -, -, -, hsigM⟩ := Cond.codeWith_spec hcode
  cases Option.some.inj (hn8.symm.trans hnamed)
  cases hmethM.symm.trans hmethM'
  obtain ⟨c2, r2, m2, q1, q2, q3, q4, kP, hkP, hkPi⟩ := Cond.selects_spec hsel
  cases hcls.symm.trans q1
  cases (State.methodFound?_of_named hnamed hy).symm.trans q2
  cases hnamed.symm.trans q3
  have hselP : selectMethod e.platform s.vm cellB.cls mk = .method mk := by rw [Launch.admits_selectMethod X.admits]; exact q4
  obtain ⟨vm₁, X₁, hstep₁⟩ := X.invokevirtual hexec hown hlink hnamed hmethM hstM hkP hkPi hy (a := b) (cell := cellB) hcell
    (fun z h => by rw [h] at hobj; cases hobj) hselP hmethM habM hkP hkPi (g := g) hg (argsL := argsL) (rest := rest) (hlen _ hsigM) hstack hdg
  rcases hK m meth c ⟨T.setVm vm₁, locs, cells, slots⟩ { g with stack := rest } (.invokevirtual index) mk (Value.ref b :: argsL).toArray X₁ hg hsize hdg hW (X₁.named hnamed) (hpre vm₁ X₁.warmed) with ⟨v, B, X', hpost, hsteps⟩ | ⟨q, B, X', hpost, hsteps⟩
  · exact Or.inl ⟨v, vm₁, B, X₁.warmed, X', hpost, fun target h => hstep₁ _ fun acts => by rw [doInvoke_state]; exact hsteps.trans h⟩
  · exact Or.inr ⟨q, vm₁, B, X₁.warmed, X', hpost, hstep₁ _ fun acts => by rw [doInvoke_state]; exact hsteps⟩
theorem vx_callSX (X : Stand p l e R s m args below meth c T locs cells slots) (hexec : p.tables.exec = Jvm.exec) {own : String} {index : Nat} {y : MethodName} {bytes : ByteArray} {maxL : Nat} {ret : Option FieldType} {hh : List (Nat × Nat × Nat × Nat)}
    (hown : s.vm.findClass own = some m.cls) (hlink : (Cond.methodLink own index y).before args s = true) (hstat : (Cond.static y).before args s = true) (hinit : (Cond.initialized y.cls).before args s = true)
    (hcode : (Cond.codeWith y bytes maxL ret hh).before args s = true) (hy : y.cls ≠ "java/lang/invoke/MethodHandle" ∧ y.cls ≠ "java/lang/invoke/VarHandle")
    {W9 : Nat} {Pre : Pt → Array Value → Prop} {Post : Pt → Array Value → Option Value → Pt → Prop} {PostX : Pt → Array Value → Addr → Pt → Prop} (hK : vx_Back l R p e below s args y 3 W9 Pre Post PostX)
    {g : JFrame} (hg : g.method = m) (hsize : g.locals.size = c.maxLocals) {argsL rest : List Value} (hlen : ∀ sig, parseMethodDescriptor y.desc = some sig → argsL.length = sig.parameters.length)
    (hstack : g.stack = argsL.reverse ++ rest) (hW : 2 * g.monitorRoom + (rest.map fun v => v.category).sum ≤ W9) (hdg : decode c.code g.pc = .ok (.invokestatic index, 3))
    (hpre : ∀ vm₁, s.WarmedH vm₁ → Pre ⟨T.setVm vm₁, locs, cells, slots⟩ argsL.toArray) :
    (∃ (v : Option Value) (vm₁ : Vm) (B : Pt), s.WarmedH vm₁ ∧ Stand p l e R s m args below meth c B.U B.locs B.cells B.slots ∧ Post ⟨T.setVm vm₁, locs, cells, slots⟩ argsL.toArray v B ∧
      ∀ target, Steps p.tables e below (B.U.setTop { g with pc := g.pc + 3, stack := v.toList ++ rest }) target → Steps p.tables e below (T.setTop g) target) ∨
    (∃ (q : Addr) (vm₁ : Vm) (B : Pt), s.WarmedH vm₁ ∧ Stand p l e R s m args below meth c B.U B.locs B.cells B.slots ∧ PostX ⟨T.setVm vm₁, locs, cells, slots⟩ argsL.toArray q B ∧
      Steps p.tables e below (T.setTop g) ((B.U.setTop { g with stack := rest }).pushFrame (.throwing q))) := by
  obtain ⟨mk, methM, cM, hnamed, hmethM, -, -, -, -, -, -, hsigM⟩ := Cond.codeWith_spec hcode
  have hstatic : methM.isStatic = true := Cond.static_spec hnamed hmethM hstat
  obtain ⟨kP, hkP, -⟩ := className_of_methodNamed hnamed
  have hinitP : kP.init = .initialized := Cond.initialized_spec (findClass_of_methodNamed hnamed) hkP hinit
  obtain ⟨vm₁, X₁, hstep₁⟩ := X.invokestatic hexec hown hlink hnamed hmethM hstatic hkP hinitP hy (g := g) hg (argsL := argsL) (rest := rest) (hlen _ hsigM) hstack hdg
  rcases hK m meth c ⟨T.setVm vm₁, locs, cells, slots⟩ { g with stack := rest } (.invokestatic index) mk argsL.toArray X₁ hg hsize hdg hW (X₁.named hnamed) (hpre vm₁ X₁.warmed) with ⟨v, B, X', hpost, hsteps⟩ | ⟨q, B, X', hpost, hsteps⟩
  · exact Or.inl ⟨v, vm₁, B, X₁.warmed, X', hpost, fun target h => hstep₁ _ fun acts => by rw [doInvoke_state]; exact hsteps.trans h⟩
  · exact Or.inr ⟨q, vm₁, B, X₁.warmed, X', hpost, hstep₁ _ fun acts => by rw [doInvoke_state]; exact hsteps⟩
theorem vx_callVW (X : Stand p l e R s m args below meth c T locs cells slots) (hexec : p.tables.exec = Jvm.exec) {own C : String} {index : Nat} {y : MethodName} {bytes : ByteArray} {maxL : Nat} {ret : Option FieldType} {hh : List (Nat × Nat × Nat × Nat)}
    (hown : s.vm.findClass own = some m.cls) (hlink : (Cond.methodLink own index y).before args s = true) (hinst : (Cond.instanceMethod y).before args s = true) (hsel : (Cond.selects C y y).before args s = true)
    (hcode : (Cond.codeWith y bytes maxL ret hh).before args s = true) (hy : y.cls ≠ "java/lang/invoke/MethodHandle" ∧ y.cls ≠ "java/lang/invoke/VarHandle")
    {W9 : Nat} {Pre : Pt → Array Value → Prop} {Post : Pt → Array Value → Option Value → Pt → Prop} (hK : Back l R p e below s args y 3 W9 Pre Post)
    {b : Addr} {cellB : Cell} (hcell : T.heap[b]? = some cellB) (hobj : cellB.vm.isStatics = false) (hcls : s.vm.findClass C = some cellB.cls)
    {g : JFrame} (hg : g.method = m) (hsize : g.locals.size = c.maxLocals) {argsL rest : List Value} (hlen : ∀ sig, parseMethodDescriptor y.desc = some sig → argsL.length = sig.parameters.length)
    (hstack : g.stack = argsL.reverse ++ .ref b :: rest) (hW : 2 * g.monitorRoom + (rest.map fun v => v.category).sum ≤ W9) (hdg : decode c.code g.pc = .ok (.invokevirtual index, 3))
    (hpre : ∀ vm₁, s.WarmedH vm₁ → Pre ⟨T.setVm vm₁, locs, cells, slots⟩ (Value.ref b :: argsL).toArray) :
    ∃ (v : Option Value) (vm₁ : Vm) (B : Pt), s.WarmedH vm₁ ∧ Stand p l e R s m args below meth c B.U B.locs B.cells B.slots ∧ Post ⟨T.setVm vm₁, locs, cells, slots⟩ (Value.ref b :: argsL).toArray v B ∧
      ∀ target, Steps p.tables e below (B.U.setTop { g with pc := g.pc + 3, stack := v.toList ++ rest }) target → Steps p.tables e below (T.setTop g) target := by
  obtain ⟨mk, methM, hnamed, hmethM, hstM, habM⟩ := Cond.instanceMethod_spec hinst
  obtain ⟨m8, methM', cM, hn8, hmethM', -, -, -, -, -, -, hsigM⟩ := Cond.codeWith_spec hcode
  cases Option.some.inj (hn8.symm.trans hnamed)
  cases hmethM.symm.trans hmethM'
  obtain ⟨c2, r2, m2, q1, q2, q3, q4, kP, hkP, hkPi⟩ := Cond.selects_spec hsel
  cases hcls.symm.trans q1
  cases (State.methodFound?_of_named hnamed hy).symm.trans q2
  cases hnamed.symm.trans q3
  have hselP : selectMethod e.platform s.vm cellB.cls mk = .method mk := by rw [Launch.admits_selectMethod X.admits]; exact q4
  obtain ⟨vm₁, X₁, hstep₁⟩ := X.invokevirtual hexec hown hlink hnamed hmethM hstM hkP hkPi hy (a := b) (cell := cellB) hcell
    (fun z h => by rw [h] at hobj; cases hobj) hselP hmethM habM hkP hkPi (g := g) hg (argsL := argsL) (rest := rest) (hlen _ hsigM) hstack hdg
  obtain ⟨v, B, X', hpost, hsteps⟩ := hK m meth c ⟨T.setVm vm₁, locs, cells, slots⟩ { g with stack := rest } (.invokevirtual index) mk (Value.ref b :: argsL).toArray X₁ hg hsize hdg hW (X₁.named hnamed) (hpre vm₁ X₁.warmed)
  exact ⟨v, vm₁, B, X₁.warmed, X', hpost, fun target h => hstep₁ _ fun acts => by rw [doInvoke_state]; exact hsteps.trans h⟩
abbrev vx_CVW (R : Room) (s : State) (args : Array Value) (own C : String) (index : Nat) (y : MethodName) (bytes : ByteArray) (maxL : Nat) (ret : Option FieldType) (hh : List (Nat × Nat × Nat × Nat)) (ws : List Cond) (rm : Room) (mc ms n : Nat) : Prop :=
  (rm.cells = mc ∧ rm.slots = ms ∧ rm.frames + 1 ≤ R.frames ∧ 8 + (maxL + 11) + rm.locals ≤ R.locals ∧ (∀ w ∈ ws, ∀ (a' : Array Value) (U : State), s.WarmedH U.vm → w.before a' U = true) ∧ Cond.codeWith y bytes maxL ret hh ∈ ws) ∧
  (Cond.codeWith y bytes maxL ret hh).before args s = true ∧ (Cond.initialized y.cls).before args s = true ∧ (y.cls ≠ "java/lang/invoke/MethodHandle" ∧ y.cls ≠ "java/lang/invoke/VarHandle") ∧
  (∀ sig, parseMethodDescriptor y.desc = some sig → n = sig.parameters.length) ∧ (Cond.methodLink own index y).before args s = true ∧ (Cond.instanceMethod y).before args s = true ∧ (Cond.selects C y y).before args s = true
theorem vx_cwVW {own C : String} {index maxL mc ms : Nat} {y : MethodName} {bytes : ByteArray} {ret : Option FieldType} {hh : List (Nat × Nat × Nat × Nat)} {Ts ws ws' : List Cond} {rm : Room} (n : Nat) (ht : ∀ w ∈ Ts, w.before args s = true) (hT : GoodIn Ts (wsV own index C y ws)) (hw : ws = Cond.codeWith y bytes maxL ret hh :: ws') (hrc : rm.cells = mc) (hrs : rm.slots = ms)
    (hd : y.cls = C ∧ y.cls ≠ "java/lang/invoke/MethodHandle" ∧ y.cls ≠ "java/lang/invoke/VarHandle" ∧ (parseMethodDescriptor y.desc).map (fun d => d.parameters.length) = some n) (hR : rm.frames + 1 ≤ R.frames ∧ 8 + (maxL + 11) + rm.locals ≤ R.locals) :
    vx_CVW R s args own C index y bytes maxL ret hh ws rm mc ms n := by
  obtain ⟨hC, hd⟩ := hd
  subst hC
  have ok : ∀ w ∈ wsV own index y.cls y ws, w.before args s = true := fun w h => ht w (hT w h).1
  have hG : GoodIn Ts ws := fun w h => hT w (by unfold wsV; exact List.mem_append_right _ h)
  have hc : Cond.codeWith y bytes maxL ret hh ∈ ws := by rw [hw]; exact List.mem_cons_self
  refine ⟨⟨hrc, hrs, hR.1, hR.2, pay_in ht hG, hc⟩, ht _ (hG _ hc).1, ok _ (by simp [wsV]), ⟨hd.1, hd.2.1⟩, fun sig h => ?_, ok _ (by simp [wsV]), ok _ (by simp [wsV]), ok _ (by simp [wsV])⟩
  have h2 := hd.2.2
  rw [h] at h2
  exact (Option.some.inj h2).symm
theorem vx_runVW {y : MethodName} {bytes cc : ByteArray} {maxL nL mc ms n index : Nat} {ret : Option FieldType} {hh : List (Nat × Nat × Nat × Nat)} {ws : List Cond} {rm : Room} {Pc : Array Value → State → Prop} {Qc : Array Value → State → Outcome → State → Prop} {free : Addr → Prop} {Ts : List Cond} {own C : String} {b : Addr} {As rest : List Value} {g : JFrame}
    (S : CallFix p m c cc nL s args Ts own) (hM : Met l y ws rm Pc Qc mc ms free) (cw : vx_CVW R s args own C index y bytes maxL ret hh ws rm mc ms n) (hp : PreV s H C b Pc As)
    (hg : g.method = m) (hn : As.length = n) (hsize : g.locals.size = nL) (hstack : g.stack = As.reverse ++ .ref b :: rest) (hW : 2 * g.monitorRoom + (rest.map fun v => v.category).sum ≤ 8) (hdg : decode cc g.pc = .ok (.invokevirtual index, 3)) (hf : cells + mc ≤ R.cells ∧ slots + ms ≤ R.slots) :
    va_Run p l e R s m args below meth c H locs cells slots mc ms g rest (Qc (Value.ref b :: As).toArray) free := by
  obtain ⟨⟨hrc, hrs, hfr, hlo, hws, hcw⟩, hcode, hini, hy, hlen, hl, hin, hse⟩ := cw
  have hK : Back l R p e below s args y 3 8 (PreOf R mc ms Pc) (PostOf Qc mc ms free) := va_backW (hh := hh) (bytes := bytes) (maxL := maxL) (ret := ret) hM hp.1 hrc hrs hfr hlo hws hcw (fun a' U hW => word_at hW (Or.inl (by first | rfl | simp [Cond.onTables, Cond.keeps, Cond.steady])) hini)
  obtain ⟨hx, hb, hml, ho, -⟩ := S
  obtain ⟨-, ⟨cellB, hcB, hoB, hclB⟩, hPc⟩ := hp
  intro T hT X
  obtain ⟨v, vm₁, ⟨U', l2, c2, s2⟩, hW₁, X', ⟨g', mk, t, L, e1, e2, hq, h1, hL, h2, h3⟩, st⟩ := vx_callVW X hx (C := C) (hh := hh) (bytes := bytes) (maxL := maxL) (ret := ret) ho hl hin hse hcode hy hK (by rw [hT]; exact hcB) hoB hclB hg (hsize.trans hml.symm) (argsL := As) (rest := rest) (fun sig h => hn.trans (hlen sig h)) hstack hW (by rw [hb]; exact hdg)
    (fun vm₁ hW₁ => ⟨hf.1, hf.2, hPc (T.setVm vm₁) hT hW₁⟩)
  dsimp only [Pt.U, Pt.locs, Pt.cells, Pt.slots] at X' e1 e2 h1 h2 h3 st
  subst h1; subst h2; subst h3
  exact ⟨v, (T.setVm vm₁).calling g' mk (Value.ref b :: As).toArray, t, U', L, hT, X', hL, e1, e2, hq, st⟩
section
variable {y : MethodName} {bytes cc : ByteArray} {maxL nL mc ms n index : Nat} {ret : Option FieldType} {ws : List Cond} {rm : Room} {Pc : Array Value → State → Prop} {Qc : Array Value → State → Outcome → State → Prop} {XC : String → State → State → Prop} {free : Addr → Prop} {Ts : List Cond} {own C : String} {b : Addr} {As rest : List Value} {g : JFrame}
theorem vx_runVX {hh : List (Nat × Nat × Nat × Nat)} (S : CallFix p m c cc nL s args Ts own) (hM : vx_Met l y ws rm Pc Qc XC mc ms free) (cw : vx_CVW R s args own C index y bytes maxL ret hh ws rm mc ms n) (hp : PreV s H C b Pc As)
    (hg : g.method = m) (hn : As.length = n) (hsize : g.locals.size = nL) (hstack : g.stack = As.reverse ++ .ref b :: rest) (hW : 2 * g.monitorRoom + (rest.map fun v => v.category).sum ≤ 8) (hdg : decode cc g.pc = .ok (.invokevirtual index, 3)) (hf : cells + mc ≤ R.cells ∧ slots + ms ≤ R.slots) :
    vx_Run p l e R s m args below meth c H locs cells slots mc ms g rest (Qc (Value.ref b :: As).toArray) XC free := by
  obtain ⟨⟨hrc, hrs, hfr, hlo, hws, hcw⟩, hcode, hini, hy, hlen, hl, hin, hse⟩ := cw
  have hK : vx_Back l R p e below s args y 3 8 (PreOf R mc ms Pc) (PostOf Qc mc ms free) (vx_Post XC mc ms free) := vx_backW (hh := hh) (bytes := bytes) (maxL := maxL) (ret := ret) hM hp.1 hrc hrs hfr hlo hws hcw (fun a' U hW => word_at hW (Or.inl (by first | rfl | simp [Cond.onTables, Cond.keeps, Cond.steady])) hini)
  obtain ⟨hx, hb, hml, ho, -⟩ := S
  obtain ⟨-, ⟨cellB, hcB, hoB, hclB⟩, hPc⟩ := hp
  intro T hT X
  rcases vx_callVX X hx (C := C) (hh := hh) (bytes := bytes) (maxL := maxL) (ret := ret) ho hl hin hse hcode hy hK (by rw [hT]; exact hcB) hoB hclB hg (hsize.trans hml.symm) (argsL := As) (rest := rest) (fun sig h => hn.trans (hlen sig h)) hstack hW (by rw [hb]; exact hdg)
    (fun vm₁ hW₁ => ⟨hf.1, hf.2, hPc (T.setVm vm₁) hT hW₁⟩) with ⟨v, vm₁, ⟨U', l2, c2, s2⟩, hW₁, X', ⟨g', mk, t, L, e1, e2, hq, h1, hL, h2, h3⟩, st⟩ | ⟨q, vm₁, ⟨U', l2, c2, s2⟩, hW₁, X', ⟨g', mk, t, L, E, ce, e1, e2, hq, hce, hcv, hcl, h1, hL, h2, h3⟩, st⟩
  · dsimp only [Pt.U, Pt.locs, Pt.cells, Pt.slots] at X' e1 e2 h1 h2 h3 st
    subst h1; subst h2; subst h3
    exact Or.inl ⟨v, (T.setVm vm₁).calling g' mk (Value.ref b :: As).toArray, t, U', L, hT, X', hL, e1, e2, hq, st⟩
  · dsimp only [Pt.U, Pt.locs, Pt.cells, Pt.slots] at X' e1 e2 h1 h2 h3 st hcl
    subst h1; subst h2; subst h3
    exact Or.inr ⟨q, (T.setVm vm₁).calling g' mk (Value.ref b :: As).toArray, t, U', L, E, ce, hT, X', hL, e1, e2, hq, hce, hcv, vx_cls hW₁ hcl, st⟩
theorem vx_runSX {hh : List (Nat × Nat × Nat × Nat)} (S : CallFix p m c cc nL s args Ts own) (hM : vx_Met l y ws rm Pc Qc XC mc ms free) (cw : vx_CSW R s args own index y bytes maxL ret hh ws rm mc ms n) (hp : PreS s H Pc As)
    (hg : g.method = m) (hn : As.length = n) (hsize : g.locals.size = nL) (hstack : g.stack = As.reverse ++ rest) (hW : 2 * g.monitorRoom + (rest.map fun v => v.category).sum ≤ 8) (hdg : decode cc g.pc = .ok (.invokestatic index, 3)) (hf : cells + mc ≤ R.cells ∧ slots + ms ≤ R.slots) :
    vx_Run p l e R s m args below meth c H locs cells slots mc ms g rest (Qc As.toArray) XC free := by
  obtain ⟨⟨hrc, hrs, hfr, hlo, hws, hcw⟩, hcode, hini, hy, hlen, hl, hstt⟩ := cw
  have hK : vx_Back l R p e below s args y 3 8 (PreOf R mc ms Pc) (PostOf Qc mc ms free) (vx_Post XC mc ms free) := vx_backW (hh := hh) (bytes := bytes) (maxL := maxL) (ret := ret) hM hp.1 hrc hrs hfr hlo hws hcw (fun a' U hW => word_at hW (Or.inl (by first | rfl | simp [Cond.onTables, Cond.keeps, Cond.steady])) hini)
  obtain ⟨hx, hb, hml, ho, -⟩ := S
  intro T hT X
  rcases vx_callSX X hx (hh := hh) (bytes := bytes) (maxL := maxL) (ret := ret) ho hl hstt hini hcode hy hK hg (hsize.trans hml.symm) (argsL := As) (rest := rest) (fun sig h => hn.trans (hlen sig h)) hstack hW (by rw [hb]; exact hdg)
    (fun vm₁ hW₁ => ⟨hf.1, hf.2, hp.2 (T.setVm vm₁) hT hW₁⟩) with ⟨v, vm₁, ⟨U', l2, c2, s2⟩, hW₁, X', ⟨g', mk, t, L, e1, e2, hq, h1, hL, h2, h3⟩, st⟩ | ⟨q, vm₁, ⟨U', l2, c2, s2⟩, hW₁, X', ⟨g', mk, t, L, E, ce, e1, e2, hq, hce, hcv, hcl, h1, hL, h2, h3⟩, st⟩
  · dsimp only [Pt.U, Pt.locs, Pt.cells, Pt.slots] at X' e1 e2 h1 h2 h3 st
    subst h1; subst h2; subst h3
    exact Or.inl ⟨v, (T.setVm vm₁).calling g' mk As.toArray, t, U', L, hT, X', hL, e1, e2, hq, st⟩
  · dsimp only [Pt.U, Pt.locs, Pt.cells, Pt.slots] at X' e1 e2 h1 h2 h3 st hcl
    subst h1; subst h2; subst h3
    exact Or.inr ⟨q, (T.setVm vm₁).calling g' mk As.toArray, t, U', L, E, ce, hT, X', hL, e1, e2, hq, hce, hcv, vx_cls hW₁ hcl, st⟩
end
end VXH
theorem vx_ofWH {l : Launch} {y : MethodName} {ws ws' : List Cond} {rm : Room} {Pc : Array Value → State → Prop} {Qc : Array Value → State → Outcome → State → Prop} {XC : String → State → State → Prop} {mc ms : Nat} {free : Addr → Prop} {cc : ByteArray} {maxL : Nat} {ret : Option FieldType} {hh : List (Nat × Nat × Nat × Nat)}
    (hy : plainName y.cls = true) (hw : ws = Cond.codeWith y cc maxL ret hh :: ws')
    (body : ∀ p e s m args below meth c s₁, BodyLoose p l y (headSpec ws rm) cc maxL ret e s m args below meth c s₁ → c.maxLocals = maxL → Pc args s →
      W p l e (headSpec ws rm).room s m args below meth c s.heap [] 0 0 (vx_MQ below Qc XC args s mc ms free) (entryFrame m args maxL)) : vx_Met l y ws rm Pc Qc XC mc ms free := by
  refine MetFree.of_bodyS (code := cc) (maxLocals := maxL) (ret := ret) hy ?_ ?_
  · intro args s m h hn
    obtain ⟨m9, meth, c, hn9, h1, h2, h3, h4, -, h5, h6, -⟩ := Cond.codeWith_spec (atoms_spec (ws := ws) h _ (by rw [hw]; exact List.mem_cons_self))
    cases hn.symm.trans hn9
    exact ⟨meth, c, h1, h2, h3, h4, h5, h6⟩
  · intro p e s m args below meth c s₁ B hml hP _
    have hh0 : s₁.heap = s.heap := by rw [B.state]; rfl
    obtain ⟨t, a1, o, b1, b2, b3⟩ := body p e s m args below meth c s₁ B hml hP s₁ hh0 (Stand.of_body B)
    exact ⟨t, o, a1, b1, b2, b3⟩
/-! ===== END ===== -/

/-! ===== BEGIN printed: names, fields, word lists, decode rows ===== -/
def RX0 : String := "SumBlocks$Blocks"
def TX0 : u_T := fun k => match k with
  | 0 => ("SumBlocks$Blocks", "addresses", "[I", true)
  | 1 => ("SumBlocks$Blocks", "orders", "[I", true)
  | 2 => ("SumBlocks$Blocks", "counts", "[I", true)
  | 3 => ("SumBlocks$Blocks", "owners", "[I", true)
  | 4 => ("SumBlocks$Blocks", "many", "I", false)
  | _ => ("SumBlocks$Blocks", "top", "I", false)
def tyX0 : Nat → FieldType := fun k => match k with
  | 0 => .array .int
  | 1 => .array .int
  | 2 => .array .int
  | 3 => .array .int
  | 4 => .int
  | _ => .int
abbrev wsX00 : List Cond := u_ws RX0 TX0 6
theorem nmX0 : ∀ a, a < 6 → ∀ b, b < 6 → a ≠ b → (TX0 a).2.1 ≠ (TX0 b).2.1 := by decide +kernel
theorem tyX0_ok : ∀ k, k < 6 → parseFieldDescriptor (TX0 k).2.2.1 = some (tyX0 k) := by decide +kernel
abbrev cX0_init : ByteArray := prog_2_method_1_code
def yX0_init : MethodName := ⟨RX0, "<init>", "()V"⟩
abbrev cX0_startWhole : ByteArray := prog_2_method_2_code
def yX0_startWhole : MethodName := ⟨RX0, "startWhole", "(I)V"⟩
abbrev cX0_copyFrom : ByteArray := prog_2_method_3_code
def yX0_copyFrom : MethodName := ⟨RX0, "copyFrom", "(LSumBlocks$Blocks;)V"⟩
abbrev cX0_has : ByteArray := prog_2_method_4_code
def yX0_has : MethodName := ⟨RX0, "has", "(I)Z"⟩
abbrev cX0_addressAt : ByteArray := prog_2_method_5_code
def yX0_addressAt : MethodName := ⟨RX0, "addressAt", "(I)I"⟩
abbrev cX0_orderAt : ByteArray := prog_2_method_6_code
def yX0_orderAt : MethodName := ⟨RX0, "orderAt", "(I)I"⟩
abbrev cX0_countAt : ByteArray := prog_2_method_7_code
def yX0_countAt : MethodName := ⟨RX0, "countAt", "(I)I"⟩
abbrev cX0_ownerAt : ByteArray := prog_2_method_8_code
def yX0_ownerAt : MethodName := ⟨RX0, "ownerAt", "(I)I"⟩
abbrev cX0_isFreeAt : ByteArray := prog_2_method_9_code
def yX0_isFreeAt : MethodName := ⟨RX0, "isFreeAt", "(I)Z"⟩
abbrev cX0_setOwner : ByteArray := prog_2_method_10_code
def yX0_setOwner : MethodName := ⟨RX0, "setOwner", "(II)V"⟩
abbrev cX0_cutAt : ByteArray := prog_2_method_11_code
def yX0_cutAt : MethodName := ⟨RX0, "cutAt", "(I)V"⟩
abbrev cX0_replace : ByteArray := prog_2_method_12_code
def yX0_replace : MethodName := ⟨RX0, "replace", "(LSumBlocks$Span;I)V"⟩
abbrev cX0_placeOfOwner : ByteArray := prog_2_method_13_code
def yX0_placeOfOwner : MethodName := ⟨RX0, "placeOfOwner", "(I)I"⟩
abbrev cX0_placeOfCell : ByteArray := prog_2_method_14_code
def yX0_placeOfCell : MethodName := ⟨RX0, "placeOfCell", "(I)I"⟩
abbrev cX0_placeOfBlock : ByteArray := prog_2_method_15_code
def yX0_placeOfBlock : MethodName := ⟨RX0, "placeOfBlock", "(II)I"⟩
abbrev cX0_placeOfFree : ByteArray := prog_2_method_16_code
def yX0_placeOfFree : MethodName := ⟨RX0, "placeOfFree", "(IZ)I"⟩
abbrev cX0_manyOf : ByteArray := prog_2_method_17_code
def yX0_manyOf : MethodName := ⟨RX0, "manyOf", "(IZ)I"⟩
abbrev cX0_manyFree : ByteArray := prog_2_method_18_code
def yX0_manyFree : MethodName := ⟨RX0, "manyFree", "()I"⟩
abbrev cX0_freeCells : ByteArray := prog_2_method_19_code
def yX0_freeCells : MethodName := ⟨RX0, "freeCells", "()I"⟩
abbrev cX0_greatestFreeOrder : ByteArray := prog_2_method_20_code
def yX0_greatestFreeOrder : MethodName := ⟨RX0, "greatestFreeOrder", "()I"⟩
abbrev cX0_partnerByWay : ByteArray := prog_2_method_21_code
def yX0_partnerByWay : MethodName := ⟨RX0, "partnerByWay", "(I)I"⟩
abbrev cX0_put : ByteArray := prog_2_method_22_code
def yX0_put : MethodName := ⟨RX0, "put", "(IIIII)V"⟩
abbrev cX0_move : ByteArray := prog_2_method_23_code
def yX0_move : MethodName := ⟨RX0, "move", "(II)V"⟩
def RX1 : String := "SumBlocks$Memory"
def TX1 : u_T := fun k => match k with
  | 0 => ("SumBlocks$Memory", "blocks", "LSumBlocks$Blocks;", true)
  | 1 => ("SumBlocks$Memory", "span", "LSumBlocks$Span;", true)
  | 2 => ("SumBlocks$Memory", "wishes", "[I", true)
  | 3 => ("SumBlocks$Memory", "settings", "[I", true)
  | 4 => ("SumBlocks$Memory", "cuts", "I", false)
  | 5 => ("SumBlocks$Memory", "joins", "I", false)
  | _ => ("SumBlocks$Memory", "granted", "I", false)
def tyX1 : Nat → FieldType := fun k => match k with
  | 0 => .object "SumBlocks$Blocks"
  | 1 => .object "SumBlocks$Span"
  | 2 => .array .int
  | 3 => .array .int
  | 4 => .int
  | 5 => .int
  | _ => .int
abbrev wsX10 : List Cond := u_ws RX1 TX1 7
theorem nmX1 : ∀ a, a < 7 → ∀ b, b < 7 → a ≠ b → (TX1 a).2.1 ≠ (TX1 b).2.1 := by decide +kernel
theorem tyX1_ok : ∀ k, k < 7 → parseFieldDescriptor (TX1 k).2.2.1 = some (tyX1 k) := by decide +kernel
abbrev cX1_init : ByteArray := prog_3_method_1_code
def yX1_init : MethodName := ⟨RX1, "<init>", "()V"⟩
abbrev cX1_startWhole : ByteArray := prog_3_method_2_code
def yX1_startWhole : MethodName := ⟨RX1, "startWhole", "(I)V"⟩
abbrev cX1_copyFrom : ByteArray := prog_3_method_3_code
def yX1_copyFrom : MethodName := ⟨RX1, "copyFrom", "(LSumBlocks$Memory;)V"⟩
abbrev cX1_hasUse : ByteArray := prog_3_method_4_code
def yX1_hasUse : MethodName := ⟨RX1, "hasUse", "(I)Z"⟩
abbrev cX1_wishOf : ByteArray := prog_3_method_5_code
def yX1_wishOf : MethodName := ⟨RX1, "wishOf", "(I)I"⟩
abbrev cX1_settingValue : ByteArray := prog_3_method_6_code
def yX1_settingValue : MethodName := ⟨RX1, "settingValue", "(I)I"⟩
abbrev cX1_changeSetting : ByteArray := prog_3_method_7_code
def yX1_changeSetting : MethodName := ⟨RX1, "changeSetting", "(II)I"⟩
abbrev cX1_canGrant : ByteArray := prog_3_method_8_code
def yX1_canGrant : MethodName := ⟨RX1, "canGrant", "(I)Z"⟩
abbrev cX1_grant : ByteArray := prog_3_method_9_code
def yX1_grant : MethodName := ⟨RX1, "grant", "(I)I"⟩
abbrev cX1_release : ByteArray := prog_3_method_10_code
def yX1_release : MethodName := ⟨RX1, "release", "(I)I"⟩
abbrev cX1_releaseAll : ByteArray := prog_3_method_11_code
def yX1_releaseAll : MethodName := ⟨RX1, "releaseAll", "()I"⟩
abbrev cX1_canEnlarge : ByteArray := prog_3_method_12_code
def yX1_canEnlarge : MethodName := ⟨RX1, "canEnlarge", "(II)Z"⟩
abbrev cX1_enlarge : ByteArray := prog_3_method_13_code
def yX1_enlarge : MethodName := ⟨RX1, "enlarge", "(II)I"⟩
abbrev cX1_reduce : ByteArray := prog_3_method_14_code
def yX1_reduce : MethodName := ⟨RX1, "reduce", "(II)I"⟩
abbrev cX1_blockProperty : ByteArray := prog_3_method_15_code
def yX1_blockProperty : MethodName := ⟨RX1, "blockProperty", "(II)I"⟩
abbrev cX1_useProperty : ByteArray := prog_3_method_16_code
def yX1_useProperty : MethodName := ⟨RX1, "useProperty", "(II)I"⟩
abbrev cX1_countOf : ByteArray := prog_3_method_17_code
def yX1_countOf : MethodName := ⟨RX1, "countOf", "(I)I"⟩
abbrev cX1_wishProperty : ByteArray := prog_3_method_18_code
def yX1_wishProperty : MethodName := ⟨RX1, "wishProperty", "(II)I"⟩
abbrev cX1_joinsIfReleased : ByteArray := prog_3_method_19_code
def yX1_joinsIfReleased : MethodName := ⟨RX1, "joinsIfReleased", "(I)I"⟩
abbrev cX1_greatestSizeFor : ByteArray := prog_3_method_20_code
def yX1_greatestSizeFor : MethodName := ⟨RX1, "greatestSizeFor", "(I)I"⟩
abbrev cX1_useInTheWay : ByteArray := prog_3_method_21_code
def yX1_useInTheWay : MethodName := ⟨RX1, "useInTheWay", "()I"⟩
abbrev cX1_shareOfWaste : ByteArray := prog_3_method_22_code
def yX1_shareOfWaste : MethodName := ⟨RX1, "shareOfWaste", "()D"⟩
abbrev cX1_numberForNewUse : ByteArray := prog_3_method_23_code
def yX1_numberForNewUse : MethodName := ⟨RX1, "numberForNewUse", "()I"⟩
abbrev cX1_placeFor : ByteArray := prog_3_method_24_code
def yX1_placeFor : MethodName := ⟨RX1, "placeFor", "(I)I"⟩
abbrev cX1_isCutFor : ByteArray := prog_3_method_25_code
def yX1_isCutFor : MethodName := ⟨RX1, "isCutFor", "(II)Z"⟩
abbrev cX1_goesRight : ByteArray := prog_3_method_26_code
def yX1_goesRight : MethodName := ⟨RX1, "goesRight", "(II)Z"⟩
abbrev cX1_cutAt : ByteArray := prog_3_method_27_code
def yX1_cutAt : MethodName := ⟨RX1, "cutAt", "(I)V"⟩
abbrev cX1_replaceBySpan : ByteArray := prog_3_method_28_code
def yX1_replaceBySpan : MethodName := ⟨RX1, "replaceBySpan", "(I)V"⟩
abbrev cX1_manyUses : ByteArray := prog_3_method_29_code
def yX1_manyUses : MethodName := ⟨RX1, "manyUses", "()I"⟩
abbrev cX1_wishedCells : ByteArray := prog_3_method_30_code
def yX1_wishedCells : MethodName := ⟨RX1, "wishedCells", "()I"⟩
abbrev cX1_usedCells : ByteArray := prog_3_method_31_code
def yX1_usedCells : MethodName := ⟨RX1, "usedCells", "()I"⟩
def RX2 : String := "SumBlocks$OrderText"
def TX2 : u_T := fun k => match k with
  | 0 => ("SumBlocks$OrderText", "codes", "[I", true)
  | _ => ("SumBlocks$OrderText", "length", "I", false)
def tyX2 : Nat → FieldType := fun k => match k with
  | 0 => .array .int
  | _ => .int
abbrev wsX20 : List Cond := u_ws RX2 TX2 2
theorem nmX2 : ∀ a, a < 2 → ∀ b, b < 2 → a ≠ b → (TX2 a).2.1 ≠ (TX2 b).2.1 := by decide +kernel
theorem tyX2_ok : ∀ k, k < 2 → parseFieldDescriptor (TX2 k).2.2.1 = some (tyX2 k) := by decide +kernel
abbrev cX2_init : ByteArray := prog_4_method_1_code
def yX2_init : MethodName := ⟨RX2, "<init>", "()V"⟩
abbrev cX2_isFull : ByteArray := prog_4_method_2_code
def yX2_isFull : MethodName := ⟨RX2, "isFull", "()Z"⟩
abbrev cX2_add : ByteArray := prog_4_method_3_code
def yX2_add : MethodName := ⟨RX2, "add", "(I)I"⟩
abbrev cX2_empty : ByteArray := prog_4_method_4_code
def yX2_empty : MethodName := ⟨RX2, "empty", "()I"⟩
abbrev cX2_codeAt : ByteArray := prog_4_method_5_code
def yX2_codeAt : MethodName := ⟨RX2, "codeAt", "(I)I"⟩
abbrev cX2_errorIndex : ByteArray := prog_4_method_6_code
def yX2_errorIndex : MethodName := ⟨RX2, "errorIndex", "()I"⟩
abbrev cX2_isComplete : ByteArray := prog_4_method_7_code
def yX2_isComplete : MethodName := ⟨RX2, "isComplete", "()Z"⟩
abbrev cX2_numberFrom : ByteArray := prog_4_method_8_code
def yX2_numberFrom : MethodName := ⟨RX2, "numberFrom", "(I)I"⟩
abbrev cX2_startBehind : ByteArray := prog_4_method_9_code
def yX2_startBehind : MethodName := ⟨RX2, "startBehind", "(I)I"⟩
abbrev cX2_stateBehind : ByteArray := prog_4_method_10_code
def yX2_stateBehind : MethodName := ⟨RX2, "stateBehind", "(II)I"⟩
abbrev cX2_stateBehindDigit : ByteArray := prog_4_method_11_code
def yX2_stateBehindDigit : MethodName := ⟨RX2, "stateBehindDigit", "(II)I"⟩
abbrev cX2_mayEnd : ByteArray := prog_4_method_12_code
def yX2_mayEnd : MethodName := ⟨RX2, "mayEnd", "(I)Z"⟩
abbrev cX2_isDigit : ByteArray := prog_4_method_13_code
def yX2_isDigit : MethodName := ⟨RX2, "isDigit", "(I)Z"⟩
def RX3 : String := "SumBlocks$SavedStates"
def TX3 : u_T := fun k => match k with
  | 0 => ("SumBlocks$SavedStates", "states", "[LSumBlocks$Memory;", true)
  | 1 => ("SumBlocks$SavedStates", "next", "I", false)
  | _ => ("SumBlocks$SavedStates", "many", "I", false)
def tyX3 : Nat → FieldType := fun k => match k with
  | 0 => .array (.object "SumBlocks$Memory")
  | 1 => .int
  | _ => .int
abbrev wsX30 : List Cond := u_ws RX3 TX3 3
theorem nmX3 : ∀ a, a < 3 → ∀ b, b < 3 → a ≠ b → (TX3 a).2.1 ≠ (TX3 b).2.1 := by decide +kernel
theorem tyX3_ok : ∀ k, k < 3 → parseFieldDescriptor (TX3 k).2.2.1 = some (tyX3 k) := by decide +kernel
abbrev cX3_init : ByteArray := prog_5_method_1_code
def yX3_init : MethodName := ⟨RX3, "<init>", "()V"⟩
abbrev cX3_save : ByteArray := prog_5_method_2_code
def yX3_save : MethodName := ⟨RX3, "save", "(LSumBlocks$Memory;)V"⟩
abbrev cX3_restore : ByteArray := prog_5_method_3_code
def yX3_restore : MethodName := ⟨RX3, "restore", "(LSumBlocks$Memory;)I"⟩
abbrev cX3_stateAt : ByteArray := prog_5_method_4_code
def yX3_stateAt : MethodName := ⟨RX3, "stateAt", "(I)LSumBlocks$Memory;"⟩
def RX4 : String := "SumBlocks$Span"
def TX4 : u_T := fun k => match k with
  | 0 => ("SumBlocks$Span", "left", "I", false)
  | 1 => ("SumBlocks$Span", "right", "I", false)
  | 2 => ("SumBlocks$Span", "order", "I", false)
  | 3 => ("SumBlocks$Span", "count", "I", false)
  | _ => ("SumBlocks$Span", "joins", "I", false)
def tyX4 : Nat → FieldType := fun k => match k with
  | 0 => .int
  | 1 => .int
  | 2 => .int
  | 3 => .int
  | _ => .int
abbrev wsX40 : List Cond := u_ws RX4 TX4 5
theorem nmX4 : ∀ a, a < 5 → ∀ b, b < 5 → a ≠ b → (TX4 a).2.1 ≠ (TX4 b).2.1 := by decide +kernel
theorem tyX4_ok : ∀ k, k < 5 → parseFieldDescriptor (TX4 k).2.2.1 = some (tyX4 k) := by decide +kernel
abbrev cX4_init : ByteArray := prog_6_method_1_code
def yX4_init : MethodName := ⟨RX4, "<init>", "()V"⟩
abbrev cX4_startAt : ByteArray := prog_6_method_2_code
def yX4_startAt : MethodName := ⟨RX4, "startAt", "(LSumBlocks$Blocks;I)V"⟩
abbrev cX4_partnerPlace : ByteArray := prog_6_method_3_code
def yX4_partnerPlace : MethodName := ⟨RX4, "partnerPlace", "(LSumBlocks$Blocks;)I"⟩
abbrev cX4_join : ByteArray := prog_6_method_4_code
def yX4_join : MethodName := ⟨RX4, "join", "(LSumBlocks$Blocks;)Z"⟩
abbrev cX4_joinBehind : ByteArray := prog_6_method_5_code
def yX4_joinBehind : MethodName := ⟨RX4, "joinBehind", "(LSumBlocks$Blocks;)Z"⟩
abbrev cX4_joinAll : ByteArray := prog_6_method_6_code
def yX4_joinAll : MethodName := ⟨RX4, "joinAll", "(LSumBlocks$Blocks;)V"⟩
def RX5 : String := "SumBlocks"
def TX5 : u_T := fun k => match k with
  | 0 => ("SumBlocks", "memory", "LSumBlocks$Memory;", true)
  | 1 => ("SumBlocks", "saved", "LSumBlocks$SavedStates;", true)
  | _ => ("SumBlocks", "text", "LSumBlocks$OrderText;", true)
def tyX5 : Nat → FieldType := fun k => match k with
  | 0 => .object "SumBlocks$Memory"
  | 1 => .object "SumBlocks$SavedStates"
  | _ => .object "SumBlocks$OrderText"
abbrev wsX50 : List Cond := u_ws RX5 TX5 3
theorem nmX5 : ∀ a, a < 3 → ∀ b, b < 3 → a ≠ b → (TX5 a).2.1 ≠ (TX5 b).2.1 := by decide +kernel
theorem tyX5_ok : ∀ k, k < 3 → parseFieldDescriptor (TX5 k).2.2.1 = some (tyX5 k) := by decide +kernel
abbrev cX5_init : ByteArray := prog_1_method_1_code
def yX5_init : MethodName := ⟨RX5, "<init>", "()V"⟩
abbrev cX5_begin : ByteArray := prog_1_method_2_code
def yX5_begin : MethodName := ⟨RX5, "begin", "(I)I"⟩
abbrev cX5_want : ByteArray := prog_1_method_3_code
def yX5_want : MethodName := ⟨RX5, "want", "(I)I"⟩
abbrev cX5_give : ByteArray := prog_1_method_4_code
def yX5_give : MethodName := ⟨RX5, "give", "(I)I"⟩
abbrev cX5_giveAll : ByteArray := prog_1_method_5_code
def yX5_giveAll : MethodName := ⟨RX5, "giveAll", "()I"⟩
abbrev cX5_grow : ByteArray := prog_1_method_6_code
def yX5_grow : MethodName := ⟨RX5, "grow", "(II)I"⟩
abbrev cX5_shrink : ByteArray := prog_1_method_7_code
def yX5_shrink : MethodName := ⟨RX5, "shrink", "(II)I"⟩
abbrev cX5_set : ByteArray := prog_1_method_8_code
def yX5_set : MethodName := ⟨RX5, "set", "(II)I"⟩
abbrev cX5_append : ByteArray := prog_1_method_9_code
def yX5_append : MethodName := ⟨RX5, "append", "(I)I"⟩
abbrev cX5_clearBuffer : ByteArray := prog_1_method_10_code
def yX5_clearBuffer : MethodName := ⟨RX5, "clearBuffer", "()I"⟩
abbrev cX5_firstError : ByteArray := prog_1_method_11_code
def yX5_firstError : MethodName := ⟨RX5, "firstError", "()I"⟩
abbrev cX5_run : ByteArray := prog_1_method_12_code
def yX5_run : MethodName := ⟨RX5, "run", "()I"⟩
abbrev cX5_undo : ByteArray := prog_1_method_13_code
def yX5_undo : MethodName := ⟨RX5, "undo", "()I"⟩
abbrev cX5_size : ByteArray := prog_1_method_14_code
def yX5_size : MethodName := ⟨RX5, "size", "(I)I"⟩
abbrev cX5_block : ByteArray := prog_1_method_15_code
def yX5_block : MethodName := ⟨RX5, "block", "(II)I"⟩
abbrev cX5_use : ByteArray := prog_1_method_16_code
def yX5_use : MethodName := ⟨RX5, "use", "(II)I"⟩
abbrev cX5_at : ByteArray := prog_1_method_17_code
def yX5_at : MethodName := ⟨RX5, "at", "(I)I"⟩
abbrev cX5_many : ByteArray := prog_1_method_18_code
def yX5_many : MethodName := ⟨RX5, "many", "(IZ)I"⟩
abbrev cX5_count : ByteArray := prog_1_method_19_code
def yX5_count : MethodName := ⟨RX5, "count", "(I)I"⟩
abbrev cX5_setting : ByteArray := prog_1_method_20_code
def yX5_setting : MethodName := ⟨RX5, "setting", "(I)I"⟩
abbrev cX5_ifWanted : ByteArray := prog_1_method_21_code
def yX5_ifWanted : MethodName := ⟨RX5, "ifWanted", "(II)I"⟩
abbrev cX5_ifGiven : ByteArray := prog_1_method_22_code
def yX5_ifGiven : MethodName := ⟨RX5, "ifGiven", "(I)I"⟩
abbrev cX5_reach : ByteArray := prog_1_method_23_code
def yX5_reach : MethodName := ⟨RX5, "reach", "(I)I"⟩
abbrev cX5_blocker : ByteArray := prog_1_method_24_code
def yX5_blocker : MethodName := ⟨RX5, "blocker", "()I"⟩
abbrev cX5_byWay : ByteArray := prog_1_method_25_code
def yX5_byWay : MethodName := ⟨RX5, "byWay", "(I)I"⟩
abbrev cX5_wasteShare : ByteArray := prog_1_method_26_code
def yX5_wasteShare : MethodName := ⟨RX5, "wasteShare", "()D"⟩
abbrev cX5_digest : ByteArray := prog_1_method_27_code
def yX5_digest : MethodName := ⟨RX5, "digest", "()J"⟩
abbrev cX5_carryOut : ByteArray := prog_1_method_28_code
def yX5_carryOut : MethodName := ⟨RX5, "carryOut", "(II)Z"⟩
abbrev cX5_countOf : ByteArray := prog_1_method_29_code
def yX5_countOf : MethodName := ⟨RX5, "countOf", "(I)I"⟩
abbrev cX5_mixedWithBlocks : ByteArray := prog_1_method_30_code
def yX5_mixedWithBlocks : MethodName := ⟨RX5, "mixedWithBlocks", "(J)J"⟩
abbrev cX5_mixedWithUses : ByteArray := prog_1_method_31_code
def yX5_mixedWithUses : MethodName := ⟨RX5, "mixedWithUses", "(J)J"⟩
abbrev cX5_mixedWithWish : ByteArray := prog_1_method_32_code
def yX5_mixedWithWish : MethodName := ⟨RX5, "mixedWithWish", "(JI)J"⟩
abbrev cX5_mixed : ByteArray := prog_1_method_33_code
def yX5_mixed : MethodName := ⟨RX5, "mixed", "(JJ)J"⟩
abbrev cX5_bitsOfShare : ByteArray := prog_1_method_34_code
def yX5_bitsOfShare : MethodName := ⟨RX5, "bitsOfShare", "(D)J"⟩
abbrev cX5_isWish : ByteArray := prog_1_method_35_code
def yX5_isWish : MethodName := ⟨RX5, "isWish", "(I)Z"⟩
abbrev cX5_isBelow : ByteArray := prog_1_method_36_code
def yX5_isBelow : MethodName := ⟨RX5, "isBelow", "(II)Z"⟩
abbrev cX5_sizeOf : ByteArray := prog_1_method_37_code
def yX5_sizeOf : MethodName := ⟨RX5, "sizeOf", "(I)I"⟩
abbrev cX5_leastOrderFor : ByteArray := prog_1_method_38_code
def yX5_leastOrderFor : MethodName := ⟨RX5, "leastOrderFor", "(I)I"⟩
abbrev cX5_valueAt : ByteArray := prog_1_method_39_code
def yX5_valueAt : MethodName := ⟨RX5, "valueAt", "([II)I"⟩
abbrev cX5_putAt : ByteArray := prog_1_method_40_code
def yX5_putAt : MethodName := ⟨RX5, "putAt", "([III)V"⟩
abbrev cX5_copyRow : ByteArray := prog_1_method_41_code
def yX5_copyRow : MethodName := ⟨RX5, "copyRow", "([I[II)V"⟩
def RX6 : String := "SumBlocksModel"
def TX6 : u_T := fun k => match k with
  | 0 => ("SumBlocksModel", "z", "[I", true)
  | 1 => ("SumBlocksModel", "states", "I", false)
  | 2 => ("SumBlocksModel", "history", "[I", true)
  | 3 => ("SumBlocksModel", "length", "I", false)
  | 4 => ("SumBlocksModel", "text", "[I", true)
  | 5 => ("SumBlocksModel", "thrown", "I", false)
  | 6 => ("SumBlocksModel", "kept", "[I", true)
  | 7 => ("SumBlocksModel", "parts", "[I", true)
  | 8 => ("SumBlocksModel", "read", "I", false)
  | 9 => ("SumBlocksModel", "number", "I", false)
  | 10 => ("SumBlocksModel", "isLetterDue", "Z", false)
  | _ => ("SumBlocksModel", "hash", "J", false)
def tyX6 : Nat → FieldType := fun k => match k with
  | 0 => .array .int
  | 1 => .int
  | 2 => .array .int
  | 3 => .int
  | 4 => .array .int
  | 5 => .int
  | 6 => .array .int
  | 7 => .array .int
  | 8 => .int
  | 9 => .int
  | 10 => .boolean
  | _ => .long
abbrev wsX60 : List Cond := u_ws RX6 TX6 12
theorem nmX6 : ∀ a, a < 12 → ∀ b, b < 12 → a ≠ b → (TX6 a).2.1 ≠ (TX6 b).2.1 := by decide +kernel
theorem tyX6_ok : ∀ k, k < 12 → parseFieldDescriptor (TX6 k).2.2.1 = some (tyX6 k) := by decide +kernel
abbrev cX6_init : ByteArray := prog_8_method_1_code
def yX6_init : MethodName := ⟨RX6, "<init>", "()V"⟩
abbrev cX6_thrown : ByteArray := prog_8_method_2_code
def yX6_thrown : MethodName := ⟨RX6, "thrown", "()I"⟩
abbrev cX6_within : ByteArray := prog_8_method_3_code
def yX6_within : MethodName := ⟨RX6, "within", "(III)Z"⟩
abbrev cX6_save : ByteArray := prog_8_method_4_code
def yX6_save : MethodName := ⟨RX6, "save", "()V"⟩
abbrev cX6_of : ByteArray := prog_8_method_5_code
def yX6_of : MethodName := ⟨RX6, "of", "(II)I"⟩
abbrev cX6_put : ByteArray := prog_8_method_6_code
def yX6_put : MethodName := ⟨RX6, "put", "(III)V"⟩
abbrev cX6_lay : ByteArray := prog_8_method_7_code
def yX6_lay : MethodName := ⟨RX6, "lay", "(IIIII)V"⟩
abbrev cX6_empties : ByteArray := prog_8_method_8_code
def yX6_empties : MethodName := ⟨RX6, "empties", "(I)V"⟩
abbrev cX6_sizeOf : ByteArray := prog_8_method_9_code
def yX6_sizeOf : MethodName := ⟨RX6, "sizeOf", "(I)I"⟩
abbrev cX6_cellsOf : ByteArray := prog_8_method_10_code
def yX6_cellsOf : MethodName := ⟨RX6, "cellsOf", "(I)I"⟩
abbrev cX6_isBlock : ByteArray := prog_8_method_11_code
def yX6_isBlock : MethodName := ⟨RX6, "isBlock", "(I)Z"⟩
abbrev cX6_isFree : ByteArray := prog_8_method_12_code
def yX6_isFree : MethodName := ⟨RX6, "isFree", "(I)Z"⟩
abbrev cX6_isUse : ByteArray := prog_8_method_13_code
def yX6_isUse : MethodName := ⟨RX6, "isUse", "(I)Z"⟩
abbrev cX6_placeOf : ByteArray := prog_8_method_14_code
def yX6_placeOf : MethodName := ⟨RX6, "placeOf", "(I)I"⟩
abbrev cX6_uses : ByteArray := prog_8_method_15_code
def yX6_uses : MethodName := ⟨RX6, "uses", "()I"⟩
abbrev cX6_canCut : ByteArray := prog_8_method_16_code
def yX6_canCut : MethodName := ⟨RX6, "canCut", "(I)Z"⟩
abbrev cX6_cut : ByteArray := prog_8_method_17_code
def yX6_cut : MethodName := ⟨RX6, "cut", "(I)V"⟩
abbrev cX6_partnerOf : ByteArray := prog_8_method_18_code
def yX6_partnerOf : MethodName := ⟨RX6, "partnerOf", "(I)I"⟩
abbrev cX6_join : ByteArray := prog_8_method_19_code
def yX6_join : MethodName := ⟨RX6, "join", "(I)V"⟩
abbrev cX6_gives : ByteArray := prog_8_method_20_code
def yX6_gives : MethodName := ⟨RX6, "gives", "(I)I"⟩
abbrev cX6_orderFor : ByteArray := prog_8_method_21_code
def yX6_orderFor : MethodName := ⟨RX6, "orderFor", "(I)I"⟩
abbrev cX6_blockFor : ByteArray := prog_8_method_22_code
def yX6_blockFor : MethodName := ⟨RX6, "blockFor", "(I)I"⟩
abbrev cX6_cutDown : ByteArray := prog_8_method_23_code
def yX6_cutDown : MethodName := ⟨RX6, "cutDown", "(II)I"⟩
abbrev cX6_freeNumber : ByteArray := prog_8_method_24_code
def yX6_freeNumber : MethodName := ⟨RX6, "freeNumber", "()I"⟩
abbrev cX6_canWant : ByteArray := prog_8_method_25_code
def yX6_canWant : MethodName := ⟨RX6, "canWant", "(I)Z"⟩
abbrev cX6_wants : ByteArray := prog_8_method_26_code
def yX6_wants : MethodName := ⟨RX6, "wants", "(I)I"⟩
abbrev cX6_areCells : ByteArray := prog_8_method_27_code
def yX6_areCells : MethodName := ⟨RX6, "areCells", "(I)Z"⟩
abbrev cX6_begin : ByteArray := prog_8_method_28_code
def yX6_begin : MethodName := ⟨RX6, "begin", "(I)I"⟩
abbrev cX6_want : ByteArray := prog_8_method_29_code
def yX6_want : MethodName := ⟨RX6, "want", "(I)I"⟩
abbrev cX6_give : ByteArray := prog_8_method_30_code
def yX6_give : MethodName := ⟨RX6, "give", "(I)I"⟩
abbrev cX6_giveAll : ByteArray := prog_8_method_31_code
def yX6_giveAll : MethodName := ⟨RX6, "giveAll", "()I"⟩
abbrev cX6_canExtend : ByteArray := prog_8_method_32_code
def yX6_canExtend : MethodName := ⟨RX6, "canExtend", "(I)Z"⟩
abbrev cX6_extend : ByteArray := prog_8_method_33_code
def yX6_extend : MethodName := ⟨RX6, "extend", "(II)V"⟩
abbrev cX6_keep : ByteArray := prog_8_method_34_code
def yX6_keep : MethodName := ⟨RX6, "keep", "()V"⟩
abbrev cX6_layBack : ByteArray := prog_8_method_35_code
def yX6_layBack : MethodName := ⟨RX6, "layBack", "()V"⟩
abbrev cX6_reachOf : ByteArray := prog_8_method_36_code
def yX6_reachOf : MethodName := ⟨RX6, "reachOf", "(II)I"⟩
abbrev cX6_grow : ByteArray := prog_8_method_37_code
def yX6_grow : MethodName := ⟨RX6, "grow", "(II)I"⟩
abbrev cX6_shrink : ByteArray := prog_8_method_38_code
def yX6_shrink : MethodName := ⟨RX6, "shrink", "(II)I"⟩
abbrev cX6_set : ByteArray := prog_8_method_39_code
def yX6_set : MethodName := ⟨RX6, "set", "(II)I"⟩
abbrev cX6_append : ByteArray := prog_8_method_40_code
def yX6_append : MethodName := ⟨RX6, "append", "(I)I"⟩
abbrev cX6_clearBuffer : ByteArray := prog_8_method_41_code
def yX6_clearBuffer : MethodName := ⟨RX6, "clearBuffer", "()I"⟩
abbrev cX6_takesDigit : ByteArray := prog_8_method_42_code
def yX6_takesDigit : MethodName := ⟨RX6, "takesDigit", "(I)Z"⟩
abbrev cX6_takes : ByteArray := prog_8_method_43_code
def yX6_takes : MethodName := ⟨RX6, "takes", "(I)Z"⟩
abbrev cX6_rightUpTo : ByteArray := prog_8_method_44_code
def yX6_rightUpTo : MethodName := ⟨RX6, "rightUpTo", "()I"⟩
abbrev cX6_firstError : ByteArray := prog_8_method_45_code
def yX6_firstError : MethodName := ⟨RX6, "firstError", "()I"⟩
abbrev cX6_carries : ByteArray := prog_8_method_46_code
def yX6_carries : MethodName := ⟨RX6, "carries", "(I)Z"⟩
abbrev cX6_run : ByteArray := prog_8_method_47_code
def yX6_run : MethodName := ⟨RX6, "run", "()I"⟩
abbrev cX6_undo : ByteArray := prog_8_method_48_code
def yX6_undo : MethodName := ⟨RX6, "undo", "()I"⟩
abbrev cX6_isOrder : ByteArray := prog_8_method_49_code
def yX6_isOrder : MethodName := ⟨RX6, "isOrder", "(I)Z"⟩
abbrev cX6_size : ByteArray := prog_8_method_50_code
def yX6_size : MethodName := ⟨RX6, "size", "(I)I"⟩
abbrev cX6_blockNow : ByteArray := prog_8_method_51_code
def yX6_blockNow : MethodName := ⟨RX6, "blockNow", "(II)I"⟩
abbrev cX6_block : ByteArray := prog_8_method_52_code
def yX6_block : MethodName := ⟨RX6, "block", "(II)I"⟩
abbrev cX6_useNow : ByteArray := prog_8_method_53_code
def yX6_useNow : MethodName := ⟨RX6, "useNow", "(II)I"⟩
abbrev cX6_isNumber : ByteArray := prog_8_method_54_code
def yX6_isNumber : MethodName := ⟨RX6, "isNumber", "(I)Z"⟩
abbrev cX6_use : ByteArray := prog_8_method_55_code
def yX6_use : MethodName := ⟨RX6, "use", "(II)I"⟩
abbrev cX6_blockWith : ByteArray := prog_8_method_56_code
def yX6_blockWith : MethodName := ⟨RX6, "blockWith", "(I)I"⟩
abbrev cX6_at : ByteArray := prog_8_method_57_code
def yX6_at : MethodName := ⟨RX6, "at", "(I)I"⟩
abbrev cX6_manyOf : ByteArray := prog_8_method_58_code
def yX6_manyOf : MethodName := ⟨RX6, "manyOf", "(IZ)I"⟩
abbrev cX6_many : ByteArray := prog_8_method_59_code
def yX6_many : MethodName := ⟨RX6, "many", "(IZ)I"⟩
abbrev cX6_freeBlocks : ByteArray := prog_8_method_60_code
def yX6_freeBlocks : MethodName := ⟨RX6, "freeBlocks", "()I"⟩
abbrev cX6_freeCells : ByteArray := prog_8_method_61_code
def yX6_freeCells : MethodName := ⟨RX6, "freeCells", "()I"⟩
abbrev cX6_wished : ByteArray := prog_8_method_62_code
def yX6_wished : MethodName := ⟨RX6, "wished", "()I"⟩
abbrev cX6_usedCells : ByteArray := prog_8_method_63_code
def yX6_usedCells : MethodName := ⟨RX6, "usedCells", "()I"⟩
abbrev cX6_greatestFree : ByteArray := prog_8_method_64_code
def yX6_greatestFree : MethodName := ⟨RX6, "greatestFree", "()I"⟩
abbrev cX6_counted : ByteArray := prog_8_method_65_code
def yX6_counted : MethodName := ⟨RX6, "counted", "(I)I"⟩
abbrev cX6_count : ByteArray := prog_8_method_66_code
def yX6_count : MethodName := ⟨RX6, "count", "(I)I"⟩
abbrev cX6_setting : ByteArray := prog_8_method_67_code
def yX6_setting : MethodName := ⟨RX6, "setting", "(I)I"⟩
abbrev cX6_wantedThen : ByteArray := prog_8_method_68_code
def yX6_wantedThen : MethodName := ⟨RX6, "wantedThen", "(II)I"⟩
abbrev cX6_ifWanted : ByteArray := prog_8_method_69_code
def yX6_ifWanted : MethodName := ⟨RX6, "ifWanted", "(II)I"⟩
abbrev cX6_givenThen : ByteArray := prog_8_method_70_code
def yX6_givenThen : MethodName := ⟨RX6, "givenThen", "(I)I"⟩
abbrev cX6_ifGiven : ByteArray := prog_8_method_71_code
def yX6_ifGiven : MethodName := ⟨RX6, "ifGiven", "(I)I"⟩
abbrev cX6_reachNow : ByteArray := prog_8_method_72_code
def yX6_reachNow : MethodName := ⟨RX6, "reachNow", "(I)I"⟩
abbrev cX6_reach : ByteArray := prog_8_method_73_code
def yX6_reach : MethodName := ⟨RX6, "reach", "(I)I"⟩
abbrev cX6_blockerNow : ByteArray := prog_8_method_74_code
def yX6_blockerNow : MethodName := ⟨RX6, "blockerNow", "()I"⟩
abbrev cX6_blocker : ByteArray := prog_8_method_75_code
def yX6_blocker : MethodName := ⟨RX6, "blocker", "()I"⟩
abbrev cX6_blockAt : ByteArray := prog_8_method_76_code
def yX6_blockAt : MethodName := ⟨RX6, "blockAt", "(II)I"⟩
abbrev cX6_wayOf : ByteArray := prog_8_method_77_code
def yX6_wayOf : MethodName := ⟨RX6, "wayOf", "(I)I"⟩
abbrev cX6_byWay : ByteArray := prog_8_method_78_code
def yX6_byWay : MethodName := ⟨RX6, "byWay", "(I)I"⟩
abbrev cX6_share : ByteArray := prog_8_method_79_code
def yX6_share : MethodName := ⟨RX6, "share", "()D"⟩
abbrev cX6_wasteShare : ByteArray := prog_8_method_80_code
def yX6_wasteShare : MethodName := ⟨RX6, "wasteShare", "()D"⟩
abbrev cX6_mix : ByteArray := prog_8_method_81_code
def yX6_mix : MethodName := ⟨RX6, "mix", "(J)V"⟩
abbrev cX6_mixBlock : ByteArray := prog_8_method_82_code
def yX6_mixBlock : MethodName := ⟨RX6, "mixBlock", "(I)V"⟩
abbrev cX6_mixUse : ByteArray := prog_8_method_83_code
def yX6_mixUse : MethodName := ⟨RX6, "mixUse", "(I)V"⟩
abbrev cX6_mixWish : ByteArray := prog_8_method_84_code
def yX6_mixWish : MethodName := ⟨RX6, "mixWish", "(I)V"⟩
abbrev cX6_digest : ByteArray := prog_8_method_85_code
def yX6_digest : MethodName := ⟨RX6, "digest", "()J"⟩
def RJxe99ae : String := "java/lang/Double"
def TJxe99ae : u_T := fun k => match k with
  | _ => ("", "", "", false)
def tyJxe99ae : Nat → FieldType := fun k => match k with
  | _ => .int
abbrev wsJxe99ae0 : List Cond := u_ws RJxe99ae TJxe99ae 0
theorem nmJxe99ae : ∀ a, a < 0 → ∀ b, b < 0 → a ≠ b → (TJxe99ae a).2.1 ≠ (TJxe99ae b).2.1 := by decide +kernel
theorem tyJxe99ae_ok : ∀ k, k < 0 → parseFieldDescriptor (TJxe99ae k).2.2.1 = some (tyJxe99ae k) := by decide +kernel
abbrev cJxe99ae_isNaN_b9ae7 : ByteArray := prog_9_method_6_code
def yJxe99ae_isNaN_b9ae7 : MethodName := ⟨RJxe99ae, "isNaN", "(D)Z"⟩
abbrev cJxe99ae_doubleToLongBits_ccdee : ByteArray := prog_9_method_23_code
def yJxe99ae_doubleToLongBits_ccdee : MethodName := ⟨RJxe99ae, "doubleToLongBits", "(D)J"⟩
def RJ9 : String := "java/lang/Math"
def TJ9 : u_T := fun k => match k with
  | _ => ("", "", "", false)
def tyJ9 : Nat → FieldType := fun k => match k with
  | _ => .int
abbrev wsJ90 : List Cond := u_ws RJ9 TJ9 0
theorem nmJ9 : ∀ a, a < 0 → ∀ b, b < 0 → a ≠ b → (TJ9 a).2.1 ≠ (TJ9 b).2.1 := by decide +kernel
theorem tyJ9_ok : ∀ k, k < 0 → parseFieldDescriptor (TJ9 k).2.2.1 = some (tyJ9 k) := by decide +kernel
abbrev cJ9_max_7cf53 : ByteArray := prog_14_method_65_code
def yJ9_max_7cf53 : MethodName := ⟨RJ9, "max", "(II)I"⟩
abbrev cJ9_min_7cf53 : ByteArray := prog_14_method_69_code
def yJ9_min_7cf53 : MethodName := ⟨RJ9, "min", "(II)I"⟩
def RJ0 : String := "java/lang/String"
def TJ0 : u_T := fun k => match k with
  | _ => ("", "", "", false)
def tyJ0 : Nat → FieldType := fun k => match k with
  | _ => .int
abbrev wsJ00 : List Cond := u_ws RJ0 TJ0 0
theorem nmJ0 : ∀ a, a < 0 → ∀ b, b < 0 → a ≠ b → (TJ0 a).2.1 ≠ (TJ0 b).2.1 := by decide +kernel
theorem tyJ0_ok : ∀ k, k < 0 → parseFieldDescriptor (TJ0 k).2.2.1 = some (tyJ0 k) := by decide +kernel
def RL : String := "SumBlocksLaw"
abbrev cL_begin : ByteArray := method_3_code
def yL_begin : MethodName := ⟨RL, "begin", "(LSumBlocks;I[J)I"⟩
abbrev cL_want : ByteArray := method_4_code
def yL_want : MethodName := ⟨RL, "want", "(LSumBlocks;I[J)I"⟩
abbrev cL_give : ByteArray := method_5_code
def yL_give : MethodName := ⟨RL, "give", "(LSumBlocks;I[J)I"⟩
abbrev cL_grow : ByteArray := method_6_code
def yL_grow : MethodName := ⟨RL, "grow", "(LSumBlocks;II[J)I"⟩
abbrev cL_shrink : ByteArray := method_7_code
def yL_shrink : MethodName := ⟨RL, "shrink", "(LSumBlocks;II[J)I"⟩
abbrev cL_set : ByteArray := method_8_code
def yL_set : MethodName := ⟨RL, "set", "(LSumBlocks;II[J)I"⟩
abbrev cL_append : ByteArray := method_9_code
def yL_append : MethodName := ⟨RL, "append", "(LSumBlocks;I[J)I"⟩
abbrev cL_run : ByteArray := method_10_code
def yL_run : MethodName := ⟨RL, "run", "(LSumBlocks;[J)I"⟩
abbrev cL_undo : ByteArray := method_11_code
def yL_undo : MethodName := ⟨RL, "undo", "(LSumBlocks;[J)I"⟩
abbrev cL_size : ByteArray := method_12_code
def yL_size : MethodName := ⟨RL, "size", "(LSumBlocks;I[J)I"⟩
abbrev cL_block : ByteArray := method_13_code
def yL_block : MethodName := ⟨RL, "block", "(LSumBlocks;II[J)I"⟩
abbrev cL_use : ByteArray := method_14_code
def yL_use : MethodName := ⟨RL, "use", "(LSumBlocks;II[J)I"⟩
abbrev cL_at : ByteArray := method_15_code
def yL_at : MethodName := ⟨RL, "at", "(LSumBlocks;I[J)I"⟩
abbrev cL_many : ByteArray := method_16_code
def yL_many : MethodName := ⟨RL, "many", "(LSumBlocks;IZ[J)I"⟩
abbrev cL_count : ByteArray := method_17_code
def yL_count : MethodName := ⟨RL, "count", "(LSumBlocks;I[J)I"⟩
abbrev cL_setting : ByteArray := method_18_code
def yL_setting : MethodName := ⟨RL, "setting", "(LSumBlocks;I[J)I"⟩
abbrev cL_ifWanted : ByteArray := method_19_code
def yL_ifWanted : MethodName := ⟨RL, "ifWanted", "(LSumBlocks;II[J)I"⟩
abbrev cL_ifGiven : ByteArray := method_20_code
def yL_ifGiven : MethodName := ⟨RL, "ifGiven", "(LSumBlocks;I[J)I"⟩
abbrev cL_reach : ByteArray := method_21_code
def yL_reach : MethodName := ⟨RL, "reach", "(LSumBlocks;I[J)I"⟩
abbrev cL_byWay : ByteArray := method_22_code
def yL_byWay : MethodName := ⟨RL, "byWay", "(LSumBlocks;I[J)I"⟩
abbrev cL_law : ByteArray := code
def yL_law : MethodName := ⟨RL, "law", "([I)Z"⟩
def wsJxe99ae_isNaN_b9ae7 : List Cond := .code yJxe99ae_isNaN_b9ae7 cJxe99ae_isNaN_b9ae7 2 (some .boolean) :: ([])
def wsJxe99ae_doubleToLongBits_ccdee : List Cond := .code yJxe99ae_doubleToLongBits_ccdee cJxe99ae_doubleToLongBits_ccdee 2 (some .long) :: ([.methodLink RJxe99ae 134 ⟨"java/lang/Double", "doubleToRawLongBits", "(D)J"⟩, .native ⟨"java/lang/Double", "doubleToRawLongBits", "(D)J"⟩, .static ⟨"java/lang/Double", "doubleToRawLongBits", "(D)J"⟩, .initialized "java/lang/Double", .constantLong RJxe99ae 137 (9221120237041090560), .methodLink RJxe99ae 122 yJxe99ae_isNaN_b9ae7, .static yJxe99ae_isNaN_b9ae7, .initialized RJxe99ae, .code yJxe99ae_isNaN_b9ae7 cJxe99ae_isNaN_b9ae7 2 (some .boolean)])
def wsJ9_max_7cf53 : List Cond := .code yJ9_max_7cf53 cJ9_max_7cf53 2 (some .int) :: ([])
def wsJ9_min_7cf53 : List Cond := .code yJ9_min_7cf53 cJ9_min_7cf53 2 (some .int) :: ([])
theorem inJxe99ae : ∀ w ∈ wsJxe99ae0, w ∈ lw_tbl := by decide +kernel
theorem inJ9 : ∀ w ∈ wsJ90, w ∈ lw_tbl := by decide +kernel
theorem inJ0 : ∀ w ∈ wsJ00, w ∈ lw_tbl := by decide +kernel
theorem dX0_init_0 : decode cX0_init 0 = .ok (.aload_n 0, 1) := by decide +kernel
theorem dX0_init_1 : decode cX0_init 1 = .ok (.invokespecial 3, 3) := by decide +kernel
theorem dX0_init_4 : decode cX0_init 4 = .ok (.aload_n 0, 1) := by decide +kernel
theorem dX0_init_5 : decode cX0_init 5 = .ok (.sipush 313, 3) := by decide +kernel
theorem dX0_init_8 : decode cX0_init 8 = .ok (.newarray .int, 2) := by decide +kernel
theorem dX0_init_10 : decode cX0_init 10 = .ok (.putfield 9, 3) := by decide +kernel
theorem dX0_init_13 : decode cX0_init 13 = .ok (.aload_n 0, 1) := by decide +kernel
theorem dX0_init_14 : decode cX0_init 14 = .ok (.sipush 313, 3) := by decide +kernel
theorem dX0_init_17 : decode cX0_init 17 = .ok (.newarray .int, 2) := by decide +kernel
theorem dX0_init_19 : decode cX0_init 19 = .ok (.putfield 15, 3) := by decide +kernel
theorem dX0_init_22 : decode cX0_init 22 = .ok (.aload_n 0, 1) := by decide +kernel
theorem dX0_init_23 : decode cX0_init 23 = .ok (.sipush 313, 3) := by decide +kernel
theorem dX0_init_26 : decode cX0_init 26 = .ok (.newarray .int, 2) := by decide +kernel
theorem dX0_init_28 : decode cX0_init 28 = .ok (.putfield 18, 3) := by decide +kernel
theorem dX0_init_31 : decode cX0_init 31 = .ok (.aload_n 0, 1) := by decide +kernel
theorem dX0_init_32 : decode cX0_init 32 = .ok (.sipush 313, 3) := by decide +kernel
theorem dX0_init_35 : decode cX0_init 35 = .ok (.newarray .int, 2) := by decide +kernel
theorem dX0_init_37 : decode cX0_init 37 = .ok (.putfield 21, 3) := by decide +kernel
theorem dX0_init_40 : decode cX0_init 40 = .ok (.return_, 1) := by decide +kernel
theorem dX0_startWhole_0 : decode cX0_startWhole 0 = .ok (.aload_n 0, 1) := by decide +kernel
theorem dX0_startWhole_1 : decode cX0_startWhole 1 = .ok (.iload_n 1, 1) := by decide +kernel
theorem dX0_startWhole_2 : decode cX0_startWhole 2 = .ok (.putfield 24, 3) := by decide +kernel
theorem dX0_startWhole_5 : decode cX0_startWhole 5 = .ok (.aload_n 0, 1) := by decide +kernel
theorem dX0_startWhole_6 : decode cX0_startWhole 6 = .ok (.iconst 1, 1) := by decide +kernel
theorem dX0_startWhole_7 : decode cX0_startWhole 7 = .ok (.putfield 28, 3) := by decide +kernel
theorem dX0_startWhole_10 : decode cX0_startWhole 10 = .ok (.aload_n 0, 1) := by decide +kernel
theorem dX0_startWhole_11 : decode cX0_startWhole 11 = .ok (.iconst 0, 1) := by decide +kernel
theorem dX0_startWhole_12 : decode cX0_startWhole 12 = .ok (.iconst 0, 1) := by decide +kernel
theorem dX0_startWhole_13 : decode cX0_startWhole 13 = .ok (.iload_n 1, 1) := by decide +kernel
theorem dX0_startWhole_14 : decode cX0_startWhole 14 = .ok (.iconst 0, 1) := by decide +kernel
theorem dX0_startWhole_15 : decode cX0_startWhole 15 = .ok (.iconst (-1), 1) := by decide +kernel
theorem dX0_startWhole_16 : decode cX0_startWhole 16 = .ok (.invokevirtual 31, 3) := by decide +kernel
theorem dX0_startWhole_19 : decode cX0_startWhole 19 = .ok (.return_, 1) := by decide +kernel
theorem dX0_copyFrom_0 : decode cX0_copyFrom 0 = .ok (.aload_n 0, 1) := by decide +kernel
theorem dX0_copyFrom_1 : decode cX0_copyFrom 1 = .ok (.aload_n 1, 1) := by decide +kernel
theorem dX0_copyFrom_2 : decode cX0_copyFrom 2 = .ok (.getfield 24, 3) := by decide +kernel
theorem dX0_copyFrom_5 : decode cX0_copyFrom 5 = .ok (.putfield 24, 3) := by decide +kernel
theorem dX0_copyFrom_8 : decode cX0_copyFrom 8 = .ok (.aload_n 0, 1) := by decide +kernel
theorem dX0_copyFrom_9 : decode cX0_copyFrom 9 = .ok (.aload_n 1, 1) := by decide +kernel
theorem dX0_copyFrom_10 : decode cX0_copyFrom 10 = .ok (.getfield 28, 3) := by decide +kernel
theorem dX0_copyFrom_13 : decode cX0_copyFrom 13 = .ok (.putfield 28, 3) := by decide +kernel
theorem dX0_copyFrom_16 : decode cX0_copyFrom 16 = .ok (.aload_n 1, 1) := by decide +kernel
theorem dX0_copyFrom_17 : decode cX0_copyFrom 17 = .ok (.getfield 9, 3) := by decide +kernel
theorem dX0_copyFrom_20 : decode cX0_copyFrom 20 = .ok (.aload_n 0, 1) := by decide +kernel
theorem dX0_copyFrom_21 : decode cX0_copyFrom 21 = .ok (.getfield 9, 3) := by decide +kernel
theorem dX0_copyFrom_24 : decode cX0_copyFrom 24 = .ok (.aload_n 0, 1) := by decide +kernel
theorem dX0_copyFrom_25 : decode cX0_copyFrom 25 = .ok (.getfield 28, 3) := by decide +kernel
theorem dX0_copyFrom_28 : decode cX0_copyFrom 28 = .ok (.invokestatic 35, 3) := by decide +kernel
theorem dX0_copyFrom_31 : decode cX0_copyFrom 31 = .ok (.aload_n 1, 1) := by decide +kernel
theorem dX0_copyFrom_32 : decode cX0_copyFrom 32 = .ok (.getfield 15, 3) := by decide +kernel
theorem dX0_copyFrom_35 : decode cX0_copyFrom 35 = .ok (.aload_n 0, 1) := by decide +kernel
theorem dX0_copyFrom_36 : decode cX0_copyFrom 36 = .ok (.getfield 15, 3) := by decide +kernel
theorem dX0_copyFrom_39 : decode cX0_copyFrom 39 = .ok (.aload_n 0, 1) := by decide +kernel
theorem dX0_copyFrom_40 : decode cX0_copyFrom 40 = .ok (.getfield 28, 3) := by decide +kernel
theorem dX0_copyFrom_43 : decode cX0_copyFrom 43 = .ok (.invokestatic 35, 3) := by decide +kernel
theorem dX0_copyFrom_46 : decode cX0_copyFrom 46 = .ok (.aload_n 1, 1) := by decide +kernel
theorem dX0_copyFrom_47 : decode cX0_copyFrom 47 = .ok (.getfield 18, 3) := by decide +kernel
theorem dX0_copyFrom_50 : decode cX0_copyFrom 50 = .ok (.aload_n 0, 1) := by decide +kernel
theorem dX0_copyFrom_51 : decode cX0_copyFrom 51 = .ok (.getfield 18, 3) := by decide +kernel
theorem dX0_copyFrom_54 : decode cX0_copyFrom 54 = .ok (.aload_n 0, 1) := by decide +kernel
theorem dX0_copyFrom_55 : decode cX0_copyFrom 55 = .ok (.getfield 28, 3) := by decide +kernel
theorem dX0_copyFrom_58 : decode cX0_copyFrom 58 = .ok (.invokestatic 35, 3) := by decide +kernel
theorem dX0_copyFrom_61 : decode cX0_copyFrom 61 = .ok (.aload_n 1, 1) := by decide +kernel
theorem dX0_copyFrom_62 : decode cX0_copyFrom 62 = .ok (.getfield 21, 3) := by decide +kernel
theorem dX0_copyFrom_65 : decode cX0_copyFrom 65 = .ok (.aload_n 0, 1) := by decide +kernel
theorem dX0_copyFrom_66 : decode cX0_copyFrom 66 = .ok (.getfield 21, 3) := by decide +kernel
theorem dX0_copyFrom_69 : decode cX0_copyFrom 69 = .ok (.aload_n 0, 1) := by decide +kernel
theorem dX0_copyFrom_70 : decode cX0_copyFrom 70 = .ok (.getfield 28, 3) := by decide +kernel
theorem dX0_copyFrom_73 : decode cX0_copyFrom 73 = .ok (.invokestatic 35, 3) := by decide +kernel
theorem dX0_copyFrom_76 : decode cX0_copyFrom 76 = .ok (.return_, 1) := by decide +kernel
theorem dX0_has_0 : decode cX0_has 0 = .ok (.iload_n 1, 1) := by decide +kernel
theorem dX0_has_1 : decode cX0_has 1 = .ok (.ifCond .lt 15, 3) := by decide +kernel
theorem dX0_has_4 : decode cX0_has 4 = .ok (.iload_n 1, 1) := by decide +kernel
theorem dX0_has_5 : decode cX0_has 5 = .ok (.aload_n 0, 1) := by decide +kernel
theorem dX0_has_6 : decode cX0_has 6 = .ok (.getfield 28, 3) := by decide +kernel
theorem dX0_has_9 : decode cX0_has 9 = .ok (.if_icmp .ge 7, 3) := by decide +kernel
theorem dX0_has_12 : decode cX0_has 12 = .ok (.iconst 1, 1) := by decide +kernel
theorem dX0_has_13 : decode cX0_has 13 = .ok (.goto 4, 3) := by decide +kernel
theorem dX0_has_16 : decode cX0_has 16 = .ok (.iconst 0, 1) := by decide +kernel
theorem dX0_has_17 : decode cX0_has 17 = .ok (.ireturn, 1) := by decide +kernel
theorem dX0_addressAt_0 : decode cX0_addressAt 0 = .ok (.iload_n 1, 1) := by decide +kernel
theorem dX0_addressAt_1 : decode cX0_addressAt 1 = .ok (.ifCond .lt 21, 3) := by decide +kernel
theorem dX0_addressAt_4 : decode cX0_addressAt 4 = .ok (.iload_n 1, 1) := by decide +kernel
theorem dX0_addressAt_5 : decode cX0_addressAt 5 = .ok (.aload_n 0, 1) := by decide +kernel
theorem dX0_addressAt_6 : decode cX0_addressAt 6 = .ok (.getfield 9, 3) := by decide +kernel
theorem dX0_addressAt_9 : decode cX0_addressAt 9 = .ok (.arraylength, 1) := by decide +kernel
theorem dX0_addressAt_10 : decode cX0_addressAt 10 = .ok (.if_icmp .ge 12, 3) := by decide +kernel
theorem dX0_addressAt_13 : decode cX0_addressAt 13 = .ok (.aload_n 0, 1) := by decide +kernel
theorem dX0_addressAt_14 : decode cX0_addressAt 14 = .ok (.getfield 9, 3) := by decide +kernel
theorem dX0_addressAt_17 : decode cX0_addressAt 17 = .ok (.iload_n 1, 1) := by decide +kernel
theorem dX0_addressAt_18 : decode cX0_addressAt 18 = .ok (.iaload, 1) := by decide +kernel
theorem dX0_addressAt_19 : decode cX0_addressAt 19 = .ok (.goto 4, 3) := by decide +kernel
theorem dX0_addressAt_22 : decode cX0_addressAt 22 = .ok (.iconst (-1), 1) := by decide +kernel
theorem dX0_addressAt_23 : decode cX0_addressAt 23 = .ok (.ireturn, 1) := by decide +kernel
theorem dX0_orderAt_0 : decode cX0_orderAt 0 = .ok (.iload_n 1, 1) := by decide +kernel
theorem dX0_orderAt_1 : decode cX0_orderAt 1 = .ok (.ifCond .lt 21, 3) := by decide +kernel
theorem dX0_orderAt_4 : decode cX0_orderAt 4 = .ok (.iload_n 1, 1) := by decide +kernel
theorem dX0_orderAt_5 : decode cX0_orderAt 5 = .ok (.aload_n 0, 1) := by decide +kernel
theorem dX0_orderAt_6 : decode cX0_orderAt 6 = .ok (.getfield 15, 3) := by decide +kernel
theorem dX0_orderAt_9 : decode cX0_orderAt 9 = .ok (.arraylength, 1) := by decide +kernel
theorem dX0_orderAt_10 : decode cX0_orderAt 10 = .ok (.if_icmp .ge 12, 3) := by decide +kernel
theorem dX0_orderAt_13 : decode cX0_orderAt 13 = .ok (.aload_n 0, 1) := by decide +kernel
theorem dX0_orderAt_14 : decode cX0_orderAt 14 = .ok (.getfield 15, 3) := by decide +kernel
theorem dX0_orderAt_17 : decode cX0_orderAt 17 = .ok (.iload_n 1, 1) := by decide +kernel
theorem dX0_orderAt_18 : decode cX0_orderAt 18 = .ok (.iaload, 1) := by decide +kernel
theorem dX0_orderAt_19 : decode cX0_orderAt 19 = .ok (.goto 4, 3) := by decide +kernel
theorem dX0_orderAt_22 : decode cX0_orderAt 22 = .ok (.iconst (-1), 1) := by decide +kernel
theorem dX0_orderAt_23 : decode cX0_orderAt 23 = .ok (.ireturn, 1) := by decide +kernel
theorem dX0_countAt_0 : decode cX0_countAt 0 = .ok (.iload_n 1, 1) := by decide +kernel
theorem dX0_countAt_1 : decode cX0_countAt 1 = .ok (.ifCond .lt 21, 3) := by decide +kernel
theorem dX0_countAt_4 : decode cX0_countAt 4 = .ok (.iload_n 1, 1) := by decide +kernel
theorem dX0_countAt_5 : decode cX0_countAt 5 = .ok (.aload_n 0, 1) := by decide +kernel
theorem dX0_countAt_6 : decode cX0_countAt 6 = .ok (.getfield 18, 3) := by decide +kernel
theorem dX0_countAt_9 : decode cX0_countAt 9 = .ok (.arraylength, 1) := by decide +kernel
theorem dX0_countAt_10 : decode cX0_countAt 10 = .ok (.if_icmp .ge 12, 3) := by decide +kernel
theorem dX0_countAt_13 : decode cX0_countAt 13 = .ok (.aload_n 0, 1) := by decide +kernel
theorem dX0_countAt_14 : decode cX0_countAt 14 = .ok (.getfield 18, 3) := by decide +kernel
theorem dX0_countAt_17 : decode cX0_countAt 17 = .ok (.iload_n 1, 1) := by decide +kernel
theorem dX0_countAt_18 : decode cX0_countAt 18 = .ok (.iaload, 1) := by decide +kernel
theorem dX0_countAt_19 : decode cX0_countAt 19 = .ok (.goto 4, 3) := by decide +kernel
theorem dX0_countAt_22 : decode cX0_countAt 22 = .ok (.iconst (-1), 1) := by decide +kernel
theorem dX0_countAt_23 : decode cX0_countAt 23 = .ok (.ireturn, 1) := by decide +kernel
theorem dX0_ownerAt_0 : decode cX0_ownerAt 0 = .ok (.iload_n 1, 1) := by decide +kernel
theorem dX0_ownerAt_1 : decode cX0_ownerAt 1 = .ok (.ifCond .lt 21, 3) := by decide +kernel
theorem dX0_ownerAt_4 : decode cX0_ownerAt 4 = .ok (.iload_n 1, 1) := by decide +kernel
theorem dX0_ownerAt_5 : decode cX0_ownerAt 5 = .ok (.aload_n 0, 1) := by decide +kernel
theorem dX0_ownerAt_6 : decode cX0_ownerAt 6 = .ok (.getfield 21, 3) := by decide +kernel
theorem dX0_ownerAt_9 : decode cX0_ownerAt 9 = .ok (.arraylength, 1) := by decide +kernel
theorem dX0_ownerAt_10 : decode cX0_ownerAt 10 = .ok (.if_icmp .ge 12, 3) := by decide +kernel
theorem dX0_ownerAt_13 : decode cX0_ownerAt 13 = .ok (.aload_n 0, 1) := by decide +kernel
theorem dX0_ownerAt_14 : decode cX0_ownerAt 14 = .ok (.getfield 21, 3) := by decide +kernel
theorem dX0_ownerAt_17 : decode cX0_ownerAt 17 = .ok (.iload_n 1, 1) := by decide +kernel
theorem dX0_ownerAt_18 : decode cX0_ownerAt 18 = .ok (.iaload, 1) := by decide +kernel
theorem dX0_ownerAt_19 : decode cX0_ownerAt 19 = .ok (.goto 4, 3) := by decide +kernel
theorem dX0_ownerAt_22 : decode cX0_ownerAt 22 = .ok (.iconst (-1), 1) := by decide +kernel
theorem dX0_ownerAt_23 : decode cX0_ownerAt 23 = .ok (.ireturn, 1) := by decide +kernel
theorem dX0_isFreeAt_0 : decode cX0_isFreeAt 0 = .ok (.aload_n 0, 1) := by decide +kernel
theorem dX0_isFreeAt_1 : decode cX0_isFreeAt 1 = .ok (.iload_n 1, 1) := by decide +kernel
theorem dX0_isFreeAt_2 : decode cX0_isFreeAt 2 = .ok (.invokevirtual 39, 3) := by decide +kernel
theorem dX0_isFreeAt_5 : decode cX0_isFreeAt 5 = .ok (.ifCond .eq 16, 3) := by decide +kernel
theorem dX0_isFreeAt_8 : decode cX0_isFreeAt 8 = .ok (.aload_n 0, 1) := by decide +kernel
theorem dX0_isFreeAt_9 : decode cX0_isFreeAt 9 = .ok (.iload_n 1, 1) := by decide +kernel
theorem dX0_isFreeAt_10 : decode cX0_isFreeAt 10 = .ok (.invokevirtual 43, 3) := by decide +kernel
theorem dX0_isFreeAt_13 : decode cX0_isFreeAt 13 = .ok (.iconst (-1), 1) := by decide +kernel
theorem dX0_isFreeAt_14 : decode cX0_isFreeAt 14 = .ok (.if_icmp .ne 7, 3) := by decide +kernel
theorem dX0_isFreeAt_17 : decode cX0_isFreeAt 17 = .ok (.iconst 1, 1) := by decide +kernel
theorem dX0_isFreeAt_18 : decode cX0_isFreeAt 18 = .ok (.goto 4, 3) := by decide +kernel
theorem dX0_isFreeAt_21 : decode cX0_isFreeAt 21 = .ok (.iconst 0, 1) := by decide +kernel
theorem dX0_isFreeAt_22 : decode cX0_isFreeAt 22 = .ok (.ireturn, 1) := by decide +kernel
theorem dX0_setOwner_0 : decode cX0_setOwner 0 = .ok (.aload_n 0, 1) := by decide +kernel
theorem dX0_setOwner_1 : decode cX0_setOwner 1 = .ok (.getfield 21, 3) := by decide +kernel
theorem dX0_setOwner_4 : decode cX0_setOwner 4 = .ok (.iload_n 1, 1) := by decide +kernel
theorem dX0_setOwner_5 : decode cX0_setOwner 5 = .ok (.iload_n 2, 1) := by decide +kernel
theorem dX0_setOwner_6 : decode cX0_setOwner 6 = .ok (.invokestatic 47, 3) := by decide +kernel
theorem dX0_setOwner_9 : decode cX0_setOwner 9 = .ok (.return_, 1) := by decide +kernel
theorem dX0_cutAt_0 : decode cX0_cutAt 0 = .ok (.aload_n 0, 1) := by decide +kernel
theorem dX0_cutAt_1 : decode cX0_cutAt 1 = .ok (.iload_n 1, 1) := by decide +kernel
theorem dX0_cutAt_2 : decode cX0_cutAt 2 = .ok (.invokevirtual 51, 3) := by decide +kernel
theorem dX0_cutAt_5 : decode cX0_cutAt 5 = .ok (.istore_n 2, 1) := by decide +kernel
theorem dX0_cutAt_6 : decode cX0_cutAt 6 = .ok (.aload_n 0, 1) := by decide +kernel
theorem dX0_cutAt_7 : decode cX0_cutAt 7 = .ok (.iload_n 1, 1) := by decide +kernel
theorem dX0_cutAt_8 : decode cX0_cutAt 8 = .ok (.invokevirtual 54, 3) := by decide +kernel
theorem dX0_cutAt_11 : decode cX0_cutAt 11 = .ok (.istore_n 3, 1) := by decide +kernel
theorem dX0_cutAt_12 : decode cX0_cutAt 12 = .ok (.aload_n 0, 1) := by decide +kernel
theorem dX0_cutAt_13 : decode cX0_cutAt 13 = .ok (.getfield 28, 3) := by decide +kernel
theorem dX0_cutAt_16 : decode cX0_cutAt 16 = .ok (.istore 4, 2) := by decide +kernel
theorem dX0_cutAt_18 : decode cX0_cutAt 18 = .ok (.iload 4, 2) := by decide +kernel
theorem dX0_cutAt_20 : decode cX0_cutAt 20 = .ok (.iload_n 1, 1) := by decide +kernel
theorem dX0_cutAt_21 : decode cX0_cutAt 21 = .ok (.iconst 1, 1) := by decide +kernel
theorem dX0_cutAt_22 : decode cX0_cutAt 22 = .ok (.iadd, 1) := by decide +kernel
theorem dX0_cutAt_23 : decode cX0_cutAt 23 = .ok (.if_icmp .le 19, 3) := by decide +kernel
theorem dX0_cutAt_26 : decode cX0_cutAt 26 = .ok (.aload_n 0, 1) := by decide +kernel
theorem dX0_cutAt_27 : decode cX0_cutAt 27 = .ok (.iload 4, 2) := by decide +kernel
theorem dX0_cutAt_29 : decode cX0_cutAt 29 = .ok (.iconst 1, 1) := by decide +kernel
theorem dX0_cutAt_30 : decode cX0_cutAt 30 = .ok (.isub, 1) := by decide +kernel
theorem dX0_cutAt_31 : decode cX0_cutAt 31 = .ok (.iload 4, 2) := by decide +kernel
theorem dX0_cutAt_33 : decode cX0_cutAt 33 = .ok (.invokevirtual 57, 3) := by decide +kernel
theorem dX0_cutAt_36 : decode cX0_cutAt 36 = .ok (.iinc 4 (-1), 3) := by decide +kernel
theorem dX0_cutAt_39 : decode cX0_cutAt 39 = .ok (.goto (-21), 3) := by decide +kernel
theorem dX0_cutAt_42 : decode cX0_cutAt 42 = .ok (.aload_n 0, 1) := by decide +kernel
theorem dX0_cutAt_43 : decode cX0_cutAt 43 = .ok (.dup, 1) := by decide +kernel
theorem dX0_cutAt_44 : decode cX0_cutAt 44 = .ok (.getfield 28, 3) := by decide +kernel
theorem dX0_cutAt_47 : decode cX0_cutAt 47 = .ok (.iconst 1, 1) := by decide +kernel
theorem dX0_cutAt_48 : decode cX0_cutAt 48 = .ok (.iadd, 1) := by decide +kernel
theorem dX0_cutAt_49 : decode cX0_cutAt 49 = .ok (.putfield 28, 3) := by decide +kernel
theorem dX0_cutAt_52 : decode cX0_cutAt 52 = .ok (.aload_n 0, 1) := by decide +kernel
theorem dX0_cutAt_53 : decode cX0_cutAt 53 = .ok (.iload_n 1, 1) := by decide +kernel
theorem dX0_cutAt_54 : decode cX0_cutAt 54 = .ok (.iload_n 2, 1) := by decide +kernel
theorem dX0_cutAt_55 : decode cX0_cutAt 55 = .ok (.iload_n 3, 1) := by decide +kernel
theorem dX0_cutAt_56 : decode cX0_cutAt 56 = .ok (.iconst 1, 1) := by decide +kernel
theorem dX0_cutAt_57 : decode cX0_cutAt 57 = .ok (.isub, 1) := by decide +kernel
theorem dX0_cutAt_58 : decode cX0_cutAt 58 = .ok (.aload_n 0, 1) := by decide +kernel
theorem dX0_cutAt_59 : decode cX0_cutAt 59 = .ok (.iload_n 1, 1) := by decide +kernel
theorem dX0_cutAt_60 : decode cX0_cutAt 60 = .ok (.invokevirtual 61, 3) := by decide +kernel
theorem dX0_cutAt_63 : decode cX0_cutAt 63 = .ok (.iconst 1, 1) := by decide +kernel
theorem dX0_cutAt_64 : decode cX0_cutAt 64 = .ok (.iadd, 1) := by decide +kernel
theorem dX0_cutAt_65 : decode cX0_cutAt 65 = .ok (.aload_n 0, 1) := by decide +kernel
theorem dX0_cutAt_66 : decode cX0_cutAt 66 = .ok (.iload_n 1, 1) := by decide +kernel
theorem dX0_cutAt_67 : decode cX0_cutAt 67 = .ok (.invokevirtual 43, 3) := by decide +kernel
theorem dX0_cutAt_70 : decode cX0_cutAt 70 = .ok (.invokevirtual 31, 3) := by decide +kernel
theorem dX0_cutAt_73 : decode cX0_cutAt 73 = .ok (.aload_n 0, 1) := by decide +kernel
theorem dX0_cutAt_74 : decode cX0_cutAt 74 = .ok (.iload_n 1, 1) := by decide +kernel
theorem dX0_cutAt_75 : decode cX0_cutAt 75 = .ok (.iconst 1, 1) := by decide +kernel
theorem dX0_cutAt_76 : decode cX0_cutAt 76 = .ok (.iadd, 1) := by decide +kernel
theorem dX0_cutAt_77 : decode cX0_cutAt 77 = .ok (.iload_n 2, 1) := by decide +kernel
theorem dX0_cutAt_78 : decode cX0_cutAt 78 = .ok (.iload_n 3, 1) := by decide +kernel
theorem dX0_cutAt_79 : decode cX0_cutAt 79 = .ok (.iconst 1, 1) := by decide +kernel
theorem dX0_cutAt_80 : decode cX0_cutAt 80 = .ok (.isub, 1) := by decide +kernel
theorem dX0_cutAt_81 : decode cX0_cutAt 81 = .ok (.invokestatic 64, 3) := by decide +kernel
theorem dX0_cutAt_84 : decode cX0_cutAt 84 = .ok (.iadd, 1) := by decide +kernel
theorem dX0_cutAt_85 : decode cX0_cutAt 85 = .ok (.iload_n 3, 1) := by decide +kernel
theorem dX0_cutAt_86 : decode cX0_cutAt 86 = .ok (.iconst 2, 1) := by decide +kernel
theorem dX0_cutAt_87 : decode cX0_cutAt 87 = .ok (.isub, 1) := by decide +kernel
theorem dX0_cutAt_88 : decode cX0_cutAt 88 = .ok (.iconst 0, 1) := by decide +kernel
theorem dX0_cutAt_89 : decode cX0_cutAt 89 = .ok (.iconst (-1), 1) := by decide +kernel
theorem dX0_cutAt_90 : decode cX0_cutAt 90 = .ok (.invokevirtual 31, 3) := by decide +kernel
theorem dX0_cutAt_93 : decode cX0_cutAt 93 = .ok (.return_, 1) := by decide +kernel
theorem dX0_replace_0 : decode cX0_replace 0 = .ok (.aload_n 1, 1) := by decide +kernel
theorem dX0_replace_1 : decode cX0_replace 1 = .ok (.getfield 67, 3) := by decide +kernel
theorem dX0_replace_4 : decode cX0_replace 4 = .ok (.aload_n 1, 1) := by decide +kernel
theorem dX0_replace_5 : decode cX0_replace 5 = .ok (.getfield 72, 3) := by decide +kernel
theorem dX0_replace_8 : decode cX0_replace 8 = .ok (.isub, 1) := by decide +kernel
theorem dX0_replace_9 : decode cX0_replace 9 = .ok (.istore_n 3, 1) := by decide +kernel
theorem dX0_replace_10 : decode cX0_replace 10 = .ok (.aload_n 0, 1) := by decide +kernel
theorem dX0_replace_11 : decode cX0_replace 11 = .ok (.aload_n 1, 1) := by decide +kernel
theorem dX0_replace_12 : decode cX0_replace 12 = .ok (.getfield 72, 3) := by decide +kernel
theorem dX0_replace_15 : decode cX0_replace 15 = .ok (.aload_n 0, 1) := by decide +kernel
theorem dX0_replace_16 : decode cX0_replace 16 = .ok (.aload_n 1, 1) := by decide +kernel
theorem dX0_replace_17 : decode cX0_replace 17 = .ok (.getfield 72, 3) := by decide +kernel
theorem dX0_replace_20 : decode cX0_replace 20 = .ok (.invokevirtual 51, 3) := by decide +kernel
theorem dX0_replace_23 : decode cX0_replace 23 = .ok (.aload_n 1, 1) := by decide +kernel
theorem dX0_replace_24 : decode cX0_replace 24 = .ok (.getfield 75, 3) := by decide +kernel
theorem dX0_replace_27 : decode cX0_replace 27 = .ok (.aload_n 1, 1) := by decide +kernel
theorem dX0_replace_28 : decode cX0_replace 28 = .ok (.getfield 78, 3) := by decide +kernel
theorem dX0_replace_31 : decode cX0_replace 31 = .ok (.iload_n 2, 1) := by decide +kernel
theorem dX0_replace_32 : decode cX0_replace 32 = .ok (.invokevirtual 31, 3) := by decide +kernel
theorem dX0_replace_35 : decode cX0_replace 35 = .ok (.aload_n 1, 1) := by decide +kernel
theorem dX0_replace_36 : decode cX0_replace 36 = .ok (.getfield 67, 3) := by decide +kernel
theorem dX0_replace_39 : decode cX0_replace 39 = .ok (.iconst 1, 1) := by decide +kernel
theorem dX0_replace_40 : decode cX0_replace 40 = .ok (.iadd, 1) := by decide +kernel
theorem dX0_replace_41 : decode cX0_replace 41 = .ok (.istore 4, 2) := by decide +kernel
theorem dX0_replace_43 : decode cX0_replace 43 = .ok (.iload 4, 2) := by decide +kernel
theorem dX0_replace_45 : decode cX0_replace 45 = .ok (.aload_n 0, 1) := by decide +kernel
theorem dX0_replace_46 : decode cX0_replace 46 = .ok (.getfield 28, 3) := by decide +kernel
theorem dX0_replace_49 : decode cX0_replace 49 = .ok (.if_icmp .ge 19, 3) := by decide +kernel
theorem dX0_replace_52 : decode cX0_replace 52 = .ok (.aload_n 0, 1) := by decide +kernel
theorem dX0_replace_53 : decode cX0_replace 53 = .ok (.iload 4, 2) := by decide +kernel
theorem dX0_replace_55 : decode cX0_replace 55 = .ok (.iload 4, 2) := by decide +kernel
theorem dX0_replace_57 : decode cX0_replace 57 = .ok (.iload_n 3, 1) := by decide +kernel
theorem dX0_replace_58 : decode cX0_replace 58 = .ok (.isub, 1) := by decide +kernel
theorem dX0_replace_59 : decode cX0_replace 59 = .ok (.invokevirtual 57, 3) := by decide +kernel
theorem dX0_replace_62 : decode cX0_replace 62 = .ok (.iinc 4 1, 3) := by decide +kernel
theorem dX0_replace_65 : decode cX0_replace 65 = .ok (.goto (-22), 3) := by decide +kernel
theorem dX0_replace_68 : decode cX0_replace 68 = .ok (.aload_n 0, 1) := by decide +kernel
theorem dX0_replace_69 : decode cX0_replace 69 = .ok (.dup, 1) := by decide +kernel
theorem dX0_replace_70 : decode cX0_replace 70 = .ok (.getfield 28, 3) := by decide +kernel
theorem dX0_replace_73 : decode cX0_replace 73 = .ok (.iload_n 3, 1) := by decide +kernel
theorem dX0_replace_74 : decode cX0_replace 74 = .ok (.isub, 1) := by decide +kernel
theorem dX0_replace_75 : decode cX0_replace 75 = .ok (.putfield 28, 3) := by decide +kernel
theorem dX0_replace_78 : decode cX0_replace 78 = .ok (.return_, 1) := by decide +kernel
theorem dX0_placeOfOwner_0 : decode cX0_placeOfOwner 0 = .ok (.iconst 0, 1) := by decide +kernel
theorem dX0_placeOfOwner_1 : decode cX0_placeOfOwner 1 = .ok (.istore_n 2, 1) := by decide +kernel
theorem dX0_placeOfOwner_2 : decode cX0_placeOfOwner 2 = .ok (.iload_n 2, 1) := by decide +kernel
theorem dX0_placeOfOwner_3 : decode cX0_placeOfOwner 3 = .ok (.aload_n 0, 1) := by decide +kernel
theorem dX0_placeOfOwner_4 : decode cX0_placeOfOwner 4 = .ok (.getfield 28, 3) := by decide +kernel
theorem dX0_placeOfOwner_7 : decode cX0_placeOfOwner 7 = .ok (.if_icmp .ge 20, 3) := by decide +kernel
theorem dX0_placeOfOwner_10 : decode cX0_placeOfOwner 10 = .ok (.aload_n 0, 1) := by decide +kernel
theorem dX0_placeOfOwner_11 : decode cX0_placeOfOwner 11 = .ok (.iload_n 2, 1) := by decide +kernel
theorem dX0_placeOfOwner_12 : decode cX0_placeOfOwner 12 = .ok (.invokevirtual 43, 3) := by decide +kernel
theorem dX0_placeOfOwner_15 : decode cX0_placeOfOwner 15 = .ok (.iload_n 1, 1) := by decide +kernel
theorem dX0_placeOfOwner_16 : decode cX0_placeOfOwner 16 = .ok (.if_icmp .ne 5, 3) := by decide +kernel
theorem dX0_placeOfOwner_19 : decode cX0_placeOfOwner 19 = .ok (.iload_n 2, 1) := by decide +kernel
theorem dX0_placeOfOwner_20 : decode cX0_placeOfOwner 20 = .ok (.ireturn, 1) := by decide +kernel
theorem dX0_placeOfOwner_21 : decode cX0_placeOfOwner 21 = .ok (.iinc 2 1, 3) := by decide +kernel
theorem dX0_placeOfOwner_24 : decode cX0_placeOfOwner 24 = .ok (.goto (-22), 3) := by decide +kernel
theorem dX0_placeOfOwner_27 : decode cX0_placeOfOwner 27 = .ok (.iconst (-1), 1) := by decide +kernel
theorem dX0_placeOfOwner_28 : decode cX0_placeOfOwner 28 = .ok (.ireturn, 1) := by decide +kernel
theorem dX0_placeOfCell_0 : decode cX0_placeOfCell 0 = .ok (.iconst 0, 1) := by decide +kernel
theorem dX0_placeOfCell_1 : decode cX0_placeOfCell 1 = .ok (.istore_n 2, 1) := by decide +kernel
theorem dX0_placeOfCell_2 : decode cX0_placeOfCell 2 = .ok (.aload_n 0, 1) := by decide +kernel
theorem dX0_placeOfCell_3 : decode cX0_placeOfCell 3 = .ok (.getfield 28, 3) := by decide +kernel
theorem dX0_placeOfCell_6 : decode cX0_placeOfCell 6 = .ok (.iconst 1, 1) := by decide +kernel
theorem dX0_placeOfCell_7 : decode cX0_placeOfCell 7 = .ok (.isub, 1) := by decide +kernel
theorem dX0_placeOfCell_8 : decode cX0_placeOfCell 8 = .ok (.istore_n 3, 1) := by decide +kernel
theorem dX0_placeOfCell_9 : decode cX0_placeOfCell 9 = .ok (.iconst 0, 1) := by decide +kernel
theorem dX0_placeOfCell_10 : decode cX0_placeOfCell 10 = .ok (.istore 4, 2) := by decide +kernel
theorem dX0_placeOfCell_12 : decode cX0_placeOfCell 12 = .ok (.iload 4, 2) := by decide +kernel
theorem dX0_placeOfCell_14 : decode cX0_placeOfCell 14 = .ok (.sipush 313, 3) := by decide +kernel
theorem dX0_placeOfCell_17 : decode cX0_placeOfCell 17 = .ok (.if_icmp .ge 44, 3) := by decide +kernel
theorem dX0_placeOfCell_20 : decode cX0_placeOfCell 20 = .ok (.iload_n 2, 1) := by decide +kernel
theorem dX0_placeOfCell_21 : decode cX0_placeOfCell 21 = .ok (.iload_n 3, 1) := by decide +kernel
theorem dX0_placeOfCell_22 : decode cX0_placeOfCell 22 = .ok (.if_icmp .ge 39, 3) := by decide +kernel
theorem dX0_placeOfCell_25 : decode cX0_placeOfCell 25 = .ok (.iload_n 2, 1) := by decide +kernel
theorem dX0_placeOfCell_26 : decode cX0_placeOfCell 26 = .ok (.iload_n 3, 1) := by decide +kernel
theorem dX0_placeOfCell_27 : decode cX0_placeOfCell 27 = .ok (.iadd, 1) := by decide +kernel
theorem dX0_placeOfCell_28 : decode cX0_placeOfCell 28 = .ok (.iconst 1, 1) := by decide +kernel
theorem dX0_placeOfCell_29 : decode cX0_placeOfCell 29 = .ok (.iadd, 1) := by decide +kernel
theorem dX0_placeOfCell_30 : decode cX0_placeOfCell 30 = .ok (.iconst 2, 1) := by decide +kernel
theorem dX0_placeOfCell_31 : decode cX0_placeOfCell 31 = .ok (.idiv, 1) := by decide +kernel
theorem dX0_placeOfCell_32 : decode cX0_placeOfCell 32 = .ok (.istore 5, 2) := by decide +kernel
theorem dX0_placeOfCell_34 : decode cX0_placeOfCell 34 = .ok (.aload_n 0, 1) := by decide +kernel
theorem dX0_placeOfCell_35 : decode cX0_placeOfCell 35 = .ok (.iload 5, 2) := by decide +kernel
theorem dX0_placeOfCell_37 : decode cX0_placeOfCell 37 = .ok (.invokevirtual 51, 3) := by decide +kernel
theorem dX0_placeOfCell_40 : decode cX0_placeOfCell 40 = .ok (.iload_n 1, 1) := by decide +kernel
theorem dX0_placeOfCell_41 : decode cX0_placeOfCell 41 = .ok (.if_icmp .gt 9, 3) := by decide +kernel
theorem dX0_placeOfCell_44 : decode cX0_placeOfCell 44 = .ok (.iload 5, 2) := by decide +kernel
theorem dX0_placeOfCell_46 : decode cX0_placeOfCell 46 = .ok (.istore_n 2, 1) := by decide +kernel
theorem dX0_placeOfCell_47 : decode cX0_placeOfCell 47 = .ok (.goto 8, 3) := by decide +kernel
theorem dX0_placeOfCell_50 : decode cX0_placeOfCell 50 = .ok (.iload 5, 2) := by decide +kernel
theorem dX0_placeOfCell_52 : decode cX0_placeOfCell 52 = .ok (.iconst 1, 1) := by decide +kernel
theorem dX0_placeOfCell_53 : decode cX0_placeOfCell 53 = .ok (.isub, 1) := by decide +kernel
theorem dX0_placeOfCell_54 : decode cX0_placeOfCell 54 = .ok (.istore_n 3, 1) := by decide +kernel
theorem dX0_placeOfCell_55 : decode cX0_placeOfCell 55 = .ok (.iinc 4 1, 3) := by decide +kernel
theorem dX0_placeOfCell_58 : decode cX0_placeOfCell 58 = .ok (.goto (-46), 3) := by decide +kernel
theorem dX0_placeOfCell_61 : decode cX0_placeOfCell 61 = .ok (.iload_n 2, 1) := by decide +kernel
theorem dX0_placeOfCell_62 : decode cX0_placeOfCell 62 = .ok (.ireturn, 1) := by decide +kernel
theorem dX0_placeOfBlock_0 : decode cX0_placeOfBlock 0 = .ok (.aload_n 0, 1) := by decide +kernel
theorem dX0_placeOfBlock_1 : decode cX0_placeOfBlock 1 = .ok (.iload_n 1, 1) := by decide +kernel
theorem dX0_placeOfBlock_2 : decode cX0_placeOfBlock 2 = .ok (.invokevirtual 81, 3) := by decide +kernel
theorem dX0_placeOfBlock_5 : decode cX0_placeOfBlock 5 = .ok (.istore_n 3, 1) := by decide +kernel
theorem dX0_placeOfBlock_6 : decode cX0_placeOfBlock 6 = .ok (.aload_n 0, 1) := by decide +kernel
theorem dX0_placeOfBlock_7 : decode cX0_placeOfBlock 7 = .ok (.iload_n 3, 1) := by decide +kernel
theorem dX0_placeOfBlock_8 : decode cX0_placeOfBlock 8 = .ok (.invokevirtual 51, 3) := by decide +kernel
theorem dX0_placeOfBlock_11 : decode cX0_placeOfBlock 11 = .ok (.iload_n 1, 1) := by decide +kernel
theorem dX0_placeOfBlock_12 : decode cX0_placeOfBlock 12 = .ok (.if_icmp .ne 16, 3) := by decide +kernel
theorem dX0_placeOfBlock_15 : decode cX0_placeOfBlock 15 = .ok (.aload_n 0, 1) := by decide +kernel
theorem dX0_placeOfBlock_16 : decode cX0_placeOfBlock 16 = .ok (.iload_n 3, 1) := by decide +kernel
theorem dX0_placeOfBlock_17 : decode cX0_placeOfBlock 17 = .ok (.invokevirtual 54, 3) := by decide +kernel
theorem dX0_placeOfBlock_20 : decode cX0_placeOfBlock 20 = .ok (.iload_n 2, 1) := by decide +kernel
theorem dX0_placeOfBlock_21 : decode cX0_placeOfBlock 21 = .ok (.if_icmp .ne 7, 3) := by decide +kernel
theorem dX0_placeOfBlock_24 : decode cX0_placeOfBlock 24 = .ok (.iload_n 3, 1) := by decide +kernel
theorem dX0_placeOfBlock_25 : decode cX0_placeOfBlock 25 = .ok (.goto 4, 3) := by decide +kernel
theorem dX0_placeOfBlock_28 : decode cX0_placeOfBlock 28 = .ok (.iconst (-1), 1) := by decide +kernel
theorem dX0_placeOfBlock_29 : decode cX0_placeOfBlock 29 = .ok (.ireturn, 1) := by decide +kernel
theorem dX0_placeOfFree_0 : decode cX0_placeOfFree 0 = .ok (.iconst (-1), 1) := by decide +kernel
theorem dX0_placeOfFree_1 : decode cX0_placeOfFree 1 = .ok (.istore_n 3, 1) := by decide +kernel
theorem dX0_placeOfFree_2 : decode cX0_placeOfFree 2 = .ok (.iconst 0, 1) := by decide +kernel
theorem dX0_placeOfFree_3 : decode cX0_placeOfFree 3 = .ok (.istore 4, 2) := by decide +kernel
theorem dX0_placeOfFree_5 : decode cX0_placeOfFree 5 = .ok (.iload 4, 2) := by decide +kernel
theorem dX0_placeOfFree_7 : decode cX0_placeOfFree 7 = .ok (.aload_n 0, 1) := by decide +kernel
theorem dX0_placeOfFree_8 : decode cX0_placeOfFree 8 = .ok (.getfield 28, 3) := by decide +kernel
theorem dX0_placeOfFree_11 : decode cX0_placeOfFree 11 = .ok (.if_icmp .ge 57, 3) := by decide +kernel
theorem dX0_placeOfFree_14 : decode cX0_placeOfFree 14 = .ok (.aload_n 0, 1) := by decide +kernel
theorem dX0_placeOfFree_15 : decode cX0_placeOfFree 15 = .ok (.iload 4, 2) := by decide +kernel
theorem dX0_placeOfFree_17 : decode cX0_placeOfFree 17 = .ok (.invokevirtual 84, 3) := by decide +kernel
theorem dX0_placeOfFree_20 : decode cX0_placeOfFree 20 = .ok (.ifCond .eq 42, 3) := by decide +kernel
theorem dX0_placeOfFree_23 : decode cX0_placeOfFree 23 = .ok (.aload_n 0, 1) := by decide +kernel
theorem dX0_placeOfFree_24 : decode cX0_placeOfFree 24 = .ok (.iload 4, 2) := by decide +kernel
theorem dX0_placeOfFree_26 : decode cX0_placeOfFree 26 = .ok (.invokevirtual 54, 3) := by decide +kernel
theorem dX0_placeOfFree_29 : decode cX0_placeOfFree 29 = .ok (.iload_n 1, 1) := by decide +kernel
theorem dX0_placeOfFree_30 : decode cX0_placeOfFree 30 = .ok (.if_icmp .ge 6, 3) := by decide +kernel
theorem dX0_placeOfFree_33 : decode cX0_placeOfFree 33 = .ok (.goto 29, 3) := by decide +kernel
theorem dX0_placeOfFree_36 : decode cX0_placeOfFree 36 = .ok (.iload_n 3, 1) := by decide +kernel
theorem dX0_placeOfFree_37 : decode cX0_placeOfFree 37 = .ok (.iconst (-1), 1) := by decide +kernel
theorem dX0_placeOfFree_38 : decode cX0_placeOfFree 38 = .ok (.if_icmp .eq 21, 3) := by decide +kernel
theorem dX0_placeOfFree_41 : decode cX0_placeOfFree 41 = .ok (.iload_n 2, 1) := by decide +kernel
theorem dX0_placeOfFree_42 : decode cX0_placeOfFree 42 = .ok (.ifCond .ne 20, 3) := by decide +kernel
theorem dX0_placeOfFree_45 : decode cX0_placeOfFree 45 = .ok (.aload_n 0, 1) := by decide +kernel
theorem dX0_placeOfFree_46 : decode cX0_placeOfFree 46 = .ok (.iload 4, 2) := by decide +kernel
theorem dX0_placeOfFree_48 : decode cX0_placeOfFree 48 = .ok (.invokevirtual 54, 3) := by decide +kernel
theorem dX0_placeOfFree_51 : decode cX0_placeOfFree 51 = .ok (.aload_n 0, 1) := by decide +kernel
theorem dX0_placeOfFree_52 : decode cX0_placeOfFree 52 = .ok (.iload_n 3, 1) := by decide +kernel
theorem dX0_placeOfFree_53 : decode cX0_placeOfFree 53 = .ok (.invokevirtual 54, 3) := by decide +kernel
theorem dX0_placeOfFree_56 : decode cX0_placeOfFree 56 = .ok (.if_icmp .ge 6, 3) := by decide +kernel
theorem dX0_placeOfFree_59 : decode cX0_placeOfFree 59 = .ok (.iload 4, 2) := by decide +kernel
theorem dX0_placeOfFree_61 : decode cX0_placeOfFree 61 = .ok (.istore_n 3, 1) := by decide +kernel
theorem dX0_placeOfFree_62 : decode cX0_placeOfFree 62 = .ok (.iinc 4 1, 3) := by decide +kernel
theorem dX0_placeOfFree_65 : decode cX0_placeOfFree 65 = .ok (.goto (-60), 3) := by decide +kernel
theorem dX0_placeOfFree_68 : decode cX0_placeOfFree 68 = .ok (.iload_n 3, 1) := by decide +kernel
theorem dX0_placeOfFree_69 : decode cX0_placeOfFree 69 = .ok (.ireturn, 1) := by decide +kernel
theorem dX0_manyOf_0 : decode cX0_manyOf 0 = .ok (.iconst 0, 1) := by decide +kernel
theorem dX0_manyOf_1 : decode cX0_manyOf 1 = .ok (.istore_n 3, 1) := by decide +kernel
theorem dX0_manyOf_2 : decode cX0_manyOf 2 = .ok (.iconst 0, 1) := by decide +kernel
theorem dX0_manyOf_3 : decode cX0_manyOf 3 = .ok (.istore 4, 2) := by decide +kernel
theorem dX0_manyOf_5 : decode cX0_manyOf 5 = .ok (.iload 4, 2) := by decide +kernel
theorem dX0_manyOf_7 : decode cX0_manyOf 7 = .ok (.aload_n 0, 1) := by decide +kernel
theorem dX0_manyOf_8 : decode cX0_manyOf 8 = .ok (.getfield 28, 3) := by decide +kernel
theorem dX0_manyOf_11 : decode cX0_manyOf 11 = .ok (.if_icmp .ge 32, 3) := by decide +kernel
theorem dX0_manyOf_14 : decode cX0_manyOf 14 = .ok (.aload_n 0, 1) := by decide +kernel
theorem dX0_manyOf_15 : decode cX0_manyOf 15 = .ok (.iload 4, 2) := by decide +kernel
theorem dX0_manyOf_17 : decode cX0_manyOf 17 = .ok (.invokevirtual 54, 3) := by decide +kernel
theorem dX0_manyOf_20 : decode cX0_manyOf 20 = .ok (.iload_n 1, 1) := by decide +kernel
theorem dX0_manyOf_21 : decode cX0_manyOf 21 = .ok (.if_icmp .ne 16, 3) := by decide +kernel
theorem dX0_manyOf_24 : decode cX0_manyOf 24 = .ok (.aload_n 0, 1) := by decide +kernel
theorem dX0_manyOf_25 : decode cX0_manyOf 25 = .ok (.iload 4, 2) := by decide +kernel
theorem dX0_manyOf_27 : decode cX0_manyOf 27 = .ok (.invokevirtual 84, 3) := by decide +kernel
theorem dX0_manyOf_30 : decode cX0_manyOf 30 = .ok (.iload_n 2, 1) := by decide +kernel
theorem dX0_manyOf_31 : decode cX0_manyOf 31 = .ok (.if_icmp .ne 6, 3) := by decide +kernel
theorem dX0_manyOf_34 : decode cX0_manyOf 34 = .ok (.iinc 3 1, 3) := by decide +kernel
theorem dX0_manyOf_37 : decode cX0_manyOf 37 = .ok (.iinc 4 1, 3) := by decide +kernel
theorem dX0_manyOf_40 : decode cX0_manyOf 40 = .ok (.goto (-35), 3) := by decide +kernel
theorem dX0_manyOf_43 : decode cX0_manyOf 43 = .ok (.iload_n 3, 1) := by decide +kernel
theorem dX0_manyOf_44 : decode cX0_manyOf 44 = .ok (.ireturn, 1) := by decide +kernel
theorem dX0_manyFree_0 : decode cX0_manyFree 0 = .ok (.iconst 0, 1) := by decide +kernel
theorem dX0_manyFree_1 : decode cX0_manyFree 1 = .ok (.istore_n 1, 1) := by decide +kernel
theorem dX0_manyFree_2 : decode cX0_manyFree 2 = .ok (.iconst 0, 1) := by decide +kernel
theorem dX0_manyFree_3 : decode cX0_manyFree 3 = .ok (.istore_n 2, 1) := by decide +kernel
theorem dX0_manyFree_4 : decode cX0_manyFree 4 = .ok (.iload_n 2, 1) := by decide +kernel
theorem dX0_manyFree_5 : decode cX0_manyFree 5 = .ok (.aload_n 0, 1) := by decide +kernel
theorem dX0_manyFree_6 : decode cX0_manyFree 6 = .ok (.getfield 28, 3) := by decide +kernel
theorem dX0_manyFree_9 : decode cX0_manyFree 9 = .ok (.if_icmp .ge 20, 3) := by decide +kernel
theorem dX0_manyFree_12 : decode cX0_manyFree 12 = .ok (.aload_n 0, 1) := by decide +kernel
theorem dX0_manyFree_13 : decode cX0_manyFree 13 = .ok (.iload_n 2, 1) := by decide +kernel
theorem dX0_manyFree_14 : decode cX0_manyFree 14 = .ok (.invokevirtual 84, 3) := by decide +kernel
theorem dX0_manyFree_17 : decode cX0_manyFree 17 = .ok (.ifCond .eq 6, 3) := by decide +kernel
theorem dX0_manyFree_20 : decode cX0_manyFree 20 = .ok (.iinc 1 1, 3) := by decide +kernel
theorem dX0_manyFree_23 : decode cX0_manyFree 23 = .ok (.iinc 2 1, 3) := by decide +kernel
theorem dX0_manyFree_26 : decode cX0_manyFree 26 = .ok (.goto (-22), 3) := by decide +kernel
theorem dX0_manyFree_29 : decode cX0_manyFree 29 = .ok (.iload_n 1, 1) := by decide +kernel
theorem dX0_manyFree_30 : decode cX0_manyFree 30 = .ok (.ireturn, 1) := by decide +kernel
theorem dX0_freeCells_0 : decode cX0_freeCells 0 = .ok (.iconst 0, 1) := by decide +kernel
theorem dX0_freeCells_1 : decode cX0_freeCells 1 = .ok (.istore_n 1, 1) := by decide +kernel
theorem dX0_freeCells_2 : decode cX0_freeCells 2 = .ok (.iconst 0, 1) := by decide +kernel
theorem dX0_freeCells_3 : decode cX0_freeCells 3 = .ok (.istore_n 2, 1) := by decide +kernel
theorem dX0_freeCells_4 : decode cX0_freeCells 4 = .ok (.iload_n 2, 1) := by decide +kernel
theorem dX0_freeCells_5 : decode cX0_freeCells 5 = .ok (.aload_n 0, 1) := by decide +kernel
theorem dX0_freeCells_6 : decode cX0_freeCells 6 = .ok (.getfield 28, 3) := by decide +kernel
theorem dX0_freeCells_9 : decode cX0_freeCells 9 = .ok (.if_icmp .ge 28, 3) := by decide +kernel
theorem dX0_freeCells_12 : decode cX0_freeCells 12 = .ok (.aload_n 0, 1) := by decide +kernel
theorem dX0_freeCells_13 : decode cX0_freeCells 13 = .ok (.iload_n 2, 1) := by decide +kernel
theorem dX0_freeCells_14 : decode cX0_freeCells 14 = .ok (.invokevirtual 84, 3) := by decide +kernel
theorem dX0_freeCells_17 : decode cX0_freeCells 17 = .ok (.ifCond .eq 14, 3) := by decide +kernel
theorem dX0_freeCells_20 : decode cX0_freeCells 20 = .ok (.iload_n 1, 1) := by decide +kernel
theorem dX0_freeCells_21 : decode cX0_freeCells 21 = .ok (.aload_n 0, 1) := by decide +kernel
theorem dX0_freeCells_22 : decode cX0_freeCells 22 = .ok (.iload_n 2, 1) := by decide +kernel
theorem dX0_freeCells_23 : decode cX0_freeCells 23 = .ok (.invokevirtual 54, 3) := by decide +kernel
theorem dX0_freeCells_26 : decode cX0_freeCells 26 = .ok (.invokestatic 64, 3) := by decide +kernel
theorem dX0_freeCells_29 : decode cX0_freeCells 29 = .ok (.iadd, 1) := by decide +kernel
theorem dX0_freeCells_30 : decode cX0_freeCells 30 = .ok (.istore_n 1, 1) := by decide +kernel
theorem dX0_freeCells_31 : decode cX0_freeCells 31 = .ok (.iinc 2 1, 3) := by decide +kernel
theorem dX0_freeCells_34 : decode cX0_freeCells 34 = .ok (.goto (-30), 3) := by decide +kernel
theorem dX0_freeCells_37 : decode cX0_freeCells 37 = .ok (.iload_n 1, 1) := by decide +kernel
theorem dX0_freeCells_38 : decode cX0_freeCells 38 = .ok (.ireturn, 1) := by decide +kernel
theorem dX0_greatestFreeOrder_0 : decode cX0_greatestFreeOrder 0 = .ok (.iconst (-1), 1) := by decide +kernel
theorem dX0_greatestFreeOrder_1 : decode cX0_greatestFreeOrder 1 = .ok (.istore_n 1, 1) := by decide +kernel
theorem dX0_greatestFreeOrder_2 : decode cX0_greatestFreeOrder 2 = .ok (.iconst 0, 1) := by decide +kernel
theorem dX0_greatestFreeOrder_3 : decode cX0_greatestFreeOrder 3 = .ok (.istore_n 2, 1) := by decide +kernel
theorem dX0_greatestFreeOrder_4 : decode cX0_greatestFreeOrder 4 = .ok (.iload_n 2, 1) := by decide +kernel
theorem dX0_greatestFreeOrder_5 : decode cX0_greatestFreeOrder 5 = .ok (.aload_n 0, 1) := by decide +kernel
theorem dX0_greatestFreeOrder_6 : decode cX0_greatestFreeOrder 6 = .ok (.getfield 28, 3) := by decide +kernel
theorem dX0_greatestFreeOrder_9 : decode cX0_greatestFreeOrder 9 = .ok (.if_icmp .ge 32, 3) := by decide +kernel
theorem dX0_greatestFreeOrder_12 : decode cX0_greatestFreeOrder 12 = .ok (.aload_n 0, 1) := by decide +kernel
theorem dX0_greatestFreeOrder_13 : decode cX0_greatestFreeOrder 13 = .ok (.iload_n 2, 1) := by decide +kernel
theorem dX0_greatestFreeOrder_14 : decode cX0_greatestFreeOrder 14 = .ok (.invokevirtual 84, 3) := by decide +kernel
theorem dX0_greatestFreeOrder_17 : decode cX0_greatestFreeOrder 17 = .ok (.ifCond .eq 18, 3) := by decide +kernel
theorem dX0_greatestFreeOrder_20 : decode cX0_greatestFreeOrder 20 = .ok (.aload_n 0, 1) := by decide +kernel
theorem dX0_greatestFreeOrder_21 : decode cX0_greatestFreeOrder 21 = .ok (.iload_n 2, 1) := by decide +kernel
theorem dX0_greatestFreeOrder_22 : decode cX0_greatestFreeOrder 22 = .ok (.invokevirtual 54, 3) := by decide +kernel
theorem dX0_greatestFreeOrder_25 : decode cX0_greatestFreeOrder 25 = .ok (.iload_n 1, 1) := by decide +kernel
theorem dX0_greatestFreeOrder_26 : decode cX0_greatestFreeOrder 26 = .ok (.if_icmp .le 9, 3) := by decide +kernel
theorem dX0_greatestFreeOrder_29 : decode cX0_greatestFreeOrder 29 = .ok (.aload_n 0, 1) := by decide +kernel
theorem dX0_greatestFreeOrder_30 : decode cX0_greatestFreeOrder 30 = .ok (.iload_n 2, 1) := by decide +kernel
theorem dX0_greatestFreeOrder_31 : decode cX0_greatestFreeOrder 31 = .ok (.invokevirtual 54, 3) := by decide +kernel
theorem dX0_greatestFreeOrder_34 : decode cX0_greatestFreeOrder 34 = .ok (.istore_n 1, 1) := by decide +kernel
theorem dX0_greatestFreeOrder_35 : decode cX0_greatestFreeOrder 35 = .ok (.iinc 2 1, 3) := by decide +kernel
theorem dX0_greatestFreeOrder_38 : decode cX0_greatestFreeOrder 38 = .ok (.goto (-34), 3) := by decide +kernel
theorem dX0_greatestFreeOrder_41 : decode cX0_greatestFreeOrder 41 = .ok (.iload_n 1, 1) := by decide +kernel
theorem dX0_greatestFreeOrder_42 : decode cX0_greatestFreeOrder 42 = .ok (.ireturn, 1) := by decide +kernel
theorem dX0_partnerByWay_0 : decode cX0_partnerByWay 0 = .ok (.aload_n 0, 1) := by decide +kernel
theorem dX0_partnerByWay_1 : decode cX0_partnerByWay 1 = .ok (.iload_n 1, 1) := by decide +kernel
theorem dX0_partnerByWay_2 : decode cX0_partnerByWay 2 = .ok (.invokevirtual 51, 3) := by decide +kernel
theorem dX0_partnerByWay_5 : decode cX0_partnerByWay 5 = .ok (.istore_n 2, 1) := by decide +kernel
theorem dX0_partnerByWay_6 : decode cX0_partnerByWay 6 = .ok (.aload_n 0, 1) := by decide +kernel
theorem dX0_partnerByWay_7 : decode cX0_partnerByWay 7 = .ok (.iload_n 1, 1) := by decide +kernel
theorem dX0_partnerByWay_8 : decode cX0_partnerByWay 8 = .ok (.invokevirtual 54, 3) := by decide +kernel
theorem dX0_partnerByWay_11 : decode cX0_partnerByWay 11 = .ok (.istore_n 3, 1) := by decide +kernel
theorem dX0_partnerByWay_12 : decode cX0_partnerByWay 12 = .ok (.iconst 0, 1) := by decide +kernel
theorem dX0_partnerByWay_13 : decode cX0_partnerByWay 13 = .ok (.istore 4, 2) := by decide +kernel
theorem dX0_partnerByWay_15 : decode cX0_partnerByWay 15 = .ok (.aload_n 0, 1) := by decide +kernel
theorem dX0_partnerByWay_16 : decode cX0_partnerByWay 16 = .ok (.getfield 24, 3) := by decide +kernel
theorem dX0_partnerByWay_19 : decode cX0_partnerByWay 19 = .ok (.istore 5, 2) := by decide +kernel
theorem dX0_partnerByWay_21 : decode cX0_partnerByWay 21 = .ok (.iconst (-1), 1) := by decide +kernel
theorem dX0_partnerByWay_22 : decode cX0_partnerByWay 22 = .ok (.istore 6, 2) := by decide +kernel
theorem dX0_partnerByWay_24 : decode cX0_partnerByWay 24 = .ok (.iconst (-1), 1) := by decide +kernel
theorem dX0_partnerByWay_25 : decode cX0_partnerByWay 25 = .ok (.istore 7, 2) := by decide +kernel
theorem dX0_partnerByWay_27 : decode cX0_partnerByWay 27 = .ok (.iload 5, 2) := by decide +kernel
theorem dX0_partnerByWay_29 : decode cX0_partnerByWay 29 = .ok (.iconst 2, 1) := by decide +kernel
theorem dX0_partnerByWay_30 : decode cX0_partnerByWay 30 = .ok (.if_icmp .lt 75, 3) := by decide +kernel
theorem dX0_partnerByWay_33 : decode cX0_partnerByWay 33 = .ok (.iload 5, 2) := by decide +kernel
theorem dX0_partnerByWay_35 : decode cX0_partnerByWay 35 = .ok (.iload_n 3, 1) := by decide +kernel
theorem dX0_partnerByWay_36 : decode cX0_partnerByWay 36 = .ok (.if_icmp .ne 9, 3) := by decide +kernel
theorem dX0_partnerByWay_39 : decode cX0_partnerByWay 39 = .ok (.iload 4, 2) := by decide +kernel
theorem dX0_partnerByWay_41 : decode cX0_partnerByWay 41 = .ok (.iload_n 2, 1) := by decide +kernel
theorem dX0_partnerByWay_42 : decode cX0_partnerByWay 42 = .ok (.if_icmp .eq 63, 3) := by decide +kernel
theorem dX0_partnerByWay_45 : decode cX0_partnerByWay 45 = .ok (.iload 4, 2) := by decide +kernel
theorem dX0_partnerByWay_47 : decode cX0_partnerByWay 47 = .ok (.iload 5, 2) := by decide +kernel
theorem dX0_partnerByWay_49 : decode cX0_partnerByWay 49 = .ok (.iconst 1, 1) := by decide +kernel
theorem dX0_partnerByWay_50 : decode cX0_partnerByWay 50 = .ok (.isub, 1) := by decide +kernel
theorem dX0_partnerByWay_51 : decode cX0_partnerByWay 51 = .ok (.invokestatic 64, 3) := by decide +kernel
theorem dX0_partnerByWay_54 : decode cX0_partnerByWay 54 = .ok (.iadd, 1) := by decide +kernel
theorem dX0_partnerByWay_55 : decode cX0_partnerByWay 55 = .ok (.istore 8, 2) := by decide +kernel
theorem dX0_partnerByWay_57 : decode cX0_partnerByWay 57 = .ok (.iload_n 2, 1) := by decide +kernel
theorem dX0_partnerByWay_58 : decode cX0_partnerByWay 58 = .ok (.iload 8, 2) := by decide +kernel
theorem dX0_partnerByWay_60 : decode cX0_partnerByWay 60 = .ok (.if_icmp .ge 22, 3) := by decide +kernel
theorem dX0_partnerByWay_63 : decode cX0_partnerByWay 63 = .ok (.iload 8, 2) := by decide +kernel
theorem dX0_partnerByWay_65 : decode cX0_partnerByWay 65 = .ok (.istore 6, 2) := by decide +kernel
theorem dX0_partnerByWay_67 : decode cX0_partnerByWay 67 = .ok (.iload 5, 2) := by decide +kernel
theorem dX0_partnerByWay_69 : decode cX0_partnerByWay 69 = .ok (.iconst 2, 1) := by decide +kernel
theorem dX0_partnerByWay_70 : decode cX0_partnerByWay 70 = .ok (.isub, 1) := by decide +kernel
theorem dX0_partnerByWay_71 : decode cX0_partnerByWay 71 = .ok (.istore 7, 2) := by decide +kernel
theorem dX0_partnerByWay_73 : decode cX0_partnerByWay 73 = .ok (.iload 5, 2) := by decide +kernel
theorem dX0_partnerByWay_75 : decode cX0_partnerByWay 75 = .ok (.iconst 1, 1) := by decide +kernel
theorem dX0_partnerByWay_76 : decode cX0_partnerByWay 76 = .ok (.isub, 1) := by decide +kernel
theorem dX0_partnerByWay_77 : decode cX0_partnerByWay 77 = .ok (.istore 5, 2) := by decide +kernel
theorem dX0_partnerByWay_79 : decode cX0_partnerByWay 79 = .ok (.goto 23, 3) := by decide +kernel
theorem dX0_partnerByWay_82 : decode cX0_partnerByWay 82 = .ok (.iload 4, 2) := by decide +kernel
theorem dX0_partnerByWay_84 : decode cX0_partnerByWay 84 = .ok (.istore 6, 2) := by decide +kernel
theorem dX0_partnerByWay_86 : decode cX0_partnerByWay 86 = .ok (.iload 5, 2) := by decide +kernel
theorem dX0_partnerByWay_88 : decode cX0_partnerByWay 88 = .ok (.iconst 1, 1) := by decide +kernel
theorem dX0_partnerByWay_89 : decode cX0_partnerByWay 89 = .ok (.isub, 1) := by decide +kernel
theorem dX0_partnerByWay_90 : decode cX0_partnerByWay 90 = .ok (.istore 7, 2) := by decide +kernel
theorem dX0_partnerByWay_92 : decode cX0_partnerByWay 92 = .ok (.iload 8, 2) := by decide +kernel
theorem dX0_partnerByWay_94 : decode cX0_partnerByWay 94 = .ok (.istore 4, 2) := by decide +kernel
theorem dX0_partnerByWay_96 : decode cX0_partnerByWay 96 = .ok (.iload 5, 2) := by decide +kernel
theorem dX0_partnerByWay_98 : decode cX0_partnerByWay 98 = .ok (.iconst 2, 1) := by decide +kernel
theorem dX0_partnerByWay_99 : decode cX0_partnerByWay 99 = .ok (.isub, 1) := by decide +kernel
theorem dX0_partnerByWay_100 : decode cX0_partnerByWay 100 = .ok (.istore 5, 2) := by decide +kernel
theorem dX0_partnerByWay_102 : decode cX0_partnerByWay 102 = .ok (.goto (-75), 3) := by decide +kernel
theorem dX0_partnerByWay_105 : decode cX0_partnerByWay 105 = .ok (.iload 7, 2) := by decide +kernel
theorem dX0_partnerByWay_107 : decode cX0_partnerByWay 107 = .ok (.iconst (-1), 1) := by decide +kernel
theorem dX0_partnerByWay_108 : decode cX0_partnerByWay 108 = .ok (.if_icmp .ne 7, 3) := by decide +kernel
theorem dX0_partnerByWay_111 : decode cX0_partnerByWay 111 = .ok (.iconst (-1), 1) := by decide +kernel
theorem dX0_partnerByWay_112 : decode cX0_partnerByWay 112 = .ok (.goto 11, 3) := by decide +kernel
theorem dX0_partnerByWay_115 : decode cX0_partnerByWay 115 = .ok (.aload_n 0, 1) := by decide +kernel
theorem dX0_partnerByWay_116 : decode cX0_partnerByWay 116 = .ok (.iload 6, 2) := by decide +kernel
theorem dX0_partnerByWay_118 : decode cX0_partnerByWay 118 = .ok (.iload 7, 2) := by decide +kernel
theorem dX0_partnerByWay_120 : decode cX0_partnerByWay 120 = .ok (.invokevirtual 87, 3) := by decide +kernel
theorem dX0_partnerByWay_123 : decode cX0_partnerByWay 123 = .ok (.ireturn, 1) := by decide +kernel
theorem dX0_put_0 : decode cX0_put 0 = .ok (.aload_n 0, 1) := by decide +kernel
theorem dX0_put_1 : decode cX0_put 1 = .ok (.getfield 9, 3) := by decide +kernel
theorem dX0_put_4 : decode cX0_put 4 = .ok (.iload_n 1, 1) := by decide +kernel
theorem dX0_put_5 : decode cX0_put 5 = .ok (.iload_n 2, 1) := by decide +kernel
theorem dX0_put_6 : decode cX0_put 6 = .ok (.invokestatic 47, 3) := by decide +kernel
theorem dX0_put_9 : decode cX0_put 9 = .ok (.aload_n 0, 1) := by decide +kernel
theorem dX0_put_10 : decode cX0_put 10 = .ok (.getfield 15, 3) := by decide +kernel
theorem dX0_put_13 : decode cX0_put 13 = .ok (.iload_n 1, 1) := by decide +kernel
theorem dX0_put_14 : decode cX0_put 14 = .ok (.iload_n 3, 1) := by decide +kernel
theorem dX0_put_15 : decode cX0_put 15 = .ok (.invokestatic 47, 3) := by decide +kernel
theorem dX0_put_18 : decode cX0_put 18 = .ok (.aload_n 0, 1) := by decide +kernel
theorem dX0_put_19 : decode cX0_put 19 = .ok (.getfield 18, 3) := by decide +kernel
theorem dX0_put_22 : decode cX0_put 22 = .ok (.iload_n 1, 1) := by decide +kernel
theorem dX0_put_23 : decode cX0_put 23 = .ok (.iload 4, 2) := by decide +kernel
theorem dX0_put_25 : decode cX0_put 25 = .ok (.invokestatic 47, 3) := by decide +kernel
theorem dX0_put_28 : decode cX0_put 28 = .ok (.aload_n 0, 1) := by decide +kernel
theorem dX0_put_29 : decode cX0_put 29 = .ok (.getfield 21, 3) := by decide +kernel
theorem dX0_put_32 : decode cX0_put 32 = .ok (.iload_n 1, 1) := by decide +kernel
theorem dX0_put_33 : decode cX0_put 33 = .ok (.iload 5, 2) := by decide +kernel
theorem dX0_put_35 : decode cX0_put 35 = .ok (.invokestatic 47, 3) := by decide +kernel
theorem dX0_put_38 : decode cX0_put 38 = .ok (.return_, 1) := by decide +kernel
theorem dX0_move_0 : decode cX0_move 0 = .ok (.aload_n 0, 1) := by decide +kernel
theorem dX0_move_1 : decode cX0_move 1 = .ok (.getfield 9, 3) := by decide +kernel
theorem dX0_move_4 : decode cX0_move 4 = .ok (.iload_n 2, 1) := by decide +kernel
theorem dX0_move_5 : decode cX0_move 5 = .ok (.aload_n 0, 1) := by decide +kernel
theorem dX0_move_6 : decode cX0_move 6 = .ok (.getfield 9, 3) := by decide +kernel
theorem dX0_move_9 : decode cX0_move 9 = .ok (.iload_n 1, 1) := by decide +kernel
theorem dX0_move_10 : decode cX0_move 10 = .ok (.invokestatic 91, 3) := by decide +kernel
theorem dX0_move_13 : decode cX0_move 13 = .ok (.invokestatic 47, 3) := by decide +kernel
theorem dX0_move_16 : decode cX0_move 16 = .ok (.aload_n 0, 1) := by decide +kernel
theorem dX0_move_17 : decode cX0_move 17 = .ok (.getfield 15, 3) := by decide +kernel
theorem dX0_move_20 : decode cX0_move 20 = .ok (.iload_n 2, 1) := by decide +kernel
theorem dX0_move_21 : decode cX0_move 21 = .ok (.aload_n 0, 1) := by decide +kernel
theorem dX0_move_22 : decode cX0_move 22 = .ok (.getfield 15, 3) := by decide +kernel
theorem dX0_move_25 : decode cX0_move 25 = .ok (.iload_n 1, 1) := by decide +kernel
theorem dX0_move_26 : decode cX0_move 26 = .ok (.invokestatic 91, 3) := by decide +kernel
theorem dX0_move_29 : decode cX0_move 29 = .ok (.invokestatic 47, 3) := by decide +kernel
theorem dX0_move_32 : decode cX0_move 32 = .ok (.aload_n 0, 1) := by decide +kernel
theorem dX0_move_33 : decode cX0_move 33 = .ok (.getfield 18, 3) := by decide +kernel
theorem dX0_move_36 : decode cX0_move 36 = .ok (.iload_n 2, 1) := by decide +kernel
theorem dX0_move_37 : decode cX0_move 37 = .ok (.aload_n 0, 1) := by decide +kernel
theorem dX0_move_38 : decode cX0_move 38 = .ok (.getfield 18, 3) := by decide +kernel
theorem dX0_move_41 : decode cX0_move 41 = .ok (.iload_n 1, 1) := by decide +kernel
theorem dX0_move_42 : decode cX0_move 42 = .ok (.invokestatic 91, 3) := by decide +kernel
theorem dX0_move_45 : decode cX0_move 45 = .ok (.invokestatic 47, 3) := by decide +kernel
theorem dX0_move_48 : decode cX0_move 48 = .ok (.aload_n 0, 1) := by decide +kernel
theorem dX0_move_49 : decode cX0_move 49 = .ok (.getfield 21, 3) := by decide +kernel
theorem dX0_move_52 : decode cX0_move 52 = .ok (.iload_n 2, 1) := by decide +kernel
theorem dX0_move_53 : decode cX0_move 53 = .ok (.aload_n 0, 1) := by decide +kernel
theorem dX0_move_54 : decode cX0_move 54 = .ok (.getfield 21, 3) := by decide +kernel
theorem dX0_move_57 : decode cX0_move 57 = .ok (.iload_n 1, 1) := by decide +kernel
theorem dX0_move_58 : decode cX0_move 58 = .ok (.invokestatic 91, 3) := by decide +kernel
theorem dX0_move_61 : decode cX0_move 61 = .ok (.invokestatic 47, 3) := by decide +kernel
theorem dX0_move_64 : decode cX0_move 64 = .ok (.return_, 1) := by decide +kernel
theorem dX1_init_0 : decode cX1_init 0 = .ok (.aload_n 0, 1) := by decide +kernel
theorem dX1_init_1 : decode cX1_init 1 = .ok (.invokespecial 3, 3) := by decide +kernel
theorem dX1_init_4 : decode cX1_init 4 = .ok (.aload_n 0, 1) := by decide +kernel
theorem dX1_init_5 : decode cX1_init 5 = .ok (.new 9, 3) := by decide +kernel
theorem dX1_init_8 : decode cX1_init 8 = .ok (.dup, 1) := by decide +kernel
theorem dX1_init_9 : decode cX1_init 9 = .ok (.invokespecial 11, 3) := by decide +kernel
theorem dX1_init_12 : decode cX1_init 12 = .ok (.putfield 12, 3) := by decide +kernel
theorem dX1_init_15 : decode cX1_init 15 = .ok (.aload_n 0, 1) := by decide +kernel
theorem dX1_init_16 : decode cX1_init 16 = .ok (.new 18, 3) := by decide +kernel
theorem dX1_init_19 : decode cX1_init 19 = .ok (.dup, 1) := by decide +kernel
theorem dX1_init_20 : decode cX1_init 20 = .ok (.invokespecial 20, 3) := by decide +kernel
theorem dX1_init_23 : decode cX1_init 23 = .ok (.putfield 21, 3) := by decide +kernel
theorem dX1_init_26 : decode cX1_init 26 = .ok (.aload_n 0, 1) := by decide +kernel
theorem dX1_init_27 : decode cX1_init 27 = .ok (.bipush 24, 2) := by decide +kernel
theorem dX1_init_29 : decode cX1_init 29 = .ok (.newarray .int, 2) := by decide +kernel
theorem dX1_init_31 : decode cX1_init 31 = .ok (.putfield 25, 3) := by decide +kernel
theorem dX1_init_34 : decode cX1_init 34 = .ok (.aload_n 0, 1) := by decide +kernel
theorem dX1_init_35 : decode cX1_init 35 = .ok (.iconst 2, 1) := by decide +kernel
theorem dX1_init_36 : decode cX1_init 36 = .ok (.newarray .int, 2) := by decide +kernel
theorem dX1_init_38 : decode cX1_init 38 = .ok (.putfield 29, 3) := by decide +kernel
theorem dX1_init_41 : decode cX1_init 41 = .ok (.return_, 1) := by decide +kernel
theorem dX1_startWhole_0 : decode cX1_startWhole 0 = .ok (.aload_n 0, 1) := by decide +kernel
theorem dX1_startWhole_1 : decode cX1_startWhole 1 = .ok (.getfield 12, 3) := by decide +kernel
theorem dX1_startWhole_4 : decode cX1_startWhole 4 = .ok (.iload_n 1, 1) := by decide +kernel
theorem dX1_startWhole_5 : decode cX1_startWhole 5 = .ok (.invokevirtual 32, 3) := by decide +kernel
theorem dX1_startWhole_8 : decode cX1_startWhole 8 = .ok (.iconst 0, 1) := by decide +kernel
theorem dX1_startWhole_9 : decode cX1_startWhole 9 = .ok (.istore_n 2, 1) := by decide +kernel
theorem dX1_startWhole_10 : decode cX1_startWhole 10 = .ok (.iload_n 2, 1) := by decide +kernel
theorem dX1_startWhole_11 : decode cX1_startWhole 11 = .ok (.bipush 24, 2) := by decide +kernel
theorem dX1_startWhole_13 : decode cX1_startWhole 13 = .ok (.if_icmp .ge 18, 3) := by decide +kernel
theorem dX1_startWhole_16 : decode cX1_startWhole 16 = .ok (.aload_n 0, 1) := by decide +kernel
theorem dX1_startWhole_17 : decode cX1_startWhole 17 = .ok (.getfield 25, 3) := by decide +kernel
theorem dX1_startWhole_20 : decode cX1_startWhole 20 = .ok (.iload_n 2, 1) := by decide +kernel
theorem dX1_startWhole_21 : decode cX1_startWhole 21 = .ok (.iconst 0, 1) := by decide +kernel
theorem dX1_startWhole_22 : decode cX1_startWhole 22 = .ok (.invokestatic 36, 3) := by decide +kernel
theorem dX1_startWhole_25 : decode cX1_startWhole 25 = .ok (.iinc 2 1, 3) := by decide +kernel
theorem dX1_startWhole_28 : decode cX1_startWhole 28 = .ok (.goto (-18), 3) := by decide +kernel
theorem dX1_startWhole_31 : decode cX1_startWhole 31 = .ok (.return_, 1) := by decide +kernel
theorem dX1_copyFrom_0 : decode cX1_copyFrom 0 = .ok (.aload_n 0, 1) := by decide +kernel
theorem dX1_copyFrom_1 : decode cX1_copyFrom 1 = .ok (.getfield 12, 3) := by decide +kernel
theorem dX1_copyFrom_4 : decode cX1_copyFrom 4 = .ok (.aload_n 1, 1) := by decide +kernel
theorem dX1_copyFrom_5 : decode cX1_copyFrom 5 = .ok (.getfield 12, 3) := by decide +kernel
theorem dX1_copyFrom_8 : decode cX1_copyFrom 8 = .ok (.invokevirtual 40, 3) := by decide +kernel
theorem dX1_copyFrom_11 : decode cX1_copyFrom 11 = .ok (.aload_n 1, 1) := by decide +kernel
theorem dX1_copyFrom_12 : decode cX1_copyFrom 12 = .ok (.getfield 25, 3) := by decide +kernel
theorem dX1_copyFrom_15 : decode cX1_copyFrom 15 = .ok (.aload_n 0, 1) := by decide +kernel
theorem dX1_copyFrom_16 : decode cX1_copyFrom 16 = .ok (.getfield 25, 3) := by decide +kernel
theorem dX1_copyFrom_19 : decode cX1_copyFrom 19 = .ok (.bipush 24, 2) := by decide +kernel
theorem dX1_copyFrom_21 : decode cX1_copyFrom 21 = .ok (.invokestatic 44, 3) := by decide +kernel
theorem dX1_copyFrom_24 : decode cX1_copyFrom 24 = .ok (.aload_n 1, 1) := by decide +kernel
theorem dX1_copyFrom_25 : decode cX1_copyFrom 25 = .ok (.getfield 29, 3) := by decide +kernel
theorem dX1_copyFrom_28 : decode cX1_copyFrom 28 = .ok (.aload_n 0, 1) := by decide +kernel
theorem dX1_copyFrom_29 : decode cX1_copyFrom 29 = .ok (.getfield 29, 3) := by decide +kernel
theorem dX1_copyFrom_32 : decode cX1_copyFrom 32 = .ok (.iconst 2, 1) := by decide +kernel
theorem dX1_copyFrom_33 : decode cX1_copyFrom 33 = .ok (.invokestatic 44, 3) := by decide +kernel
theorem dX1_copyFrom_36 : decode cX1_copyFrom 36 = .ok (.aload_n 0, 1) := by decide +kernel
theorem dX1_copyFrom_37 : decode cX1_copyFrom 37 = .ok (.aload_n 1, 1) := by decide +kernel
theorem dX1_copyFrom_38 : decode cX1_copyFrom 38 = .ok (.getfield 48, 3) := by decide +kernel
theorem dX1_copyFrom_41 : decode cX1_copyFrom 41 = .ok (.putfield 48, 3) := by decide +kernel
theorem dX1_copyFrom_44 : decode cX1_copyFrom 44 = .ok (.aload_n 0, 1) := by decide +kernel
theorem dX1_copyFrom_45 : decode cX1_copyFrom 45 = .ok (.aload_n 1, 1) := by decide +kernel
theorem dX1_copyFrom_46 : decode cX1_copyFrom 46 = .ok (.getfield 52, 3) := by decide +kernel
theorem dX1_copyFrom_49 : decode cX1_copyFrom 49 = .ok (.putfield 52, 3) := by decide +kernel
theorem dX1_copyFrom_52 : decode cX1_copyFrom 52 = .ok (.aload_n 0, 1) := by decide +kernel
theorem dX1_copyFrom_53 : decode cX1_copyFrom 53 = .ok (.aload_n 1, 1) := by decide +kernel
theorem dX1_copyFrom_54 : decode cX1_copyFrom 54 = .ok (.getfield 55, 3) := by decide +kernel
theorem dX1_copyFrom_57 : decode cX1_copyFrom 57 = .ok (.putfield 55, 3) := by decide +kernel
theorem dX1_copyFrom_60 : decode cX1_copyFrom 60 = .ok (.return_, 1) := by decide +kernel
theorem dX1_hasUse_0 : decode cX1_hasUse 0 = .ok (.aload_n 0, 1) := by decide +kernel
theorem dX1_hasUse_1 : decode cX1_hasUse 1 = .ok (.iload_n 1, 1) := by decide +kernel
theorem dX1_hasUse_2 : decode cX1_hasUse 2 = .ok (.invokevirtual 58, 3) := by decide +kernel
theorem dX1_hasUse_5 : decode cX1_hasUse 5 = .ok (.ifCond .le 7, 3) := by decide +kernel
theorem dX1_hasUse_8 : decode cX1_hasUse 8 = .ok (.iconst 1, 1) := by decide +kernel
theorem dX1_hasUse_9 : decode cX1_hasUse 9 = .ok (.goto 4, 3) := by decide +kernel
theorem dX1_hasUse_12 : decode cX1_hasUse 12 = .ok (.iconst 0, 1) := by decide +kernel
theorem dX1_hasUse_13 : decode cX1_hasUse 13 = .ok (.ireturn, 1) := by decide +kernel
theorem dX1_wishOf_0 : decode cX1_wishOf 0 = .ok (.aload_n 0, 1) := by decide +kernel
theorem dX1_wishOf_1 : decode cX1_wishOf 1 = .ok (.getfield 25, 3) := by decide +kernel
theorem dX1_wishOf_4 : decode cX1_wishOf 4 = .ok (.iload_n 1, 1) := by decide +kernel
theorem dX1_wishOf_5 : decode cX1_wishOf 5 = .ok (.invokestatic 62, 3) := by decide +kernel
theorem dX1_wishOf_8 : decode cX1_wishOf 8 = .ok (.ireturn, 1) := by decide +kernel
theorem dX1_settingValue_0 : decode cX1_settingValue 0 = .ok (.aload_n 0, 1) := by decide +kernel
theorem dX1_settingValue_1 : decode cX1_settingValue 1 = .ok (.getfield 29, 3) := by decide +kernel
theorem dX1_settingValue_4 : decode cX1_settingValue 4 = .ok (.iload_n 1, 1) := by decide +kernel
theorem dX1_settingValue_5 : decode cX1_settingValue 5 = .ok (.invokestatic 62, 3) := by decide +kernel
theorem dX1_settingValue_8 : decode cX1_settingValue 8 = .ok (.ireturn, 1) := by decide +kernel
theorem dX1_changeSetting_0 : decode cX1_changeSetting 0 = .ok (.aload_n 0, 1) := by decide +kernel
theorem dX1_changeSetting_1 : decode cX1_changeSetting 1 = .ok (.iload_n 1, 1) := by decide +kernel
theorem dX1_changeSetting_2 : decode cX1_changeSetting 2 = .ok (.invokevirtual 66, 3) := by decide +kernel
theorem dX1_changeSetting_5 : decode cX1_changeSetting 5 = .ok (.istore_n 3, 1) := by decide +kernel
theorem dX1_changeSetting_6 : decode cX1_changeSetting 6 = .ok (.aload_n 0, 1) := by decide +kernel
theorem dX1_changeSetting_7 : decode cX1_changeSetting 7 = .ok (.getfield 29, 3) := by decide +kernel
theorem dX1_changeSetting_10 : decode cX1_changeSetting 10 = .ok (.iload_n 1, 1) := by decide +kernel
theorem dX1_changeSetting_11 : decode cX1_changeSetting 11 = .ok (.iload_n 2, 1) := by decide +kernel
theorem dX1_changeSetting_12 : decode cX1_changeSetting 12 = .ok (.invokestatic 36, 3) := by decide +kernel
theorem dX1_changeSetting_15 : decode cX1_changeSetting 15 = .ok (.iload_n 3, 1) := by decide +kernel
theorem dX1_changeSetting_16 : decode cX1_changeSetting 16 = .ok (.ireturn, 1) := by decide +kernel
theorem dX1_canGrant_0 : decode cX1_canGrant 0 = .ok (.aload_n 0, 1) := by decide +kernel
theorem dX1_canGrant_1 : decode cX1_canGrant 1 = .ok (.invokevirtual 69, 3) := by decide +kernel
theorem dX1_canGrant_4 : decode cX1_canGrant 4 = .ok (.iconst (-1), 1) := by decide +kernel
theorem dX1_canGrant_5 : decode cX1_canGrant 5 = .ok (.if_icmp .eq 19, 3) := by decide +kernel
theorem dX1_canGrant_8 : decode cX1_canGrant 8 = .ok (.aload_n 0, 1) := by decide +kernel
theorem dX1_canGrant_9 : decode cX1_canGrant 9 = .ok (.iload_n 1, 1) := by decide +kernel
theorem dX1_canGrant_10 : decode cX1_canGrant 10 = .ok (.invokestatic 73, 3) := by decide +kernel
theorem dX1_canGrant_13 : decode cX1_canGrant 13 = .ok (.invokevirtual 76, 3) := by decide +kernel
theorem dX1_canGrant_16 : decode cX1_canGrant 16 = .ok (.iconst (-1), 1) := by decide +kernel
theorem dX1_canGrant_17 : decode cX1_canGrant 17 = .ok (.if_icmp .eq 7, 3) := by decide +kernel
theorem dX1_canGrant_20 : decode cX1_canGrant 20 = .ok (.iconst 1, 1) := by decide +kernel
theorem dX1_canGrant_21 : decode cX1_canGrant 21 = .ok (.goto 4, 3) := by decide +kernel
theorem dX1_canGrant_24 : decode cX1_canGrant 24 = .ok (.iconst 0, 1) := by decide +kernel
theorem dX1_canGrant_25 : decode cX1_canGrant 25 = .ok (.ireturn, 1) := by decide +kernel
theorem dX1_grant_0 : decode cX1_grant 0 = .ok (.aload_n 0, 1) := by decide +kernel
theorem dX1_grant_1 : decode cX1_grant 1 = .ok (.invokevirtual 69, 3) := by decide +kernel
theorem dX1_grant_4 : decode cX1_grant 4 = .ok (.istore_n 2, 1) := by decide +kernel
theorem dX1_grant_5 : decode cX1_grant 5 = .ok (.iload_n 1, 1) := by decide +kernel
theorem dX1_grant_6 : decode cX1_grant 6 = .ok (.invokestatic 73, 3) := by decide +kernel
theorem dX1_grant_9 : decode cX1_grant 9 = .ok (.istore_n 3, 1) := by decide +kernel
theorem dX1_grant_10 : decode cX1_grant 10 = .ok (.aload_n 0, 1) := by decide +kernel
theorem dX1_grant_11 : decode cX1_grant 11 = .ok (.iload_n 3, 1) := by decide +kernel
theorem dX1_grant_12 : decode cX1_grant 12 = .ok (.invokevirtual 76, 3) := by decide +kernel
theorem dX1_grant_15 : decode cX1_grant 15 = .ok (.istore 4, 2) := by decide +kernel
theorem dX1_grant_17 : decode cX1_grant 17 = .ok (.iload_n 2, 1) := by decide +kernel
theorem dX1_grant_18 : decode cX1_grant 18 = .ok (.iconst (-1), 1) := by decide +kernel
theorem dX1_grant_19 : decode cX1_grant 19 = .ok (.if_icmp .eq 9, 3) := by decide +kernel
theorem dX1_grant_22 : decode cX1_grant 22 = .ok (.iload 4, 2) := by decide +kernel
theorem dX1_grant_24 : decode cX1_grant 24 = .ok (.iconst (-1), 1) := by decide +kernel
theorem dX1_grant_25 : decode cX1_grant 25 = .ok (.if_icmp .ne 5, 3) := by decide +kernel
theorem dX1_grant_28 : decode cX1_grant 28 = .ok (.iconst (-1), 1) := by decide +kernel
theorem dX1_grant_29 : decode cX1_grant 29 = .ok (.ireturn, 1) := by decide +kernel
theorem dX1_grant_30 : decode cX1_grant 30 = .ok (.aload_n 0, 1) := by decide +kernel
theorem dX1_grant_31 : decode cX1_grant 31 = .ok (.getfield 12, 3) := by decide +kernel
theorem dX1_grant_34 : decode cX1_grant 34 = .ok (.iload 4, 2) := by decide +kernel
theorem dX1_grant_36 : decode cX1_grant 36 = .ok (.invokevirtual 79, 3) := by decide +kernel
theorem dX1_grant_39 : decode cX1_grant 39 = .ok (.istore 5, 2) := by decide +kernel
theorem dX1_grant_41 : decode cX1_grant 41 = .ok (.iconst 0, 1) := by decide +kernel
theorem dX1_grant_42 : decode cX1_grant 42 = .ok (.istore 6, 2) := by decide +kernel
theorem dX1_grant_44 : decode cX1_grant 44 = .ok (.iload 6, 2) := by decide +kernel
theorem dX1_grant_46 : decode cX1_grant 46 = .ok (.bipush 14, 2) := by decide +kernel
theorem dX1_grant_48 : decode cX1_grant 48 = .ok (.if_icmp .ge 56, 3) := by decide +kernel
theorem dX1_grant_51 : decode cX1_grant 51 = .ok (.aload_n 0, 1) := by decide +kernel
theorem dX1_grant_52 : decode cX1_grant 52 = .ok (.iload 5, 2) := by decide +kernel
theorem dX1_grant_54 : decode cX1_grant 54 = .ok (.iload_n 3, 1) := by decide +kernel
theorem dX1_grant_55 : decode cX1_grant 55 = .ok (.invokevirtual 82, 3) := by decide +kernel
theorem dX1_grant_58 : decode cX1_grant 58 = .ok (.ifCond .eq 46, 3) := by decide +kernel
theorem dX1_grant_61 : decode cX1_grant 61 = .ok (.aload_n 0, 1) := by decide +kernel
theorem dX1_grant_62 : decode cX1_grant 62 = .ok (.iload 4, 2) := by decide +kernel
theorem dX1_grant_64 : decode cX1_grant 64 = .ok (.invokevirtual 86, 3) := by decide +kernel
theorem dX1_grant_67 : decode cX1_grant 67 = .ok (.aload_n 0, 1) := by decide +kernel
theorem dX1_grant_68 : decode cX1_grant 68 = .ok (.iload 5, 2) := by decide +kernel
theorem dX1_grant_70 : decode cX1_grant 70 = .ok (.iload_n 3, 1) := by decide +kernel
theorem dX1_grant_71 : decode cX1_grant 71 = .ok (.invokevirtual 89, 3) := by decide +kernel
theorem dX1_grant_74 : decode cX1_grant 74 = .ok (.ifCond .eq 18, 3) := by decide +kernel
theorem dX1_grant_77 : decode cX1_grant 77 = .ok (.iload 4, 2) := by decide +kernel
theorem dX1_grant_79 : decode cX1_grant 79 = .ok (.iconst 1, 1) := by decide +kernel
theorem dX1_grant_80 : decode cX1_grant 80 = .ok (.iadd, 1) := by decide +kernel
theorem dX1_grant_81 : decode cX1_grant 81 = .ok (.istore 4, 2) := by decide +kernel
theorem dX1_grant_83 : decode cX1_grant 83 = .ok (.iload 5, 2) := by decide +kernel
theorem dX1_grant_85 : decode cX1_grant 85 = .ok (.iconst 2, 1) := by decide +kernel
theorem dX1_grant_86 : decode cX1_grant 86 = .ok (.isub, 1) := by decide +kernel
theorem dX1_grant_87 : decode cX1_grant 87 = .ok (.istore 5, 2) := by decide +kernel
theorem dX1_grant_89 : decode cX1_grant 89 = .ok (.goto 9, 3) := by decide +kernel
theorem dX1_grant_92 : decode cX1_grant 92 = .ok (.iload 5, 2) := by decide +kernel
theorem dX1_grant_94 : decode cX1_grant 94 = .ok (.iconst 1, 1) := by decide +kernel
theorem dX1_grant_95 : decode cX1_grant 95 = .ok (.isub, 1) := by decide +kernel
theorem dX1_grant_96 : decode cX1_grant 96 = .ok (.istore 5, 2) := by decide +kernel
theorem dX1_grant_98 : decode cX1_grant 98 = .ok (.iinc 6 1, 3) := by decide +kernel
theorem dX1_grant_101 : decode cX1_grant 101 = .ok (.goto (-57), 3) := by decide +kernel
theorem dX1_grant_104 : decode cX1_grant 104 = .ok (.aload_n 0, 1) := by decide +kernel
theorem dX1_grant_105 : decode cX1_grant 105 = .ok (.getfield 12, 3) := by decide +kernel
theorem dX1_grant_108 : decode cX1_grant 108 = .ok (.iload 4, 2) := by decide +kernel
theorem dX1_grant_110 : decode cX1_grant 110 = .ok (.iload_n 2, 1) := by decide +kernel
theorem dX1_grant_111 : decode cX1_grant 111 = .ok (.invokevirtual 92, 3) := by decide +kernel
theorem dX1_grant_114 : decode cX1_grant 114 = .ok (.aload_n 0, 1) := by decide +kernel
theorem dX1_grant_115 : decode cX1_grant 115 = .ok (.getfield 25, 3) := by decide +kernel
theorem dX1_grant_118 : decode cX1_grant 118 = .ok (.iload_n 2, 1) := by decide +kernel
theorem dX1_grant_119 : decode cX1_grant 119 = .ok (.iload_n 1, 1) := by decide +kernel
theorem dX1_grant_120 : decode cX1_grant 120 = .ok (.invokestatic 36, 3) := by decide +kernel
theorem dX1_grant_123 : decode cX1_grant 123 = .ok (.aload_n 0, 1) := by decide +kernel
theorem dX1_grant_124 : decode cX1_grant 124 = .ok (.dup, 1) := by decide +kernel
theorem dX1_grant_125 : decode cX1_grant 125 = .ok (.getfield 55, 3) := by decide +kernel
theorem dX1_grant_128 : decode cX1_grant 128 = .ok (.iconst 1, 1) := by decide +kernel
theorem dX1_grant_129 : decode cX1_grant 129 = .ok (.iadd, 1) := by decide +kernel
theorem dX1_grant_130 : decode cX1_grant 130 = .ok (.putfield 55, 3) := by decide +kernel
theorem dX1_grant_133 : decode cX1_grant 133 = .ok (.iload_n 2, 1) := by decide +kernel
theorem dX1_grant_134 : decode cX1_grant 134 = .ok (.ireturn, 1) := by decide +kernel
theorem dX1_release_0 : decode cX1_release 0 = .ok (.aload_n 0, 1) := by decide +kernel
theorem dX1_release_1 : decode cX1_release 1 = .ok (.iload_n 1, 1) := by decide +kernel
theorem dX1_release_2 : decode cX1_release 2 = .ok (.invokevirtual 96, 3) := by decide +kernel
theorem dX1_release_5 : decode cX1_release 5 = .ok (.ifCond .ne 5, 3) := by decide +kernel
theorem dX1_release_8 : decode cX1_release 8 = .ok (.iconst (-1), 1) := by decide +kernel
theorem dX1_release_9 : decode cX1_release 9 = .ok (.ireturn, 1) := by decide +kernel
theorem dX1_release_10 : decode cX1_release 10 = .ok (.aload_n 0, 1) := by decide +kernel
theorem dX1_release_11 : decode cX1_release 11 = .ok (.getfield 21, 3) := by decide +kernel
theorem dX1_release_14 : decode cX1_release 14 = .ok (.aload_n 0, 1) := by decide +kernel
theorem dX1_release_15 : decode cX1_release 15 = .ok (.getfield 12, 3) := by decide +kernel
theorem dX1_release_18 : decode cX1_release 18 = .ok (.aload_n 0, 1) := by decide +kernel
theorem dX1_release_19 : decode cX1_release 19 = .ok (.getfield 12, 3) := by decide +kernel
theorem dX1_release_22 : decode cX1_release 22 = .ok (.iload_n 1, 1) := by decide +kernel
theorem dX1_release_23 : decode cX1_release 23 = .ok (.invokevirtual 100, 3) := by decide +kernel
theorem dX1_release_26 : decode cX1_release 26 = .ok (.invokevirtual 103, 3) := by decide +kernel
theorem dX1_release_29 : decode cX1_release 29 = .ok (.aload_n 0, 1) := by decide +kernel
theorem dX1_release_30 : decode cX1_release 30 = .ok (.getfield 21, 3) := by decide +kernel
theorem dX1_release_33 : decode cX1_release 33 = .ok (.aload_n 0, 1) := by decide +kernel
theorem dX1_release_34 : decode cX1_release 34 = .ok (.getfield 12, 3) := by decide +kernel
theorem dX1_release_37 : decode cX1_release 37 = .ok (.invokevirtual 107, 3) := by decide +kernel
theorem dX1_release_40 : decode cX1_release 40 = .ok (.aload_n 0, 1) := by decide +kernel
theorem dX1_release_41 : decode cX1_release 41 = .ok (.iconst (-1), 1) := by decide +kernel
theorem dX1_release_42 : decode cX1_release 42 = .ok (.invokevirtual 110, 3) := by decide +kernel
theorem dX1_release_45 : decode cX1_release 45 = .ok (.aload_n 0, 1) := by decide +kernel
theorem dX1_release_46 : decode cX1_release 46 = .ok (.getfield 25, 3) := by decide +kernel
theorem dX1_release_49 : decode cX1_release 49 = .ok (.iload_n 1, 1) := by decide +kernel
theorem dX1_release_50 : decode cX1_release 50 = .ok (.iconst 0, 1) := by decide +kernel
theorem dX1_release_51 : decode cX1_release 51 = .ok (.invokestatic 36, 3) := by decide +kernel
theorem dX1_release_54 : decode cX1_release 54 = .ok (.aload_n 0, 1) := by decide +kernel
theorem dX1_release_55 : decode cX1_release 55 = .ok (.getfield 21, 3) := by decide +kernel
theorem dX1_release_58 : decode cX1_release 58 = .ok (.getfield 113, 3) := by decide +kernel
theorem dX1_release_61 : decode cX1_release 61 = .ok (.ireturn, 1) := by decide +kernel
theorem dX1_releaseAll_0 : decode cX1_releaseAll 0 = .ok (.iconst 0, 1) := by decide +kernel
theorem dX1_releaseAll_1 : decode cX1_releaseAll 1 = .ok (.istore_n 1, 1) := by decide +kernel
theorem dX1_releaseAll_2 : decode cX1_releaseAll 2 = .ok (.iconst 0, 1) := by decide +kernel
theorem dX1_releaseAll_3 : decode cX1_releaseAll 3 = .ok (.istore_n 2, 1) := by decide +kernel
theorem dX1_releaseAll_4 : decode cX1_releaseAll 4 = .ok (.iload_n 2, 1) := by decide +kernel
theorem dX1_releaseAll_5 : decode cX1_releaseAll 5 = .ok (.bipush 24, 2) := by decide +kernel
theorem dX1_releaseAll_7 : decode cX1_releaseAll 7 = .ok (.if_icmp .ge 21, 3) := by decide +kernel
theorem dX1_releaseAll_10 : decode cX1_releaseAll 10 = .ok (.aload_n 0, 1) := by decide +kernel
theorem dX1_releaseAll_11 : decode cX1_releaseAll 11 = .ok (.iload_n 2, 1) := by decide +kernel
theorem dX1_releaseAll_12 : decode cX1_releaseAll 12 = .ok (.invokevirtual 114, 3) := by decide +kernel
theorem dX1_releaseAll_15 : decode cX1_releaseAll 15 = .ok (.iconst (-1), 1) := by decide +kernel
theorem dX1_releaseAll_16 : decode cX1_releaseAll 16 = .ok (.if_icmp .eq 6, 3) := by decide +kernel
theorem dX1_releaseAll_19 : decode cX1_releaseAll 19 = .ok (.iinc 1 1, 3) := by decide +kernel
theorem dX1_releaseAll_22 : decode cX1_releaseAll 22 = .ok (.iinc 2 1, 3) := by decide +kernel
theorem dX1_releaseAll_25 : decode cX1_releaseAll 25 = .ok (.goto (-21), 3) := by decide +kernel
theorem dX1_releaseAll_28 : decode cX1_releaseAll 28 = .ok (.iload_n 1, 1) := by decide +kernel
theorem dX1_releaseAll_29 : decode cX1_releaseAll 29 = .ok (.ireturn, 1) := by decide +kernel
theorem dX1_canEnlarge_0 : decode cX1_canEnlarge 0 = .ok (.aload_n 0, 1) := by decide +kernel
theorem dX1_canEnlarge_1 : decode cX1_canEnlarge 1 = .ok (.getfield 21, 3) := by decide +kernel
theorem dX1_canEnlarge_4 : decode cX1_canEnlarge 4 = .ok (.aload_n 0, 1) := by decide +kernel
theorem dX1_canEnlarge_5 : decode cX1_canEnlarge 5 = .ok (.getfield 12, 3) := by decide +kernel
theorem dX1_canEnlarge_8 : decode cX1_canEnlarge 8 = .ok (.aload_n 0, 1) := by decide +kernel
theorem dX1_canEnlarge_9 : decode cX1_canEnlarge 9 = .ok (.getfield 12, 3) := by decide +kernel
theorem dX1_canEnlarge_12 : decode cX1_canEnlarge 12 = .ok (.iload_n 1, 1) := by decide +kernel
theorem dX1_canEnlarge_13 : decode cX1_canEnlarge 13 = .ok (.invokevirtual 100, 3) := by decide +kernel
theorem dX1_canEnlarge_16 : decode cX1_canEnlarge 16 = .ok (.invokevirtual 103, 3) := by decide +kernel
theorem dX1_canEnlarge_19 : decode cX1_canEnlarge 19 = .ok (.iconst 1, 1) := by decide +kernel
theorem dX1_canEnlarge_20 : decode cX1_canEnlarge 20 = .ok (.istore_n 3, 1) := by decide +kernel
theorem dX1_canEnlarge_21 : decode cX1_canEnlarge 21 = .ok (.iconst 0, 1) := by decide +kernel
theorem dX1_canEnlarge_22 : decode cX1_canEnlarge 22 = .ok (.istore 4, 2) := by decide +kernel
theorem dX1_canEnlarge_24 : decode cX1_canEnlarge 24 = .ok (.iload 4, 2) := by decide +kernel
theorem dX1_canEnlarge_26 : decode cX1_canEnlarge 26 = .ok (.bipush 14, 2) := by decide +kernel
theorem dX1_canEnlarge_28 : decode cX1_canEnlarge 28 = .ok (.if_icmp .ge 47, 3) := by decide +kernel
theorem dX1_canEnlarge_31 : decode cX1_canEnlarge 31 = .ok (.iload_n 3, 1) := by decide +kernel
theorem dX1_canEnlarge_32 : decode cX1_canEnlarge 32 = .ok (.ifCond .eq 43, 3) := by decide +kernel
theorem dX1_canEnlarge_35 : decode cX1_canEnlarge 35 = .ok (.aload_n 0, 1) := by decide +kernel
theorem dX1_canEnlarge_36 : decode cX1_canEnlarge 36 = .ok (.getfield 21, 3) := by decide +kernel
theorem dX1_canEnlarge_39 : decode cX1_canEnlarge 39 = .ok (.getfield 117, 3) := by decide +kernel
theorem dX1_canEnlarge_42 : decode cX1_canEnlarge 42 = .ok (.invokestatic 120, 3) := by decide +kernel
theorem dX1_canEnlarge_45 : decode cX1_canEnlarge 45 = .ok (.iload_n 2, 1) := by decide +kernel
theorem dX1_canEnlarge_46 : decode cX1_canEnlarge 46 = .ok (.if_icmp .ge 21, 3) := by decide +kernel
theorem dX1_canEnlarge_49 : decode cX1_canEnlarge 49 = .ok (.aload_n 0, 1) := by decide +kernel
theorem dX1_canEnlarge_50 : decode cX1_canEnlarge 50 = .ok (.getfield 21, 3) := by decide +kernel
theorem dX1_canEnlarge_53 : decode cX1_canEnlarge 53 = .ok (.aload_n 0, 1) := by decide +kernel
theorem dX1_canEnlarge_54 : decode cX1_canEnlarge 54 = .ok (.getfield 12, 3) := by decide +kernel
theorem dX1_canEnlarge_57 : decode cX1_canEnlarge 57 = .ok (.invokevirtual 123, 3) := by decide +kernel
theorem dX1_canEnlarge_60 : decode cX1_canEnlarge 60 = .ok (.ifCond .eq 7, 3) := by decide +kernel
theorem dX1_canEnlarge_63 : decode cX1_canEnlarge 63 = .ok (.iconst 1, 1) := by decide +kernel
theorem dX1_canEnlarge_64 : decode cX1_canEnlarge 64 = .ok (.goto 4, 3) := by decide +kernel
theorem dX1_canEnlarge_67 : decode cX1_canEnlarge 67 = .ok (.iconst 0, 1) := by decide +kernel
theorem dX1_canEnlarge_68 : decode cX1_canEnlarge 68 = .ok (.istore_n 3, 1) := by decide +kernel
theorem dX1_canEnlarge_69 : decode cX1_canEnlarge 69 = .ok (.iinc 4 1, 3) := by decide +kernel
theorem dX1_canEnlarge_72 : decode cX1_canEnlarge 72 = .ok (.goto (-48), 3) := by decide +kernel
theorem dX1_canEnlarge_75 : decode cX1_canEnlarge 75 = .ok (.aload_n 0, 1) := by decide +kernel
theorem dX1_canEnlarge_76 : decode cX1_canEnlarge 76 = .ok (.getfield 21, 3) := by decide +kernel
theorem dX1_canEnlarge_79 : decode cX1_canEnlarge 79 = .ok (.getfield 117, 3) := by decide +kernel
theorem dX1_canEnlarge_82 : decode cX1_canEnlarge 82 = .ok (.invokestatic 120, 3) := by decide +kernel
theorem dX1_canEnlarge_85 : decode cX1_canEnlarge 85 = .ok (.iload_n 2, 1) := by decide +kernel
theorem dX1_canEnlarge_86 : decode cX1_canEnlarge 86 = .ok (.if_icmp .lt 7, 3) := by decide +kernel
theorem dX1_canEnlarge_89 : decode cX1_canEnlarge 89 = .ok (.iconst 1, 1) := by decide +kernel
theorem dX1_canEnlarge_90 : decode cX1_canEnlarge 90 = .ok (.goto 4, 3) := by decide +kernel
theorem dX1_canEnlarge_93 : decode cX1_canEnlarge 93 = .ok (.iconst 0, 1) := by decide +kernel
theorem dX1_canEnlarge_94 : decode cX1_canEnlarge 94 = .ok (.ireturn, 1) := by decide +kernel
theorem dX1_enlarge_0 : decode cX1_enlarge 0 = .ok (.aload_n 0, 1) := by decide +kernel
theorem dX1_enlarge_1 : decode cX1_enlarge 1 = .ok (.iload_n 1, 1) := by decide +kernel
theorem dX1_enlarge_2 : decode cX1_enlarge 2 = .ok (.iload_n 2, 1) := by decide +kernel
theorem dX1_enlarge_3 : decode cX1_enlarge 3 = .ok (.invokevirtual 127, 3) := by decide +kernel
theorem dX1_enlarge_6 : decode cX1_enlarge 6 = .ok (.ifCond .eq 17, 3) := by decide +kernel
theorem dX1_enlarge_9 : decode cX1_enlarge 9 = .ok (.aload_n 0, 1) := by decide +kernel
theorem dX1_enlarge_10 : decode cX1_enlarge 10 = .ok (.iload_n 1, 1) := by decide +kernel
theorem dX1_enlarge_11 : decode cX1_enlarge 11 = .ok (.invokevirtual 110, 3) := by decide +kernel
theorem dX1_enlarge_14 : decode cX1_enlarge 14 = .ok (.aload_n 0, 1) := by decide +kernel
theorem dX1_enlarge_15 : decode cX1_enlarge 15 = .ok (.getfield 25, 3) := by decide +kernel
theorem dX1_enlarge_18 : decode cX1_enlarge 18 = .ok (.iload_n 1, 1) := by decide +kernel
theorem dX1_enlarge_19 : decode cX1_enlarge 19 = .ok (.iload_n 2, 1) := by decide +kernel
theorem dX1_enlarge_20 : decode cX1_enlarge 20 = .ok (.invokestatic 36, 3) := by decide +kernel
theorem dX1_enlarge_23 : decode cX1_enlarge 23 = .ok (.aload_n 0, 1) := by decide +kernel
theorem dX1_enlarge_24 : decode cX1_enlarge 24 = .ok (.getfield 21, 3) := by decide +kernel
theorem dX1_enlarge_27 : decode cX1_enlarge 27 = .ok (.getfield 117, 3) := by decide +kernel
theorem dX1_enlarge_30 : decode cX1_enlarge 30 = .ok (.ireturn, 1) := by decide +kernel
theorem dX1_reduce_0 : decode cX1_reduce 0 = .ok (.aload_n 0, 1) := by decide +kernel
theorem dX1_reduce_1 : decode cX1_reduce 1 = .ok (.getfield 12, 3) := by decide +kernel
theorem dX1_reduce_4 : decode cX1_reduce 4 = .ok (.iload_n 1, 1) := by decide +kernel
theorem dX1_reduce_5 : decode cX1_reduce 5 = .ok (.invokevirtual 100, 3) := by decide +kernel
theorem dX1_reduce_8 : decode cX1_reduce 8 = .ok (.istore_n 3, 1) := by decide +kernel
theorem dX1_reduce_9 : decode cX1_reduce 9 = .ok (.aload_n 0, 1) := by decide +kernel
theorem dX1_reduce_10 : decode cX1_reduce 10 = .ok (.getfield 12, 3) := by decide +kernel
theorem dX1_reduce_13 : decode cX1_reduce 13 = .ok (.iload_n 3, 1) := by decide +kernel
theorem dX1_reduce_14 : decode cX1_reduce 14 = .ok (.invokevirtual 79, 3) := by decide +kernel
theorem dX1_reduce_17 : decode cX1_reduce 17 = .ok (.istore 4, 2) := by decide +kernel
theorem dX1_reduce_19 : decode cX1_reduce 19 = .ok (.iload_n 2, 1) := by decide +kernel
theorem dX1_reduce_20 : decode cX1_reduce 20 = .ok (.invokestatic 73, 3) := by decide +kernel
theorem dX1_reduce_23 : decode cX1_reduce 23 = .ok (.istore 5, 2) := by decide +kernel
theorem dX1_reduce_25 : decode cX1_reduce 25 = .ok (.iconst 0, 1) := by decide +kernel
theorem dX1_reduce_26 : decode cX1_reduce 26 = .ok (.istore 6, 2) := by decide +kernel
theorem dX1_reduce_28 : decode cX1_reduce 28 = .ok (.iload 6, 2) := by decide +kernel
theorem dX1_reduce_30 : decode cX1_reduce 30 = .ok (.bipush 14, 2) := by decide +kernel
theorem dX1_reduce_32 : decode cX1_reduce 32 = .ok (.if_icmp .ge 31, 3) := by decide +kernel
theorem dX1_reduce_35 : decode cX1_reduce 35 = .ok (.aload_n 0, 1) := by decide +kernel
theorem dX1_reduce_36 : decode cX1_reduce 36 = .ok (.iload 4, 2) := by decide +kernel
theorem dX1_reduce_38 : decode cX1_reduce 38 = .ok (.iload 5, 2) := by decide +kernel
theorem dX1_reduce_40 : decode cX1_reduce 40 = .ok (.invokevirtual 82, 3) := by decide +kernel
theorem dX1_reduce_43 : decode cX1_reduce 43 = .ok (.ifCond .eq 20, 3) := by decide +kernel
theorem dX1_reduce_46 : decode cX1_reduce 46 = .ok (.aload_n 0, 1) := by decide +kernel
theorem dX1_reduce_47 : decode cX1_reduce 47 = .ok (.iload_n 3, 1) := by decide +kernel
theorem dX1_reduce_48 : decode cX1_reduce 48 = .ok (.invokevirtual 86, 3) := by decide +kernel
theorem dX1_reduce_51 : decode cX1_reduce 51 = .ok (.iload 4, 2) := by decide +kernel
theorem dX1_reduce_53 : decode cX1_reduce 53 = .ok (.iconst 1, 1) := by decide +kernel
theorem dX1_reduce_54 : decode cX1_reduce 54 = .ok (.isub, 1) := by decide +kernel
theorem dX1_reduce_55 : decode cX1_reduce 55 = .ok (.istore 4, 2) := by decide +kernel
theorem dX1_reduce_57 : decode cX1_reduce 57 = .ok (.iinc 6 1, 3) := by decide +kernel
theorem dX1_reduce_60 : decode cX1_reduce 60 = .ok (.goto (-32), 3) := by decide +kernel
theorem dX1_reduce_63 : decode cX1_reduce 63 = .ok (.aload_n 0, 1) := by decide +kernel
theorem dX1_reduce_64 : decode cX1_reduce 64 = .ok (.getfield 25, 3) := by decide +kernel
theorem dX1_reduce_67 : decode cX1_reduce 67 = .ok (.iload_n 1, 1) := by decide +kernel
theorem dX1_reduce_68 : decode cX1_reduce 68 = .ok (.iload_n 2, 1) := by decide +kernel
theorem dX1_reduce_69 : decode cX1_reduce 69 = .ok (.invokestatic 36, 3) := by decide +kernel
theorem dX1_reduce_72 : decode cX1_reduce 72 = .ok (.iload 4, 2) := by decide +kernel
theorem dX1_reduce_74 : decode cX1_reduce 74 = .ok (.ireturn, 1) := by decide +kernel
theorem dX1_blockProperty_0 : decode cX1_blockProperty 0 = .ok (.iload_n 2, 1) := by decide +kernel
theorem dX1_blockProperty_1 : decode cX1_blockProperty 1 = .ok (.tableswitch 67 0 3 #[31, 40, 49, 58], 31) := by decide +kernel
theorem dX1_blockProperty_32 : decode cX1_blockProperty 32 = .ok (.aload_n 0, 1) := by decide +kernel
theorem dX1_blockProperty_33 : decode cX1_blockProperty 33 = .ok (.getfield 12, 3) := by decide +kernel
theorem dX1_blockProperty_36 : decode cX1_blockProperty 36 = .ok (.iload_n 1, 1) := by decide +kernel
theorem dX1_blockProperty_37 : decode cX1_blockProperty 37 = .ok (.invokevirtual 130, 3) := by decide +kernel
theorem dX1_blockProperty_40 : decode cX1_blockProperty 40 = .ok (.ireturn, 1) := by decide +kernel
theorem dX1_blockProperty_41 : decode cX1_blockProperty 41 = .ok (.aload_n 0, 1) := by decide +kernel
theorem dX1_blockProperty_42 : decode cX1_blockProperty 42 = .ok (.getfield 12, 3) := by decide +kernel
theorem dX1_blockProperty_45 : decode cX1_blockProperty 45 = .ok (.iload_n 1, 1) := by decide +kernel
theorem dX1_blockProperty_46 : decode cX1_blockProperty 46 = .ok (.invokevirtual 79, 3) := by decide +kernel
theorem dX1_blockProperty_49 : decode cX1_blockProperty 49 = .ok (.ireturn, 1) := by decide +kernel
theorem dX1_blockProperty_50 : decode cX1_blockProperty 50 = .ok (.aload_n 0, 1) := by decide +kernel
theorem dX1_blockProperty_51 : decode cX1_blockProperty 51 = .ok (.getfield 12, 3) := by decide +kernel
theorem dX1_blockProperty_54 : decode cX1_blockProperty 54 = .ok (.iload_n 1, 1) := by decide +kernel
theorem dX1_blockProperty_55 : decode cX1_blockProperty 55 = .ok (.invokevirtual 133, 3) := by decide +kernel
theorem dX1_blockProperty_58 : decode cX1_blockProperty 58 = .ok (.ireturn, 1) := by decide +kernel
theorem dX1_blockProperty_59 : decode cX1_blockProperty 59 = .ok (.aload_n 0, 1) := by decide +kernel
theorem dX1_blockProperty_60 : decode cX1_blockProperty 60 = .ok (.getfield 12, 3) := by decide +kernel
theorem dX1_blockProperty_63 : decode cX1_blockProperty 63 = .ok (.iload_n 1, 1) := by decide +kernel
theorem dX1_blockProperty_64 : decode cX1_blockProperty 64 = .ok (.invokevirtual 136, 3) := by decide +kernel
theorem dX1_blockProperty_67 : decode cX1_blockProperty 67 = .ok (.ireturn, 1) := by decide +kernel
theorem dX1_blockProperty_68 : decode cX1_blockProperty 68 = .ok (.aload_n 0, 1) := by decide +kernel
theorem dX1_blockProperty_69 : decode cX1_blockProperty 69 = .ok (.getfield 21, 3) := by decide +kernel
theorem dX1_blockProperty_72 : decode cX1_blockProperty 72 = .ok (.aload_n 0, 1) := by decide +kernel
theorem dX1_blockProperty_73 : decode cX1_blockProperty 73 = .ok (.getfield 12, 3) := by decide +kernel
theorem dX1_blockProperty_76 : decode cX1_blockProperty 76 = .ok (.iload_n 1, 1) := by decide +kernel
theorem dX1_blockProperty_77 : decode cX1_blockProperty 77 = .ok (.invokevirtual 103, 3) := by decide +kernel
theorem dX1_blockProperty_80 : decode cX1_blockProperty 80 = .ok (.aload_n 0, 1) := by decide +kernel
theorem dX1_blockProperty_81 : decode cX1_blockProperty 81 = .ok (.getfield 21, 3) := by decide +kernel
theorem dX1_blockProperty_84 : decode cX1_blockProperty 84 = .ok (.aload_n 0, 1) := by decide +kernel
theorem dX1_blockProperty_85 : decode cX1_blockProperty 85 = .ok (.getfield 12, 3) := by decide +kernel
theorem dX1_blockProperty_88 : decode cX1_blockProperty 88 = .ok (.invokevirtual 139, 3) := by decide +kernel
theorem dX1_blockProperty_91 : decode cX1_blockProperty 91 = .ok (.ireturn, 1) := by decide +kernel
theorem dX1_useProperty_0 : decode cX1_useProperty 0 = .ok (.aload_n 0, 1) := by decide +kernel
theorem dX1_useProperty_1 : decode cX1_useProperty 1 = .ok (.iload_n 1, 1) := by decide +kernel
theorem dX1_useProperty_2 : decode cX1_useProperty 2 = .ok (.invokevirtual 96, 3) := by decide +kernel
theorem dX1_useProperty_5 : decode cX1_useProperty 5 = .ok (.ifCond .ne 5, 3) := by decide +kernel
theorem dX1_useProperty_8 : decode cX1_useProperty 8 = .ok (.iconst (-1), 1) := by decide +kernel
theorem dX1_useProperty_9 : decode cX1_useProperty 9 = .ok (.ireturn, 1) := by decide +kernel
theorem dX1_useProperty_10 : decode cX1_useProperty 10 = .ok (.aload_n 0, 1) := by decide +kernel
theorem dX1_useProperty_11 : decode cX1_useProperty 11 = .ok (.getfield 12, 3) := by decide +kernel
theorem dX1_useProperty_14 : decode cX1_useProperty 14 = .ok (.iload_n 1, 1) := by decide +kernel
theorem dX1_useProperty_15 : decode cX1_useProperty 15 = .ok (.invokevirtual 100, 3) := by decide +kernel
theorem dX1_useProperty_18 : decode cX1_useProperty 18 = .ok (.istore_n 3, 1) := by decide +kernel
theorem dX1_useProperty_19 : decode cX1_useProperty 19 = .ok (.iload_n 2, 1) := by decide +kernel
theorem dX1_useProperty_20 : decode cX1_useProperty 20 = .ok (.tableswitch 67 0 3 #[32, 34, 40, 58], 32) := by decide +kernel
theorem dX1_useProperty_52 : decode cX1_useProperty 52 = .ok (.iload_n 3, 1) := by decide +kernel
theorem dX1_useProperty_53 : decode cX1_useProperty 53 = .ok (.ireturn, 1) := by decide +kernel
theorem dX1_useProperty_54 : decode cX1_useProperty 54 = .ok (.aload_n 0, 1) := by decide +kernel
theorem dX1_useProperty_55 : decode cX1_useProperty 55 = .ok (.iload_n 1, 1) := by decide +kernel
theorem dX1_useProperty_56 : decode cX1_useProperty 56 = .ok (.invokevirtual 58, 3) := by decide +kernel
theorem dX1_useProperty_59 : decode cX1_useProperty 59 = .ok (.ireturn, 1) := by decide +kernel
theorem dX1_useProperty_60 : decode cX1_useProperty 60 = .ok (.aload_n 0, 1) := by decide +kernel
theorem dX1_useProperty_61 : decode cX1_useProperty 61 = .ok (.getfield 12, 3) := by decide +kernel
theorem dX1_useProperty_64 : decode cX1_useProperty 64 = .ok (.iload_n 3, 1) := by decide +kernel
theorem dX1_useProperty_65 : decode cX1_useProperty 65 = .ok (.invokevirtual 79, 3) := by decide +kernel
theorem dX1_useProperty_68 : decode cX1_useProperty 68 = .ok (.invokestatic 120, 3) := by decide +kernel
theorem dX1_useProperty_71 : decode cX1_useProperty 71 = .ok (.aload_n 0, 1) := by decide +kernel
theorem dX1_useProperty_72 : decode cX1_useProperty 72 = .ok (.iload_n 1, 1) := by decide +kernel
theorem dX1_useProperty_73 : decode cX1_useProperty 73 = .ok (.invokevirtual 58, 3) := by decide +kernel
theorem dX1_useProperty_76 : decode cX1_useProperty 76 = .ok (.isub, 1) := by decide +kernel
theorem dX1_useProperty_77 : decode cX1_useProperty 77 = .ok (.ireturn, 1) := by decide +kernel
theorem dX1_useProperty_78 : decode cX1_useProperty 78 = .ok (.aload_n 0, 1) := by decide +kernel
theorem dX1_useProperty_79 : decode cX1_useProperty 79 = .ok (.getfield 12, 3) := by decide +kernel
theorem dX1_useProperty_82 : decode cX1_useProperty 82 = .ok (.iload_n 3, 1) := by decide +kernel
theorem dX1_useProperty_83 : decode cX1_useProperty 83 = .ok (.invokevirtual 79, 3) := by decide +kernel
theorem dX1_useProperty_86 : decode cX1_useProperty 86 = .ok (.ireturn, 1) := by decide +kernel
theorem dX1_useProperty_87 : decode cX1_useProperty 87 = .ok (.aload_n 0, 1) := by decide +kernel
theorem dX1_useProperty_88 : decode cX1_useProperty 88 = .ok (.getfield 12, 3) := by decide +kernel
theorem dX1_useProperty_91 : decode cX1_useProperty 91 = .ok (.iload_n 3, 1) := by decide +kernel
theorem dX1_useProperty_92 : decode cX1_useProperty 92 = .ok (.invokevirtual 130, 3) := by decide +kernel
theorem dX1_useProperty_95 : decode cX1_useProperty 95 = .ok (.ireturn, 1) := by decide +kernel
theorem dX1_countOf_0 : decode cX1_countOf 0 = .ok (.iload_n 1, 1) := by decide +kernel
theorem dX1_countOf_1 : decode cX1_countOf 1 = .ok (.tableswitch 137 0 10 #[59, 70, 78, 86, 94, 99, 107, 112, 122, 127, 132], 59) := by decide +kernel
theorem dX1_countOf_60 : decode cX1_countOf 60 = .ok (.aload_n 0, 1) := by decide +kernel
theorem dX1_countOf_61 : decode cX1_countOf 61 = .ok (.getfield 12, 3) := by decide +kernel
theorem dX1_countOf_64 : decode cX1_countOf 64 = .ok (.getfield 143, 3) := by decide +kernel
theorem dX1_countOf_67 : decode cX1_countOf 67 = .ok (.invokestatic 120, 3) := by decide +kernel
theorem dX1_countOf_70 : decode cX1_countOf 70 = .ok (.ireturn, 1) := by decide +kernel
theorem dX1_countOf_71 : decode cX1_countOf 71 = .ok (.aload_n 0, 1) := by decide +kernel
theorem dX1_countOf_72 : decode cX1_countOf 72 = .ok (.getfield 12, 3) := by decide +kernel
theorem dX1_countOf_75 : decode cX1_countOf 75 = .ok (.getfield 143, 3) := by decide +kernel
theorem dX1_countOf_78 : decode cX1_countOf 78 = .ok (.ireturn, 1) := by decide +kernel
theorem dX1_countOf_79 : decode cX1_countOf 79 = .ok (.aload_n 0, 1) := by decide +kernel
theorem dX1_countOf_80 : decode cX1_countOf 80 = .ok (.getfield 12, 3) := by decide +kernel
theorem dX1_countOf_83 : decode cX1_countOf 83 = .ok (.getfield 146, 3) := by decide +kernel
theorem dX1_countOf_86 : decode cX1_countOf 86 = .ok (.ireturn, 1) := by decide +kernel
theorem dX1_countOf_87 : decode cX1_countOf 87 = .ok (.aload_n 0, 1) := by decide +kernel
theorem dX1_countOf_88 : decode cX1_countOf 88 = .ok (.getfield 12, 3) := by decide +kernel
theorem dX1_countOf_91 : decode cX1_countOf 91 = .ok (.invokevirtual 149, 3) := by decide +kernel
theorem dX1_countOf_94 : decode cX1_countOf 94 = .ok (.ireturn, 1) := by decide +kernel
theorem dX1_countOf_95 : decode cX1_countOf 95 = .ok (.aload_n 0, 1) := by decide +kernel
theorem dX1_countOf_96 : decode cX1_countOf 96 = .ok (.invokevirtual 152, 3) := by decide +kernel
theorem dX1_countOf_99 : decode cX1_countOf 99 = .ok (.ireturn, 1) := by decide +kernel
theorem dX1_countOf_100 : decode cX1_countOf 100 = .ok (.aload_n 0, 1) := by decide +kernel
theorem dX1_countOf_101 : decode cX1_countOf 101 = .ok (.getfield 12, 3) := by decide +kernel
theorem dX1_countOf_104 : decode cX1_countOf 104 = .ok (.invokevirtual 155, 3) := by decide +kernel
theorem dX1_countOf_107 : decode cX1_countOf 107 = .ok (.ireturn, 1) := by decide +kernel
theorem dX1_countOf_108 : decode cX1_countOf 108 = .ok (.aload_n 0, 1) := by decide +kernel
theorem dX1_countOf_109 : decode cX1_countOf 109 = .ok (.invokevirtual 158, 3) := by decide +kernel
theorem dX1_countOf_112 : decode cX1_countOf 112 = .ok (.ireturn, 1) := by decide +kernel
theorem dX1_countOf_113 : decode cX1_countOf 113 = .ok (.aload_n 0, 1) := by decide +kernel
theorem dX1_countOf_114 : decode cX1_countOf 114 = .ok (.invokevirtual 161, 3) := by decide +kernel
theorem dX1_countOf_117 : decode cX1_countOf 117 = .ok (.aload_n 0, 1) := by decide +kernel
theorem dX1_countOf_118 : decode cX1_countOf 118 = .ok (.invokevirtual 158, 3) := by decide +kernel
theorem dX1_countOf_121 : decode cX1_countOf 121 = .ok (.isub, 1) := by decide +kernel
theorem dX1_countOf_122 : decode cX1_countOf 122 = .ok (.ireturn, 1) := by decide +kernel
theorem dX1_countOf_123 : decode cX1_countOf 123 = .ok (.aload_n 0, 1) := by decide +kernel
theorem dX1_countOf_124 : decode cX1_countOf 124 = .ok (.getfield 48, 3) := by decide +kernel
theorem dX1_countOf_127 : decode cX1_countOf 127 = .ok (.ireturn, 1) := by decide +kernel
theorem dX1_countOf_128 : decode cX1_countOf 128 = .ok (.aload_n 0, 1) := by decide +kernel
theorem dX1_countOf_129 : decode cX1_countOf 129 = .ok (.getfield 52, 3) := by decide +kernel
theorem dX1_countOf_132 : decode cX1_countOf 132 = .ok (.ireturn, 1) := by decide +kernel
theorem dX1_countOf_133 : decode cX1_countOf 133 = .ok (.aload_n 0, 1) := by decide +kernel
theorem dX1_countOf_134 : decode cX1_countOf 134 = .ok (.getfield 55, 3) := by decide +kernel
theorem dX1_countOf_137 : decode cX1_countOf 137 = .ok (.ireturn, 1) := by decide +kernel
theorem dX1_countOf_138 : decode cX1_countOf 138 = .ok (.aload_n 0, 1) := by decide +kernel
theorem dX1_countOf_139 : decode cX1_countOf 139 = .ok (.getfield 12, 3) := by decide +kernel
theorem dX1_countOf_142 : decode cX1_countOf 142 = .ok (.invokevirtual 164, 3) := by decide +kernel
theorem dX1_countOf_145 : decode cX1_countOf 145 = .ok (.ireturn, 1) := by decide +kernel
theorem dX1_wishProperty_0 : decode cX1_wishProperty 0 = .ok (.iload_n 1, 1) := by decide +kernel
theorem dX1_wishProperty_1 : decode cX1_wishProperty 1 = .ok (.invokestatic 73, 3) := by decide +kernel
theorem dX1_wishProperty_4 : decode cX1_wishProperty 4 = .ok (.istore_n 3, 1) := by decide +kernel
theorem dX1_wishProperty_5 : decode cX1_wishProperty 5 = .ok (.aload_n 0, 1) := by decide +kernel
theorem dX1_wishProperty_6 : decode cX1_wishProperty 6 = .ok (.iload_n 3, 1) := by decide +kernel
theorem dX1_wishProperty_7 : decode cX1_wishProperty 7 = .ok (.invokevirtual 76, 3) := by decide +kernel
theorem dX1_wishProperty_10 : decode cX1_wishProperty 10 = .ok (.istore 4, 2) := by decide +kernel
theorem dX1_wishProperty_12 : decode cX1_wishProperty 12 = .ok (.iload 4, 2) := by decide +kernel
theorem dX1_wishProperty_14 : decode cX1_wishProperty 14 = .ok (.iconst (-1), 1) := by decide +kernel
theorem dX1_wishProperty_15 : decode cX1_wishProperty 15 = .ok (.if_icmp .ne 5, 3) := by decide +kernel
theorem dX1_wishProperty_18 : decode cX1_wishProperty 18 = .ok (.iconst (-1), 1) := by decide +kernel
theorem dX1_wishProperty_19 : decode cX1_wishProperty 19 = .ok (.ireturn, 1) := by decide +kernel
theorem dX1_wishProperty_20 : decode cX1_wishProperty 20 = .ok (.aload_n 0, 1) := by decide +kernel
theorem dX1_wishProperty_21 : decode cX1_wishProperty 21 = .ok (.getfield 12, 3) := by decide +kernel
theorem dX1_wishProperty_24 : decode cX1_wishProperty 24 = .ok (.iload 4, 2) := by decide +kernel
theorem dX1_wishProperty_26 : decode cX1_wishProperty 26 = .ok (.invokevirtual 130, 3) := by decide +kernel
theorem dX1_wishProperty_29 : decode cX1_wishProperty 29 = .ok (.istore 5, 2) := by decide +kernel
theorem dX1_wishProperty_31 : decode cX1_wishProperty 31 = .ok (.aload_n 0, 1) := by decide +kernel
theorem dX1_wishProperty_32 : decode cX1_wishProperty 32 = .ok (.getfield 12, 3) := by decide +kernel
theorem dX1_wishProperty_35 : decode cX1_wishProperty 35 = .ok (.iload 4, 2) := by decide +kernel
theorem dX1_wishProperty_37 : decode cX1_wishProperty 37 = .ok (.invokevirtual 79, 3) := by decide +kernel
theorem dX1_wishProperty_40 : decode cX1_wishProperty 40 = .ok (.istore 6, 2) := by decide +kernel
theorem dX1_wishProperty_42 : decode cX1_wishProperty 42 = .ok (.iconst 0, 1) := by decide +kernel
theorem dX1_wishProperty_43 : decode cX1_wishProperty 43 = .ok (.istore 7, 2) := by decide +kernel
theorem dX1_wishProperty_45 : decode cX1_wishProperty 45 = .ok (.iconst 0, 1) := by decide +kernel
theorem dX1_wishProperty_46 : decode cX1_wishProperty 46 = .ok (.istore 8, 2) := by decide +kernel
theorem dX1_wishProperty_48 : decode cX1_wishProperty 48 = .ok (.iload 8, 2) := by decide +kernel
theorem dX1_wishProperty_50 : decode cX1_wishProperty 50 = .ok (.bipush 14, 2) := by decide +kernel
theorem dX1_wishProperty_52 : decode cX1_wishProperty 52 = .ok (.if_icmp .ge 59, 3) := by decide +kernel
theorem dX1_wishProperty_55 : decode cX1_wishProperty 55 = .ok (.aload_n 0, 1) := by decide +kernel
theorem dX1_wishProperty_56 : decode cX1_wishProperty 56 = .ok (.iload 6, 2) := by decide +kernel
theorem dX1_wishProperty_58 : decode cX1_wishProperty 58 = .ok (.iload_n 3, 1) := by decide +kernel
theorem dX1_wishProperty_59 : decode cX1_wishProperty 59 = .ok (.invokevirtual 82, 3) := by decide +kernel
theorem dX1_wishProperty_62 : decode cX1_wishProperty 62 = .ok (.ifCond .eq 49, 3) := by decide +kernel
theorem dX1_wishProperty_65 : decode cX1_wishProperty 65 = .ok (.iinc 7 1, 3) := by decide +kernel
theorem dX1_wishProperty_68 : decode cX1_wishProperty 68 = .ok (.aload_n 0, 1) := by decide +kernel
theorem dX1_wishProperty_69 : decode cX1_wishProperty 69 = .ok (.iload 6, 2) := by decide +kernel
theorem dX1_wishProperty_71 : decode cX1_wishProperty 71 = .ok (.iload_n 3, 1) := by decide +kernel
theorem dX1_wishProperty_72 : decode cX1_wishProperty 72 = .ok (.invokevirtual 89, 3) := by decide +kernel
theorem dX1_wishProperty_75 : decode cX1_wishProperty 75 = .ok (.ifCond .eq 24, 3) := by decide +kernel
theorem dX1_wishProperty_78 : decode cX1_wishProperty 78 = .ok (.iload 5, 2) := by decide +kernel
theorem dX1_wishProperty_80 : decode cX1_wishProperty 80 = .ok (.iload 6, 2) := by decide +kernel
theorem dX1_wishProperty_82 : decode cX1_wishProperty 82 = .ok (.iconst 1, 1) := by decide +kernel
theorem dX1_wishProperty_83 : decode cX1_wishProperty 83 = .ok (.isub, 1) := by decide +kernel
theorem dX1_wishProperty_84 : decode cX1_wishProperty 84 = .ok (.invokestatic 120, 3) := by decide +kernel
theorem dX1_wishProperty_87 : decode cX1_wishProperty 87 = .ok (.iadd, 1) := by decide +kernel
theorem dX1_wishProperty_88 : decode cX1_wishProperty 88 = .ok (.istore 5, 2) := by decide +kernel
theorem dX1_wishProperty_90 : decode cX1_wishProperty 90 = .ok (.iload 6, 2) := by decide +kernel
theorem dX1_wishProperty_92 : decode cX1_wishProperty 92 = .ok (.iconst 2, 1) := by decide +kernel
theorem dX1_wishProperty_93 : decode cX1_wishProperty 93 = .ok (.isub, 1) := by decide +kernel
theorem dX1_wishProperty_94 : decode cX1_wishProperty 94 = .ok (.istore 6, 2) := by decide +kernel
theorem dX1_wishProperty_96 : decode cX1_wishProperty 96 = .ok (.goto 9, 3) := by decide +kernel
theorem dX1_wishProperty_99 : decode cX1_wishProperty 99 = .ok (.iload 6, 2) := by decide +kernel
theorem dX1_wishProperty_101 : decode cX1_wishProperty 101 = .ok (.iconst 1, 1) := by decide +kernel
theorem dX1_wishProperty_102 : decode cX1_wishProperty 102 = .ok (.isub, 1) := by decide +kernel
theorem dX1_wishProperty_103 : decode cX1_wishProperty 103 = .ok (.istore 6, 2) := by decide +kernel
theorem dX1_wishProperty_105 : decode cX1_wishProperty 105 = .ok (.iinc 8 1, 3) := by decide +kernel
theorem dX1_wishProperty_108 : decode cX1_wishProperty 108 = .ok (.goto (-60), 3) := by decide +kernel
theorem dX1_wishProperty_111 : decode cX1_wishProperty 111 = .ok (.iload_n 2, 1) := by decide +kernel
theorem dX1_wishProperty_112 : decode cX1_wishProperty 112 = .ok (.tableswitch 37 0 2 #[28, 31, 34], 28) := by decide +kernel
theorem dX1_wishProperty_140 : decode cX1_wishProperty 140 = .ok (.iload 5, 2) := by decide +kernel
theorem dX1_wishProperty_142 : decode cX1_wishProperty 142 = .ok (.ireturn, 1) := by decide +kernel
theorem dX1_wishProperty_143 : decode cX1_wishProperty 143 = .ok (.iload 6, 2) := by decide +kernel
theorem dX1_wishProperty_145 : decode cX1_wishProperty 145 = .ok (.ireturn, 1) := by decide +kernel
theorem dX1_wishProperty_146 : decode cX1_wishProperty 146 = .ok (.iload 7, 2) := by decide +kernel
theorem dX1_wishProperty_148 : decode cX1_wishProperty 148 = .ok (.ireturn, 1) := by decide +kernel
theorem dX1_wishProperty_149 : decode cX1_wishProperty 149 = .ok (.iload 6, 2) := by decide +kernel
theorem dX1_wishProperty_151 : decode cX1_wishProperty 151 = .ok (.invokestatic 120, 3) := by decide +kernel
theorem dX1_wishProperty_154 : decode cX1_wishProperty 154 = .ok (.iload_n 1, 1) := by decide +kernel
theorem dX1_wishProperty_155 : decode cX1_wishProperty 155 = .ok (.isub, 1) := by decide +kernel
theorem dX1_wishProperty_156 : decode cX1_wishProperty 156 = .ok (.ireturn, 1) := by decide +kernel
theorem dX1_joinsIfReleased_0 : decode cX1_joinsIfReleased 0 = .ok (.aload_n 0, 1) := by decide +kernel
theorem dX1_joinsIfReleased_1 : decode cX1_joinsIfReleased 1 = .ok (.iload_n 1, 1) := by decide +kernel
theorem dX1_joinsIfReleased_2 : decode cX1_joinsIfReleased 2 = .ok (.invokevirtual 96, 3) := by decide +kernel
theorem dX1_joinsIfReleased_5 : decode cX1_joinsIfReleased 5 = .ok (.ifCond .ne 5, 3) := by decide +kernel
theorem dX1_joinsIfReleased_8 : decode cX1_joinsIfReleased 8 = .ok (.iconst (-1), 1) := by decide +kernel
theorem dX1_joinsIfReleased_9 : decode cX1_joinsIfReleased 9 = .ok (.ireturn, 1) := by decide +kernel
theorem dX1_joinsIfReleased_10 : decode cX1_joinsIfReleased 10 = .ok (.aload_n 0, 1) := by decide +kernel
theorem dX1_joinsIfReleased_11 : decode cX1_joinsIfReleased 11 = .ok (.getfield 21, 3) := by decide +kernel
theorem dX1_joinsIfReleased_14 : decode cX1_joinsIfReleased 14 = .ok (.aload_n 0, 1) := by decide +kernel
theorem dX1_joinsIfReleased_15 : decode cX1_joinsIfReleased 15 = .ok (.getfield 12, 3) := by decide +kernel
theorem dX1_joinsIfReleased_18 : decode cX1_joinsIfReleased 18 = .ok (.aload_n 0, 1) := by decide +kernel
theorem dX1_joinsIfReleased_19 : decode cX1_joinsIfReleased 19 = .ok (.getfield 12, 3) := by decide +kernel
theorem dX1_joinsIfReleased_22 : decode cX1_joinsIfReleased 22 = .ok (.iload_n 1, 1) := by decide +kernel
theorem dX1_joinsIfReleased_23 : decode cX1_joinsIfReleased 23 = .ok (.invokevirtual 100, 3) := by decide +kernel
theorem dX1_joinsIfReleased_26 : decode cX1_joinsIfReleased 26 = .ok (.invokevirtual 103, 3) := by decide +kernel
theorem dX1_joinsIfReleased_29 : decode cX1_joinsIfReleased 29 = .ok (.aload_n 0, 1) := by decide +kernel
theorem dX1_joinsIfReleased_30 : decode cX1_joinsIfReleased 30 = .ok (.getfield 21, 3) := by decide +kernel
theorem dX1_joinsIfReleased_33 : decode cX1_joinsIfReleased 33 = .ok (.aload_n 0, 1) := by decide +kernel
theorem dX1_joinsIfReleased_34 : decode cX1_joinsIfReleased 34 = .ok (.getfield 12, 3) := by decide +kernel
theorem dX1_joinsIfReleased_37 : decode cX1_joinsIfReleased 37 = .ok (.invokevirtual 107, 3) := by decide +kernel
theorem dX1_joinsIfReleased_40 : decode cX1_joinsIfReleased 40 = .ok (.aload_n 0, 1) := by decide +kernel
theorem dX1_joinsIfReleased_41 : decode cX1_joinsIfReleased 41 = .ok (.getfield 21, 3) := by decide +kernel
theorem dX1_joinsIfReleased_44 : decode cX1_joinsIfReleased 44 = .ok (.getfield 113, 3) := by decide +kernel
theorem dX1_joinsIfReleased_47 : decode cX1_joinsIfReleased 47 = .ok (.ireturn, 1) := by decide +kernel
theorem dX1_greatestSizeFor_0 : decode cX1_greatestSizeFor 0 = .ok (.aload_n 0, 1) := by decide +kernel
theorem dX1_greatestSizeFor_1 : decode cX1_greatestSizeFor 1 = .ok (.iload_n 1, 1) := by decide +kernel
theorem dX1_greatestSizeFor_2 : decode cX1_greatestSizeFor 2 = .ok (.invokevirtual 96, 3) := by decide +kernel
theorem dX1_greatestSizeFor_5 : decode cX1_greatestSizeFor 5 = .ok (.ifCond .ne 5, 3) := by decide +kernel
theorem dX1_greatestSizeFor_8 : decode cX1_greatestSizeFor 8 = .ok (.iconst (-1), 1) := by decide +kernel
theorem dX1_greatestSizeFor_9 : decode cX1_greatestSizeFor 9 = .ok (.ireturn, 1) := by decide +kernel
theorem dX1_greatestSizeFor_10 : decode cX1_greatestSizeFor 10 = .ok (.aload_n 0, 1) := by decide +kernel
theorem dX1_greatestSizeFor_11 : decode cX1_greatestSizeFor 11 = .ok (.getfield 21, 3) := by decide +kernel
theorem dX1_greatestSizeFor_14 : decode cX1_greatestSizeFor 14 = .ok (.aload_n 0, 1) := by decide +kernel
theorem dX1_greatestSizeFor_15 : decode cX1_greatestSizeFor 15 = .ok (.getfield 12, 3) := by decide +kernel
theorem dX1_greatestSizeFor_18 : decode cX1_greatestSizeFor 18 = .ok (.aload_n 0, 1) := by decide +kernel
theorem dX1_greatestSizeFor_19 : decode cX1_greatestSizeFor 19 = .ok (.getfield 12, 3) := by decide +kernel
theorem dX1_greatestSizeFor_22 : decode cX1_greatestSizeFor 22 = .ok (.iload_n 1, 1) := by decide +kernel
theorem dX1_greatestSizeFor_23 : decode cX1_greatestSizeFor 23 = .ok (.invokevirtual 100, 3) := by decide +kernel
theorem dX1_greatestSizeFor_26 : decode cX1_greatestSizeFor 26 = .ok (.invokevirtual 103, 3) := by decide +kernel
theorem dX1_greatestSizeFor_29 : decode cX1_greatestSizeFor 29 = .ok (.iconst 1, 1) := by decide +kernel
theorem dX1_greatestSizeFor_30 : decode cX1_greatestSizeFor 30 = .ok (.istore_n 2, 1) := by decide +kernel
theorem dX1_greatestSizeFor_31 : decode cX1_greatestSizeFor 31 = .ok (.iconst 0, 1) := by decide +kernel
theorem dX1_greatestSizeFor_32 : decode cX1_greatestSizeFor 32 = .ok (.istore_n 3, 1) := by decide +kernel
theorem dX1_greatestSizeFor_33 : decode cX1_greatestSizeFor 33 = .ok (.iload_n 3, 1) := by decide +kernel
theorem dX1_greatestSizeFor_34 : decode cX1_greatestSizeFor 34 = .ok (.bipush 14, 2) := by decide +kernel
theorem dX1_greatestSizeFor_36 : decode cX1_greatestSizeFor 36 = .ok (.if_icmp .ge 25, 3) := by decide +kernel
theorem dX1_greatestSizeFor_39 : decode cX1_greatestSizeFor 39 = .ok (.iload_n 2, 1) := by decide +kernel
theorem dX1_greatestSizeFor_40 : decode cX1_greatestSizeFor 40 = .ok (.ifCond .eq 21, 3) := by decide +kernel
theorem dX1_greatestSizeFor_43 : decode cX1_greatestSizeFor 43 = .ok (.aload_n 0, 1) := by decide +kernel
theorem dX1_greatestSizeFor_44 : decode cX1_greatestSizeFor 44 = .ok (.getfield 21, 3) := by decide +kernel
theorem dX1_greatestSizeFor_47 : decode cX1_greatestSizeFor 47 = .ok (.aload_n 0, 1) := by decide +kernel
theorem dX1_greatestSizeFor_48 : decode cX1_greatestSizeFor 48 = .ok (.getfield 12, 3) := by decide +kernel
theorem dX1_greatestSizeFor_51 : decode cX1_greatestSizeFor 51 = .ok (.invokevirtual 123, 3) := by decide +kernel
theorem dX1_greatestSizeFor_54 : decode cX1_greatestSizeFor 54 = .ok (.istore_n 2, 1) := by decide +kernel
theorem dX1_greatestSizeFor_55 : decode cX1_greatestSizeFor 55 = .ok (.iinc 3 1, 3) := by decide +kernel
theorem dX1_greatestSizeFor_58 : decode cX1_greatestSizeFor 58 = .ok (.goto (-25), 3) := by decide +kernel
theorem dX1_greatestSizeFor_61 : decode cX1_greatestSizeFor 61 = .ok (.aload_n 0, 1) := by decide +kernel
theorem dX1_greatestSizeFor_62 : decode cX1_greatestSizeFor 62 = .ok (.getfield 21, 3) := by decide +kernel
theorem dX1_greatestSizeFor_65 : decode cX1_greatestSizeFor 65 = .ok (.getfield 117, 3) := by decide +kernel
theorem dX1_greatestSizeFor_68 : decode cX1_greatestSizeFor 68 = .ok (.invokestatic 120, 3) := by decide +kernel
theorem dX1_greatestSizeFor_71 : decode cX1_greatestSizeFor 71 = .ok (.ireturn, 1) := by decide +kernel
theorem dX1_useInTheWay_0 : decode cX1_useInTheWay 0 = .ok (.iconst (-1), 1) := by decide +kernel
theorem dX1_useInTheWay_1 : decode cX1_useInTheWay 1 = .ok (.istore_n 1, 1) := by decide +kernel
theorem dX1_useInTheWay_2 : decode cX1_useInTheWay 2 = .ok (.iconst (-1), 1) := by decide +kernel
theorem dX1_useInTheWay_3 : decode cX1_useInTheWay 3 = .ok (.istore_n 2, 1) := by decide +kernel
theorem dX1_useInTheWay_4 : decode cX1_useInTheWay 4 = .ok (.aload_n 0, 1) := by decide +kernel
theorem dX1_useInTheWay_5 : decode cX1_useInTheWay 5 = .ok (.getfield 12, 3) := by decide +kernel
theorem dX1_useInTheWay_8 : decode cX1_useInTheWay 8 = .ok (.invokevirtual 164, 3) := by decide +kernel
theorem dX1_useInTheWay_11 : decode cX1_useInTheWay 11 = .ok (.istore_n 3, 1) := by decide +kernel
theorem dX1_useInTheWay_12 : decode cX1_useInTheWay 12 = .ok (.iconst 0, 1) := by decide +kernel
theorem dX1_useInTheWay_13 : decode cX1_useInTheWay 13 = .ok (.istore 4, 2) := by decide +kernel
theorem dX1_useInTheWay_15 : decode cX1_useInTheWay 15 = .ok (.iload 4, 2) := by decide +kernel
theorem dX1_useInTheWay_17 : decode cX1_useInTheWay 17 = .ok (.bipush 24, 2) := by decide +kernel
theorem dX1_useInTheWay_19 : decode cX1_useInTheWay 19 = .ok (.if_icmp .ge 77, 3) := by decide +kernel
theorem dX1_useInTheWay_22 : decode cX1_useInTheWay 22 = .ok (.aload_n 0, 1) := by decide +kernel
theorem dX1_useInTheWay_23 : decode cX1_useInTheWay 23 = .ok (.iload 4, 2) := by decide +kernel
theorem dX1_useInTheWay_25 : decode cX1_useInTheWay 25 = .ok (.invokevirtual 96, 3) := by decide +kernel
theorem dX1_useInTheWay_28 : decode cX1_useInTheWay 28 = .ok (.ifCond .ne 6, 3) := by decide +kernel
theorem dX1_useInTheWay_31 : decode cX1_useInTheWay 31 = .ok (.goto 59, 3) := by decide +kernel
theorem dX1_useInTheWay_34 : decode cX1_useInTheWay 34 = .ok (.aload_n 0, 1) := by decide +kernel
theorem dX1_useInTheWay_35 : decode cX1_useInTheWay 35 = .ok (.getfield 21, 3) := by decide +kernel
theorem dX1_useInTheWay_38 : decode cX1_useInTheWay 38 = .ok (.aload_n 0, 1) := by decide +kernel
theorem dX1_useInTheWay_39 : decode cX1_useInTheWay 39 = .ok (.getfield 12, 3) := by decide +kernel
theorem dX1_useInTheWay_42 : decode cX1_useInTheWay 42 = .ok (.aload_n 0, 1) := by decide +kernel
theorem dX1_useInTheWay_43 : decode cX1_useInTheWay 43 = .ok (.getfield 12, 3) := by decide +kernel
theorem dX1_useInTheWay_46 : decode cX1_useInTheWay 46 = .ok (.iload 4, 2) := by decide +kernel
theorem dX1_useInTheWay_48 : decode cX1_useInTheWay 48 = .ok (.invokevirtual 100, 3) := by decide +kernel
theorem dX1_useInTheWay_51 : decode cX1_useInTheWay 51 = .ok (.invokevirtual 103, 3) := by decide +kernel
theorem dX1_useInTheWay_54 : decode cX1_useInTheWay 54 = .ok (.aload_n 0, 1) := by decide +kernel
theorem dX1_useInTheWay_55 : decode cX1_useInTheWay 55 = .ok (.getfield 21, 3) := by decide +kernel
theorem dX1_useInTheWay_58 : decode cX1_useInTheWay 58 = .ok (.aload_n 0, 1) := by decide +kernel
theorem dX1_useInTheWay_59 : decode cX1_useInTheWay 59 = .ok (.getfield 12, 3) := by decide +kernel
theorem dX1_useInTheWay_62 : decode cX1_useInTheWay 62 = .ok (.invokevirtual 107, 3) := by decide +kernel
theorem dX1_useInTheWay_65 : decode cX1_useInTheWay 65 = .ok (.iload_n 3, 1) := by decide +kernel
theorem dX1_useInTheWay_66 : decode cX1_useInTheWay 66 = .ok (.aload_n 0, 1) := by decide +kernel
theorem dX1_useInTheWay_67 : decode cX1_useInTheWay 67 = .ok (.getfield 21, 3) := by decide +kernel
theorem dX1_useInTheWay_70 : decode cX1_useInTheWay 70 = .ok (.getfield 117, 3) := by decide +kernel
theorem dX1_useInTheWay_73 : decode cX1_useInTheWay 73 = .ok (.invokestatic 167, 3) := by decide +kernel
theorem dX1_useInTheWay_76 : decode cX1_useInTheWay 76 = .ok (.istore 5, 2) := by decide +kernel
theorem dX1_useInTheWay_78 : decode cX1_useInTheWay 78 = .ok (.iload 5, 2) := by decide +kernel
theorem dX1_useInTheWay_80 : decode cX1_useInTheWay 80 = .ok (.iload_n 2, 1) := by decide +kernel
theorem dX1_useInTheWay_81 : decode cX1_useInTheWay 81 = .ok (.if_icmp .le 9, 3) := by decide +kernel
theorem dX1_useInTheWay_84 : decode cX1_useInTheWay 84 = .ok (.iload 4, 2) := by decide +kernel
theorem dX1_useInTheWay_86 : decode cX1_useInTheWay 86 = .ok (.istore_n 1, 1) := by decide +kernel
theorem dX1_useInTheWay_87 : decode cX1_useInTheWay 87 = .ok (.iload 5, 2) := by decide +kernel
theorem dX1_useInTheWay_89 : decode cX1_useInTheWay 89 = .ok (.istore_n 2, 1) := by decide +kernel
theorem dX1_useInTheWay_90 : decode cX1_useInTheWay 90 = .ok (.iinc 4 1, 3) := by decide +kernel
theorem dX1_useInTheWay_93 : decode cX1_useInTheWay 93 = .ok (.goto (-78), 3) := by decide +kernel
theorem dX1_useInTheWay_96 : decode cX1_useInTheWay 96 = .ok (.iload_n 1, 1) := by decide +kernel
theorem dX1_useInTheWay_97 : decode cX1_useInTheWay 97 = .ok (.ireturn, 1) := by decide +kernel
theorem dX1_shareOfWaste_0 : decode cX1_shareOfWaste 0 = .ok (.aload_n 0, 1) := by decide +kernel
theorem dX1_shareOfWaste_1 : decode cX1_shareOfWaste 1 = .ok (.invokevirtual 161, 3) := by decide +kernel
theorem dX1_shareOfWaste_4 : decode cX1_shareOfWaste 4 = .ok (.istore_n 1, 1) := by decide +kernel
theorem dX1_shareOfWaste_5 : decode cX1_shareOfWaste 5 = .ok (.iload_n 1, 1) := by decide +kernel
theorem dX1_shareOfWaste_6 : decode cX1_shareOfWaste 6 = .ok (.ifCond .ne 7, 3) := by decide +kernel
theorem dX1_shareOfWaste_9 : decode cX1_shareOfWaste 9 = .ok (.dconst 0, 1) := by decide +kernel
theorem dX1_shareOfWaste_10 : decode cX1_shareOfWaste 10 = .ok (.goto 13, 3) := by decide +kernel
theorem dX1_shareOfWaste_13 : decode cX1_shareOfWaste 13 = .ok (.iload_n 1, 1) := by decide +kernel
theorem dX1_shareOfWaste_14 : decode cX1_shareOfWaste 14 = .ok (.aload_n 0, 1) := by decide +kernel
theorem dX1_shareOfWaste_15 : decode cX1_shareOfWaste 15 = .ok (.invokevirtual 158, 3) := by decide +kernel
theorem dX1_shareOfWaste_18 : decode cX1_shareOfWaste 18 = .ok (.isub, 1) := by decide +kernel
theorem dX1_shareOfWaste_19 : decode cX1_shareOfWaste 19 = .ok (.i2d, 1) := by decide +kernel
theorem dX1_shareOfWaste_20 : decode cX1_shareOfWaste 20 = .ok (.iload_n 1, 1) := by decide +kernel
theorem dX1_shareOfWaste_21 : decode cX1_shareOfWaste 21 = .ok (.i2d, 1) := by decide +kernel
theorem dX1_shareOfWaste_22 : decode cX1_shareOfWaste 22 = .ok (.ddiv, 1) := by decide +kernel
theorem dX1_shareOfWaste_23 : decode cX1_shareOfWaste 23 = .ok (.dreturn, 1) := by decide +kernel
theorem dX1_numberForNewUse_0 : decode cX1_numberForNewUse 0 = .ok (.iconst 0, 1) := by decide +kernel
theorem dX1_numberForNewUse_1 : decode cX1_numberForNewUse 1 = .ok (.istore_n 1, 1) := by decide +kernel
theorem dX1_numberForNewUse_2 : decode cX1_numberForNewUse 2 = .ok (.iload_n 1, 1) := by decide +kernel
theorem dX1_numberForNewUse_3 : decode cX1_numberForNewUse 3 = .ok (.bipush 24, 2) := by decide +kernel
theorem dX1_numberForNewUse_5 : decode cX1_numberForNewUse 5 = .ok (.if_icmp .ge 19, 3) := by decide +kernel
theorem dX1_numberForNewUse_8 : decode cX1_numberForNewUse 8 = .ok (.aload_n 0, 1) := by decide +kernel
theorem dX1_numberForNewUse_9 : decode cX1_numberForNewUse 9 = .ok (.iload_n 1, 1) := by decide +kernel
theorem dX1_numberForNewUse_10 : decode cX1_numberForNewUse 10 = .ok (.invokevirtual 96, 3) := by decide +kernel
theorem dX1_numberForNewUse_13 : decode cX1_numberForNewUse 13 = .ok (.ifCond .ne 5, 3) := by decide +kernel
theorem dX1_numberForNewUse_16 : decode cX1_numberForNewUse 16 = .ok (.iload_n 1, 1) := by decide +kernel
theorem dX1_numberForNewUse_17 : decode cX1_numberForNewUse 17 = .ok (.ireturn, 1) := by decide +kernel
theorem dX1_numberForNewUse_18 : decode cX1_numberForNewUse 18 = .ok (.iinc 1 1, 3) := by decide +kernel
theorem dX1_numberForNewUse_21 : decode cX1_numberForNewUse 21 = .ok (.goto (-19), 3) := by decide +kernel
theorem dX1_numberForNewUse_24 : decode cX1_numberForNewUse 24 = .ok (.iconst (-1), 1) := by decide +kernel
theorem dX1_numberForNewUse_25 : decode cX1_numberForNewUse 25 = .ok (.ireturn, 1) := by decide +kernel
theorem dX1_placeFor_0 : decode cX1_placeFor 0 = .ok (.iload_n 1, 1) := by decide +kernel
theorem dX1_placeFor_1 : decode cX1_placeFor 1 = .ok (.iconst (-1), 1) := by decide +kernel
theorem dX1_placeFor_2 : decode cX1_placeFor 2 = .ok (.if_icmp .ne 7, 3) := by decide +kernel
theorem dX1_placeFor_5 : decode cX1_placeFor 5 = .ok (.iconst (-1), 1) := by decide +kernel
theorem dX1_placeFor_6 : decode cX1_placeFor 6 = .ok (.goto 25, 3) := by decide +kernel
theorem dX1_placeFor_9 : decode cX1_placeFor 9 = .ok (.aload_n 0, 1) := by decide +kernel
theorem dX1_placeFor_10 : decode cX1_placeFor 10 = .ok (.getfield 12, 3) := by decide +kernel
theorem dX1_placeFor_13 : decode cX1_placeFor 13 = .ok (.iload_n 1, 1) := by decide +kernel
theorem dX1_placeFor_14 : decode cX1_placeFor 14 = .ok (.aload_n 0, 1) := by decide +kernel
theorem dX1_placeFor_15 : decode cX1_placeFor 15 = .ok (.iconst 0, 1) := by decide +kernel
theorem dX1_placeFor_16 : decode cX1_placeFor 16 = .ok (.invokevirtual 66, 3) := by decide +kernel
theorem dX1_placeFor_19 : decode cX1_placeFor 19 = .ok (.iconst 1, 1) := by decide +kernel
theorem dX1_placeFor_20 : decode cX1_placeFor 20 = .ok (.if_icmp .ne 7, 3) := by decide +kernel
theorem dX1_placeFor_23 : decode cX1_placeFor 23 = .ok (.iconst 1, 1) := by decide +kernel
theorem dX1_placeFor_24 : decode cX1_placeFor 24 = .ok (.goto 4, 3) := by decide +kernel
theorem dX1_placeFor_27 : decode cX1_placeFor 27 = .ok (.iconst 0, 1) := by decide +kernel
theorem dX1_placeFor_28 : decode cX1_placeFor 28 = .ok (.invokevirtual 173, 3) := by decide +kernel
theorem dX1_placeFor_31 : decode cX1_placeFor 31 = .ok (.ireturn, 1) := by decide +kernel
theorem dX1_isCutFor_0 : decode cX1_isCutFor 0 = .ok (.iload_n 1, 1) := by decide +kernel
theorem dX1_isCutFor_1 : decode cX1_isCutFor 1 = .ok (.iconst 2, 1) := by decide +kernel
theorem dX1_isCutFor_2 : decode cX1_isCutFor 2 = .ok (.if_icmp .lt 14, 3) := by decide +kernel
theorem dX1_isCutFor_5 : decode cX1_isCutFor 5 = .ok (.iload_n 1, 1) := by decide +kernel
theorem dX1_isCutFor_6 : decode cX1_isCutFor 6 = .ok (.iconst 1, 1) := by decide +kernel
theorem dX1_isCutFor_7 : decode cX1_isCutFor 7 = .ok (.isub, 1) := by decide +kernel
theorem dX1_isCutFor_8 : decode cX1_isCutFor 8 = .ok (.iload_n 2, 1) := by decide +kernel
theorem dX1_isCutFor_9 : decode cX1_isCutFor 9 = .ok (.if_icmp .lt 7, 3) := by decide +kernel
theorem dX1_isCutFor_12 : decode cX1_isCutFor 12 = .ok (.iconst 1, 1) := by decide +kernel
theorem dX1_isCutFor_13 : decode cX1_isCutFor 13 = .ok (.goto 4, 3) := by decide +kernel
theorem dX1_isCutFor_16 : decode cX1_isCutFor 16 = .ok (.iconst 0, 1) := by decide +kernel
theorem dX1_isCutFor_17 : decode cX1_isCutFor 17 = .ok (.ireturn, 1) := by decide +kernel
theorem dX1_goesRight_0 : decode cX1_goesRight 0 = .ok (.aload_n 0, 1) := by decide +kernel
theorem dX1_goesRight_1 : decode cX1_goesRight 1 = .ok (.iconst 1, 1) := by decide +kernel
theorem dX1_goesRight_2 : decode cX1_goesRight 2 = .ok (.invokevirtual 66, 3) := by decide +kernel
theorem dX1_goesRight_5 : decode cX1_goesRight 5 = .ok (.ifCond .ne 14, 3) := by decide +kernel
theorem dX1_goesRight_8 : decode cX1_goesRight 8 = .ok (.iload_n 1, 1) := by decide +kernel
theorem dX1_goesRight_9 : decode cX1_goesRight 9 = .ok (.iconst 2, 1) := by decide +kernel
theorem dX1_goesRight_10 : decode cX1_goesRight 10 = .ok (.isub, 1) := by decide +kernel
theorem dX1_goesRight_11 : decode cX1_goesRight 11 = .ok (.iload_n 2, 1) := by decide +kernel
theorem dX1_goesRight_12 : decode cX1_goesRight 12 = .ok (.if_icmp .lt 7, 3) := by decide +kernel
theorem dX1_goesRight_15 : decode cX1_goesRight 15 = .ok (.iconst 1, 1) := by decide +kernel
theorem dX1_goesRight_16 : decode cX1_goesRight 16 = .ok (.goto 4, 3) := by decide +kernel
theorem dX1_goesRight_19 : decode cX1_goesRight 19 = .ok (.iconst 0, 1) := by decide +kernel
theorem dX1_goesRight_20 : decode cX1_goesRight 20 = .ok (.ireturn, 1) := by decide +kernel
theorem dX1_cutAt_0 : decode cX1_cutAt 0 = .ok (.aload_n 0, 1) := by decide +kernel
theorem dX1_cutAt_1 : decode cX1_cutAt 1 = .ok (.getfield 12, 3) := by decide +kernel
theorem dX1_cutAt_4 : decode cX1_cutAt 4 = .ok (.iload_n 1, 1) := by decide +kernel
theorem dX1_cutAt_5 : decode cX1_cutAt 5 = .ok (.invokevirtual 177, 3) := by decide +kernel
theorem dX1_cutAt_8 : decode cX1_cutAt 8 = .ok (.aload_n 0, 1) := by decide +kernel
theorem dX1_cutAt_9 : decode cX1_cutAt 9 = .ok (.dup, 1) := by decide +kernel
theorem dX1_cutAt_10 : decode cX1_cutAt 10 = .ok (.getfield 48, 3) := by decide +kernel
theorem dX1_cutAt_13 : decode cX1_cutAt 13 = .ok (.iconst 1, 1) := by decide +kernel
theorem dX1_cutAt_14 : decode cX1_cutAt 14 = .ok (.iadd, 1) := by decide +kernel
theorem dX1_cutAt_15 : decode cX1_cutAt 15 = .ok (.putfield 48, 3) := by decide +kernel
theorem dX1_cutAt_18 : decode cX1_cutAt 18 = .ok (.return_, 1) := by decide +kernel
theorem dX1_replaceBySpan_0 : decode cX1_replaceBySpan 0 = .ok (.aload_n 0, 1) := by decide +kernel
theorem dX1_replaceBySpan_1 : decode cX1_replaceBySpan 1 = .ok (.getfield 12, 3) := by decide +kernel
theorem dX1_replaceBySpan_4 : decode cX1_replaceBySpan 4 = .ok (.aload_n 0, 1) := by decide +kernel
theorem dX1_replaceBySpan_5 : decode cX1_replaceBySpan 5 = .ok (.getfield 21, 3) := by decide +kernel
theorem dX1_replaceBySpan_8 : decode cX1_replaceBySpan 8 = .ok (.iload_n 1, 1) := by decide +kernel
theorem dX1_replaceBySpan_9 : decode cX1_replaceBySpan 9 = .ok (.invokevirtual 178, 3) := by decide +kernel
theorem dX1_replaceBySpan_12 : decode cX1_replaceBySpan 12 = .ok (.aload_n 0, 1) := by decide +kernel
theorem dX1_replaceBySpan_13 : decode cX1_replaceBySpan 13 = .ok (.dup, 1) := by decide +kernel
theorem dX1_replaceBySpan_14 : decode cX1_replaceBySpan 14 = .ok (.getfield 52, 3) := by decide +kernel
theorem dX1_replaceBySpan_17 : decode cX1_replaceBySpan 17 = .ok (.aload_n 0, 1) := by decide +kernel
theorem dX1_replaceBySpan_18 : decode cX1_replaceBySpan 18 = .ok (.getfield 21, 3) := by decide +kernel
theorem dX1_replaceBySpan_21 : decode cX1_replaceBySpan 21 = .ok (.getfield 113, 3) := by decide +kernel
theorem dX1_replaceBySpan_24 : decode cX1_replaceBySpan 24 = .ok (.iadd, 1) := by decide +kernel
theorem dX1_replaceBySpan_25 : decode cX1_replaceBySpan 25 = .ok (.putfield 52, 3) := by decide +kernel
theorem dX1_replaceBySpan_28 : decode cX1_replaceBySpan 28 = .ok (.return_, 1) := by decide +kernel
theorem dX1_manyUses_0 : decode cX1_manyUses 0 = .ok (.iconst 0, 1) := by decide +kernel
theorem dX1_manyUses_1 : decode cX1_manyUses 1 = .ok (.istore_n 1, 1) := by decide +kernel
theorem dX1_manyUses_2 : decode cX1_manyUses 2 = .ok (.iconst 0, 1) := by decide +kernel
theorem dX1_manyUses_3 : decode cX1_manyUses 3 = .ok (.istore_n 2, 1) := by decide +kernel
theorem dX1_manyUses_4 : decode cX1_manyUses 4 = .ok (.iload_n 2, 1) := by decide +kernel
theorem dX1_manyUses_5 : decode cX1_manyUses 5 = .ok (.bipush 24, 2) := by decide +kernel
theorem dX1_manyUses_7 : decode cX1_manyUses 7 = .ok (.if_icmp .ge 20, 3) := by decide +kernel
theorem dX1_manyUses_10 : decode cX1_manyUses 10 = .ok (.aload_n 0, 1) := by decide +kernel
theorem dX1_manyUses_11 : decode cX1_manyUses 11 = .ok (.iload_n 2, 1) := by decide +kernel
theorem dX1_manyUses_12 : decode cX1_manyUses 12 = .ok (.invokevirtual 96, 3) := by decide +kernel
theorem dX1_manyUses_15 : decode cX1_manyUses 15 = .ok (.ifCond .eq 6, 3) := by decide +kernel
theorem dX1_manyUses_18 : decode cX1_manyUses 18 = .ok (.iinc 1 1, 3) := by decide +kernel
theorem dX1_manyUses_21 : decode cX1_manyUses 21 = .ok (.iinc 2 1, 3) := by decide +kernel
theorem dX1_manyUses_24 : decode cX1_manyUses 24 = .ok (.goto (-20), 3) := by decide +kernel
theorem dX1_manyUses_27 : decode cX1_manyUses 27 = .ok (.iload_n 1, 1) := by decide +kernel
theorem dX1_manyUses_28 : decode cX1_manyUses 28 = .ok (.ireturn, 1) := by decide +kernel
theorem dX1_wishedCells_0 : decode cX1_wishedCells 0 = .ok (.iconst 0, 1) := by decide +kernel
theorem dX1_wishedCells_1 : decode cX1_wishedCells 1 = .ok (.istore_n 1, 1) := by decide +kernel
theorem dX1_wishedCells_2 : decode cX1_wishedCells 2 = .ok (.iconst 0, 1) := by decide +kernel
theorem dX1_wishedCells_3 : decode cX1_wishedCells 3 = .ok (.istore_n 2, 1) := by decide +kernel
theorem dX1_wishedCells_4 : decode cX1_wishedCells 4 = .ok (.iload_n 2, 1) := by decide +kernel
theorem dX1_wishedCells_5 : decode cX1_wishedCells 5 = .ok (.bipush 24, 2) := by decide +kernel
theorem dX1_wishedCells_7 : decode cX1_wishedCells 7 = .ok (.if_icmp .ge 17, 3) := by decide +kernel
theorem dX1_wishedCells_10 : decode cX1_wishedCells 10 = .ok (.iload_n 1, 1) := by decide +kernel
theorem dX1_wishedCells_11 : decode cX1_wishedCells 11 = .ok (.aload_n 0, 1) := by decide +kernel
theorem dX1_wishedCells_12 : decode cX1_wishedCells 12 = .ok (.iload_n 2, 1) := by decide +kernel
theorem dX1_wishedCells_13 : decode cX1_wishedCells 13 = .ok (.invokevirtual 58, 3) := by decide +kernel
theorem dX1_wishedCells_16 : decode cX1_wishedCells 16 = .ok (.iadd, 1) := by decide +kernel
theorem dX1_wishedCells_17 : decode cX1_wishedCells 17 = .ok (.istore_n 1, 1) := by decide +kernel
theorem dX1_wishedCells_18 : decode cX1_wishedCells 18 = .ok (.iinc 2 1, 3) := by decide +kernel
theorem dX1_wishedCells_21 : decode cX1_wishedCells 21 = .ok (.goto (-17), 3) := by decide +kernel
theorem dX1_wishedCells_24 : decode cX1_wishedCells 24 = .ok (.iload_n 1, 1) := by decide +kernel
theorem dX1_wishedCells_25 : decode cX1_wishedCells 25 = .ok (.ireturn, 1) := by decide +kernel
theorem dX1_usedCells_0 : decode cX1_usedCells 0 = .ok (.aload_n 0, 1) := by decide +kernel
theorem dX1_usedCells_1 : decode cX1_usedCells 1 = .ok (.getfield 12, 3) := by decide +kernel
theorem dX1_usedCells_4 : decode cX1_usedCells 4 = .ok (.getfield 143, 3) := by decide +kernel
theorem dX1_usedCells_7 : decode cX1_usedCells 7 = .ok (.invokestatic 120, 3) := by decide +kernel
theorem dX1_usedCells_10 : decode cX1_usedCells 10 = .ok (.aload_n 0, 1) := by decide +kernel
theorem dX1_usedCells_11 : decode cX1_usedCells 11 = .ok (.getfield 12, 3) := by decide +kernel
theorem dX1_usedCells_14 : decode cX1_usedCells 14 = .ok (.invokevirtual 155, 3) := by decide +kernel
theorem dX1_usedCells_17 : decode cX1_usedCells 17 = .ok (.isub, 1) := by decide +kernel
theorem dX1_usedCells_18 : decode cX1_usedCells 18 = .ok (.ireturn, 1) := by decide +kernel
theorem dX2_init_0 : decode cX2_init 0 = .ok (.aload_n 0, 1) := by decide +kernel
theorem dX2_init_1 : decode cX2_init 1 = .ok (.invokespecial 3, 3) := by decide +kernel
theorem dX2_init_4 : decode cX2_init 4 = .ok (.aload_n 0, 1) := by decide +kernel
theorem dX2_init_5 : decode cX2_init 5 = .ok (.bipush 60, 2) := by decide +kernel
theorem dX2_init_7 : decode cX2_init 7 = .ok (.newarray .int, 2) := by decide +kernel
theorem dX2_init_9 : decode cX2_init 9 = .ok (.putfield 9, 3) := by decide +kernel
theorem dX2_init_12 : decode cX2_init 12 = .ok (.return_, 1) := by decide +kernel
theorem dX2_isFull_0 : decode cX2_isFull 0 = .ok (.aload_n 0, 1) := by decide +kernel
theorem dX2_isFull_1 : decode cX2_isFull 1 = .ok (.getfield 15, 3) := by decide +kernel
theorem dX2_isFull_4 : decode cX2_isFull 4 = .ok (.bipush 60, 2) := by decide +kernel
theorem dX2_isFull_6 : decode cX2_isFull 6 = .ok (.if_icmp .lt 7, 3) := by decide +kernel
theorem dX2_isFull_9 : decode cX2_isFull 9 = .ok (.iconst 1, 1) := by decide +kernel
theorem dX2_isFull_10 : decode cX2_isFull 10 = .ok (.goto 4, 3) := by decide +kernel
theorem dX2_isFull_13 : decode cX2_isFull 13 = .ok (.iconst 0, 1) := by decide +kernel
theorem dX2_isFull_14 : decode cX2_isFull 14 = .ok (.ireturn, 1) := by decide +kernel
theorem dX2_add_0 : decode cX2_add 0 = .ok (.aload_n 0, 1) := by decide +kernel
theorem dX2_add_1 : decode cX2_add 1 = .ok (.getfield 9, 3) := by decide +kernel
theorem dX2_add_4 : decode cX2_add 4 = .ok (.aload_n 0, 1) := by decide +kernel
theorem dX2_add_5 : decode cX2_add 5 = .ok (.getfield 15, 3) := by decide +kernel
theorem dX2_add_8 : decode cX2_add 8 = .ok (.iload_n 1, 1) := by decide +kernel
theorem dX2_add_9 : decode cX2_add 9 = .ok (.invokestatic 19, 3) := by decide +kernel
theorem dX2_add_12 : decode cX2_add 12 = .ok (.aload_n 0, 1) := by decide +kernel
theorem dX2_add_13 : decode cX2_add 13 = .ok (.dup, 1) := by decide +kernel
theorem dX2_add_14 : decode cX2_add 14 = .ok (.getfield 15, 3) := by decide +kernel
theorem dX2_add_17 : decode cX2_add 17 = .ok (.iconst 1, 1) := by decide +kernel
theorem dX2_add_18 : decode cX2_add 18 = .ok (.iadd, 1) := by decide +kernel
theorem dX2_add_19 : decode cX2_add 19 = .ok (.putfield 15, 3) := by decide +kernel
theorem dX2_add_22 : decode cX2_add 22 = .ok (.aload_n 0, 1) := by decide +kernel
theorem dX2_add_23 : decode cX2_add 23 = .ok (.getfield 15, 3) := by decide +kernel
theorem dX2_add_26 : decode cX2_add 26 = .ok (.ireturn, 1) := by decide +kernel
theorem dX2_empty_0 : decode cX2_empty 0 = .ok (.aload_n 0, 1) := by decide +kernel
theorem dX2_empty_1 : decode cX2_empty 1 = .ok (.getfield 15, 3) := by decide +kernel
theorem dX2_empty_4 : decode cX2_empty 4 = .ok (.istore_n 1, 1) := by decide +kernel
theorem dX2_empty_5 : decode cX2_empty 5 = .ok (.aload_n 0, 1) := by decide +kernel
theorem dX2_empty_6 : decode cX2_empty 6 = .ok (.iconst 0, 1) := by decide +kernel
theorem dX2_empty_7 : decode cX2_empty 7 = .ok (.putfield 15, 3) := by decide +kernel
theorem dX2_empty_10 : decode cX2_empty 10 = .ok (.iload_n 1, 1) := by decide +kernel
theorem dX2_empty_11 : decode cX2_empty 11 = .ok (.ireturn, 1) := by decide +kernel
theorem dX2_codeAt_0 : decode cX2_codeAt 0 = .ok (.aload_n 0, 1) := by decide +kernel
theorem dX2_codeAt_1 : decode cX2_codeAt 1 = .ok (.getfield 9, 3) := by decide +kernel
theorem dX2_codeAt_4 : decode cX2_codeAt 4 = .ok (.iload_n 1, 1) := by decide +kernel
theorem dX2_codeAt_5 : decode cX2_codeAt 5 = .ok (.invokestatic 23, 3) := by decide +kernel
theorem dX2_codeAt_8 : decode cX2_codeAt 8 = .ok (.ireturn, 1) := by decide +kernel
theorem dX2_errorIndex_0 : decode cX2_errorIndex 0 = .ok (.iconst 0, 1) := by decide +kernel
theorem dX2_errorIndex_1 : decode cX2_errorIndex 1 = .ok (.istore_n 1, 1) := by decide +kernel
theorem dX2_errorIndex_2 : decode cX2_errorIndex 2 = .ok (.iconst 0, 1) := by decide +kernel
theorem dX2_errorIndex_3 : decode cX2_errorIndex 3 = .ok (.istore_n 2, 1) := by decide +kernel
theorem dX2_errorIndex_4 : decode cX2_errorIndex 4 = .ok (.iload_n 2, 1) := by decide +kernel
theorem dX2_errorIndex_5 : decode cX2_errorIndex 5 = .ok (.aload_n 0, 1) := by decide +kernel
theorem dX2_errorIndex_6 : decode cX2_errorIndex 6 = .ok (.getfield 15, 3) := by decide +kernel
theorem dX2_errorIndex_9 : decode cX2_errorIndex 9 = .ok (.if_icmp .ge 27, 3) := by decide +kernel
theorem dX2_errorIndex_12 : decode cX2_errorIndex 12 = .ok (.iload_n 1, 1) := by decide +kernel
theorem dX2_errorIndex_13 : decode cX2_errorIndex 13 = .ok (.aload_n 0, 1) := by decide +kernel
theorem dX2_errorIndex_14 : decode cX2_errorIndex 14 = .ok (.iload_n 2, 1) := by decide +kernel
theorem dX2_errorIndex_15 : decode cX2_errorIndex 15 = .ok (.invokevirtual 27, 3) := by decide +kernel
theorem dX2_errorIndex_18 : decode cX2_errorIndex 18 = .ok (.invokestatic 31, 3) := by decide +kernel
theorem dX2_errorIndex_21 : decode cX2_errorIndex 21 = .ok (.istore_n 1, 1) := by decide +kernel
theorem dX2_errorIndex_22 : decode cX2_errorIndex 22 = .ok (.iload_n 1, 1) := by decide +kernel
theorem dX2_errorIndex_23 : decode cX2_errorIndex 23 = .ok (.bipush 8, 2) := by decide +kernel
theorem dX2_errorIndex_25 : decode cX2_errorIndex 25 = .ok (.if_icmp .ne 5, 3) := by decide +kernel
theorem dX2_errorIndex_28 : decode cX2_errorIndex 28 = .ok (.iload_n 2, 1) := by decide +kernel
theorem dX2_errorIndex_29 : decode cX2_errorIndex 29 = .ok (.ireturn, 1) := by decide +kernel
theorem dX2_errorIndex_30 : decode cX2_errorIndex 30 = .ok (.iinc 2 1, 3) := by decide +kernel
theorem dX2_errorIndex_33 : decode cX2_errorIndex 33 = .ok (.goto (-29), 3) := by decide +kernel
theorem dX2_errorIndex_36 : decode cX2_errorIndex 36 = .ok (.aload_n 0, 1) := by decide +kernel
theorem dX2_errorIndex_37 : decode cX2_errorIndex 37 = .ok (.getfield 15, 3) := by decide +kernel
theorem dX2_errorIndex_40 : decode cX2_errorIndex 40 = .ok (.ireturn, 1) := by decide +kernel
theorem dX2_isComplete_0 : decode cX2_isComplete 0 = .ok (.iconst 0, 1) := by decide +kernel
theorem dX2_isComplete_1 : decode cX2_isComplete 1 = .ok (.istore_n 1, 1) := by decide +kernel
theorem dX2_isComplete_2 : decode cX2_isComplete 2 = .ok (.iconst 0, 1) := by decide +kernel
theorem dX2_isComplete_3 : decode cX2_isComplete 3 = .ok (.istore_n 2, 1) := by decide +kernel
theorem dX2_isComplete_4 : decode cX2_isComplete 4 = .ok (.iload_n 2, 1) := by decide +kernel
theorem dX2_isComplete_5 : decode cX2_isComplete 5 = .ok (.aload_n 0, 1) := by decide +kernel
theorem dX2_isComplete_6 : decode cX2_isComplete 6 = .ok (.getfield 15, 3) := by decide +kernel
theorem dX2_isComplete_9 : decode cX2_isComplete 9 = .ok (.if_icmp .ge 19, 3) := by decide +kernel
theorem dX2_isComplete_12 : decode cX2_isComplete 12 = .ok (.iload_n 1, 1) := by decide +kernel
theorem dX2_isComplete_13 : decode cX2_isComplete 13 = .ok (.aload_n 0, 1) := by decide +kernel
theorem dX2_isComplete_14 : decode cX2_isComplete 14 = .ok (.iload_n 2, 1) := by decide +kernel
theorem dX2_isComplete_15 : decode cX2_isComplete 15 = .ok (.invokevirtual 27, 3) := by decide +kernel
theorem dX2_isComplete_18 : decode cX2_isComplete 18 = .ok (.invokestatic 31, 3) := by decide +kernel
theorem dX2_isComplete_21 : decode cX2_isComplete 21 = .ok (.istore_n 1, 1) := by decide +kernel
theorem dX2_isComplete_22 : decode cX2_isComplete 22 = .ok (.iinc 2 1, 3) := by decide +kernel
theorem dX2_isComplete_25 : decode cX2_isComplete 25 = .ok (.goto (-21), 3) := by decide +kernel
theorem dX2_isComplete_28 : decode cX2_isComplete 28 = .ok (.iload_n 1, 1) := by decide +kernel
theorem dX2_isComplete_29 : decode cX2_isComplete 29 = .ok (.invokestatic 35, 3) := by decide +kernel
theorem dX2_isComplete_32 : decode cX2_isComplete 32 = .ok (.ireturn, 1) := by decide +kernel
theorem dX2_numberFrom_0 : decode cX2_numberFrom 0 = .ok (.iconst 0, 1) := by decide +kernel
theorem dX2_numberFrom_1 : decode cX2_numberFrom 1 = .ok (.istore_n 2, 1) := by decide +kernel
theorem dX2_numberFrom_2 : decode cX2_numberFrom 2 = .ok (.iload_n 1, 1) := by decide +kernel
theorem dX2_numberFrom_3 : decode cX2_numberFrom 3 = .ok (.istore_n 3, 1) := by decide +kernel
theorem dX2_numberFrom_4 : decode cX2_numberFrom 4 = .ok (.iload_n 3, 1) := by decide +kernel
theorem dX2_numberFrom_5 : decode cX2_numberFrom 5 = .ok (.aload_n 0, 1) := by decide +kernel
theorem dX2_numberFrom_6 : decode cX2_numberFrom 6 = .ok (.getfield 15, 3) := by decide +kernel
theorem dX2_numberFrom_9 : decode cX2_numberFrom 9 = .ok (.if_icmp .ge 34, 3) := by decide +kernel
theorem dX2_numberFrom_12 : decode cX2_numberFrom 12 = .ok (.aload_n 0, 1) := by decide +kernel
theorem dX2_numberFrom_13 : decode cX2_numberFrom 13 = .ok (.iload_n 3, 1) := by decide +kernel
theorem dX2_numberFrom_14 : decode cX2_numberFrom 14 = .ok (.invokevirtual 27, 3) := by decide +kernel
theorem dX2_numberFrom_17 : decode cX2_numberFrom 17 = .ok (.invokestatic 39, 3) := by decide +kernel
theorem dX2_numberFrom_20 : decode cX2_numberFrom 20 = .ok (.ifCond .eq 23, 3) := by decide +kernel
theorem dX2_numberFrom_23 : decode cX2_numberFrom 23 = .ok (.iload_n 2, 1) := by decide +kernel
theorem dX2_numberFrom_24 : decode cX2_numberFrom 24 = .ok (.bipush 10, 2) := by decide +kernel
theorem dX2_numberFrom_26 : decode cX2_numberFrom 26 = .ok (.imul, 1) := by decide +kernel
theorem dX2_numberFrom_27 : decode cX2_numberFrom 27 = .ok (.aload_n 0, 1) := by decide +kernel
theorem dX2_numberFrom_28 : decode cX2_numberFrom 28 = .ok (.iload_n 3, 1) := by decide +kernel
theorem dX2_numberFrom_29 : decode cX2_numberFrom 29 = .ok (.invokevirtual 27, 3) := by decide +kernel
theorem dX2_numberFrom_32 : decode cX2_numberFrom 32 = .ok (.iadd, 1) := by decide +kernel
theorem dX2_numberFrom_33 : decode cX2_numberFrom 33 = .ok (.bipush 48, 2) := by decide +kernel
theorem dX2_numberFrom_35 : decode cX2_numberFrom 35 = .ok (.isub, 1) := by decide +kernel
theorem dX2_numberFrom_36 : decode cX2_numberFrom 36 = .ok (.istore_n 2, 1) := by decide +kernel
theorem dX2_numberFrom_37 : decode cX2_numberFrom 37 = .ok (.iinc 3 1, 3) := by decide +kernel
theorem dX2_numberFrom_40 : decode cX2_numberFrom 40 = .ok (.goto (-36), 3) := by decide +kernel
theorem dX2_numberFrom_43 : decode cX2_numberFrom 43 = .ok (.iload_n 2, 1) := by decide +kernel
theorem dX2_numberFrom_44 : decode cX2_numberFrom 44 = .ok (.ireturn, 1) := by decide +kernel
theorem dX2_startBehind_0 : decode cX2_startBehind 0 = .ok (.iload_n 1, 1) := by decide +kernel
theorem dX2_startBehind_1 : decode cX2_startBehind 1 = .ok (.istore_n 2, 1) := by decide +kernel
theorem dX2_startBehind_2 : decode cX2_startBehind 2 = .ok (.iload_n 2, 1) := by decide +kernel
theorem dX2_startBehind_3 : decode cX2_startBehind 3 = .ok (.aload_n 0, 1) := by decide +kernel
theorem dX2_startBehind_4 : decode cX2_startBehind 4 = .ok (.getfield 15, 3) := by decide +kernel
theorem dX2_startBehind_7 : decode cX2_startBehind 7 = .ok (.if_icmp .ge 23, 3) := by decide +kernel
theorem dX2_startBehind_10 : decode cX2_startBehind 10 = .ok (.aload_n 0, 1) := by decide +kernel
theorem dX2_startBehind_11 : decode cX2_startBehind 11 = .ok (.iload_n 2, 1) := by decide +kernel
theorem dX2_startBehind_12 : decode cX2_startBehind 12 = .ok (.invokevirtual 27, 3) := by decide +kernel
theorem dX2_startBehind_15 : decode cX2_startBehind 15 = .ok (.bipush 59, 2) := by decide +kernel
theorem dX2_startBehind_17 : decode cX2_startBehind 17 = .ok (.if_icmp .ne 7, 3) := by decide +kernel
theorem dX2_startBehind_20 : decode cX2_startBehind 20 = .ok (.iload_n 2, 1) := by decide +kernel
theorem dX2_startBehind_21 : decode cX2_startBehind 21 = .ok (.iconst 1, 1) := by decide +kernel
theorem dX2_startBehind_22 : decode cX2_startBehind 22 = .ok (.iadd, 1) := by decide +kernel
theorem dX2_startBehind_23 : decode cX2_startBehind 23 = .ok (.ireturn, 1) := by decide +kernel
theorem dX2_startBehind_24 : decode cX2_startBehind 24 = .ok (.iinc 2 1, 3) := by decide +kernel
theorem dX2_startBehind_27 : decode cX2_startBehind 27 = .ok (.goto (-25), 3) := by decide +kernel
theorem dX2_startBehind_30 : decode cX2_startBehind 30 = .ok (.aload_n 0, 1) := by decide +kernel
theorem dX2_startBehind_31 : decode cX2_startBehind 31 = .ok (.getfield 15, 3) := by decide +kernel
theorem dX2_startBehind_34 : decode cX2_startBehind 34 = .ok (.ireturn, 1) := by decide +kernel
theorem dX2_stateBehind_0 : decode cX2_stateBehind 0 = .ok (.iload_n 1, 1) := by decide +kernel
theorem dX2_stateBehind_1 : decode cX2_stateBehind 1 = .ok (.bipush 59, 2) := by decide +kernel
theorem dX2_stateBehind_3 : decode cX2_stateBehind 3 = .ok (.if_icmp .ne 17, 3) := by decide +kernel
theorem dX2_stateBehind_6 : decode cX2_stateBehind 6 = .ok (.iload_n 0, 1) := by decide +kernel
theorem dX2_stateBehind_7 : decode cX2_stateBehind 7 = .ok (.invokestatic 35, 3) := by decide +kernel
theorem dX2_stateBehind_10 : decode cX2_stateBehind 10 = .ok (.ifCond .eq 7, 3) := by decide +kernel
theorem dX2_stateBehind_13 : decode cX2_stateBehind 13 = .ok (.iconst 0, 1) := by decide +kernel
theorem dX2_stateBehind_14 : decode cX2_stateBehind 14 = .ok (.goto 5, 3) := by decide +kernel
theorem dX2_stateBehind_17 : decode cX2_stateBehind 17 = .ok (.bipush 8, 2) := by decide +kernel
theorem dX2_stateBehind_19 : decode cX2_stateBehind 19 = .ok (.ireturn, 1) := by decide +kernel
theorem dX2_stateBehind_20 : decode cX2_stateBehind 20 = .ok (.iload_n 0, 1) := by decide +kernel
theorem dX2_stateBehind_21 : decode cX2_stateBehind 21 = .ok (.ifCond .ne 26, 3) := by decide +kernel
theorem dX2_stateBehind_24 : decode cX2_stateBehind 24 = .ok (.iload_n 1, 1) := by decide +kernel
theorem dX2_stateBehind_25 : decode cX2_stateBehind 25 = .ok (.bipush 119, 2) := by decide +kernel
theorem dX2_stateBehind_27 : decode cX2_stateBehind 27 = .ok (.if_icmp .ne 7, 3) := by decide +kernel
theorem dX2_stateBehind_30 : decode cX2_stateBehind 30 = .ok (.iconst 1, 1) := by decide +kernel
theorem dX2_stateBehind_31 : decode cX2_stateBehind 31 = .ok (.goto 15, 3) := by decide +kernel
theorem dX2_stateBehind_34 : decode cX2_stateBehind 34 = .ok (.iload_n 1, 1) := by decide +kernel
theorem dX2_stateBehind_35 : decode cX2_stateBehind 35 = .ok (.bipush 103, 2) := by decide +kernel
theorem dX2_stateBehind_37 : decode cX2_stateBehind 37 = .ok (.if_icmp .ne 7, 3) := by decide +kernel
theorem dX2_stateBehind_40 : decode cX2_stateBehind 40 = .ok (.iconst 4, 1) := by decide +kernel
theorem dX2_stateBehind_41 : decode cX2_stateBehind 41 = .ok (.goto 5, 3) := by decide +kernel
theorem dX2_stateBehind_44 : decode cX2_stateBehind 44 = .ok (.bipush 8, 2) := by decide +kernel
theorem dX2_stateBehind_46 : decode cX2_stateBehind 46 = .ok (.ireturn, 1) := by decide +kernel
theorem dX2_stateBehind_47 : decode cX2_stateBehind 47 = .ok (.iload_n 1, 1) := by decide +kernel
theorem dX2_stateBehind_48 : decode cX2_stateBehind 48 = .ok (.invokestatic 39, 3) := by decide +kernel
theorem dX2_stateBehind_51 : decode cX2_stateBehind 51 = .ok (.ifCond .eq 14, 3) := by decide +kernel
theorem dX2_stateBehind_54 : decode cX2_stateBehind 54 = .ok (.iload_n 0, 1) := by decide +kernel
theorem dX2_stateBehind_55 : decode cX2_stateBehind 55 = .ok (.iload_n 1, 1) := by decide +kernel
theorem dX2_stateBehind_56 : decode cX2_stateBehind 56 = .ok (.bipush 48, 2) := by decide +kernel
theorem dX2_stateBehind_58 : decode cX2_stateBehind 58 = .ok (.isub, 1) := by decide +kernel
theorem dX2_stateBehind_59 : decode cX2_stateBehind 59 = .ok (.invokestatic 42, 3) := by decide +kernel
theorem dX2_stateBehind_62 : decode cX2_stateBehind 62 = .ok (.goto 5, 3) := by decide +kernel
theorem dX2_stateBehind_65 : decode cX2_stateBehind 65 = .ok (.bipush 8, 2) := by decide +kernel
theorem dX2_stateBehind_67 : decode cX2_stateBehind 67 = .ok (.ireturn, 1) := by decide +kernel
theorem dX2_stateBehindDigit_0 : decode cX2_stateBehindDigit 0 = .ok (.iload_n 0, 1) := by decide +kernel
theorem dX2_stateBehindDigit_1 : decode cX2_stateBehindDigit 1 = .ok (.tableswitch 90 1 6 #[39, 50, 52, 68, 52, 55], 39) := by decide +kernel
theorem dX2_stateBehindDigit_40 : decode cX2_stateBehindDigit 40 = .ok (.iload_n 1, 1) := by decide +kernel
theorem dX2_stateBehindDigit_41 : decode cX2_stateBehindDigit 41 = .ok (.ifCond .le 7, 3) := by decide +kernel
theorem dX2_stateBehindDigit_44 : decode cX2_stateBehindDigit 44 = .ok (.iconst 2, 1) := by decide +kernel
theorem dX2_stateBehindDigit_45 : decode cX2_stateBehindDigit 45 = .ok (.goto 5, 3) := by decide +kernel
theorem dX2_stateBehindDigit_48 : decode cX2_stateBehindDigit 48 = .ok (.bipush 8, 2) := by decide +kernel
theorem dX2_stateBehindDigit_50 : decode cX2_stateBehindDigit 50 = .ok (.ireturn, 1) := by decide +kernel
theorem dX2_stateBehindDigit_51 : decode cX2_stateBehindDigit 51 = .ok (.iconst 3, 1) := by decide +kernel
theorem dX2_stateBehindDigit_52 : decode cX2_stateBehindDigit 52 = .ok (.ireturn, 1) := by decide +kernel
theorem dX2_stateBehindDigit_53 : decode cX2_stateBehindDigit 53 = .ok (.bipush 7, 2) := by decide +kernel
theorem dX2_stateBehindDigit_55 : decode cX2_stateBehindDigit 55 = .ok (.ireturn, 1) := by decide +kernel
theorem dX2_stateBehindDigit_56 : decode cX2_stateBehindDigit 56 = .ok (.iload_n 1, 1) := by decide +kernel
theorem dX2_stateBehindDigit_57 : decode cX2_stateBehindDigit 57 = .ok (.iconst 3, 1) := by decide +kernel
theorem dX2_stateBehindDigit_58 : decode cX2_stateBehindDigit 58 = .ok (.if_icmp .gt 8, 3) := by decide +kernel
theorem dX2_stateBehindDigit_61 : decode cX2_stateBehindDigit 61 = .ok (.bipush 7, 2) := by decide +kernel
theorem dX2_stateBehindDigit_63 : decode cX2_stateBehindDigit 63 = .ok (.goto 5, 3) := by decide +kernel
theorem dX2_stateBehindDigit_66 : decode cX2_stateBehindDigit 66 = .ok (.bipush 8, 2) := by decide +kernel
theorem dX2_stateBehindDigit_68 : decode cX2_stateBehindDigit 68 = .ok (.ireturn, 1) := by decide +kernel
theorem dX2_stateBehindDigit_69 : decode cX2_stateBehindDigit 69 = .ok (.iload_n 1, 1) := by decide +kernel
theorem dX2_stateBehindDigit_70 : decode cX2_stateBehindDigit 70 = .ok (.iconst 1, 1) := by decide +kernel
theorem dX2_stateBehindDigit_71 : decode cX2_stateBehindDigit 71 = .ok (.if_icmp .ne 7, 3) := by decide +kernel
theorem dX2_stateBehindDigit_74 : decode cX2_stateBehindDigit 74 = .ok (.iconst 5, 1) := by decide +kernel
theorem dX2_stateBehindDigit_75 : decode cX2_stateBehindDigit 75 = .ok (.goto 15, 3) := by decide +kernel
theorem dX2_stateBehindDigit_78 : decode cX2_stateBehindDigit 78 = .ok (.iload_n 1, 1) := by decide +kernel
theorem dX2_stateBehindDigit_79 : decode cX2_stateBehindDigit 79 = .ok (.iconst 2, 1) := by decide +kernel
theorem dX2_stateBehindDigit_80 : decode cX2_stateBehindDigit 80 = .ok (.if_icmp .ne 8, 3) := by decide +kernel
theorem dX2_stateBehindDigit_83 : decode cX2_stateBehindDigit 83 = .ok (.bipush 6, 2) := by decide +kernel
theorem dX2_stateBehindDigit_85 : decode cX2_stateBehindDigit 85 = .ok (.goto 5, 3) := by decide +kernel
theorem dX2_stateBehindDigit_88 : decode cX2_stateBehindDigit 88 = .ok (.bipush 7, 2) := by decide +kernel
theorem dX2_stateBehindDigit_90 : decode cX2_stateBehindDigit 90 = .ok (.ireturn, 1) := by decide +kernel
theorem dX2_stateBehindDigit_91 : decode cX2_stateBehindDigit 91 = .ok (.bipush 8, 2) := by decide +kernel
theorem dX2_stateBehindDigit_93 : decode cX2_stateBehindDigit 93 = .ok (.ireturn, 1) := by decide +kernel
theorem dX2_mayEnd_0 : decode cX2_mayEnd 0 = .ok (.iload_n 0, 1) := by decide +kernel
theorem dX2_mayEnd_1 : decode cX2_mayEnd 1 = .ok (.ifCond .eq 23, 3) := by decide +kernel
theorem dX2_mayEnd_4 : decode cX2_mayEnd 4 = .ok (.iload_n 0, 1) := by decide +kernel
theorem dX2_mayEnd_5 : decode cX2_mayEnd 5 = .ok (.iconst 1, 1) := by decide +kernel
theorem dX2_mayEnd_6 : decode cX2_mayEnd 6 = .ok (.if_icmp .eq 18, 3) := by decide +kernel
theorem dX2_mayEnd_9 : decode cX2_mayEnd 9 = .ok (.iload_n 0, 1) := by decide +kernel
theorem dX2_mayEnd_10 : decode cX2_mayEnd 10 = .ok (.iconst 4, 1) := by decide +kernel
theorem dX2_mayEnd_11 : decode cX2_mayEnd 11 = .ok (.if_icmp .eq 13, 3) := by decide +kernel
theorem dX2_mayEnd_14 : decode cX2_mayEnd 14 = .ok (.iload_n 0, 1) := by decide +kernel
theorem dX2_mayEnd_15 : decode cX2_mayEnd 15 = .ok (.bipush 8, 2) := by decide +kernel
theorem dX2_mayEnd_17 : decode cX2_mayEnd 17 = .ok (.if_icmp .eq 7, 3) := by decide +kernel
theorem dX2_mayEnd_20 : decode cX2_mayEnd 20 = .ok (.iconst 1, 1) := by decide +kernel
theorem dX2_mayEnd_21 : decode cX2_mayEnd 21 = .ok (.goto 4, 3) := by decide +kernel
theorem dX2_mayEnd_24 : decode cX2_mayEnd 24 = .ok (.iconst 0, 1) := by decide +kernel
theorem dX2_mayEnd_25 : decode cX2_mayEnd 25 = .ok (.ireturn, 1) := by decide +kernel
theorem dX2_isDigit_0 : decode cX2_isDigit 0 = .ok (.iload_n 0, 1) := by decide +kernel
theorem dX2_isDigit_1 : decode cX2_isDigit 1 = .ok (.bipush 48, 2) := by decide +kernel
theorem dX2_isDigit_3 : decode cX2_isDigit 3 = .ok (.if_icmp .lt 13, 3) := by decide +kernel
theorem dX2_isDigit_6 : decode cX2_isDigit 6 = .ok (.iload_n 0, 1) := by decide +kernel
theorem dX2_isDigit_7 : decode cX2_isDigit 7 = .ok (.bipush 57, 2) := by decide +kernel
theorem dX2_isDigit_9 : decode cX2_isDigit 9 = .ok (.if_icmp .gt 7, 3) := by decide +kernel
theorem dX2_isDigit_12 : decode cX2_isDigit 12 = .ok (.iconst 1, 1) := by decide +kernel
theorem dX2_isDigit_13 : decode cX2_isDigit 13 = .ok (.goto 4, 3) := by decide +kernel
theorem dX2_isDigit_16 : decode cX2_isDigit 16 = .ok (.iconst 0, 1) := by decide +kernel
theorem dX2_isDigit_17 : decode cX2_isDigit 17 = .ok (.ireturn, 1) := by decide +kernel
theorem dX3_init_0 : decode cX3_init 0 = .ok (.aload_n 0, 1) := by decide +kernel
theorem dX3_init_1 : decode cX3_init 1 = .ok (.invokespecial 3, 3) := by decide +kernel
theorem dX3_init_4 : decode cX3_init 4 = .ok (.aload_n 0, 1) := by decide +kernel
theorem dX3_init_5 : decode cX3_init 5 = .ok (.bipush 6, 2) := by decide +kernel
theorem dX3_init_7 : decode cX3_init 7 = .ok (.anewarray 9, 3) := by decide +kernel
theorem dX3_init_10 : decode cX3_init 10 = .ok (.putfield 11, 3) := by decide +kernel
theorem dX3_init_13 : decode cX3_init 13 = .ok (.iconst 0, 1) := by decide +kernel
theorem dX3_init_14 : decode cX3_init 14 = .ok (.istore_n 1, 1) := by decide +kernel
theorem dX3_init_15 : decode cX3_init 15 = .ok (.iload_n 1, 1) := by decide +kernel
theorem dX3_init_16 : decode cX3_init 16 = .ok (.aload_n 0, 1) := by decide +kernel
theorem dX3_init_17 : decode cX3_init 17 = .ok (.getfield 11, 3) := by decide +kernel
theorem dX3_init_20 : decode cX3_init 20 = .ok (.arraylength, 1) := by decide +kernel
theorem dX3_init_21 : decode cX3_init 21 = .ok (.if_icmp .ge 22, 3) := by decide +kernel
theorem dX3_init_24 : decode cX3_init 24 = .ok (.aload_n 0, 1) := by decide +kernel
theorem dX3_init_25 : decode cX3_init 25 = .ok (.getfield 11, 3) := by decide +kernel
theorem dX3_init_28 : decode cX3_init 28 = .ok (.iload_n 1, 1) := by decide +kernel
theorem dX3_init_29 : decode cX3_init 29 = .ok (.new 9, 3) := by decide +kernel
theorem dX3_init_32 : decode cX3_init 32 = .ok (.dup, 1) := by decide +kernel
theorem dX3_init_33 : decode cX3_init 33 = .ok (.invokespecial 17, 3) := by decide +kernel
theorem dX3_init_36 : decode cX3_init 36 = .ok (.aastore, 1) := by decide +kernel
theorem dX3_init_37 : decode cX3_init 37 = .ok (.iinc 1 1, 3) := by decide +kernel
theorem dX3_init_40 : decode cX3_init 40 = .ok (.goto (-25), 3) := by decide +kernel
theorem dX3_init_43 : decode cX3_init 43 = .ok (.return_, 1) := by decide +kernel
theorem dX3_save_0 : decode cX3_save 0 = .ok (.aload_n 0, 1) := by decide +kernel
theorem dX3_save_1 : decode cX3_save 1 = .ok (.aload_n 0, 1) := by decide +kernel
theorem dX3_save_2 : decode cX3_save 2 = .ok (.getfield 18, 3) := by decide +kernel
theorem dX3_save_5 : decode cX3_save 5 = .ok (.invokevirtual 22, 3) := by decide +kernel
theorem dX3_save_8 : decode cX3_save 8 = .ok (.astore_n 2, 1) := by decide +kernel
theorem dX3_save_9 : decode cX3_save 9 = .ok (.aload_n 2, 1) := by decide +kernel
theorem dX3_save_10 : decode cX3_save 10 = .ok (.ifnull 8, 3) := by decide +kernel
theorem dX3_save_13 : decode cX3_save 13 = .ok (.aload_n 2, 1) := by decide +kernel
theorem dX3_save_14 : decode cX3_save 14 = .ok (.aload_n 1, 1) := by decide +kernel
theorem dX3_save_15 : decode cX3_save 15 = .ok (.invokevirtual 26, 3) := by decide +kernel
theorem dX3_save_18 : decode cX3_save 18 = .ok (.aload_n 0, 1) := by decide +kernel
theorem dX3_save_19 : decode cX3_save 19 = .ok (.aload_n 0, 1) := by decide +kernel
theorem dX3_save_20 : decode cX3_save 20 = .ok (.getfield 18, 3) := by decide +kernel
theorem dX3_save_23 : decode cX3_save 23 = .ok (.iconst 1, 1) := by decide +kernel
theorem dX3_save_24 : decode cX3_save 24 = .ok (.iadd, 1) := by decide +kernel
theorem dX3_save_25 : decode cX3_save 25 = .ok (.bipush 6, 2) := by decide +kernel
theorem dX3_save_27 : decode cX3_save 27 = .ok (.irem, 1) := by decide +kernel
theorem dX3_save_28 : decode cX3_save 28 = .ok (.putfield 18, 3) := by decide +kernel
theorem dX3_save_31 : decode cX3_save 31 = .ok (.aload_n 0, 1) := by decide +kernel
theorem dX3_save_32 : decode cX3_save 32 = .ok (.aload_n 0, 1) := by decide +kernel
theorem dX3_save_33 : decode cX3_save 33 = .ok (.getfield 30, 3) := by decide +kernel
theorem dX3_save_36 : decode cX3_save 36 = .ok (.iconst 1, 1) := by decide +kernel
theorem dX3_save_37 : decode cX3_save 37 = .ok (.iadd, 1) := by decide +kernel
theorem dX3_save_38 : decode cX3_save 38 = .ok (.bipush 6, 2) := by decide +kernel
theorem dX3_save_40 : decode cX3_save 40 = .ok (.invokestatic 33, 3) := by decide +kernel
theorem dX3_save_43 : decode cX3_save 43 = .ok (.putfield 30, 3) := by decide +kernel
theorem dX3_save_46 : decode cX3_save 46 = .ok (.return_, 1) := by decide +kernel
theorem dX3_restore_0 : decode cX3_restore 0 = .ok (.aload_n 0, 1) := by decide +kernel
theorem dX3_restore_1 : decode cX3_restore 1 = .ok (.aload_n 0, 1) := by decide +kernel
theorem dX3_restore_2 : decode cX3_restore 2 = .ok (.getfield 18, 3) := by decide +kernel
theorem dX3_restore_5 : decode cX3_restore 5 = .ok (.bipush 6, 2) := by decide +kernel
theorem dX3_restore_7 : decode cX3_restore 7 = .ok (.iadd, 1) := by decide +kernel
theorem dX3_restore_8 : decode cX3_restore 8 = .ok (.iconst 1, 1) := by decide +kernel
theorem dX3_restore_9 : decode cX3_restore 9 = .ok (.isub, 1) := by decide +kernel
theorem dX3_restore_10 : decode cX3_restore 10 = .ok (.bipush 6, 2) := by decide +kernel
theorem dX3_restore_12 : decode cX3_restore 12 = .ok (.irem, 1) := by decide +kernel
theorem dX3_restore_13 : decode cX3_restore 13 = .ok (.putfield 18, 3) := by decide +kernel
theorem dX3_restore_16 : decode cX3_restore 16 = .ok (.aload_n 0, 1) := by decide +kernel
theorem dX3_restore_17 : decode cX3_restore 17 = .ok (.aload_n 0, 1) := by decide +kernel
theorem dX3_restore_18 : decode cX3_restore 18 = .ok (.getfield 30, 3) := by decide +kernel
theorem dX3_restore_21 : decode cX3_restore 21 = .ok (.iconst 1, 1) := by decide +kernel
theorem dX3_restore_22 : decode cX3_restore 22 = .ok (.isub, 1) := by decide +kernel
theorem dX3_restore_23 : decode cX3_restore 23 = .ok (.iconst 0, 1) := by decide +kernel
theorem dX3_restore_24 : decode cX3_restore 24 = .ok (.invokestatic 39, 3) := by decide +kernel
theorem dX3_restore_27 : decode cX3_restore 27 = .ok (.putfield 30, 3) := by decide +kernel
theorem dX3_restore_30 : decode cX3_restore 30 = .ok (.aload_n 0, 1) := by decide +kernel
theorem dX3_restore_31 : decode cX3_restore 31 = .ok (.aload_n 0, 1) := by decide +kernel
theorem dX3_restore_32 : decode cX3_restore 32 = .ok (.getfield 18, 3) := by decide +kernel
theorem dX3_restore_35 : decode cX3_restore 35 = .ok (.invokevirtual 22, 3) := by decide +kernel
theorem dX3_restore_38 : decode cX3_restore 38 = .ok (.astore_n 2, 1) := by decide +kernel
theorem dX3_restore_39 : decode cX3_restore 39 = .ok (.aload_n 2, 1) := by decide +kernel
theorem dX3_restore_40 : decode cX3_restore 40 = .ok (.ifnull 8, 3) := by decide +kernel
theorem dX3_restore_43 : decode cX3_restore 43 = .ok (.aload_n 1, 1) := by decide +kernel
theorem dX3_restore_44 : decode cX3_restore 44 = .ok (.aload_n 2, 1) := by decide +kernel
theorem dX3_restore_45 : decode cX3_restore 45 = .ok (.invokevirtual 26, 3) := by decide +kernel
theorem dX3_restore_48 : decode cX3_restore 48 = .ok (.aload_n 0, 1) := by decide +kernel
theorem dX3_restore_49 : decode cX3_restore 49 = .ok (.getfield 30, 3) := by decide +kernel
theorem dX3_restore_52 : decode cX3_restore 52 = .ok (.ireturn, 1) := by decide +kernel
theorem dX3_stateAt_0 : decode cX3_stateAt 0 = .ok (.iload_n 1, 1) := by decide +kernel
theorem dX3_stateAt_1 : decode cX3_stateAt 1 = .ok (.aload_n 0, 1) := by decide +kernel
theorem dX3_stateAt_2 : decode cX3_stateAt 2 = .ok (.getfield 11, 3) := by decide +kernel
theorem dX3_stateAt_5 : decode cX3_stateAt 5 = .ok (.arraylength, 1) := by decide +kernel
theorem dX3_stateAt_6 : decode cX3_stateAt 6 = .ok (.invokestatic 42, 3) := by decide +kernel
theorem dX3_stateAt_9 : decode cX3_stateAt 9 = .ok (.ifCond .eq 12, 3) := by decide +kernel
theorem dX3_stateAt_12 : decode cX3_stateAt 12 = .ok (.aload_n 0, 1) := by decide +kernel
theorem dX3_stateAt_13 : decode cX3_stateAt 13 = .ok (.getfield 11, 3) := by decide +kernel
theorem dX3_stateAt_16 : decode cX3_stateAt 16 = .ok (.iload_n 1, 1) := by decide +kernel
theorem dX3_stateAt_17 : decode cX3_stateAt 17 = .ok (.aaload, 1) := by decide +kernel
theorem dX3_stateAt_18 : decode cX3_stateAt 18 = .ok (.goto 4, 3) := by decide +kernel
theorem dX3_stateAt_21 : decode cX3_stateAt 21 = .ok (.aconst_null, 1) := by decide +kernel
theorem dX3_stateAt_22 : decode cX3_stateAt 22 = .ok (.areturn, 1) := by decide +kernel
theorem dX4_init_0 : decode cX4_init 0 = .ok (.aload_n 0, 1) := by decide +kernel
theorem dX4_init_1 : decode cX4_init 1 = .ok (.invokespecial 3, 3) := by decide +kernel
theorem dX4_init_4 : decode cX4_init 4 = .ok (.return_, 1) := by decide +kernel
theorem dX4_startAt_0 : decode cX4_startAt 0 = .ok (.aload_n 0, 1) := by decide +kernel
theorem dX4_startAt_1 : decode cX4_startAt 1 = .ok (.iload_n 2, 1) := by decide +kernel
theorem dX4_startAt_2 : decode cX4_startAt 2 = .ok (.putfield 9, 3) := by decide +kernel
theorem dX4_startAt_5 : decode cX4_startAt 5 = .ok (.aload_n 0, 1) := by decide +kernel
theorem dX4_startAt_6 : decode cX4_startAt 6 = .ok (.iload_n 2, 1) := by decide +kernel
theorem dX4_startAt_7 : decode cX4_startAt 7 = .ok (.putfield 15, 3) := by decide +kernel
theorem dX4_startAt_10 : decode cX4_startAt 10 = .ok (.aload_n 0, 1) := by decide +kernel
theorem dX4_startAt_11 : decode cX4_startAt 11 = .ok (.aload_n 1, 1) := by decide +kernel
theorem dX4_startAt_12 : decode cX4_startAt 12 = .ok (.iload_n 2, 1) := by decide +kernel
theorem dX4_startAt_13 : decode cX4_startAt 13 = .ok (.invokevirtual 18, 3) := by decide +kernel
theorem dX4_startAt_16 : decode cX4_startAt 16 = .ok (.putfield 24, 3) := by decide +kernel
theorem dX4_startAt_19 : decode cX4_startAt 19 = .ok (.aload_n 0, 1) := by decide +kernel
theorem dX4_startAt_20 : decode cX4_startAt 20 = .ok (.aload_n 1, 1) := by decide +kernel
theorem dX4_startAt_21 : decode cX4_startAt 21 = .ok (.iload_n 2, 1) := by decide +kernel
theorem dX4_startAt_22 : decode cX4_startAt 22 = .ok (.invokevirtual 27, 3) := by decide +kernel
theorem dX4_startAt_25 : decode cX4_startAt 25 = .ok (.putfield 30, 3) := by decide +kernel
theorem dX4_startAt_28 : decode cX4_startAt 28 = .ok (.aload_n 0, 1) := by decide +kernel
theorem dX4_startAt_29 : decode cX4_startAt 29 = .ok (.iconst 0, 1) := by decide +kernel
theorem dX4_startAt_30 : decode cX4_startAt 30 = .ok (.putfield 33, 3) := by decide +kernel
theorem dX4_startAt_33 : decode cX4_startAt 33 = .ok (.return_, 1) := by decide +kernel
theorem dX4_partnerPlace_0 : decode cX4_partnerPlace 0 = .ok (.aload_n 0, 1) := by decide +kernel
theorem dX4_partnerPlace_1 : decode cX4_partnerPlace 1 = .ok (.getfield 30, 3) := by decide +kernel
theorem dX4_partnerPlace_4 : decode cX4_partnerPlace 4 = .ok (.ifCond .le 7, 3) := by decide +kernel
theorem dX4_partnerPlace_7 : decode cX4_partnerPlace 7 = .ok (.iconst 1, 1) := by decide +kernel
theorem dX4_partnerPlace_8 : decode cX4_partnerPlace 8 = .ok (.goto 4, 3) := by decide +kernel
theorem dX4_partnerPlace_11 : decode cX4_partnerPlace 11 = .ok (.iconst 0, 1) := by decide +kernel
theorem dX4_partnerPlace_12 : decode cX4_partnerPlace 12 = .ok (.istore_n 2, 1) := by decide +kernel
theorem dX4_partnerPlace_13 : decode cX4_partnerPlace 13 = .ok (.iload_n 2, 1) := by decide +kernel
theorem dX4_partnerPlace_14 : decode cX4_partnerPlace 14 = .ok (.ifCond .eq 12, 3) := by decide +kernel
theorem dX4_partnerPlace_17 : decode cX4_partnerPlace 17 = .ok (.aload_n 0, 1) := by decide +kernel
theorem dX4_partnerPlace_18 : decode cX4_partnerPlace 18 = .ok (.getfield 15, 3) := by decide +kernel
theorem dX4_partnerPlace_21 : decode cX4_partnerPlace 21 = .ok (.iconst 1, 1) := by decide +kernel
theorem dX4_partnerPlace_22 : decode cX4_partnerPlace 22 = .ok (.iadd, 1) := by decide +kernel
theorem dX4_partnerPlace_23 : decode cX4_partnerPlace 23 = .ok (.goto 9, 3) := by decide +kernel
theorem dX4_partnerPlace_26 : decode cX4_partnerPlace 26 = .ok (.aload_n 0, 1) := by decide +kernel
theorem dX4_partnerPlace_27 : decode cX4_partnerPlace 27 = .ok (.getfield 9, 3) := by decide +kernel
theorem dX4_partnerPlace_30 : decode cX4_partnerPlace 30 = .ok (.iconst 1, 1) := by decide +kernel
theorem dX4_partnerPlace_31 : decode cX4_partnerPlace 31 = .ok (.isub, 1) := by decide +kernel
theorem dX4_partnerPlace_32 : decode cX4_partnerPlace 32 = .ok (.istore_n 3, 1) := by decide +kernel
theorem dX4_partnerPlace_33 : decode cX4_partnerPlace 33 = .ok (.aload_n 0, 1) := by decide +kernel
theorem dX4_partnerPlace_34 : decode cX4_partnerPlace 34 = .ok (.getfield 24, 3) := by decide +kernel
theorem dX4_partnerPlace_37 : decode cX4_partnerPlace 37 = .ok (.aload_n 1, 1) := by decide +kernel
theorem dX4_partnerPlace_38 : decode cX4_partnerPlace 38 = .ok (.getfield 36, 3) := by decide +kernel
theorem dX4_partnerPlace_41 : decode cX4_partnerPlace 41 = .ok (.if_icmp .eq 11, 3) := by decide +kernel
theorem dX4_partnerPlace_44 : decode cX4_partnerPlace 44 = .ok (.aload_n 1, 1) := by decide +kernel
theorem dX4_partnerPlace_45 : decode cX4_partnerPlace 45 = .ok (.iload_n 3, 1) := by decide +kernel
theorem dX4_partnerPlace_46 : decode cX4_partnerPlace 46 = .ok (.invokevirtual 39, 3) := by decide +kernel
theorem dX4_partnerPlace_49 : decode cX4_partnerPlace 49 = .ok (.ifCond .ne 5, 3) := by decide +kernel
theorem dX4_partnerPlace_52 : decode cX4_partnerPlace 52 = .ok (.iconst (-1), 1) := by decide +kernel
theorem dX4_partnerPlace_53 : decode cX4_partnerPlace 53 = .ok (.ireturn, 1) := by decide +kernel
theorem dX4_partnerPlace_54 : decode cX4_partnerPlace 54 = .ok (.iload_n 2, 1) := by decide +kernel
theorem dX4_partnerPlace_55 : decode cX4_partnerPlace 55 = .ok (.ifCond .eq 12, 3) := by decide +kernel
theorem dX4_partnerPlace_58 : decode cX4_partnerPlace 58 = .ok (.aload_n 0, 1) := by decide +kernel
theorem dX4_partnerPlace_59 : decode cX4_partnerPlace 59 = .ok (.getfield 24, 3) := by decide +kernel
theorem dX4_partnerPlace_62 : decode cX4_partnerPlace 62 = .ok (.iconst 1, 1) := by decide +kernel
theorem dX4_partnerPlace_63 : decode cX4_partnerPlace 63 = .ok (.isub, 1) := by decide +kernel
theorem dX4_partnerPlace_64 : decode cX4_partnerPlace 64 = .ok (.goto 9, 3) := by decide +kernel
theorem dX4_partnerPlace_67 : decode cX4_partnerPlace 67 = .ok (.aload_n 0, 1) := by decide +kernel
theorem dX4_partnerPlace_68 : decode cX4_partnerPlace 68 = .ok (.getfield 24, 3) := by decide +kernel
theorem dX4_partnerPlace_71 : decode cX4_partnerPlace 71 = .ok (.iconst 1, 1) := by decide +kernel
theorem dX4_partnerPlace_72 : decode cX4_partnerPlace 72 = .ok (.iadd, 1) := by decide +kernel
theorem dX4_partnerPlace_73 : decode cX4_partnerPlace 73 = .ok (.istore 4, 2) := by decide +kernel
theorem dX4_partnerPlace_75 : decode cX4_partnerPlace 75 = .ok (.aload_n 1, 1) := by decide +kernel
theorem dX4_partnerPlace_76 : decode cX4_partnerPlace 76 = .ok (.iload_n 3, 1) := by decide +kernel
theorem dX4_partnerPlace_77 : decode cX4_partnerPlace 77 = .ok (.invokevirtual 27, 3) := by decide +kernel
theorem dX4_partnerPlace_80 : decode cX4_partnerPlace 80 = .ok (.ifCond .le 7, 3) := by decide +kernel
theorem dX4_partnerPlace_83 : decode cX4_partnerPlace 83 = .ok (.iconst 1, 1) := by decide +kernel
theorem dX4_partnerPlace_84 : decode cX4_partnerPlace 84 = .ok (.goto 4, 3) := by decide +kernel
theorem dX4_partnerPlace_87 : decode cX4_partnerPlace 87 = .ok (.iconst 0, 1) := by decide +kernel
theorem dX4_partnerPlace_88 : decode cX4_partnerPlace 88 = .ok (.iload_n 2, 1) := by decide +kernel
theorem dX4_partnerPlace_89 : decode cX4_partnerPlace 89 = .ok (.if_icmp .eq 7, 3) := by decide +kernel
theorem dX4_partnerPlace_92 : decode cX4_partnerPlace 92 = .ok (.iconst 1, 1) := by decide +kernel
theorem dX4_partnerPlace_93 : decode cX4_partnerPlace 93 = .ok (.goto 4, 3) := by decide +kernel
theorem dX4_partnerPlace_96 : decode cX4_partnerPlace 96 = .ok (.iconst 0, 1) := by decide +kernel
theorem dX4_partnerPlace_97 : decode cX4_partnerPlace 97 = .ok (.istore 5, 2) := by decide +kernel
theorem dX4_partnerPlace_99 : decode cX4_partnerPlace 99 = .ok (.aload_n 1, 1) := by decide +kernel
theorem dX4_partnerPlace_100 : decode cX4_partnerPlace 100 = .ok (.iload_n 3, 1) := by decide +kernel
theorem dX4_partnerPlace_101 : decode cX4_partnerPlace 101 = .ok (.invokevirtual 18, 3) := by decide +kernel
theorem dX4_partnerPlace_104 : decode cX4_partnerPlace 104 = .ok (.iload 4, 2) := by decide +kernel
theorem dX4_partnerPlace_106 : decode cX4_partnerPlace 106 = .ok (.if_icmp .ne 12, 3) := by decide +kernel
theorem dX4_partnerPlace_109 : decode cX4_partnerPlace 109 = .ok (.iload 5, 2) := by decide +kernel
theorem dX4_partnerPlace_111 : decode cX4_partnerPlace 111 = .ok (.ifCond .eq 7, 3) := by decide +kernel
theorem dX4_partnerPlace_114 : decode cX4_partnerPlace 114 = .ok (.iload_n 3, 1) := by decide +kernel
theorem dX4_partnerPlace_115 : decode cX4_partnerPlace 115 = .ok (.goto 4, 3) := by decide +kernel
theorem dX4_partnerPlace_118 : decode cX4_partnerPlace 118 = .ok (.iconst (-1), 1) := by decide +kernel
theorem dX4_partnerPlace_119 : decode cX4_partnerPlace 119 = .ok (.ireturn, 1) := by decide +kernel
theorem dX4_join_0 : decode cX4_join 0 = .ok (.aload_n 0, 1) := by decide +kernel
theorem dX4_join_1 : decode cX4_join 1 = .ok (.aload_n 1, 1) := by decide +kernel
theorem dX4_join_2 : decode cX4_join 2 = .ok (.invokevirtual 43, 3) := by decide +kernel
theorem dX4_join_5 : decode cX4_join 5 = .ok (.istore_n 2, 1) := by decide +kernel
theorem dX4_join_6 : decode cX4_join 6 = .ok (.aload_n 1, 1) := by decide +kernel
theorem dX4_join_7 : decode cX4_join 7 = .ok (.iload_n 2, 1) := by decide +kernel
theorem dX4_join_8 : decode cX4_join 8 = .ok (.invokevirtual 47, 3) := by decide +kernel
theorem dX4_join_11 : decode cX4_join 11 = .ok (.ifCond .ne 5, 3) := by decide +kernel
theorem dX4_join_14 : decode cX4_join 14 = .ok (.iconst 0, 1) := by decide +kernel
theorem dX4_join_15 : decode cX4_join 15 = .ok (.ireturn, 1) := by decide +kernel
theorem dX4_join_16 : decode cX4_join 16 = .ok (.iload_n 2, 1) := by decide +kernel
theorem dX4_join_17 : decode cX4_join 17 = .ok (.aload_n 0, 1) := by decide +kernel
theorem dX4_join_18 : decode cX4_join 18 = .ok (.getfield 9, 3) := by decide +kernel
theorem dX4_join_21 : decode cX4_join 21 = .ok (.if_icmp .ge 29, 3) := by decide +kernel
theorem dX4_join_24 : decode cX4_join 24 = .ok (.aload_n 0, 1) := by decide +kernel
theorem dX4_join_25 : decode cX4_join 25 = .ok (.iload_n 2, 1) := by decide +kernel
theorem dX4_join_26 : decode cX4_join 26 = .ok (.putfield 9, 3) := by decide +kernel
theorem dX4_join_29 : decode cX4_join 29 = .ok (.aload_n 0, 1) := by decide +kernel
theorem dX4_join_30 : decode cX4_join 30 = .ok (.aload_n 1, 1) := by decide +kernel
theorem dX4_join_31 : decode cX4_join 31 = .ok (.iload_n 2, 1) := by decide +kernel
theorem dX4_join_32 : decode cX4_join 32 = .ok (.invokevirtual 18, 3) := by decide +kernel
theorem dX4_join_35 : decode cX4_join 35 = .ok (.putfield 24, 3) := by decide +kernel
theorem dX4_join_38 : decode cX4_join 38 = .ok (.aload_n 0, 1) := by decide +kernel
theorem dX4_join_39 : decode cX4_join 39 = .ok (.aload_n 1, 1) := by decide +kernel
theorem dX4_join_40 : decode cX4_join 40 = .ok (.iload_n 2, 1) := by decide +kernel
theorem dX4_join_41 : decode cX4_join 41 = .ok (.invokevirtual 27, 3) := by decide +kernel
theorem dX4_join_44 : decode cX4_join 44 = .ok (.putfield 30, 3) := by decide +kernel
theorem dX4_join_47 : decode cX4_join 47 = .ok (.goto 8, 3) := by decide +kernel
theorem dX4_join_50 : decode cX4_join 50 = .ok (.aload_n 0, 1) := by decide +kernel
theorem dX4_join_51 : decode cX4_join 51 = .ok (.iload_n 2, 1) := by decide +kernel
theorem dX4_join_52 : decode cX4_join 52 = .ok (.putfield 15, 3) := by decide +kernel
theorem dX4_join_55 : decode cX4_join 55 = .ok (.aload_n 0, 1) := by decide +kernel
theorem dX4_join_56 : decode cX4_join 56 = .ok (.dup, 1) := by decide +kernel
theorem dX4_join_57 : decode cX4_join 57 = .ok (.getfield 24, 3) := by decide +kernel
theorem dX4_join_60 : decode cX4_join 60 = .ok (.iconst 1, 1) := by decide +kernel
theorem dX4_join_61 : decode cX4_join 61 = .ok (.iadd, 1) := by decide +kernel
theorem dX4_join_62 : decode cX4_join 62 = .ok (.putfield 24, 3) := by decide +kernel
theorem dX4_join_65 : decode cX4_join 65 = .ok (.aload_n 0, 1) := by decide +kernel
theorem dX4_join_66 : decode cX4_join 66 = .ok (.dup, 1) := by decide +kernel
theorem dX4_join_67 : decode cX4_join 67 = .ok (.getfield 30, 3) := by decide +kernel
theorem dX4_join_70 : decode cX4_join 70 = .ok (.iconst 1, 1) := by decide +kernel
theorem dX4_join_71 : decode cX4_join 71 = .ok (.isub, 1) := by decide +kernel
theorem dX4_join_72 : decode cX4_join 72 = .ok (.putfield 30, 3) := by decide +kernel
theorem dX4_join_75 : decode cX4_join 75 = .ok (.aload_n 0, 1) := by decide +kernel
theorem dX4_join_76 : decode cX4_join 76 = .ok (.dup, 1) := by decide +kernel
theorem dX4_join_77 : decode cX4_join 77 = .ok (.getfield 33, 3) := by decide +kernel
theorem dX4_join_80 : decode cX4_join 80 = .ok (.iconst 1, 1) := by decide +kernel
theorem dX4_join_81 : decode cX4_join 81 = .ok (.iadd, 1) := by decide +kernel
theorem dX4_join_82 : decode cX4_join 82 = .ok (.putfield 33, 3) := by decide +kernel
theorem dX4_join_85 : decode cX4_join 85 = .ok (.iconst 1, 1) := by decide +kernel
theorem dX4_join_86 : decode cX4_join 86 = .ok (.ireturn, 1) := by decide +kernel
theorem dX4_joinBehind_0 : decode cX4_joinBehind 0 = .ok (.aload_n 0, 1) := by decide +kernel
theorem dX4_joinBehind_1 : decode cX4_joinBehind 1 = .ok (.getfield 30, 3) := by decide +kernel
theorem dX4_joinBehind_4 : decode cX4_joinBehind 4 = .ok (.ifCond .le 15, 3) := by decide +kernel
theorem dX4_joinBehind_7 : decode cX4_joinBehind 7 = .ok (.aload_n 0, 1) := by decide +kernel
theorem dX4_joinBehind_8 : decode cX4_joinBehind 8 = .ok (.aload_n 1, 1) := by decide +kernel
theorem dX4_joinBehind_9 : decode cX4_joinBehind 9 = .ok (.invokevirtual 50, 3) := by decide +kernel
theorem dX4_joinBehind_12 : decode cX4_joinBehind 12 = .ok (.ifCond .eq 7, 3) := by decide +kernel
theorem dX4_joinBehind_15 : decode cX4_joinBehind 15 = .ok (.iconst 1, 1) := by decide +kernel
theorem dX4_joinBehind_16 : decode cX4_joinBehind 16 = .ok (.goto 4, 3) := by decide +kernel
theorem dX4_joinBehind_19 : decode cX4_joinBehind 19 = .ok (.iconst 0, 1) := by decide +kernel
theorem dX4_joinBehind_20 : decode cX4_joinBehind 20 = .ok (.ireturn, 1) := by decide +kernel
theorem dX4_joinAll_0 : decode cX4_joinAll 0 = .ok (.iconst 1, 1) := by decide +kernel
theorem dX4_joinAll_1 : decode cX4_joinAll 1 = .ok (.istore_n 2, 1) := by decide +kernel
theorem dX4_joinAll_2 : decode cX4_joinAll 2 = .ok (.iconst 0, 1) := by decide +kernel
theorem dX4_joinAll_3 : decode cX4_joinAll 3 = .ok (.istore_n 3, 1) := by decide +kernel
theorem dX4_joinAll_4 : decode cX4_joinAll 4 = .ok (.iload_n 3, 1) := by decide +kernel
theorem dX4_joinAll_5 : decode cX4_joinAll 5 = .ok (.bipush 14, 2) := by decide +kernel
theorem dX4_joinAll_7 : decode cX4_joinAll 7 = .ok (.if_icmp .ge 19, 3) := by decide +kernel
theorem dX4_joinAll_10 : decode cX4_joinAll 10 = .ok (.iload_n 2, 1) := by decide +kernel
theorem dX4_joinAll_11 : decode cX4_joinAll 11 = .ok (.ifCond .eq 15, 3) := by decide +kernel
theorem dX4_joinAll_14 : decode cX4_joinAll 14 = .ok (.aload_n 0, 1) := by decide +kernel
theorem dX4_joinAll_15 : decode cX4_joinAll 15 = .ok (.aload_n 1, 1) := by decide +kernel
theorem dX4_joinAll_16 : decode cX4_joinAll 16 = .ok (.invokevirtual 50, 3) := by decide +kernel
theorem dX4_joinAll_19 : decode cX4_joinAll 19 = .ok (.istore_n 2, 1) := by decide +kernel
theorem dX4_joinAll_20 : decode cX4_joinAll 20 = .ok (.iinc 3 1, 3) := by decide +kernel
theorem dX4_joinAll_23 : decode cX4_joinAll 23 = .ok (.goto (-19), 3) := by decide +kernel
theorem dX4_joinAll_26 : decode cX4_joinAll 26 = .ok (.return_, 1) := by decide +kernel
theorem dX5_init_0 : decode cX5_init 0 = .ok (.aload_n 0, 1) := by decide +kernel
theorem dX5_init_1 : decode cX5_init 1 = .ok (.invokespecial 1, 3) := by decide +kernel
theorem dX5_init_4 : decode cX5_init 4 = .ok (.aload_n 0, 1) := by decide +kernel
theorem dX5_init_5 : decode cX5_init 5 = .ok (.new 7, 3) := by decide +kernel
theorem dX5_init_8 : decode cX5_init 8 = .ok (.dup, 1) := by decide +kernel
theorem dX5_init_9 : decode cX5_init 9 = .ok (.invokespecial 9, 3) := by decide +kernel
theorem dX5_init_12 : decode cX5_init 12 = .ok (.putfield 10, 3) := by decide +kernel
theorem dX5_init_15 : decode cX5_init 15 = .ok (.aload_n 0, 1) := by decide +kernel
theorem dX5_init_16 : decode cX5_init 16 = .ok (.new 16, 3) := by decide +kernel
theorem dX5_init_19 : decode cX5_init 19 = .ok (.dup, 1) := by decide +kernel
theorem dX5_init_20 : decode cX5_init 20 = .ok (.invokespecial 18, 3) := by decide +kernel
theorem dX5_init_23 : decode cX5_init 23 = .ok (.putfield 19, 3) := by decide +kernel
theorem dX5_init_26 : decode cX5_init 26 = .ok (.aload_n 0, 1) := by decide +kernel
theorem dX5_init_27 : decode cX5_init 27 = .ok (.new 23, 3) := by decide +kernel
theorem dX5_init_30 : decode cX5_init 30 = .ok (.dup, 1) := by decide +kernel
theorem dX5_init_31 : decode cX5_init 31 = .ok (.invokespecial 25, 3) := by decide +kernel
theorem dX5_init_34 : decode cX5_init 34 = .ok (.putfield 26, 3) := by decide +kernel
theorem dX5_init_37 : decode cX5_init 37 = .ok (.aload_n 0, 1) := by decide +kernel
theorem dX5_init_38 : decode cX5_init 38 = .ok (.getfield 10, 3) := by decide +kernel
theorem dX5_init_41 : decode cX5_init 41 = .ok (.bipush 9, 2) := by decide +kernel
theorem dX5_init_43 : decode cX5_init 43 = .ok (.invokevirtual 30, 3) := by decide +kernel
theorem dX5_init_46 : decode cX5_init 46 = .ok (.return_, 1) := by decide +kernel
theorem dX5_begin_0 : decode cX5_begin 0 = .ok (.iload_n 1, 1) := by decide +kernel
theorem dX5_begin_1 : decode cX5_begin 1 = .ok (.iconst 3, 1) := by decide +kernel
theorem dX5_begin_2 : decode cX5_begin 2 = .ok (.if_icmp .lt 9, 3) := by decide +kernel
theorem dX5_begin_5 : decode cX5_begin 5 = .ok (.iload_n 1, 1) := by decide +kernel
theorem dX5_begin_6 : decode cX5_begin 6 = .ok (.bipush 14, 2) := by decide +kernel
theorem dX5_begin_8 : decode cX5_begin 8 = .ok (.if_icmp .le 13, 3) := by decide +kernel
theorem dX5_begin_11 : decode cX5_begin 11 = .ok (.new 34, 3) := by decide +kernel
theorem dX5_begin_14 : decode cX5_begin 14 = .ok (.dup, 1) := by decide +kernel
theorem dX5_begin_15 : decode cX5_begin 15 = .ok (.ldc 36, 2) := by decide +kernel
theorem dX5_begin_17 : decode cX5_begin 17 = .ok (.invokespecial 38, 3) := by decide +kernel
theorem dX5_begin_20 : decode cX5_begin 20 = .ok (.athrow, 1) := by decide +kernel
theorem dX5_begin_21 : decode cX5_begin 21 = .ok (.aload_n 0, 1) := by decide +kernel
theorem dX5_begin_22 : decode cX5_begin 22 = .ok (.getfield 19, 3) := by decide +kernel
theorem dX5_begin_25 : decode cX5_begin 25 = .ok (.aload_n 0, 1) := by decide +kernel
theorem dX5_begin_26 : decode cX5_begin 26 = .ok (.getfield 10, 3) := by decide +kernel
theorem dX5_begin_29 : decode cX5_begin 29 = .ok (.invokevirtual 41, 3) := by decide +kernel
theorem dX5_begin_32 : decode cX5_begin 32 = .ok (.aload_n 0, 1) := by decide +kernel
theorem dX5_begin_33 : decode cX5_begin 33 = .ok (.getfield 10, 3) := by decide +kernel
theorem dX5_begin_36 : decode cX5_begin 36 = .ok (.iload_n 1, 1) := by decide +kernel
theorem dX5_begin_37 : decode cX5_begin 37 = .ok (.invokevirtual 30, 3) := by decide +kernel
theorem dX5_begin_40 : decode cX5_begin 40 = .ok (.iload_n 1, 1) := by decide +kernel
theorem dX5_begin_41 : decode cX5_begin 41 = .ok (.invokestatic 45, 3) := by decide +kernel
theorem dX5_begin_44 : decode cX5_begin 44 = .ok (.ireturn, 1) := by decide +kernel
theorem dX5_want_0 : decode cX5_want 0 = .ok (.iload_n 1, 1) := by decide +kernel
theorem dX5_want_1 : decode cX5_want 1 = .ok (.invokestatic 49, 3) := by decide +kernel
theorem dX5_want_4 : decode cX5_want 4 = .ok (.ifCond .ne 13, 3) := by decide +kernel
theorem dX5_want_7 : decode cX5_want 7 = .ok (.new 34, 3) := by decide +kernel
theorem dX5_want_10 : decode cX5_want 10 = .ok (.dup, 1) := by decide +kernel
theorem dX5_want_11 : decode cX5_want 11 = .ok (.ldc 53, 2) := by decide +kernel
theorem dX5_want_13 : decode cX5_want 13 = .ok (.invokespecial 38, 3) := by decide +kernel
theorem dX5_want_16 : decode cX5_want 16 = .ok (.athrow, 1) := by decide +kernel
theorem dX5_want_17 : decode cX5_want 17 = .ok (.aload_n 0, 1) := by decide +kernel
theorem dX5_want_18 : decode cX5_want 18 = .ok (.getfield 10, 3) := by decide +kernel
theorem dX5_want_21 : decode cX5_want 21 = .ok (.iload_n 1, 1) := by decide +kernel
theorem dX5_want_22 : decode cX5_want 22 = .ok (.invokevirtual 55, 3) := by decide +kernel
theorem dX5_want_25 : decode cX5_want 25 = .ok (.ifCond .ne 13, 3) := by decide +kernel
theorem dX5_want_28 : decode cX5_want 28 = .ok (.new 58, 3) := by decide +kernel
theorem dX5_want_31 : decode cX5_want 31 = .ok (.dup, 1) := by decide +kernel
theorem dX5_want_32 : decode cX5_want 32 = .ok (.ldc 60, 2) := by decide +kernel
theorem dX5_want_34 : decode cX5_want 34 = .ok (.invokespecial 62, 3) := by decide +kernel
theorem dX5_want_37 : decode cX5_want 37 = .ok (.athrow, 1) := by decide +kernel
theorem dX5_want_38 : decode cX5_want 38 = .ok (.aload_n 0, 1) := by decide +kernel
theorem dX5_want_39 : decode cX5_want 39 = .ok (.getfield 19, 3) := by decide +kernel
theorem dX5_want_42 : decode cX5_want 42 = .ok (.aload_n 0, 1) := by decide +kernel
theorem dX5_want_43 : decode cX5_want 43 = .ok (.getfield 10, 3) := by decide +kernel
theorem dX5_want_46 : decode cX5_want 46 = .ok (.invokevirtual 41, 3) := by decide +kernel
theorem dX5_want_49 : decode cX5_want 49 = .ok (.aload_n 0, 1) := by decide +kernel
theorem dX5_want_50 : decode cX5_want 50 = .ok (.getfield 10, 3) := by decide +kernel
theorem dX5_want_53 : decode cX5_want 53 = .ok (.iload_n 1, 1) := by decide +kernel
theorem dX5_want_54 : decode cX5_want 54 = .ok (.invokevirtual 63, 3) := by decide +kernel
theorem dX5_want_57 : decode cX5_want 57 = .ok (.ireturn, 1) := by decide +kernel
theorem dX5_give_0 : decode cX5_give 0 = .ok (.aload_n 0, 1) := by decide +kernel
theorem dX5_give_1 : decode cX5_give 1 = .ok (.getfield 10, 3) := by decide +kernel
theorem dX5_give_4 : decode cX5_give 4 = .ok (.iload_n 1, 1) := by decide +kernel
theorem dX5_give_5 : decode cX5_give 5 = .ok (.invokevirtual 66, 3) := by decide +kernel
theorem dX5_give_8 : decode cX5_give 8 = .ok (.ifCond .ne 13, 3) := by decide +kernel
theorem dX5_give_11 : decode cX5_give 11 = .ok (.new 34, 3) := by decide +kernel
theorem dX5_give_14 : decode cX5_give 14 = .ok (.dup, 1) := by decide +kernel
theorem dX5_give_15 : decode cX5_give 15 = .ok (.ldc 69, 2) := by decide +kernel
theorem dX5_give_17 : decode cX5_give 17 = .ok (.invokespecial 38, 3) := by decide +kernel
theorem dX5_give_20 : decode cX5_give 20 = .ok (.athrow, 1) := by decide +kernel
theorem dX5_give_21 : decode cX5_give 21 = .ok (.aload_n 0, 1) := by decide +kernel
theorem dX5_give_22 : decode cX5_give 22 = .ok (.getfield 19, 3) := by decide +kernel
theorem dX5_give_25 : decode cX5_give 25 = .ok (.aload_n 0, 1) := by decide +kernel
theorem dX5_give_26 : decode cX5_give 26 = .ok (.getfield 10, 3) := by decide +kernel
theorem dX5_give_29 : decode cX5_give 29 = .ok (.invokevirtual 41, 3) := by decide +kernel
theorem dX5_give_32 : decode cX5_give 32 = .ok (.aload_n 0, 1) := by decide +kernel
theorem dX5_give_33 : decode cX5_give 33 = .ok (.getfield 10, 3) := by decide +kernel
theorem dX5_give_36 : decode cX5_give 36 = .ok (.iload_n 1, 1) := by decide +kernel
theorem dX5_give_37 : decode cX5_give 37 = .ok (.invokevirtual 71, 3) := by decide +kernel
theorem dX5_give_40 : decode cX5_give 40 = .ok (.ireturn, 1) := by decide +kernel
theorem dX5_giveAll_0 : decode cX5_giveAll 0 = .ok (.aload_n 0, 1) := by decide +kernel
theorem dX5_giveAll_1 : decode cX5_giveAll 1 = .ok (.getfield 19, 3) := by decide +kernel
theorem dX5_giveAll_4 : decode cX5_giveAll 4 = .ok (.aload_n 0, 1) := by decide +kernel
theorem dX5_giveAll_5 : decode cX5_giveAll 5 = .ok (.getfield 10, 3) := by decide +kernel
theorem dX5_giveAll_8 : decode cX5_giveAll 8 = .ok (.invokevirtual 41, 3) := by decide +kernel
theorem dX5_giveAll_11 : decode cX5_giveAll 11 = .ok (.aload_n 0, 1) := by decide +kernel
theorem dX5_giveAll_12 : decode cX5_giveAll 12 = .ok (.getfield 10, 3) := by decide +kernel
theorem dX5_giveAll_15 : decode cX5_giveAll 15 = .ok (.invokevirtual 74, 3) := by decide +kernel
theorem dX5_giveAll_18 : decode cX5_giveAll 18 = .ok (.ireturn, 1) := by decide +kernel
theorem dX5_grow_0 : decode cX5_grow 0 = .ok (.aload_n 0, 1) := by decide +kernel
theorem dX5_grow_1 : decode cX5_grow 1 = .ok (.getfield 10, 3) := by decide +kernel
theorem dX5_grow_4 : decode cX5_grow 4 = .ok (.iload_n 1, 1) := by decide +kernel
theorem dX5_grow_5 : decode cX5_grow 5 = .ok (.invokevirtual 66, 3) := by decide +kernel
theorem dX5_grow_8 : decode cX5_grow 8 = .ok (.ifCond .eq 22, 3) := by decide +kernel
theorem dX5_grow_11 : decode cX5_grow 11 = .ok (.iload_n 2, 1) := by decide +kernel
theorem dX5_grow_12 : decode cX5_grow 12 = .ok (.invokestatic 49, 3) := by decide +kernel
theorem dX5_grow_15 : decode cX5_grow 15 = .ok (.ifCond .eq 15, 3) := by decide +kernel
theorem dX5_grow_18 : decode cX5_grow 18 = .ok (.iload_n 2, 1) := by decide +kernel
theorem dX5_grow_19 : decode cX5_grow 19 = .ok (.aload_n 0, 1) := by decide +kernel
theorem dX5_grow_20 : decode cX5_grow 20 = .ok (.getfield 10, 3) := by decide +kernel
theorem dX5_grow_23 : decode cX5_grow 23 = .ok (.iload_n 1, 1) := by decide +kernel
theorem dX5_grow_24 : decode cX5_grow 24 = .ok (.invokevirtual 78, 3) := by decide +kernel
theorem dX5_grow_27 : decode cX5_grow 27 = .ok (.if_icmp .ge 13, 3) := by decide +kernel
theorem dX5_grow_30 : decode cX5_grow 30 = .ok (.new 34, 3) := by decide +kernel
theorem dX5_grow_33 : decode cX5_grow 33 = .ok (.dup, 1) := by decide +kernel
theorem dX5_grow_34 : decode cX5_grow 34 = .ok (.ldc 81, 2) := by decide +kernel
theorem dX5_grow_36 : decode cX5_grow 36 = .ok (.invokespecial 38, 3) := by decide +kernel
theorem dX5_grow_39 : decode cX5_grow 39 = .ok (.athrow, 1) := by decide +kernel
theorem dX5_grow_40 : decode cX5_grow 40 = .ok (.aload_n 0, 1) := by decide +kernel
theorem dX5_grow_41 : decode cX5_grow 41 = .ok (.getfield 10, 3) := by decide +kernel
theorem dX5_grow_44 : decode cX5_grow 44 = .ok (.iload_n 1, 1) := by decide +kernel
theorem dX5_grow_45 : decode cX5_grow 45 = .ok (.iload_n 2, 1) := by decide +kernel
theorem dX5_grow_46 : decode cX5_grow 46 = .ok (.invokevirtual 83, 3) := by decide +kernel
theorem dX5_grow_49 : decode cX5_grow 49 = .ok (.ifCond .ne 13, 3) := by decide +kernel
theorem dX5_grow_52 : decode cX5_grow 52 = .ok (.new 58, 3) := by decide +kernel
theorem dX5_grow_55 : decode cX5_grow 55 = .ok (.dup, 1) := by decide +kernel
theorem dX5_grow_56 : decode cX5_grow 56 = .ok (.ldc 87, 2) := by decide +kernel
theorem dX5_grow_58 : decode cX5_grow 58 = .ok (.invokespecial 62, 3) := by decide +kernel
theorem dX5_grow_61 : decode cX5_grow 61 = .ok (.athrow, 1) := by decide +kernel
theorem dX5_grow_62 : decode cX5_grow 62 = .ok (.aload_n 0, 1) := by decide +kernel
theorem dX5_grow_63 : decode cX5_grow 63 = .ok (.getfield 19, 3) := by decide +kernel
theorem dX5_grow_66 : decode cX5_grow 66 = .ok (.aload_n 0, 1) := by decide +kernel
theorem dX5_grow_67 : decode cX5_grow 67 = .ok (.getfield 10, 3) := by decide +kernel
theorem dX5_grow_70 : decode cX5_grow 70 = .ok (.invokevirtual 41, 3) := by decide +kernel
theorem dX5_grow_73 : decode cX5_grow 73 = .ok (.aload_n 0, 1) := by decide +kernel
theorem dX5_grow_74 : decode cX5_grow 74 = .ok (.getfield 10, 3) := by decide +kernel
theorem dX5_grow_77 : decode cX5_grow 77 = .ok (.iload_n 1, 1) := by decide +kernel
theorem dX5_grow_78 : decode cX5_grow 78 = .ok (.iload_n 2, 1) := by decide +kernel
theorem dX5_grow_79 : decode cX5_grow 79 = .ok (.invokevirtual 89, 3) := by decide +kernel
theorem dX5_grow_82 : decode cX5_grow 82 = .ok (.ireturn, 1) := by decide +kernel
theorem dX5_shrink_0 : decode cX5_shrink 0 = .ok (.aload_n 0, 1) := by decide +kernel
theorem dX5_shrink_1 : decode cX5_shrink 1 = .ok (.getfield 10, 3) := by decide +kernel
theorem dX5_shrink_4 : decode cX5_shrink 4 = .ok (.iload_n 1, 1) := by decide +kernel
theorem dX5_shrink_5 : decode cX5_shrink 5 = .ok (.invokevirtual 66, 3) := by decide +kernel
theorem dX5_shrink_8 : decode cX5_shrink 8 = .ok (.ifCond .eq 20, 3) := by decide +kernel
theorem dX5_shrink_11 : decode cX5_shrink 11 = .ok (.iload_n 2, 1) := by decide +kernel
theorem dX5_shrink_12 : decode cX5_shrink 12 = .ok (.iconst 1, 1) := by decide +kernel
theorem dX5_shrink_13 : decode cX5_shrink 13 = .ok (.if_icmp .lt 15, 3) := by decide +kernel
theorem dX5_shrink_16 : decode cX5_shrink 16 = .ok (.iload_n 2, 1) := by decide +kernel
theorem dX5_shrink_17 : decode cX5_shrink 17 = .ok (.aload_n 0, 1) := by decide +kernel
theorem dX5_shrink_18 : decode cX5_shrink 18 = .ok (.getfield 10, 3) := by decide +kernel
theorem dX5_shrink_21 : decode cX5_shrink 21 = .ok (.iload_n 1, 1) := by decide +kernel
theorem dX5_shrink_22 : decode cX5_shrink 22 = .ok (.invokevirtual 78, 3) := by decide +kernel
theorem dX5_shrink_25 : decode cX5_shrink 25 = .ok (.if_icmp .le 13, 3) := by decide +kernel
theorem dX5_shrink_28 : decode cX5_shrink 28 = .ok (.new 34, 3) := by decide +kernel
theorem dX5_shrink_31 : decode cX5_shrink 31 = .ok (.dup, 1) := by decide +kernel
theorem dX5_shrink_32 : decode cX5_shrink 32 = .ok (.ldc 93, 2) := by decide +kernel
theorem dX5_shrink_34 : decode cX5_shrink 34 = .ok (.invokespecial 38, 3) := by decide +kernel
theorem dX5_shrink_37 : decode cX5_shrink 37 = .ok (.athrow, 1) := by decide +kernel
theorem dX5_shrink_38 : decode cX5_shrink 38 = .ok (.aload_n 0, 1) := by decide +kernel
theorem dX5_shrink_39 : decode cX5_shrink 39 = .ok (.getfield 19, 3) := by decide +kernel
theorem dX5_shrink_42 : decode cX5_shrink 42 = .ok (.aload_n 0, 1) := by decide +kernel
theorem dX5_shrink_43 : decode cX5_shrink 43 = .ok (.getfield 10, 3) := by decide +kernel
theorem dX5_shrink_46 : decode cX5_shrink 46 = .ok (.invokevirtual 41, 3) := by decide +kernel
theorem dX5_shrink_49 : decode cX5_shrink 49 = .ok (.aload_n 0, 1) := by decide +kernel
theorem dX5_shrink_50 : decode cX5_shrink 50 = .ok (.getfield 10, 3) := by decide +kernel
theorem dX5_shrink_53 : decode cX5_shrink 53 = .ok (.iload_n 1, 1) := by decide +kernel
theorem dX5_shrink_54 : decode cX5_shrink 54 = .ok (.iload_n 2, 1) := by decide +kernel
theorem dX5_shrink_55 : decode cX5_shrink 55 = .ok (.invokevirtual 95, 3) := by decide +kernel
theorem dX5_shrink_58 : decode cX5_shrink 58 = .ok (.ireturn, 1) := by decide +kernel
theorem dX5_set_0 : decode cX5_set 0 = .ok (.iload_n 1, 1) := by decide +kernel
theorem dX5_set_1 : decode cX5_set 1 = .ok (.iconst 2, 1) := by decide +kernel
theorem dX5_set_2 : decode cX5_set 2 = .ok (.invokestatic 98, 3) := by decide +kernel
theorem dX5_set_5 : decode cX5_set 5 = .ok (.ifCond .ne 13, 3) := by decide +kernel
theorem dX5_set_8 : decode cX5_set 8 = .ok (.new 101, 3) := by decide +kernel
theorem dX5_set_11 : decode cX5_set 11 = .ok (.dup, 1) := by decide +kernel
theorem dX5_set_12 : decode cX5_set 12 = .ok (.ldc 103, 2) := by decide +kernel
theorem dX5_set_14 : decode cX5_set 14 = .ok (.invokespecial 105, 3) := by decide +kernel
theorem dX5_set_17 : decode cX5_set 17 = .ok (.athrow, 1) := by decide +kernel
theorem dX5_set_18 : decode cX5_set 18 = .ok (.iload_n 2, 1) := by decide +kernel
theorem dX5_set_19 : decode cX5_set 19 = .ok (.ifCond .eq 18, 3) := by decide +kernel
theorem dX5_set_22 : decode cX5_set 22 = .ok (.iload_n 2, 1) := by decide +kernel
theorem dX5_set_23 : decode cX5_set 23 = .ok (.iconst 1, 1) := by decide +kernel
theorem dX5_set_24 : decode cX5_set 24 = .ok (.if_icmp .eq 13, 3) := by decide +kernel
theorem dX5_set_27 : decode cX5_set 27 = .ok (.new 34, 3) := by decide +kernel
theorem dX5_set_30 : decode cX5_set 30 = .ok (.dup, 1) := by decide +kernel
theorem dX5_set_31 : decode cX5_set 31 = .ok (.ldc 106, 2) := by decide +kernel
theorem dX5_set_33 : decode cX5_set 33 = .ok (.invokespecial 38, 3) := by decide +kernel
theorem dX5_set_36 : decode cX5_set 36 = .ok (.athrow, 1) := by decide +kernel
theorem dX5_set_37 : decode cX5_set 37 = .ok (.aload_n 0, 1) := by decide +kernel
theorem dX5_set_38 : decode cX5_set 38 = .ok (.getfield 19, 3) := by decide +kernel
theorem dX5_set_41 : decode cX5_set 41 = .ok (.aload_n 0, 1) := by decide +kernel
theorem dX5_set_42 : decode cX5_set 42 = .ok (.getfield 10, 3) := by decide +kernel
theorem dX5_set_45 : decode cX5_set 45 = .ok (.invokevirtual 41, 3) := by decide +kernel
theorem dX5_set_48 : decode cX5_set 48 = .ok (.aload_n 0, 1) := by decide +kernel
theorem dX5_set_49 : decode cX5_set 49 = .ok (.getfield 10, 3) := by decide +kernel
theorem dX5_set_52 : decode cX5_set 52 = .ok (.iload_n 1, 1) := by decide +kernel
theorem dX5_set_53 : decode cX5_set 53 = .ok (.iload_n 2, 1) := by decide +kernel
theorem dX5_set_54 : decode cX5_set 54 = .ok (.invokevirtual 108, 3) := by decide +kernel
theorem dX5_set_57 : decode cX5_set 57 = .ok (.ireturn, 1) := by decide +kernel
theorem dX5_append_0 : decode cX5_append 0 = .ok (.iload_n 1, 1) := by decide +kernel
theorem dX5_append_1 : decode cX5_append 1 = .ok (.bipush 33, 2) := by decide +kernel
theorem dX5_append_3 : decode cX5_append 3 = .ok (.if_icmp .lt 9, 3) := by decide +kernel
theorem dX5_append_6 : decode cX5_append 6 = .ok (.iload_n 1, 1) := by decide +kernel
theorem dX5_append_7 : decode cX5_append 7 = .ok (.bipush 126, 2) := by decide +kernel
theorem dX5_append_9 : decode cX5_append 9 = .ok (.if_icmp .le 13, 3) := by decide +kernel
theorem dX5_append_12 : decode cX5_append 12 = .ok (.new 34, 3) := by decide +kernel
theorem dX5_append_15 : decode cX5_append 15 = .ok (.dup, 1) := by decide +kernel
theorem dX5_append_16 : decode cX5_append 16 = .ok (.ldc 111, 2) := by decide +kernel
theorem dX5_append_18 : decode cX5_append 18 = .ok (.invokespecial 38, 3) := by decide +kernel
theorem dX5_append_21 : decode cX5_append 21 = .ok (.athrow, 1) := by decide +kernel
theorem dX5_append_22 : decode cX5_append 22 = .ok (.aload_n 0, 1) := by decide +kernel
theorem dX5_append_23 : decode cX5_append 23 = .ok (.getfield 26, 3) := by decide +kernel
theorem dX5_append_26 : decode cX5_append 26 = .ok (.invokevirtual 113, 3) := by decide +kernel
theorem dX5_append_29 : decode cX5_append 29 = .ok (.ifCond .eq 13, 3) := by decide +kernel
theorem dX5_append_32 : decode cX5_append 32 = .ok (.new 58, 3) := by decide +kernel
theorem dX5_append_35 : decode cX5_append 35 = .ok (.dup, 1) := by decide +kernel
theorem dX5_append_36 : decode cX5_append 36 = .ok (.ldc 117, 2) := by decide +kernel
theorem dX5_append_38 : decode cX5_append 38 = .ok (.invokespecial 62, 3) := by decide +kernel
theorem dX5_append_41 : decode cX5_append 41 = .ok (.athrow, 1) := by decide +kernel
theorem dX5_append_42 : decode cX5_append 42 = .ok (.aload_n 0, 1) := by decide +kernel
theorem dX5_append_43 : decode cX5_append 43 = .ok (.getfield 26, 3) := by decide +kernel
theorem dX5_append_46 : decode cX5_append 46 = .ok (.iload_n 1, 1) := by decide +kernel
theorem dX5_append_47 : decode cX5_append 47 = .ok (.invokevirtual 119, 3) := by decide +kernel
theorem dX5_append_50 : decode cX5_append 50 = .ok (.ireturn, 1) := by decide +kernel
theorem dX5_clearBuffer_0 : decode cX5_clearBuffer 0 = .ok (.aload_n 0, 1) := by decide +kernel
theorem dX5_clearBuffer_1 : decode cX5_clearBuffer 1 = .ok (.getfield 26, 3) := by decide +kernel
theorem dX5_clearBuffer_4 : decode cX5_clearBuffer 4 = .ok (.invokevirtual 122, 3) := by decide +kernel
theorem dX5_clearBuffer_7 : decode cX5_clearBuffer 7 = .ok (.ireturn, 1) := by decide +kernel
theorem dX5_firstError_0 : decode cX5_firstError 0 = .ok (.aload_n 0, 1) := by decide +kernel
theorem dX5_firstError_1 : decode cX5_firstError 1 = .ok (.getfield 26, 3) := by decide +kernel
theorem dX5_firstError_4 : decode cX5_firstError 4 = .ok (.invokevirtual 125, 3) := by decide +kernel
theorem dX5_firstError_7 : decode cX5_firstError 7 = .ok (.ireturn, 1) := by decide +kernel
theorem dX5_run_0 : decode cX5_run 0 = .ok (.aload_n 0, 1) := by decide +kernel
theorem dX5_run_1 : decode cX5_run 1 = .ok (.getfield 26, 3) := by decide +kernel
theorem dX5_run_4 : decode cX5_run 4 = .ok (.invokevirtual 128, 3) := by decide +kernel
theorem dX5_run_7 : decode cX5_run 7 = .ok (.ifCond .ne 13, 3) := by decide +kernel
theorem dX5_run_10 : decode cX5_run 10 = .ok (.new 34, 3) := by decide +kernel
theorem dX5_run_13 : decode cX5_run 13 = .ok (.dup, 1) := by decide +kernel
theorem dX5_run_14 : decode cX5_run 14 = .ok (.ldc 131, 2) := by decide +kernel
theorem dX5_run_16 : decode cX5_run 16 = .ok (.invokespecial 38, 3) := by decide +kernel
theorem dX5_run_19 : decode cX5_run 19 = .ok (.athrow, 1) := by decide +kernel
theorem dX5_run_20 : decode cX5_run 20 = .ok (.aload_n 0, 1) := by decide +kernel
theorem dX5_run_21 : decode cX5_run 21 = .ok (.getfield 19, 3) := by decide +kernel
theorem dX5_run_24 : decode cX5_run 24 = .ok (.aload_n 0, 1) := by decide +kernel
theorem dX5_run_25 : decode cX5_run 25 = .ok (.getfield 10, 3) := by decide +kernel
theorem dX5_run_28 : decode cX5_run 28 = .ok (.invokevirtual 41, 3) := by decide +kernel
theorem dX5_run_31 : decode cX5_run 31 = .ok (.iconst 0, 1) := by decide +kernel
theorem dX5_run_32 : decode cX5_run 32 = .ok (.istore_n 1, 1) := by decide +kernel
theorem dX5_run_33 : decode cX5_run 33 = .ok (.iconst 0, 1) := by decide +kernel
theorem dX5_run_34 : decode cX5_run 34 = .ok (.istore_n 2, 1) := by decide +kernel
theorem dX5_run_35 : decode cX5_run 35 = .ok (.iconst 1, 1) := by decide +kernel
theorem dX5_run_36 : decode cX5_run 36 = .ok (.istore_n 3, 1) := by decide +kernel
theorem dX5_run_37 : decode cX5_run 37 = .ok (.iconst 0, 1) := by decide +kernel
theorem dX5_run_38 : decode cX5_run 38 = .ok (.istore 4, 2) := by decide +kernel
theorem dX5_run_40 : decode cX5_run 40 = .ok (.iload 4, 2) := by decide +kernel
theorem dX5_run_42 : decode cX5_run 42 = .ok (.bipush 60, 2) := by decide +kernel
theorem dX5_run_44 : decode cX5_run 44 = .ok (.if_icmp .ge 63, 3) := by decide +kernel
theorem dX5_run_47 : decode cX5_run 47 = .ok (.iload_n 3, 1) := by decide +kernel
theorem dX5_run_48 : decode cX5_run 48 = .ok (.ifCond .eq 59, 3) := by decide +kernel
theorem dX5_run_51 : decode cX5_run 51 = .ok (.iload_n 2, 1) := by decide +kernel
theorem dX5_run_52 : decode cX5_run 52 = .ok (.aload_n 0, 1) := by decide +kernel
theorem dX5_run_53 : decode cX5_run 53 = .ok (.getfield 26, 3) := by decide +kernel
theorem dX5_run_56 : decode cX5_run 56 = .ok (.getfield 133, 3) := by decide +kernel
theorem dX5_run_59 : decode cX5_run 59 = .ok (.if_icmp .ge 48, 3) := by decide +kernel
theorem dX5_run_62 : decode cX5_run 62 = .ok (.aload_n 0, 1) := by decide +kernel
theorem dX5_run_63 : decode cX5_run 63 = .ok (.aload_n 0, 1) := by decide +kernel
theorem dX5_run_64 : decode cX5_run 64 = .ok (.getfield 26, 3) := by decide +kernel
theorem dX5_run_67 : decode cX5_run 67 = .ok (.iload_n 2, 1) := by decide +kernel
theorem dX5_run_68 : decode cX5_run 68 = .ok (.invokevirtual 137, 3) := by decide +kernel
theorem dX5_run_71 : decode cX5_run 71 = .ok (.aload_n 0, 1) := by decide +kernel
theorem dX5_run_72 : decode cX5_run 72 = .ok (.getfield 26, 3) := by decide +kernel
theorem dX5_run_75 : decode cX5_run 75 = .ok (.iload_n 2, 1) := by decide +kernel
theorem dX5_run_76 : decode cX5_run 76 = .ok (.iconst 1, 1) := by decide +kernel
theorem dX5_run_77 : decode cX5_run 77 = .ok (.iadd, 1) := by decide +kernel
theorem dX5_run_78 : decode cX5_run 78 = .ok (.invokevirtual 140, 3) := by decide +kernel
theorem dX5_run_81 : decode cX5_run 81 = .ok (.invokevirtual 143, 3) := by decide +kernel
theorem dX5_run_84 : decode cX5_run 84 = .ok (.istore_n 3, 1) := by decide +kernel
theorem dX5_run_85 : decode cX5_run 85 = .ok (.iload_n 3, 1) := by decide +kernel
theorem dX5_run_86 : decode cX5_run 86 = .ok (.ifCond .eq 6, 3) := by decide +kernel
theorem dX5_run_89 : decode cX5_run 89 = .ok (.iinc 1 1, 3) := by decide +kernel
theorem dX5_run_92 : decode cX5_run 92 = .ok (.aload_n 0, 1) := by decide +kernel
theorem dX5_run_93 : decode cX5_run 93 = .ok (.getfield 26, 3) := by decide +kernel
theorem dX5_run_96 : decode cX5_run 96 = .ok (.iload_n 2, 1) := by decide +kernel
theorem dX5_run_97 : decode cX5_run 97 = .ok (.invokevirtual 146, 3) := by decide +kernel
theorem dX5_run_100 : decode cX5_run 100 = .ok (.istore_n 2, 1) := by decide +kernel
theorem dX5_run_101 : decode cX5_run 101 = .ok (.iinc 4 1, 3) := by decide +kernel
theorem dX5_run_104 : decode cX5_run 104 = .ok (.goto (-64), 3) := by decide +kernel
theorem dX5_run_107 : decode cX5_run 107 = .ok (.aload_n 0, 1) := by decide +kernel
theorem dX5_run_108 : decode cX5_run 108 = .ok (.getfield 26, 3) := by decide +kernel
theorem dX5_run_111 : decode cX5_run 111 = .ok (.invokevirtual 122, 3) := by decide +kernel
theorem dX5_run_114 : decode cX5_run 114 = .ok (.pop, 1) := by decide +kernel
theorem dX5_run_115 : decode cX5_run 115 = .ok (.iload_n 1, 1) := by decide +kernel
theorem dX5_run_116 : decode cX5_run 116 = .ok (.ireturn, 1) := by decide +kernel
theorem dX5_undo_0 : decode cX5_undo 0 = .ok (.aload_n 0, 1) := by decide +kernel
theorem dX5_undo_1 : decode cX5_undo 1 = .ok (.getfield 19, 3) := by decide +kernel
theorem dX5_undo_4 : decode cX5_undo 4 = .ok (.getfield 149, 3) := by decide +kernel
theorem dX5_undo_7 : decode cX5_undo 7 = .ok (.ifCond .ne 13, 3) := by decide +kernel
theorem dX5_undo_10 : decode cX5_undo 10 = .ok (.new 58, 3) := by decide +kernel
theorem dX5_undo_13 : decode cX5_undo 13 = .ok (.dup, 1) := by decide +kernel
theorem dX5_undo_14 : decode cX5_undo 14 = .ok (.ldc 152, 2) := by decide +kernel
theorem dX5_undo_16 : decode cX5_undo 16 = .ok (.invokespecial 62, 3) := by decide +kernel
theorem dX5_undo_19 : decode cX5_undo 19 = .ok (.athrow, 1) := by decide +kernel
theorem dX5_undo_20 : decode cX5_undo 20 = .ok (.aload_n 0, 1) := by decide +kernel
theorem dX5_undo_21 : decode cX5_undo 21 = .ok (.getfield 19, 3) := by decide +kernel
theorem dX5_undo_24 : decode cX5_undo 24 = .ok (.aload_n 0, 1) := by decide +kernel
theorem dX5_undo_25 : decode cX5_undo 25 = .ok (.getfield 10, 3) := by decide +kernel
theorem dX5_undo_28 : decode cX5_undo 28 = .ok (.invokevirtual 154, 3) := by decide +kernel
theorem dX5_undo_31 : decode cX5_undo 31 = .ok (.ireturn, 1) := by decide +kernel
theorem dX5_size_0 : decode cX5_size 0 = .ok (.iload_n 1, 1) := by decide +kernel
theorem dX5_size_1 : decode cX5_size 1 = .ok (.ifCond .lt 9, 3) := by decide +kernel
theorem dX5_size_4 : decode cX5_size 4 = .ok (.iload_n 1, 1) := by decide +kernel
theorem dX5_size_5 : decode cX5_size 5 = .ok (.bipush 14, 2) := by decide +kernel
theorem dX5_size_7 : decode cX5_size 7 = .ok (.if_icmp .le 13, 3) := by decide +kernel
theorem dX5_size_10 : decode cX5_size 10 = .ok (.new 34, 3) := by decide +kernel
theorem dX5_size_13 : decode cX5_size 13 = .ok (.dup, 1) := by decide +kernel
theorem dX5_size_14 : decode cX5_size 14 = .ok (.ldc 158, 2) := by decide +kernel
theorem dX5_size_16 : decode cX5_size 16 = .ok (.invokespecial 38, 3) := by decide +kernel
theorem dX5_size_19 : decode cX5_size 19 = .ok (.athrow, 1) := by decide +kernel
theorem dX5_size_20 : decode cX5_size 20 = .ok (.iload_n 1, 1) := by decide +kernel
theorem dX5_size_21 : decode cX5_size 21 = .ok (.invokestatic 45, 3) := by decide +kernel
theorem dX5_size_24 : decode cX5_size 24 = .ok (.ireturn, 1) := by decide +kernel
theorem dX5_block_0 : decode cX5_block 0 = .ok (.aload_n 0, 1) := by decide +kernel
theorem dX5_block_1 : decode cX5_block 1 = .ok (.getfield 10, 3) := by decide +kernel
theorem dX5_block_4 : decode cX5_block 4 = .ok (.getfield 160, 3) := by decide +kernel
theorem dX5_block_7 : decode cX5_block 7 = .ok (.iload_n 1, 1) := by decide +kernel
theorem dX5_block_8 : decode cX5_block 8 = .ok (.invokevirtual 164, 3) := by decide +kernel
theorem dX5_block_11 : decode cX5_block 11 = .ok (.ifCond .ne 13, 3) := by decide +kernel
theorem dX5_block_14 : decode cX5_block 14 = .ok (.new 101, 3) := by decide +kernel
theorem dX5_block_17 : decode cX5_block 17 = .ok (.dup, 1) := by decide +kernel
theorem dX5_block_18 : decode cX5_block 18 = .ok (.ldc 169, 2) := by decide +kernel
theorem dX5_block_20 : decode cX5_block 20 = .ok (.invokespecial 105, 3) := by decide +kernel
theorem dX5_block_23 : decode cX5_block 23 = .ok (.athrow, 1) := by decide +kernel
theorem dX5_block_24 : decode cX5_block 24 = .ok (.iload_n 2, 1) := by decide +kernel
theorem dX5_block_25 : decode cX5_block 25 = .ok (.iconst 5, 1) := by decide +kernel
theorem dX5_block_26 : decode cX5_block 26 = .ok (.invokestatic 98, 3) := by decide +kernel
theorem dX5_block_29 : decode cX5_block 29 = .ok (.ifCond .ne 13, 3) := by decide +kernel
theorem dX5_block_32 : decode cX5_block 32 = .ok (.new 34, 3) := by decide +kernel
theorem dX5_block_35 : decode cX5_block 35 = .ok (.dup, 1) := by decide +kernel
theorem dX5_block_36 : decode cX5_block 36 = .ok (.ldc 171, 2) := by decide +kernel
theorem dX5_block_38 : decode cX5_block 38 = .ok (.invokespecial 38, 3) := by decide +kernel
theorem dX5_block_41 : decode cX5_block 41 = .ok (.athrow, 1) := by decide +kernel
theorem dX5_block_42 : decode cX5_block 42 = .ok (.aload_n 0, 1) := by decide +kernel
theorem dX5_block_43 : decode cX5_block 43 = .ok (.getfield 10, 3) := by decide +kernel
theorem dX5_block_46 : decode cX5_block 46 = .ok (.iload_n 1, 1) := by decide +kernel
theorem dX5_block_47 : decode cX5_block 47 = .ok (.iload_n 2, 1) := by decide +kernel
theorem dX5_block_48 : decode cX5_block 48 = .ok (.invokevirtual 173, 3) := by decide +kernel
theorem dX5_block_51 : decode cX5_block 51 = .ok (.ireturn, 1) := by decide +kernel
theorem dX5_use_0 : decode cX5_use 0 = .ok (.iload_n 1, 1) := by decide +kernel
theorem dX5_use_1 : decode cX5_use 1 = .ok (.bipush 24, 2) := by decide +kernel
theorem dX5_use_3 : decode cX5_use 3 = .ok (.invokestatic 98, 3) := by decide +kernel
theorem dX5_use_6 : decode cX5_use 6 = .ok (.ifCond .ne 13, 3) := by decide +kernel
theorem dX5_use_9 : decode cX5_use 9 = .ok (.new 101, 3) := by decide +kernel
theorem dX5_use_12 : decode cX5_use 12 = .ok (.dup, 1) := by decide +kernel
theorem dX5_use_13 : decode cX5_use 13 = .ok (.ldc 176, 2) := by decide +kernel
theorem dX5_use_15 : decode cX5_use 15 = .ok (.invokespecial 105, 3) := by decide +kernel
theorem dX5_use_18 : decode cX5_use 18 = .ok (.athrow, 1) := by decide +kernel
theorem dX5_use_19 : decode cX5_use 19 = .ok (.iload_n 2, 1) := by decide +kernel
theorem dX5_use_20 : decode cX5_use 20 = .ok (.iconst 5, 1) := by decide +kernel
theorem dX5_use_21 : decode cX5_use 21 = .ok (.invokestatic 98, 3) := by decide +kernel
theorem dX5_use_24 : decode cX5_use 24 = .ok (.ifCond .ne 13, 3) := by decide +kernel
theorem dX5_use_27 : decode cX5_use 27 = .ok (.new 34, 3) := by decide +kernel
theorem dX5_use_30 : decode cX5_use 30 = .ok (.dup, 1) := by decide +kernel
theorem dX5_use_31 : decode cX5_use 31 = .ok (.ldc 171, 2) := by decide +kernel
theorem dX5_use_33 : decode cX5_use 33 = .ok (.invokespecial 38, 3) := by decide +kernel
theorem dX5_use_36 : decode cX5_use 36 = .ok (.athrow, 1) := by decide +kernel
theorem dX5_use_37 : decode cX5_use 37 = .ok (.aload_n 0, 1) := by decide +kernel
theorem dX5_use_38 : decode cX5_use 38 = .ok (.getfield 10, 3) := by decide +kernel
theorem dX5_use_41 : decode cX5_use 41 = .ok (.iload_n 1, 1) := by decide +kernel
theorem dX5_use_42 : decode cX5_use 42 = .ok (.iload_n 2, 1) := by decide +kernel
theorem dX5_use_43 : decode cX5_use 43 = .ok (.invokevirtual 178, 3) := by decide +kernel
theorem dX5_use_46 : decode cX5_use 46 = .ok (.ireturn, 1) := by decide +kernel
theorem dX5_at_0 : decode cX5_at 0 = .ok (.iload_n 1, 1) := by decide +kernel
theorem dX5_at_1 : decode cX5_at 1 = .ok (.aload_n 0, 1) := by decide +kernel
theorem dX5_at_2 : decode cX5_at 2 = .ok (.getfield 10, 3) := by decide +kernel
theorem dX5_at_5 : decode cX5_at 5 = .ok (.getfield 160, 3) := by decide +kernel
theorem dX5_at_8 : decode cX5_at 8 = .ok (.getfield 181, 3) := by decide +kernel
theorem dX5_at_11 : decode cX5_at 11 = .ok (.invokestatic 45, 3) := by decide +kernel
theorem dX5_at_14 : decode cX5_at 14 = .ok (.invokestatic 98, 3) := by decide +kernel
theorem dX5_at_17 : decode cX5_at 17 = .ok (.ifCond .ne 13, 3) := by decide +kernel
theorem dX5_at_20 : decode cX5_at 20 = .ok (.new 101, 3) := by decide +kernel
theorem dX5_at_23 : decode cX5_at 23 = .ok (.dup, 1) := by decide +kernel
theorem dX5_at_24 : decode cX5_at 24 = .ok (.ldc 184, 2) := by decide +kernel
theorem dX5_at_26 : decode cX5_at 26 = .ok (.invokespecial 105, 3) := by decide +kernel
theorem dX5_at_29 : decode cX5_at 29 = .ok (.athrow, 1) := by decide +kernel
theorem dX5_at_30 : decode cX5_at 30 = .ok (.aload_n 0, 1) := by decide +kernel
theorem dX5_at_31 : decode cX5_at 31 = .ok (.getfield 10, 3) := by decide +kernel
theorem dX5_at_34 : decode cX5_at 34 = .ok (.getfield 160, 3) := by decide +kernel
theorem dX5_at_37 : decode cX5_at 37 = .ok (.iload_n 1, 1) := by decide +kernel
theorem dX5_at_38 : decode cX5_at 38 = .ok (.invokevirtual 186, 3) := by decide +kernel
theorem dX5_at_41 : decode cX5_at 41 = .ok (.ireturn, 1) := by decide +kernel
theorem dX5_many_0 : decode cX5_many 0 = .ok (.iload_n 1, 1) := by decide +kernel
theorem dX5_many_1 : decode cX5_many 1 = .ok (.ifCond .lt 9, 3) := by decide +kernel
theorem dX5_many_4 : decode cX5_many 4 = .ok (.iload_n 1, 1) := by decide +kernel
theorem dX5_many_5 : decode cX5_many 5 = .ok (.bipush 14, 2) := by decide +kernel
theorem dX5_many_7 : decode cX5_many 7 = .ok (.if_icmp .le 13, 3) := by decide +kernel
theorem dX5_many_10 : decode cX5_many 10 = .ok (.new 34, 3) := by decide +kernel
theorem dX5_many_13 : decode cX5_many 13 = .ok (.dup, 1) := by decide +kernel
theorem dX5_many_14 : decode cX5_many 14 = .ok (.ldc 158, 2) := by decide +kernel
theorem dX5_many_16 : decode cX5_many 16 = .ok (.invokespecial 38, 3) := by decide +kernel
theorem dX5_many_19 : decode cX5_many 19 = .ok (.athrow, 1) := by decide +kernel
theorem dX5_many_20 : decode cX5_many 20 = .ok (.aload_n 0, 1) := by decide +kernel
theorem dX5_many_21 : decode cX5_many 21 = .ok (.getfield 10, 3) := by decide +kernel
theorem dX5_many_24 : decode cX5_many 24 = .ok (.getfield 160, 3) := by decide +kernel
theorem dX5_many_27 : decode cX5_many 27 = .ok (.iload_n 1, 1) := by decide +kernel
theorem dX5_many_28 : decode cX5_many 28 = .ok (.iload_n 2, 1) := by decide +kernel
theorem dX5_many_29 : decode cX5_many 29 = .ok (.invokevirtual 189, 3) := by decide +kernel
theorem dX5_many_32 : decode cX5_many 32 = .ok (.ireturn, 1) := by decide +kernel
theorem dX5_count_0 : decode cX5_count 0 = .ok (.iload_n 1, 1) := by decide +kernel
theorem dX5_count_1 : decode cX5_count 1 = .ok (.bipush 13, 2) := by decide +kernel
theorem dX5_count_3 : decode cX5_count 3 = .ok (.invokestatic 98, 3) := by decide +kernel
theorem dX5_count_6 : decode cX5_count 6 = .ok (.ifCond .ne 13, 3) := by decide +kernel
theorem dX5_count_9 : decode cX5_count 9 = .ok (.new 34, 3) := by decide +kernel
theorem dX5_count_12 : decode cX5_count 12 = .ok (.dup, 1) := by decide +kernel
theorem dX5_count_13 : decode cX5_count 13 = .ok (.ldc 193, 2) := by decide +kernel
theorem dX5_count_15 : decode cX5_count 15 = .ok (.invokespecial 38, 3) := by decide +kernel
theorem dX5_count_18 : decode cX5_count 18 = .ok (.athrow, 1) := by decide +kernel
theorem dX5_count_19 : decode cX5_count 19 = .ok (.aload_n 0, 1) := by decide +kernel
theorem dX5_count_20 : decode cX5_count 20 = .ok (.iload_n 1, 1) := by decide +kernel
theorem dX5_count_21 : decode cX5_count 21 = .ok (.invokevirtual 195, 3) := by decide +kernel
theorem dX5_count_24 : decode cX5_count 24 = .ok (.ireturn, 1) := by decide +kernel
theorem dX5_setting_0 : decode cX5_setting 0 = .ok (.iload_n 1, 1) := by decide +kernel
theorem dX5_setting_1 : decode cX5_setting 1 = .ok (.iconst 2, 1) := by decide +kernel
theorem dX5_setting_2 : decode cX5_setting 2 = .ok (.invokestatic 98, 3) := by decide +kernel
theorem dX5_setting_5 : decode cX5_setting 5 = .ok (.ifCond .ne 13, 3) := by decide +kernel
theorem dX5_setting_8 : decode cX5_setting 8 = .ok (.new 101, 3) := by decide +kernel
theorem dX5_setting_11 : decode cX5_setting 11 = .ok (.dup, 1) := by decide +kernel
theorem dX5_setting_12 : decode cX5_setting 12 = .ok (.ldc 103, 2) := by decide +kernel
theorem dX5_setting_14 : decode cX5_setting 14 = .ok (.invokespecial 105, 3) := by decide +kernel
theorem dX5_setting_17 : decode cX5_setting 17 = .ok (.athrow, 1) := by decide +kernel
theorem dX5_setting_18 : decode cX5_setting 18 = .ok (.aload_n 0, 1) := by decide +kernel
theorem dX5_setting_19 : decode cX5_setting 19 = .ok (.getfield 10, 3) := by decide +kernel
theorem dX5_setting_22 : decode cX5_setting 22 = .ok (.iload_n 1, 1) := by decide +kernel
theorem dX5_setting_23 : decode cX5_setting 23 = .ok (.invokevirtual 198, 3) := by decide +kernel
theorem dX5_setting_26 : decode cX5_setting 26 = .ok (.ireturn, 1) := by decide +kernel
theorem dX5_ifWanted_0 : decode cX5_ifWanted 0 = .ok (.iload_n 1, 1) := by decide +kernel
theorem dX5_ifWanted_1 : decode cX5_ifWanted 1 = .ok (.invokestatic 49, 3) := by decide +kernel
theorem dX5_ifWanted_4 : decode cX5_ifWanted 4 = .ok (.ifCond .eq 11, 3) := by decide +kernel
theorem dX5_ifWanted_7 : decode cX5_ifWanted 7 = .ok (.iload_n 2, 1) := by decide +kernel
theorem dX5_ifWanted_8 : decode cX5_ifWanted 8 = .ok (.iconst 4, 1) := by decide +kernel
theorem dX5_ifWanted_9 : decode cX5_ifWanted 9 = .ok (.invokestatic 98, 3) := by decide +kernel
theorem dX5_ifWanted_12 : decode cX5_ifWanted 12 = .ok (.ifCond .ne 13, 3) := by decide +kernel
theorem dX5_ifWanted_15 : decode cX5_ifWanted 15 = .ok (.new 34, 3) := by decide +kernel
theorem dX5_ifWanted_18 : decode cX5_ifWanted 18 = .ok (.dup, 1) := by decide +kernel
theorem dX5_ifWanted_19 : decode cX5_ifWanted 19 = .ok (.ldc 201, 2) := by decide +kernel
theorem dX5_ifWanted_21 : decode cX5_ifWanted 21 = .ok (.invokespecial 38, 3) := by decide +kernel
theorem dX5_ifWanted_24 : decode cX5_ifWanted 24 = .ok (.athrow, 1) := by decide +kernel
theorem dX5_ifWanted_25 : decode cX5_ifWanted 25 = .ok (.aload_n 0, 1) := by decide +kernel
theorem dX5_ifWanted_26 : decode cX5_ifWanted 26 = .ok (.getfield 10, 3) := by decide +kernel
theorem dX5_ifWanted_29 : decode cX5_ifWanted 29 = .ok (.iload_n 1, 1) := by decide +kernel
theorem dX5_ifWanted_30 : decode cX5_ifWanted 30 = .ok (.iload_n 2, 1) := by decide +kernel
theorem dX5_ifWanted_31 : decode cX5_ifWanted 31 = .ok (.invokevirtual 203, 3) := by decide +kernel
theorem dX5_ifWanted_34 : decode cX5_ifWanted 34 = .ok (.ireturn, 1) := by decide +kernel
theorem dX5_ifGiven_0 : decode cX5_ifGiven 0 = .ok (.iload_n 1, 1) := by decide +kernel
theorem dX5_ifGiven_1 : decode cX5_ifGiven 1 = .ok (.bipush 24, 2) := by decide +kernel
theorem dX5_ifGiven_3 : decode cX5_ifGiven 3 = .ok (.invokestatic 98, 3) := by decide +kernel
theorem dX5_ifGiven_6 : decode cX5_ifGiven 6 = .ok (.ifCond .ne 13, 3) := by decide +kernel
theorem dX5_ifGiven_9 : decode cX5_ifGiven 9 = .ok (.new 101, 3) := by decide +kernel
theorem dX5_ifGiven_12 : decode cX5_ifGiven 12 = .ok (.dup, 1) := by decide +kernel
theorem dX5_ifGiven_13 : decode cX5_ifGiven 13 = .ok (.ldc 176, 2) := by decide +kernel
theorem dX5_ifGiven_15 : decode cX5_ifGiven 15 = .ok (.invokespecial 105, 3) := by decide +kernel
theorem dX5_ifGiven_18 : decode cX5_ifGiven 18 = .ok (.athrow, 1) := by decide +kernel
theorem dX5_ifGiven_19 : decode cX5_ifGiven 19 = .ok (.aload_n 0, 1) := by decide +kernel
theorem dX5_ifGiven_20 : decode cX5_ifGiven 20 = .ok (.getfield 10, 3) := by decide +kernel
theorem dX5_ifGiven_23 : decode cX5_ifGiven 23 = .ok (.iload_n 1, 1) := by decide +kernel
theorem dX5_ifGiven_24 : decode cX5_ifGiven 24 = .ok (.invokevirtual 206, 3) := by decide +kernel
theorem dX5_ifGiven_27 : decode cX5_ifGiven 27 = .ok (.ireturn, 1) := by decide +kernel
theorem dX5_reach_0 : decode cX5_reach 0 = .ok (.iload_n 1, 1) := by decide +kernel
theorem dX5_reach_1 : decode cX5_reach 1 = .ok (.bipush 24, 2) := by decide +kernel
theorem dX5_reach_3 : decode cX5_reach 3 = .ok (.invokestatic 98, 3) := by decide +kernel
theorem dX5_reach_6 : decode cX5_reach 6 = .ok (.ifCond .ne 13, 3) := by decide +kernel
theorem dX5_reach_9 : decode cX5_reach 9 = .ok (.new 101, 3) := by decide +kernel
theorem dX5_reach_12 : decode cX5_reach 12 = .ok (.dup, 1) := by decide +kernel
theorem dX5_reach_13 : decode cX5_reach 13 = .ok (.ldc 176, 2) := by decide +kernel
theorem dX5_reach_15 : decode cX5_reach 15 = .ok (.invokespecial 105, 3) := by decide +kernel
theorem dX5_reach_18 : decode cX5_reach 18 = .ok (.athrow, 1) := by decide +kernel
theorem dX5_reach_19 : decode cX5_reach 19 = .ok (.aload_n 0, 1) := by decide +kernel
theorem dX5_reach_20 : decode cX5_reach 20 = .ok (.getfield 10, 3) := by decide +kernel
theorem dX5_reach_23 : decode cX5_reach 23 = .ok (.iload_n 1, 1) := by decide +kernel
theorem dX5_reach_24 : decode cX5_reach 24 = .ok (.invokevirtual 209, 3) := by decide +kernel
theorem dX5_reach_27 : decode cX5_reach 27 = .ok (.ireturn, 1) := by decide +kernel
theorem dX5_blocker_0 : decode cX5_blocker 0 = .ok (.aload_n 0, 1) := by decide +kernel
theorem dX5_blocker_1 : decode cX5_blocker 1 = .ok (.getfield 10, 3) := by decide +kernel
theorem dX5_blocker_4 : decode cX5_blocker 4 = .ok (.invokevirtual 212, 3) := by decide +kernel
theorem dX5_blocker_7 : decode cX5_blocker 7 = .ok (.ireturn, 1) := by decide +kernel
theorem dX5_byWay_0 : decode cX5_byWay 0 = .ok (.aload_n 0, 1) := by decide +kernel
theorem dX5_byWay_1 : decode cX5_byWay 1 = .ok (.getfield 10, 3) := by decide +kernel
theorem dX5_byWay_4 : decode cX5_byWay 4 = .ok (.getfield 160, 3) := by decide +kernel
theorem dX5_byWay_7 : decode cX5_byWay 7 = .ok (.iload_n 1, 1) := by decide +kernel
theorem dX5_byWay_8 : decode cX5_byWay 8 = .ok (.invokevirtual 164, 3) := by decide +kernel
theorem dX5_byWay_11 : decode cX5_byWay 11 = .ok (.ifCond .ne 13, 3) := by decide +kernel
theorem dX5_byWay_14 : decode cX5_byWay 14 = .ok (.new 101, 3) := by decide +kernel
theorem dX5_byWay_17 : decode cX5_byWay 17 = .ok (.dup, 1) := by decide +kernel
theorem dX5_byWay_18 : decode cX5_byWay 18 = .ok (.ldc 169, 2) := by decide +kernel
theorem dX5_byWay_20 : decode cX5_byWay 20 = .ok (.invokespecial 105, 3) := by decide +kernel
theorem dX5_byWay_23 : decode cX5_byWay 23 = .ok (.athrow, 1) := by decide +kernel
theorem dX5_byWay_24 : decode cX5_byWay 24 = .ok (.aload_n 0, 1) := by decide +kernel
theorem dX5_byWay_25 : decode cX5_byWay 25 = .ok (.getfield 10, 3) := by decide +kernel
theorem dX5_byWay_28 : decode cX5_byWay 28 = .ok (.getfield 160, 3) := by decide +kernel
theorem dX5_byWay_31 : decode cX5_byWay 31 = .ok (.iload_n 1, 1) := by decide +kernel
theorem dX5_byWay_32 : decode cX5_byWay 32 = .ok (.invokevirtual 215, 3) := by decide +kernel
theorem dX5_byWay_35 : decode cX5_byWay 35 = .ok (.ireturn, 1) := by decide +kernel
theorem dX5_wasteShare_0 : decode cX5_wasteShare 0 = .ok (.aload_n 0, 1) := by decide +kernel
theorem dX5_wasteShare_1 : decode cX5_wasteShare 1 = .ok (.getfield 10, 3) := by decide +kernel
theorem dX5_wasteShare_4 : decode cX5_wasteShare 4 = .ok (.invokevirtual 218, 3) := by decide +kernel
theorem dX5_wasteShare_7 : decode cX5_wasteShare 7 = .ok (.dreturn, 1) := by decide +kernel
theorem dX5_digest_0 : decode cX5_digest 0 = .ok (.ldc2_w 222, 3) := by decide +kernel
theorem dX5_digest_3 : decode cX5_digest 3 = .ok (.lstore_n 1, 1) := by decide +kernel
theorem dX5_digest_4 : decode cX5_digest 4 = .ok (.iconst 0, 1) := by decide +kernel
theorem dX5_digest_5 : decode cX5_digest 5 = .ok (.istore_n 3, 1) := by decide +kernel
theorem dX5_digest_6 : decode cX5_digest 6 = .ok (.iload_n 3, 1) := by decide +kernel
theorem dX5_digest_7 : decode cX5_digest 7 = .ok (.bipush 13, 2) := by decide +kernel
theorem dX5_digest_9 : decode cX5_digest 9 = .ok (.if_icmp .ge 20, 3) := by decide +kernel
theorem dX5_digest_12 : decode cX5_digest 12 = .ok (.lload_n 1, 1) := by decide +kernel
theorem dX5_digest_13 : decode cX5_digest 13 = .ok (.aload_n 0, 1) := by decide +kernel
theorem dX5_digest_14 : decode cX5_digest 14 = .ok (.iload_n 3, 1) := by decide +kernel
theorem dX5_digest_15 : decode cX5_digest 15 = .ok (.invokevirtual 195, 3) := by decide +kernel
theorem dX5_digest_18 : decode cX5_digest 18 = .ok (.i2l, 1) := by decide +kernel
theorem dX5_digest_19 : decode cX5_digest 19 = .ok (.invokestatic 224, 3) := by decide +kernel
theorem dX5_digest_22 : decode cX5_digest 22 = .ok (.lstore_n 1, 1) := by decide +kernel
theorem dX5_digest_23 : decode cX5_digest 23 = .ok (.iinc 3 1, 3) := by decide +kernel
theorem dX5_digest_26 : decode cX5_digest 26 = .ok (.goto (-20), 3) := by decide +kernel
theorem dX5_digest_29 : decode cX5_digest 29 = .ok (.iconst 0, 1) := by decide +kernel
theorem dX5_digest_30 : decode cX5_digest 30 = .ok (.istore_n 3, 1) := by decide +kernel
theorem dX5_digest_31 : decode cX5_digest 31 = .ok (.iload_n 3, 1) := by decide +kernel
theorem dX5_digest_32 : decode cX5_digest 32 = .ok (.iconst 2, 1) := by decide +kernel
theorem dX5_digest_33 : decode cX5_digest 33 = .ok (.if_icmp .ge 23, 3) := by decide +kernel
theorem dX5_digest_36 : decode cX5_digest 36 = .ok (.lload_n 1, 1) := by decide +kernel
theorem dX5_digest_37 : decode cX5_digest 37 = .ok (.aload_n 0, 1) := by decide +kernel
theorem dX5_digest_38 : decode cX5_digest 38 = .ok (.getfield 10, 3) := by decide +kernel
theorem dX5_digest_41 : decode cX5_digest 41 = .ok (.iload_n 3, 1) := by decide +kernel
theorem dX5_digest_42 : decode cX5_digest 42 = .ok (.invokevirtual 198, 3) := by decide +kernel
theorem dX5_digest_45 : decode cX5_digest 45 = .ok (.i2l, 1) := by decide +kernel
theorem dX5_digest_46 : decode cX5_digest 46 = .ok (.invokestatic 224, 3) := by decide +kernel
theorem dX5_digest_49 : decode cX5_digest 49 = .ok (.lstore_n 1, 1) := by decide +kernel
theorem dX5_digest_50 : decode cX5_digest 50 = .ok (.iinc 3 1, 3) := by decide +kernel
theorem dX5_digest_53 : decode cX5_digest 53 = .ok (.goto (-22), 3) := by decide +kernel
theorem dX5_digest_56 : decode cX5_digest 56 = .ok (.aload_n 0, 1) := by decide +kernel
theorem dX5_digest_57 : decode cX5_digest 57 = .ok (.lload_n 1, 1) := by decide +kernel
theorem dX5_digest_58 : decode cX5_digest 58 = .ok (.invokevirtual 228, 3) := by decide +kernel
theorem dX5_digest_61 : decode cX5_digest 61 = .ok (.lstore_n 1, 1) := by decide +kernel
theorem dX5_digest_62 : decode cX5_digest 62 = .ok (.aload_n 0, 1) := by decide +kernel
theorem dX5_digest_63 : decode cX5_digest 63 = .ok (.lload_n 1, 1) := by decide +kernel
theorem dX5_digest_64 : decode cX5_digest 64 = .ok (.invokevirtual 232, 3) := by decide +kernel
theorem dX5_digest_67 : decode cX5_digest 67 = .ok (.lstore_n 1, 1) := by decide +kernel
theorem dX5_digest_68 : decode cX5_digest 68 = .ok (.aload_n 0, 1) := by decide +kernel
theorem dX5_digest_69 : decode cX5_digest 69 = .ok (.lload_n 1, 1) := by decide +kernel
theorem dX5_digest_70 : decode cX5_digest 70 = .ok (.iconst 1, 1) := by decide +kernel
theorem dX5_digest_71 : decode cX5_digest 71 = .ok (.invokevirtual 235, 3) := by decide +kernel
theorem dX5_digest_74 : decode cX5_digest 74 = .ok (.lstore_n 1, 1) := by decide +kernel
theorem dX5_digest_75 : decode cX5_digest 75 = .ok (.aload_n 0, 1) := by decide +kernel
theorem dX5_digest_76 : decode cX5_digest 76 = .ok (.lload_n 1, 1) := by decide +kernel
theorem dX5_digest_77 : decode cX5_digest 77 = .ok (.bipush 7, 2) := by decide +kernel
theorem dX5_digest_79 : decode cX5_digest 79 = .ok (.invokevirtual 235, 3) := by decide +kernel
theorem dX5_digest_82 : decode cX5_digest 82 = .ok (.lstore_n 1, 1) := by decide +kernel
theorem dX5_digest_83 : decode cX5_digest 83 = .ok (.aload_n 0, 1) := by decide +kernel
theorem dX5_digest_84 : decode cX5_digest 84 = .ok (.lload_n 1, 1) := by decide +kernel
theorem dX5_digest_85 : decode cX5_digest 85 = .ok (.bipush 50, 2) := by decide +kernel
theorem dX5_digest_87 : decode cX5_digest 87 = .ok (.invokevirtual 235, 3) := by decide +kernel
theorem dX5_digest_90 : decode cX5_digest 90 = .ok (.lstore_n 1, 1) := by decide +kernel
theorem dX5_digest_91 : decode cX5_digest 91 = .ok (.lload_n 1, 1) := by decide +kernel
theorem dX5_digest_92 : decode cX5_digest 92 = .ok (.aload_n 0, 1) := by decide +kernel
theorem dX5_digest_93 : decode cX5_digest 93 = .ok (.getfield 10, 3) := by decide +kernel
theorem dX5_digest_96 : decode cX5_digest 96 = .ok (.invokevirtual 212, 3) := by decide +kernel
theorem dX5_digest_99 : decode cX5_digest 99 = .ok (.i2l, 1) := by decide +kernel
theorem dX5_digest_100 : decode cX5_digest 100 = .ok (.invokestatic 224, 3) := by decide +kernel
theorem dX5_digest_103 : decode cX5_digest 103 = .ok (.lstore_n 1, 1) := by decide +kernel
theorem dX5_digest_104 : decode cX5_digest 104 = .ok (.lload_n 1, 1) := by decide +kernel
theorem dX5_digest_105 : decode cX5_digest 105 = .ok (.aload_n 0, 1) := by decide +kernel
theorem dX5_digest_106 : decode cX5_digest 106 = .ok (.getfield 10, 3) := by decide +kernel
theorem dX5_digest_109 : decode cX5_digest 109 = .ok (.invokevirtual 218, 3) := by decide +kernel
theorem dX5_digest_112 : decode cX5_digest 112 = .ok (.invokestatic 239, 3) := by decide +kernel
theorem dX5_digest_115 : decode cX5_digest 115 = .ok (.invokestatic 224, 3) := by decide +kernel
theorem dX5_digest_118 : decode cX5_digest 118 = .ok (.lstore_n 1, 1) := by decide +kernel
theorem dX5_digest_119 : decode cX5_digest 119 = .ok (.lload_n 1, 1) := by decide +kernel
theorem dX5_digest_120 : decode cX5_digest 120 = .ok (.aload_n 0, 1) := by decide +kernel
theorem dX5_digest_121 : decode cX5_digest 121 = .ok (.getfield 26, 3) := by decide +kernel
theorem dX5_digest_124 : decode cX5_digest 124 = .ok (.getfield 133, 3) := by decide +kernel
theorem dX5_digest_127 : decode cX5_digest 127 = .ok (.i2l, 1) := by decide +kernel
theorem dX5_digest_128 : decode cX5_digest 128 = .ok (.invokestatic 224, 3) := by decide +kernel
theorem dX5_digest_131 : decode cX5_digest 131 = .ok (.lstore_n 1, 1) := by decide +kernel
theorem dX5_digest_132 : decode cX5_digest 132 = .ok (.iconst 0, 1) := by decide +kernel
theorem dX5_digest_133 : decode cX5_digest 133 = .ok (.istore_n 3, 1) := by decide +kernel
theorem dX5_digest_134 : decode cX5_digest 134 = .ok (.iload_n 3, 1) := by decide +kernel
theorem dX5_digest_135 : decode cX5_digest 135 = .ok (.aload_n 0, 1) := by decide +kernel
theorem dX5_digest_136 : decode cX5_digest 136 = .ok (.getfield 26, 3) := by decide +kernel
theorem dX5_digest_139 : decode cX5_digest 139 = .ok (.getfield 133, 3) := by decide +kernel
theorem dX5_digest_142 : decode cX5_digest 142 = .ok (.if_icmp .ge 23, 3) := by decide +kernel
theorem dX5_digest_145 : decode cX5_digest 145 = .ok (.lload_n 1, 1) := by decide +kernel
theorem dX5_digest_146 : decode cX5_digest 146 = .ok (.aload_n 0, 1) := by decide +kernel
theorem dX5_digest_147 : decode cX5_digest 147 = .ok (.getfield 26, 3) := by decide +kernel
theorem dX5_digest_150 : decode cX5_digest 150 = .ok (.iload_n 3, 1) := by decide +kernel
theorem dX5_digest_151 : decode cX5_digest 151 = .ok (.invokevirtual 137, 3) := by decide +kernel
theorem dX5_digest_154 : decode cX5_digest 154 = .ok (.i2l, 1) := by decide +kernel
theorem dX5_digest_155 : decode cX5_digest 155 = .ok (.invokestatic 224, 3) := by decide +kernel
theorem dX5_digest_158 : decode cX5_digest 158 = .ok (.lstore_n 1, 1) := by decide +kernel
theorem dX5_digest_159 : decode cX5_digest 159 = .ok (.iinc 3 1, 3) := by decide +kernel
theorem dX5_digest_162 : decode cX5_digest 162 = .ok (.goto (-28), 3) := by decide +kernel
theorem dX5_digest_165 : decode cX5_digest 165 = .ok (.lload_n 1, 1) := by decide +kernel
theorem dX5_digest_166 : decode cX5_digest 166 = .ok (.lreturn, 1) := by decide +kernel
theorem dX5_carryOut_0 : decode cX5_carryOut 0 = .ok (.iload_n 1, 1) := by decide +kernel
theorem dX5_carryOut_1 : decode cX5_carryOut 1 = .ok (.bipush 119, 2) := by decide +kernel
theorem dX5_carryOut_3 : decode cX5_carryOut 3 = .ok (.if_icmp .ne 21, 3) := by decide +kernel
theorem dX5_carryOut_6 : decode cX5_carryOut 6 = .ok (.aload_n 0, 1) := by decide +kernel
theorem dX5_carryOut_7 : decode cX5_carryOut 7 = .ok (.getfield 10, 3) := by decide +kernel
theorem dX5_carryOut_10 : decode cX5_carryOut 10 = .ok (.iload_n 2, 1) := by decide +kernel
theorem dX5_carryOut_11 : decode cX5_carryOut 11 = .ok (.invokevirtual 63, 3) := by decide +kernel
theorem dX5_carryOut_14 : decode cX5_carryOut 14 = .ok (.iconst (-1), 1) := by decide +kernel
theorem dX5_carryOut_15 : decode cX5_carryOut 15 = .ok (.if_icmp .eq 7, 3) := by decide +kernel
theorem dX5_carryOut_18 : decode cX5_carryOut 18 = .ok (.iconst 1, 1) := by decide +kernel
theorem dX5_carryOut_19 : decode cX5_carryOut 19 = .ok (.goto 4, 3) := by decide +kernel
theorem dX5_carryOut_22 : decode cX5_carryOut 22 = .ok (.iconst 0, 1) := by decide +kernel
theorem dX5_carryOut_23 : decode cX5_carryOut 23 = .ok (.ireturn, 1) := by decide +kernel
theorem dX5_carryOut_24 : decode cX5_carryOut 24 = .ok (.aload_n 0, 1) := by decide +kernel
theorem dX5_carryOut_25 : decode cX5_carryOut 25 = .ok (.getfield 10, 3) := by decide +kernel
theorem dX5_carryOut_28 : decode cX5_carryOut 28 = .ok (.iload_n 2, 1) := by decide +kernel
theorem dX5_carryOut_29 : decode cX5_carryOut 29 = .ok (.invokevirtual 71, 3) := by decide +kernel
theorem dX5_carryOut_32 : decode cX5_carryOut 32 = .ok (.iconst (-1), 1) := by decide +kernel
theorem dX5_carryOut_33 : decode cX5_carryOut 33 = .ok (.if_icmp .eq 7, 3) := by decide +kernel
theorem dX5_carryOut_36 : decode cX5_carryOut 36 = .ok (.iconst 1, 1) := by decide +kernel
theorem dX5_carryOut_37 : decode cX5_carryOut 37 = .ok (.goto 4, 3) := by decide +kernel
theorem dX5_carryOut_40 : decode cX5_carryOut 40 = .ok (.iconst 0, 1) := by decide +kernel
theorem dX5_carryOut_41 : decode cX5_carryOut 41 = .ok (.ireturn, 1) := by decide +kernel
theorem dX5_countOf_0 : decode cX5_countOf 0 = .ok (.iload_n 1, 1) := by decide +kernel
theorem dX5_countOf_1 : decode cX5_countOf 1 = .ok (.bipush 12, 2) := by decide +kernel
theorem dX5_countOf_3 : decode cX5_countOf 3 = .ok (.if_icmp .ne 13, 3) := by decide +kernel
theorem dX5_countOf_6 : decode cX5_countOf 6 = .ok (.aload_n 0, 1) := by decide +kernel
theorem dX5_countOf_7 : decode cX5_countOf 7 = .ok (.getfield 19, 3) := by decide +kernel
theorem dX5_countOf_10 : decode cX5_countOf 10 = .ok (.getfield 149, 3) := by decide +kernel
theorem dX5_countOf_13 : decode cX5_countOf 13 = .ok (.goto 11, 3) := by decide +kernel
theorem dX5_countOf_16 : decode cX5_countOf 16 = .ok (.aload_n 0, 1) := by decide +kernel
theorem dX5_countOf_17 : decode cX5_countOf 17 = .ok (.getfield 10, 3) := by decide +kernel
theorem dX5_countOf_20 : decode cX5_countOf 20 = .ok (.iload_n 1, 1) := by decide +kernel
theorem dX5_countOf_21 : decode cX5_countOf 21 = .ok (.invokevirtual 243, 3) := by decide +kernel
theorem dX5_countOf_24 : decode cX5_countOf 24 = .ok (.ireturn, 1) := by decide +kernel
theorem dX5_mixedWithBlocks_0 : decode cX5_mixedWithBlocks 0 = .ok (.lload_n 1, 1) := by decide +kernel
theorem dX5_mixedWithBlocks_1 : decode cX5_mixedWithBlocks 1 = .ok (.lstore_n 3, 1) := by decide +kernel
theorem dX5_mixedWithBlocks_2 : decode cX5_mixedWithBlocks 2 = .ok (.iconst 0, 1) := by decide +kernel
theorem dX5_mixedWithBlocks_3 : decode cX5_mixedWithBlocks 3 = .ok (.istore 5, 2) := by decide +kernel
theorem dX5_mixedWithBlocks_5 : decode cX5_mixedWithBlocks 5 = .ok (.iload 5, 2) := by decide +kernel
theorem dX5_mixedWithBlocks_7 : decode cX5_mixedWithBlocks 7 = .ok (.aload_n 0, 1) := by decide +kernel
theorem dX5_mixedWithBlocks_8 : decode cX5_mixedWithBlocks 8 = .ok (.getfield 10, 3) := by decide +kernel
theorem dX5_mixedWithBlocks_11 : decode cX5_mixedWithBlocks 11 = .ok (.getfield 160, 3) := by decide +kernel
theorem dX5_mixedWithBlocks_14 : decode cX5_mixedWithBlocks 14 = .ok (.getfield 244, 3) := by decide +kernel
theorem dX5_mixedWithBlocks_17 : decode cX5_mixedWithBlocks 17 = .ok (.if_icmp .ge 59, 3) := by decide +kernel
theorem dX5_mixedWithBlocks_20 : decode cX5_mixedWithBlocks 20 = .ok (.iconst 0, 1) := by decide +kernel
theorem dX5_mixedWithBlocks_21 : decode cX5_mixedWithBlocks 21 = .ok (.istore 6, 2) := by decide +kernel
theorem dX5_mixedWithBlocks_23 : decode cX5_mixedWithBlocks 23 = .ok (.iload 6, 2) := by decide +kernel
theorem dX5_mixedWithBlocks_25 : decode cX5_mixedWithBlocks 25 = .ok (.iconst 5, 1) := by decide +kernel
theorem dX5_mixedWithBlocks_26 : decode cX5_mixedWithBlocks 26 = .ok (.if_icmp .ge 26, 3) := by decide +kernel
theorem dX5_mixedWithBlocks_29 : decode cX5_mixedWithBlocks 29 = .ok (.lload_n 3, 1) := by decide +kernel
theorem dX5_mixedWithBlocks_30 : decode cX5_mixedWithBlocks 30 = .ok (.aload_n 0, 1) := by decide +kernel
theorem dX5_mixedWithBlocks_31 : decode cX5_mixedWithBlocks 31 = .ok (.getfield 10, 3) := by decide +kernel
theorem dX5_mixedWithBlocks_34 : decode cX5_mixedWithBlocks 34 = .ok (.iload 5, 2) := by decide +kernel
theorem dX5_mixedWithBlocks_36 : decode cX5_mixedWithBlocks 36 = .ok (.iload 6, 2) := by decide +kernel
theorem dX5_mixedWithBlocks_38 : decode cX5_mixedWithBlocks 38 = .ok (.invokevirtual 173, 3) := by decide +kernel
theorem dX5_mixedWithBlocks_41 : decode cX5_mixedWithBlocks 41 = .ok (.i2l, 1) := by decide +kernel
theorem dX5_mixedWithBlocks_42 : decode cX5_mixedWithBlocks 42 = .ok (.invokestatic 224, 3) := by decide +kernel
theorem dX5_mixedWithBlocks_45 : decode cX5_mixedWithBlocks 45 = .ok (.lstore_n 3, 1) := by decide +kernel
theorem dX5_mixedWithBlocks_46 : decode cX5_mixedWithBlocks 46 = .ok (.iinc 6 1, 3) := by decide +kernel
theorem dX5_mixedWithBlocks_49 : decode cX5_mixedWithBlocks 49 = .ok (.goto (-26), 3) := by decide +kernel
theorem dX5_mixedWithBlocks_52 : decode cX5_mixedWithBlocks 52 = .ok (.lload_n 3, 1) := by decide +kernel
theorem dX5_mixedWithBlocks_53 : decode cX5_mixedWithBlocks 53 = .ok (.aload_n 0, 1) := by decide +kernel
theorem dX5_mixedWithBlocks_54 : decode cX5_mixedWithBlocks 54 = .ok (.getfield 10, 3) := by decide +kernel
theorem dX5_mixedWithBlocks_57 : decode cX5_mixedWithBlocks 57 = .ok (.getfield 160, 3) := by decide +kernel
theorem dX5_mixedWithBlocks_60 : decode cX5_mixedWithBlocks 60 = .ok (.iload 5, 2) := by decide +kernel
theorem dX5_mixedWithBlocks_62 : decode cX5_mixedWithBlocks 62 = .ok (.invokevirtual 215, 3) := by decide +kernel
theorem dX5_mixedWithBlocks_65 : decode cX5_mixedWithBlocks 65 = .ok (.i2l, 1) := by decide +kernel
theorem dX5_mixedWithBlocks_66 : decode cX5_mixedWithBlocks 66 = .ok (.invokestatic 224, 3) := by decide +kernel
theorem dX5_mixedWithBlocks_69 : decode cX5_mixedWithBlocks 69 = .ok (.lstore_n 3, 1) := by decide +kernel
theorem dX5_mixedWithBlocks_70 : decode cX5_mixedWithBlocks 70 = .ok (.iinc 5 1, 3) := by decide +kernel
theorem dX5_mixedWithBlocks_73 : decode cX5_mixedWithBlocks 73 = .ok (.goto (-68), 3) := by decide +kernel
theorem dX5_mixedWithBlocks_76 : decode cX5_mixedWithBlocks 76 = .ok (.lload_n 3, 1) := by decide +kernel
theorem dX5_mixedWithBlocks_77 : decode cX5_mixedWithBlocks 77 = .ok (.lreturn, 1) := by decide +kernel
theorem dX5_mixedWithUses_0 : decode cX5_mixedWithUses 0 = .ok (.lload_n 1, 1) := by decide +kernel
theorem dX5_mixedWithUses_1 : decode cX5_mixedWithUses 1 = .ok (.lstore_n 3, 1) := by decide +kernel
theorem dX5_mixedWithUses_2 : decode cX5_mixedWithUses 2 = .ok (.iconst 0, 1) := by decide +kernel
theorem dX5_mixedWithUses_3 : decode cX5_mixedWithUses 3 = .ok (.istore 5, 2) := by decide +kernel
theorem dX5_mixedWithUses_5 : decode cX5_mixedWithUses 5 = .ok (.iload 5, 2) := by decide +kernel
theorem dX5_mixedWithUses_7 : decode cX5_mixedWithUses 7 = .ok (.bipush 24, 2) := by decide +kernel
theorem dX5_mixedWithUses_9 : decode cX5_mixedWithUses 9 = .ok (.if_icmp .ge 71, 3) := by decide +kernel
theorem dX5_mixedWithUses_12 : decode cX5_mixedWithUses 12 = .ok (.iconst 0, 1) := by decide +kernel
theorem dX5_mixedWithUses_13 : decode cX5_mixedWithUses 13 = .ok (.istore 6, 2) := by decide +kernel
theorem dX5_mixedWithUses_15 : decode cX5_mixedWithUses 15 = .ok (.iload 6, 2) := by decide +kernel
theorem dX5_mixedWithUses_17 : decode cX5_mixedWithUses 17 = .ok (.iconst 5, 1) := by decide +kernel
theorem dX5_mixedWithUses_18 : decode cX5_mixedWithUses 18 = .ok (.if_icmp .ge 26, 3) := by decide +kernel
theorem dX5_mixedWithUses_21 : decode cX5_mixedWithUses 21 = .ok (.lload_n 3, 1) := by decide +kernel
theorem dX5_mixedWithUses_22 : decode cX5_mixedWithUses 22 = .ok (.aload_n 0, 1) := by decide +kernel
theorem dX5_mixedWithUses_23 : decode cX5_mixedWithUses 23 = .ok (.getfield 10, 3) := by decide +kernel
theorem dX5_mixedWithUses_26 : decode cX5_mixedWithUses 26 = .ok (.iload 5, 2) := by decide +kernel
theorem dX5_mixedWithUses_28 : decode cX5_mixedWithUses 28 = .ok (.iload 6, 2) := by decide +kernel
theorem dX5_mixedWithUses_30 : decode cX5_mixedWithUses 30 = .ok (.invokevirtual 178, 3) := by decide +kernel
theorem dX5_mixedWithUses_33 : decode cX5_mixedWithUses 33 = .ok (.i2l, 1) := by decide +kernel
theorem dX5_mixedWithUses_34 : decode cX5_mixedWithUses 34 = .ok (.invokestatic 224, 3) := by decide +kernel
theorem dX5_mixedWithUses_37 : decode cX5_mixedWithUses 37 = .ok (.lstore_n 3, 1) := by decide +kernel
theorem dX5_mixedWithUses_38 : decode cX5_mixedWithUses 38 = .ok (.iinc 6 1, 3) := by decide +kernel
theorem dX5_mixedWithUses_41 : decode cX5_mixedWithUses 41 = .ok (.goto (-26), 3) := by decide +kernel
theorem dX5_mixedWithUses_44 : decode cX5_mixedWithUses 44 = .ok (.lload_n 3, 1) := by decide +kernel
theorem dX5_mixedWithUses_45 : decode cX5_mixedWithUses 45 = .ok (.aload_n 0, 1) := by decide +kernel
theorem dX5_mixedWithUses_46 : decode cX5_mixedWithUses 46 = .ok (.getfield 10, 3) := by decide +kernel
theorem dX5_mixedWithUses_49 : decode cX5_mixedWithUses 49 = .ok (.iload 5, 2) := by decide +kernel
theorem dX5_mixedWithUses_51 : decode cX5_mixedWithUses 51 = .ok (.invokevirtual 206, 3) := by decide +kernel
theorem dX5_mixedWithUses_54 : decode cX5_mixedWithUses 54 = .ok (.i2l, 1) := by decide +kernel
theorem dX5_mixedWithUses_55 : decode cX5_mixedWithUses 55 = .ok (.invokestatic 224, 3) := by decide +kernel
theorem dX5_mixedWithUses_58 : decode cX5_mixedWithUses 58 = .ok (.lstore_n 3, 1) := by decide +kernel
theorem dX5_mixedWithUses_59 : decode cX5_mixedWithUses 59 = .ok (.lload_n 3, 1) := by decide +kernel
theorem dX5_mixedWithUses_60 : decode cX5_mixedWithUses 60 = .ok (.aload_n 0, 1) := by decide +kernel
theorem dX5_mixedWithUses_61 : decode cX5_mixedWithUses 61 = .ok (.getfield 10, 3) := by decide +kernel
theorem dX5_mixedWithUses_64 : decode cX5_mixedWithUses 64 = .ok (.iload 5, 2) := by decide +kernel
theorem dX5_mixedWithUses_66 : decode cX5_mixedWithUses 66 = .ok (.invokevirtual 209, 3) := by decide +kernel
theorem dX5_mixedWithUses_69 : decode cX5_mixedWithUses 69 = .ok (.i2l, 1) := by decide +kernel
theorem dX5_mixedWithUses_70 : decode cX5_mixedWithUses 70 = .ok (.invokestatic 224, 3) := by decide +kernel
theorem dX5_mixedWithUses_73 : decode cX5_mixedWithUses 73 = .ok (.lstore_n 3, 1) := by decide +kernel
theorem dX5_mixedWithUses_74 : decode cX5_mixedWithUses 74 = .ok (.iinc 5 1, 3) := by decide +kernel
theorem dX5_mixedWithUses_77 : decode cX5_mixedWithUses 77 = .ok (.goto (-72), 3) := by decide +kernel
theorem dX5_mixedWithUses_80 : decode cX5_mixedWithUses 80 = .ok (.lload_n 3, 1) := by decide +kernel
theorem dX5_mixedWithUses_81 : decode cX5_mixedWithUses 81 = .ok (.lreturn, 1) := by decide +kernel
theorem dX5_mixedWithWish_0 : decode cX5_mixedWithWish 0 = .ok (.lload_n 1, 1) := by decide +kernel
theorem dX5_mixedWithWish_1 : decode cX5_mixedWithWish 1 = .ok (.lstore 4, 2) := by decide +kernel
theorem dX5_mixedWithWish_3 : decode cX5_mixedWithWish 3 = .ok (.iconst 0, 1) := by decide +kernel
theorem dX5_mixedWithWish_4 : decode cX5_mixedWithWish 4 = .ok (.istore 6, 2) := by decide +kernel
theorem dX5_mixedWithWish_6 : decode cX5_mixedWithWish 6 = .ok (.iload 6, 2) := by decide +kernel
theorem dX5_mixedWithWish_8 : decode cX5_mixedWithWish 8 = .ok (.iconst 4, 1) := by decide +kernel
theorem dX5_mixedWithWish_9 : decode cX5_mixedWithWish 9 = .ok (.if_icmp .ge 27, 3) := by decide +kernel
theorem dX5_mixedWithWish_12 : decode cX5_mixedWithWish 12 = .ok (.lload 4, 2) := by decide +kernel
theorem dX5_mixedWithWish_14 : decode cX5_mixedWithWish 14 = .ok (.aload_n 0, 1) := by decide +kernel
theorem dX5_mixedWithWish_15 : decode cX5_mixedWithWish 15 = .ok (.getfield 10, 3) := by decide +kernel
theorem dX5_mixedWithWish_18 : decode cX5_mixedWithWish 18 = .ok (.iload_n 3, 1) := by decide +kernel
theorem dX5_mixedWithWish_19 : decode cX5_mixedWithWish 19 = .ok (.iload 6, 2) := by decide +kernel
theorem dX5_mixedWithWish_21 : decode cX5_mixedWithWish 21 = .ok (.invokevirtual 203, 3) := by decide +kernel
theorem dX5_mixedWithWish_24 : decode cX5_mixedWithWish 24 = .ok (.i2l, 1) := by decide +kernel
theorem dX5_mixedWithWish_25 : decode cX5_mixedWithWish 25 = .ok (.invokestatic 224, 3) := by decide +kernel
theorem dX5_mixedWithWish_28 : decode cX5_mixedWithWish 28 = .ok (.lstore 4, 2) := by decide +kernel
theorem dX5_mixedWithWish_30 : decode cX5_mixedWithWish 30 = .ok (.iinc 6 1, 3) := by decide +kernel
theorem dX5_mixedWithWish_33 : decode cX5_mixedWithWish 33 = .ok (.goto (-27), 3) := by decide +kernel
theorem dX5_mixedWithWish_36 : decode cX5_mixedWithWish 36 = .ok (.lload 4, 2) := by decide +kernel
theorem dX5_mixedWithWish_38 : decode cX5_mixedWithWish 38 = .ok (.lreturn, 1) := by decide +kernel
theorem dX5_mixed_0 : decode cX5_mixed 0 = .ok (.ldc2_w 245, 3) := by decide +kernel
theorem dX5_mixed_3 : decode cX5_mixed 3 = .ok (.lload_n 0, 1) := by decide +kernel
theorem dX5_mixed_4 : decode cX5_mixed 4 = .ok (.lmul, 1) := by decide +kernel
theorem dX5_mixed_5 : decode cX5_mixed 5 = .ok (.lload_n 2, 1) := by decide +kernel
theorem dX5_mixed_6 : decode cX5_mixed 6 = .ok (.ladd, 1) := by decide +kernel
theorem dX5_mixed_7 : decode cX5_mixed 7 = .ok (.lreturn, 1) := by decide +kernel
theorem dX5_bitsOfShare_0 : decode cX5_bitsOfShare 0 = .ok (.dload_n 0, 1) := by decide +kernel
theorem dX5_bitsOfShare_1 : decode cX5_bitsOfShare 1 = .ok (.dconst 0, 1) := by decide +kernel
theorem dX5_bitsOfShare_2 : decode cX5_bitsOfShare 2 = .ok (.dcmp .g, 1) := by decide +kernel
theorem dX5_bitsOfShare_3 : decode cX5_bitsOfShare 3 = .ok (.ifCond .gt 5, 3) := by decide +kernel
theorem dX5_bitsOfShare_6 : decode cX5_bitsOfShare 6 = .ok (.lconst 0, 1) := by decide +kernel
theorem dX5_bitsOfShare_7 : decode cX5_bitsOfShare 7 = .ok (.lreturn, 1) := by decide +kernel
theorem dX5_bitsOfShare_8 : decode cX5_bitsOfShare 8 = .ok (.dload_n 0, 1) := by decide +kernel
theorem dX5_bitsOfShare_9 : decode cX5_bitsOfShare 9 = .ok (.dstore_n 2, 1) := by decide +kernel
theorem dX5_bitsOfShare_10 : decode cX5_bitsOfShare 10 = .ok (.ldc2_w 247, 3) := by decide +kernel
theorem dX5_bitsOfShare_13 : decode cX5_bitsOfShare 13 = .ok (.lstore 4, 2) := by decide +kernel
theorem dX5_bitsOfShare_15 : decode cX5_bitsOfShare 15 = .ok (.iconst 0, 1) := by decide +kernel
theorem dX5_bitsOfShare_16 : decode cX5_bitsOfShare 16 = .ok (.istore 6, 2) := by decide +kernel
theorem dX5_bitsOfShare_18 : decode cX5_bitsOfShare 18 = .ok (.iload 6, 2) := by decide +kernel
theorem dX5_bitsOfShare_20 : decode cX5_bitsOfShare 20 = .ok (.sipush 1022, 3) := by decide +kernel
theorem dX5_bitsOfShare_23 : decode cX5_bitsOfShare 23 = .ok (.if_icmp .ge 27, 3) := by decide +kernel
theorem dX5_bitsOfShare_26 : decode cX5_bitsOfShare 26 = .ok (.dload_n 2, 1) := by decide +kernel
theorem dX5_bitsOfShare_27 : decode cX5_bitsOfShare 27 = .ok (.dconst 1, 1) := by decide +kernel
theorem dX5_bitsOfShare_28 : decode cX5_bitsOfShare 28 = .ok (.dcmp .g, 1) := by decide +kernel
theorem dX5_bitsOfShare_29 : decode cX5_bitsOfShare 29 = .ok (.ifCond .ge 21, 3) := by decide +kernel
theorem dX5_bitsOfShare_32 : decode cX5_bitsOfShare 32 = .ok (.dload_n 2, 1) := by decide +kernel
theorem dX5_bitsOfShare_33 : decode cX5_bitsOfShare 33 = .ok (.ldc2_w 249, 3) := by decide +kernel
theorem dX5_bitsOfShare_36 : decode cX5_bitsOfShare 36 = .ok (.dmul, 1) := by decide +kernel
theorem dX5_bitsOfShare_37 : decode cX5_bitsOfShare 37 = .ok (.dstore_n 2, 1) := by decide +kernel
theorem dX5_bitsOfShare_38 : decode cX5_bitsOfShare 38 = .ok (.lload 4, 2) := by decide +kernel
theorem dX5_bitsOfShare_40 : decode cX5_bitsOfShare 40 = .ok (.lconst 1, 1) := by decide +kernel
theorem dX5_bitsOfShare_41 : decode cX5_bitsOfShare 41 = .ok (.lsub, 1) := by decide +kernel
theorem dX5_bitsOfShare_42 : decode cX5_bitsOfShare 42 = .ok (.lstore 4, 2) := by decide +kernel
theorem dX5_bitsOfShare_44 : decode cX5_bitsOfShare 44 = .ok (.iinc 6 1, 3) := by decide +kernel
theorem dX5_bitsOfShare_47 : decode cX5_bitsOfShare 47 = .ok (.goto (-29), 3) := by decide +kernel
theorem dX5_bitsOfShare_50 : decode cX5_bitsOfShare 50 = .ok (.dload_n 2, 1) := by decide +kernel
theorem dX5_bitsOfShare_51 : decode cX5_bitsOfShare 51 = .ok (.dconst 1, 1) := by decide +kernel
theorem dX5_bitsOfShare_52 : decode cX5_bitsOfShare 52 = .ok (.dsub, 1) := by decide +kernel
theorem dX5_bitsOfShare_53 : decode cX5_bitsOfShare 53 = .ok (.ldc2_w 251, 3) := by decide +kernel
theorem dX5_bitsOfShare_56 : decode cX5_bitsOfShare 56 = .ok (.dmul, 1) := by decide +kernel
theorem dX5_bitsOfShare_57 : decode cX5_bitsOfShare 57 = .ok (.d2l, 1) := by decide +kernel
theorem dX5_bitsOfShare_58 : decode cX5_bitsOfShare 58 = .ok (.lstore 6, 2) := by decide +kernel
theorem dX5_bitsOfShare_60 : decode cX5_bitsOfShare 60 = .ok (.lload 4, 2) := by decide +kernel
theorem dX5_bitsOfShare_62 : decode cX5_bitsOfShare 62 = .ok (.bipush 52, 2) := by decide +kernel
theorem dX5_bitsOfShare_64 : decode cX5_bitsOfShare 64 = .ok (.lshl, 1) := by decide +kernel
theorem dX5_bitsOfShare_65 : decode cX5_bitsOfShare 65 = .ok (.lload 6, 2) := by decide +kernel
theorem dX5_bitsOfShare_67 : decode cX5_bitsOfShare 67 = .ok (.lor, 1) := by decide +kernel
theorem dX5_bitsOfShare_68 : decode cX5_bitsOfShare 68 = .ok (.lreturn, 1) := by decide +kernel
theorem dX5_isWish_0 : decode cX5_isWish 0 = .ok (.iload_n 0, 1) := by decide +kernel
theorem dX5_isWish_1 : decode cX5_isWish 1 = .ok (.iconst 1, 1) := by decide +kernel
theorem dX5_isWish_2 : decode cX5_isWish 2 = .ok (.if_icmp .lt 14, 3) := by decide +kernel
theorem dX5_isWish_5 : decode cX5_isWish 5 = .ok (.iload_n 0, 1) := by decide +kernel
theorem dX5_isWish_6 : decode cX5_isWish 6 = .ok (.sipush 999, 3) := by decide +kernel
theorem dX5_isWish_9 : decode cX5_isWish 9 = .ok (.if_icmp .gt 7, 3) := by decide +kernel
theorem dX5_isWish_12 : decode cX5_isWish 12 = .ok (.iconst 1, 1) := by decide +kernel
theorem dX5_isWish_13 : decode cX5_isWish 13 = .ok (.goto 4, 3) := by decide +kernel
theorem dX5_isWish_16 : decode cX5_isWish 16 = .ok (.iconst 0, 1) := by decide +kernel
theorem dX5_isWish_17 : decode cX5_isWish 17 = .ok (.ireturn, 1) := by decide +kernel
theorem dX5_isBelow_0 : decode cX5_isBelow 0 = .ok (.iload_n 0, 1) := by decide +kernel
theorem dX5_isBelow_1 : decode cX5_isBelow 1 = .ok (.ifCond .lt 12, 3) := by decide +kernel
theorem dX5_isBelow_4 : decode cX5_isBelow 4 = .ok (.iload_n 0, 1) := by decide +kernel
theorem dX5_isBelow_5 : decode cX5_isBelow 5 = .ok (.iload_n 1, 1) := by decide +kernel
theorem dX5_isBelow_6 : decode cX5_isBelow 6 = .ok (.if_icmp .ge 7, 3) := by decide +kernel
theorem dX5_isBelow_9 : decode cX5_isBelow 9 = .ok (.iconst 1, 1) := by decide +kernel
theorem dX5_isBelow_10 : decode cX5_isBelow 10 = .ok (.goto 4, 3) := by decide +kernel
theorem dX5_isBelow_13 : decode cX5_isBelow 13 = .ok (.iconst 0, 1) := by decide +kernel
theorem dX5_isBelow_14 : decode cX5_isBelow 14 = .ok (.ireturn, 1) := by decide +kernel
theorem dX5_sizeOf_0 : decode cX5_sizeOf 0 = .ok (.getstatic 253, 3) := by decide +kernel
theorem dX5_sizeOf_3 : decode cX5_sizeOf 3 = .ok (.iload_n 0, 1) := by decide +kernel
theorem dX5_sizeOf_4 : decode cX5_sizeOf 4 = .ok (.invokestatic 257, 3) := by decide +kernel
theorem dX5_sizeOf_7 : decode cX5_sizeOf 7 = .ok (.ireturn, 1) := by decide +kernel
theorem dX5_leastOrderFor_0 : decode cX5_leastOrderFor 0 = .ok (.iconst 0, 1) := by decide +kernel
theorem dX5_leastOrderFor_1 : decode cX5_leastOrderFor 1 = .ok (.istore_n 1, 1) := by decide +kernel
theorem dX5_leastOrderFor_2 : decode cX5_leastOrderFor 2 = .ok (.iload_n 1, 1) := by decide +kernel
theorem dX5_leastOrderFor_3 : decode cX5_leastOrderFor 3 = .ok (.bipush 14, 2) := by decide +kernel
theorem dX5_leastOrderFor_5 : decode cX5_leastOrderFor 5 = .ok (.if_icmp .gt 19, 3) := by decide +kernel
theorem dX5_leastOrderFor_8 : decode cX5_leastOrderFor 8 = .ok (.iload_n 1, 1) := by decide +kernel
theorem dX5_leastOrderFor_9 : decode cX5_leastOrderFor 9 = .ok (.invokestatic 45, 3) := by decide +kernel
theorem dX5_leastOrderFor_12 : decode cX5_leastOrderFor 12 = .ok (.iload_n 0, 1) := by decide +kernel
theorem dX5_leastOrderFor_13 : decode cX5_leastOrderFor 13 = .ok (.if_icmp .lt 5, 3) := by decide +kernel
theorem dX5_leastOrderFor_16 : decode cX5_leastOrderFor 16 = .ok (.iload_n 1, 1) := by decide +kernel
theorem dX5_leastOrderFor_17 : decode cX5_leastOrderFor 17 = .ok (.ireturn, 1) := by decide +kernel
theorem dX5_leastOrderFor_18 : decode cX5_leastOrderFor 18 = .ok (.iinc 1 1, 3) := by decide +kernel
theorem dX5_leastOrderFor_21 : decode cX5_leastOrderFor 21 = .ok (.goto (-19), 3) := by decide +kernel
theorem dX5_leastOrderFor_24 : decode cX5_leastOrderFor 24 = .ok (.iconst (-1), 1) := by decide +kernel
theorem dX5_leastOrderFor_25 : decode cX5_leastOrderFor 25 = .ok (.ireturn, 1) := by decide +kernel
theorem dX5_valueAt_0 : decode cX5_valueAt 0 = .ok (.iload_n 1, 1) := by decide +kernel
theorem dX5_valueAt_1 : decode cX5_valueAt 1 = .ok (.ifCond .lt 15, 3) := by decide +kernel
theorem dX5_valueAt_4 : decode cX5_valueAt 4 = .ok (.iload_n 1, 1) := by decide +kernel
theorem dX5_valueAt_5 : decode cX5_valueAt 5 = .ok (.aload_n 0, 1) := by decide +kernel
theorem dX5_valueAt_6 : decode cX5_valueAt 6 = .ok (.arraylength, 1) := by decide +kernel
theorem dX5_valueAt_7 : decode cX5_valueAt 7 = .ok (.if_icmp .ge 9, 3) := by decide +kernel
theorem dX5_valueAt_10 : decode cX5_valueAt 10 = .ok (.aload_n 0, 1) := by decide +kernel
theorem dX5_valueAt_11 : decode cX5_valueAt 11 = .ok (.iload_n 1, 1) := by decide +kernel
theorem dX5_valueAt_12 : decode cX5_valueAt 12 = .ok (.iaload, 1) := by decide +kernel
theorem dX5_valueAt_13 : decode cX5_valueAt 13 = .ok (.goto 4, 3) := by decide +kernel
theorem dX5_valueAt_16 : decode cX5_valueAt 16 = .ok (.iconst (-1), 1) := by decide +kernel
theorem dX5_valueAt_17 : decode cX5_valueAt 17 = .ok (.ireturn, 1) := by decide +kernel
theorem dX5_putAt_0 : decode cX5_putAt 0 = .ok (.iload_n 1, 1) := by decide +kernel
theorem dX5_putAt_1 : decode cX5_putAt 1 = .ok (.ifCond .lt 13, 3) := by decide +kernel
theorem dX5_putAt_4 : decode cX5_putAt 4 = .ok (.iload_n 1, 1) := by decide +kernel
theorem dX5_putAt_5 : decode cX5_putAt 5 = .ok (.aload_n 0, 1) := by decide +kernel
theorem dX5_putAt_6 : decode cX5_putAt 6 = .ok (.arraylength, 1) := by decide +kernel
theorem dX5_putAt_7 : decode cX5_putAt 7 = .ok (.if_icmp .ge 7, 3) := by decide +kernel
theorem dX5_putAt_10 : decode cX5_putAt 10 = .ok (.aload_n 0, 1) := by decide +kernel
theorem dX5_putAt_11 : decode cX5_putAt 11 = .ok (.iload_n 1, 1) := by decide +kernel
theorem dX5_putAt_12 : decode cX5_putAt 12 = .ok (.iload_n 2, 1) := by decide +kernel
theorem dX5_putAt_13 : decode cX5_putAt 13 = .ok (.iastore, 1) := by decide +kernel
theorem dX5_putAt_14 : decode cX5_putAt 14 = .ok (.return_, 1) := by decide +kernel
theorem dX5_copyRow_0 : decode cX5_copyRow 0 = .ok (.iconst 0, 1) := by decide +kernel
theorem dX5_copyRow_1 : decode cX5_copyRow 1 = .ok (.istore_n 3, 1) := by decide +kernel
theorem dX5_copyRow_2 : decode cX5_copyRow 2 = .ok (.iload_n 3, 1) := by decide +kernel
theorem dX5_copyRow_3 : decode cX5_copyRow 3 = .ok (.iload_n 2, 1) := by decide +kernel
theorem dX5_copyRow_4 : decode cX5_copyRow 4 = .ok (.if_icmp .ge 27, 3) := by decide +kernel
theorem dX5_copyRow_7 : decode cX5_copyRow 7 = .ok (.iload_n 3, 1) := by decide +kernel
theorem dX5_copyRow_8 : decode cX5_copyRow 8 = .ok (.aload_n 0, 1) := by decide +kernel
theorem dX5_copyRow_9 : decode cX5_copyRow 9 = .ok (.arraylength, 1) := by decide +kernel
theorem dX5_copyRow_10 : decode cX5_copyRow 10 = .ok (.if_icmp .ge 21, 3) := by decide +kernel
theorem dX5_copyRow_13 : decode cX5_copyRow 13 = .ok (.iload_n 3, 1) := by decide +kernel
theorem dX5_copyRow_14 : decode cX5_copyRow 14 = .ok (.aload_n 1, 1) := by decide +kernel
theorem dX5_copyRow_15 : decode cX5_copyRow 15 = .ok (.arraylength, 1) := by decide +kernel
theorem dX5_copyRow_16 : decode cX5_copyRow 16 = .ok (.if_icmp .ge 15, 3) := by decide +kernel
theorem dX5_copyRow_19 : decode cX5_copyRow 19 = .ok (.aload_n 1, 1) := by decide +kernel
theorem dX5_copyRow_20 : decode cX5_copyRow 20 = .ok (.iload_n 3, 1) := by decide +kernel
theorem dX5_copyRow_21 : decode cX5_copyRow 21 = .ok (.aload_n 0, 1) := by decide +kernel
theorem dX5_copyRow_22 : decode cX5_copyRow 22 = .ok (.iload_n 3, 1) := by decide +kernel
theorem dX5_copyRow_23 : decode cX5_copyRow 23 = .ok (.iaload, 1) := by decide +kernel
theorem dX5_copyRow_24 : decode cX5_copyRow 24 = .ok (.iastore, 1) := by decide +kernel
theorem dX5_copyRow_25 : decode cX5_copyRow 25 = .ok (.iinc 3 1, 3) := by decide +kernel
theorem dX5_copyRow_28 : decode cX5_copyRow 28 = .ok (.goto (-26), 3) := by decide +kernel
theorem dX5_copyRow_31 : decode cX5_copyRow 31 = .ok (.return_, 1) := by decide +kernel
theorem dX6_init_0 : decode cX6_init 0 = .ok (.aload_n 0, 1) := by decide +kernel
theorem dX6_init_1 : decode cX6_init 1 = .ok (.invokespecial 1, 3) := by decide +kernel
theorem dX6_init_4 : decode cX6_init 4 = .ok (.aload_n 0, 1) := by decide +kernel
theorem dX6_init_5 : decode cX6_init 5 = .ok (.sipush 1312, 3) := by decide +kernel
theorem dX6_init_8 : decode cX6_init 8 = .ok (.newarray .int, 2) := by decide +kernel
theorem dX6_init_10 : decode cX6_init 10 = .ok (.putfield 7, 3) := by decide +kernel
theorem dX6_init_13 : decode cX6_init 13 = .ok (.aload_n 0, 1) := by decide +kernel
theorem dX6_init_14 : decode cX6_init 14 = .ok (.sipush 7872, 3) := by decide +kernel
theorem dX6_init_17 : decode cX6_init 17 = .ok (.newarray .int, 2) := by decide +kernel
theorem dX6_init_19 : decode cX6_init 19 = .ok (.putfield 13, 3) := by decide +kernel
theorem dX6_init_22 : decode cX6_init 22 = .ok (.aload_n 0, 1) := by decide +kernel
theorem dX6_init_23 : decode cX6_init 23 = .ok (.bipush 60, 2) := by decide +kernel
theorem dX6_init_25 : decode cX6_init 25 = .ok (.newarray .int, 2) := by decide +kernel
theorem dX6_init_27 : decode cX6_init 27 = .ok (.putfield 16, 3) := by decide +kernel
theorem dX6_init_30 : decode cX6_init 30 = .ok (.aload_n 0, 1) := by decide +kernel
theorem dX6_init_31 : decode cX6_init 31 = .ok (.sipush 1312, 3) := by decide +kernel
theorem dX6_init_34 : decode cX6_init 34 = .ok (.newarray .int, 2) := by decide +kernel
theorem dX6_init_36 : decode cX6_init 36 = .ok (.putfield 19, 3) := by decide +kernel
theorem dX6_init_39 : decode cX6_init 39 = .ok (.aload_n 0, 1) := by decide +kernel
theorem dX6_init_40 : decode cX6_init 40 = .ok (.bipush 44, 2) := by decide +kernel
theorem dX6_init_42 : decode cX6_init 42 = .ok (.newarray .int, 2) := by decide +kernel
theorem dX6_init_44 : decode cX6_init 44 = .ok (.putfield 22, 3) := by decide +kernel
theorem dX6_init_47 : decode cX6_init 47 = .ok (.aload_n 0, 1) := by decide +kernel
theorem dX6_init_48 : decode cX6_init 48 = .ok (.bipush 9, 2) := by decide +kernel
theorem dX6_init_50 : decode cX6_init 50 = .ok (.invokevirtual 25, 3) := by decide +kernel
theorem dX6_init_53 : decode cX6_init 53 = .ok (.return_, 1) := by decide +kernel
theorem dX6_thrown_0 : decode cX6_thrown 0 = .ok (.aload_n 0, 1) := by decide +kernel
theorem dX6_thrown_1 : decode cX6_thrown 1 = .ok (.getfield 29, 3) := by decide +kernel
theorem dX6_thrown_4 : decode cX6_thrown 4 = .ok (.ireturn, 1) := by decide +kernel
theorem dX6_within_0 : decode cX6_within 0 = .ok (.iload_n 0, 1) := by decide +kernel
theorem dX6_within_1 : decode cX6_within 1 = .ok (.iload_n 1, 1) := by decide +kernel
theorem dX6_within_2 : decode cX6_within 2 = .ok (.if_icmp .lt 12, 3) := by decide +kernel
theorem dX6_within_5 : decode cX6_within 5 = .ok (.iload_n 0, 1) := by decide +kernel
theorem dX6_within_6 : decode cX6_within 6 = .ok (.iload_n 2, 1) := by decide +kernel
theorem dX6_within_7 : decode cX6_within 7 = .ok (.if_icmp .gt 7, 3) := by decide +kernel
theorem dX6_within_10 : decode cX6_within 10 = .ok (.iconst 1, 1) := by decide +kernel
theorem dX6_within_11 : decode cX6_within 11 = .ok (.goto 4, 3) := by decide +kernel
theorem dX6_within_14 : decode cX6_within 14 = .ok (.iconst 0, 1) := by decide +kernel
theorem dX6_within_15 : decode cX6_within 15 = .ok (.ireturn, 1) := by decide +kernel
theorem dX6_save_0 : decode cX6_save 0 = .ok (.aload_n 0, 1) := by decide +kernel
theorem dX6_save_1 : decode cX6_save 1 = .ok (.getfield 33, 3) := by decide +kernel
theorem dX6_save_4 : decode cX6_save 4 = .ok (.bipush 6, 2) := by decide +kernel
theorem dX6_save_6 : decode cX6_save 6 = .ok (.if_icmp .ne 46, 3) := by decide +kernel
theorem dX6_save_9 : decode cX6_save 9 = .ok (.sipush 1312, 3) := by decide +kernel
theorem dX6_save_12 : decode cX6_save 12 = .ok (.istore_n 1, 1) := by decide +kernel
theorem dX6_save_13 : decode cX6_save 13 = .ok (.iload_n 1, 1) := by decide +kernel
theorem dX6_save_14 : decode cX6_save 14 = .ok (.sipush 7872, 3) := by decide +kernel
theorem dX6_save_17 : decode cX6_save 17 = .ok (.if_icmp .ge 25, 3) := by decide +kernel
theorem dX6_save_20 : decode cX6_save 20 = .ok (.aload_n 0, 1) := by decide +kernel
theorem dX6_save_21 : decode cX6_save 21 = .ok (.getfield 13, 3) := by decide +kernel
theorem dX6_save_24 : decode cX6_save 24 = .ok (.iload_n 1, 1) := by decide +kernel
theorem dX6_save_25 : decode cX6_save 25 = .ok (.sipush 1312, 3) := by decide +kernel
theorem dX6_save_28 : decode cX6_save 28 = .ok (.isub, 1) := by decide +kernel
theorem dX6_save_29 : decode cX6_save 29 = .ok (.aload_n 0, 1) := by decide +kernel
theorem dX6_save_30 : decode cX6_save 30 = .ok (.getfield 13, 3) := by decide +kernel
theorem dX6_save_33 : decode cX6_save 33 = .ok (.iload_n 1, 1) := by decide +kernel
theorem dX6_save_34 : decode cX6_save 34 = .ok (.iaload, 1) := by decide +kernel
theorem dX6_save_35 : decode cX6_save 35 = .ok (.iastore, 1) := by decide +kernel
theorem dX6_save_36 : decode cX6_save 36 = .ok (.iinc 1 1, 3) := by decide +kernel
theorem dX6_save_39 : decode cX6_save 39 = .ok (.goto (-26), 3) := by decide +kernel
theorem dX6_save_42 : decode cX6_save 42 = .ok (.aload_n 0, 1) := by decide +kernel
theorem dX6_save_43 : decode cX6_save 43 = .ok (.dup, 1) := by decide +kernel
theorem dX6_save_44 : decode cX6_save 44 = .ok (.getfield 33, 3) := by decide +kernel
theorem dX6_save_47 : decode cX6_save 47 = .ok (.iconst 1, 1) := by decide +kernel
theorem dX6_save_48 : decode cX6_save 48 = .ok (.isub, 1) := by decide +kernel
theorem dX6_save_49 : decode cX6_save 49 = .ok (.putfield 33, 3) := by decide +kernel
theorem dX6_save_52 : decode cX6_save 52 = .ok (.iconst 0, 1) := by decide +kernel
theorem dX6_save_53 : decode cX6_save 53 = .ok (.istore_n 1, 1) := by decide +kernel
theorem dX6_save_54 : decode cX6_save 54 = .ok (.iload_n 1, 1) := by decide +kernel
theorem dX6_save_55 : decode cX6_save 55 = .ok (.sipush 1312, 3) := by decide +kernel
theorem dX6_save_58 : decode cX6_save 58 = .ok (.if_icmp .ge 30, 3) := by decide +kernel
theorem dX6_save_61 : decode cX6_save 61 = .ok (.aload_n 0, 1) := by decide +kernel
theorem dX6_save_62 : decode cX6_save 62 = .ok (.getfield 13, 3) := by decide +kernel
theorem dX6_save_65 : decode cX6_save 65 = .ok (.sipush 1312, 3) := by decide +kernel
theorem dX6_save_68 : decode cX6_save 68 = .ok (.aload_n 0, 1) := by decide +kernel
theorem dX6_save_69 : decode cX6_save 69 = .ok (.getfield 33, 3) := by decide +kernel
theorem dX6_save_72 : decode cX6_save 72 = .ok (.imul, 1) := by decide +kernel
theorem dX6_save_73 : decode cX6_save 73 = .ok (.iload_n 1, 1) := by decide +kernel
theorem dX6_save_74 : decode cX6_save 74 = .ok (.iadd, 1) := by decide +kernel
theorem dX6_save_75 : decode cX6_save 75 = .ok (.aload_n 0, 1) := by decide +kernel
theorem dX6_save_76 : decode cX6_save 76 = .ok (.getfield 7, 3) := by decide +kernel
theorem dX6_save_79 : decode cX6_save 79 = .ok (.iload_n 1, 1) := by decide +kernel
theorem dX6_save_80 : decode cX6_save 80 = .ok (.iaload, 1) := by decide +kernel
theorem dX6_save_81 : decode cX6_save 81 = .ok (.iastore, 1) := by decide +kernel
theorem dX6_save_82 : decode cX6_save 82 = .ok (.iinc 1 1, 3) := by decide +kernel
theorem dX6_save_85 : decode cX6_save 85 = .ok (.goto (-31), 3) := by decide +kernel
theorem dX6_save_88 : decode cX6_save 88 = .ok (.aload_n 0, 1) := by decide +kernel
theorem dX6_save_89 : decode cX6_save 89 = .ok (.dup, 1) := by decide +kernel
theorem dX6_save_90 : decode cX6_save 90 = .ok (.getfield 33, 3) := by decide +kernel
theorem dX6_save_93 : decode cX6_save 93 = .ok (.iconst 1, 1) := by decide +kernel
theorem dX6_save_94 : decode cX6_save 94 = .ok (.iadd, 1) := by decide +kernel
theorem dX6_save_95 : decode cX6_save 95 = .ok (.putfield 33, 3) := by decide +kernel
theorem dX6_save_98 : decode cX6_save 98 = .ok (.return_, 1) := by decide +kernel
theorem dX6_of_0 : decode cX6_of 0 = .ok (.aload_n 0, 1) := by decide +kernel
theorem dX6_of_1 : decode cX6_of 1 = .ok (.getfield 7, 3) := by decide +kernel
theorem dX6_of_4 : decode cX6_of 4 = .ok (.bipush 31, 2) := by decide +kernel
theorem dX6_of_6 : decode cX6_of 6 = .ok (.iconst 4, 1) := by decide +kernel
theorem dX6_of_7 : decode cX6_of 7 = .ok (.iload_n 1, 1) := by decide +kernel
theorem dX6_of_8 : decode cX6_of 8 = .ok (.imul, 1) := by decide +kernel
theorem dX6_of_9 : decode cX6_of 9 = .ok (.iadd, 1) := by decide +kernel
theorem dX6_of_10 : decode cX6_of 10 = .ok (.iload_n 2, 1) := by decide +kernel
theorem dX6_of_11 : decode cX6_of 11 = .ok (.iadd, 1) := by decide +kernel
theorem dX6_of_12 : decode cX6_of 12 = .ok (.iaload, 1) := by decide +kernel
theorem dX6_of_13 : decode cX6_of 13 = .ok (.ireturn, 1) := by decide +kernel
theorem dX6_put_0 : decode cX6_put 0 = .ok (.aload_n 0, 1) := by decide +kernel
theorem dX6_put_1 : decode cX6_put 1 = .ok (.getfield 7, 3) := by decide +kernel
theorem dX6_put_4 : decode cX6_put 4 = .ok (.bipush 31, 2) := by decide +kernel
theorem dX6_put_6 : decode cX6_put 6 = .ok (.iconst 4, 1) := by decide +kernel
theorem dX6_put_7 : decode cX6_put 7 = .ok (.iload_n 1, 1) := by decide +kernel
theorem dX6_put_8 : decode cX6_put 8 = .ok (.imul, 1) := by decide +kernel
theorem dX6_put_9 : decode cX6_put 9 = .ok (.iadd, 1) := by decide +kernel
theorem dX6_put_10 : decode cX6_put 10 = .ok (.iload_n 2, 1) := by decide +kernel
theorem dX6_put_11 : decode cX6_put 11 = .ok (.iadd, 1) := by decide +kernel
theorem dX6_put_12 : decode cX6_put 12 = .ok (.iload_n 3, 1) := by decide +kernel
theorem dX6_put_13 : decode cX6_put 13 = .ok (.iastore, 1) := by decide +kernel
theorem dX6_put_14 : decode cX6_put 14 = .ok (.return_, 1) := by decide +kernel
theorem dX6_lay_0 : decode cX6_lay 0 = .ok (.aload_n 0, 1) := by decide +kernel
theorem dX6_lay_1 : decode cX6_lay 1 = .ok (.iload_n 1, 1) := by decide +kernel
theorem dX6_lay_2 : decode cX6_lay 2 = .ok (.iconst 0, 1) := by decide +kernel
theorem dX6_lay_3 : decode cX6_lay 3 = .ok (.iload_n 2, 1) := by decide +kernel
theorem dX6_lay_4 : decode cX6_lay 4 = .ok (.invokevirtual 36, 3) := by decide +kernel
theorem dX6_lay_7 : decode cX6_lay 7 = .ok (.aload_n 0, 1) := by decide +kernel
theorem dX6_lay_8 : decode cX6_lay 8 = .ok (.iload_n 1, 1) := by decide +kernel
theorem dX6_lay_9 : decode cX6_lay 9 = .ok (.iconst 1, 1) := by decide +kernel
theorem dX6_lay_10 : decode cX6_lay 10 = .ok (.iload_n 3, 1) := by decide +kernel
theorem dX6_lay_11 : decode cX6_lay 11 = .ok (.invokevirtual 36, 3) := by decide +kernel
theorem dX6_lay_14 : decode cX6_lay 14 = .ok (.aload_n 0, 1) := by decide +kernel
theorem dX6_lay_15 : decode cX6_lay 15 = .ok (.iload_n 1, 1) := by decide +kernel
theorem dX6_lay_16 : decode cX6_lay 16 = .ok (.iconst 2, 1) := by decide +kernel
theorem dX6_lay_17 : decode cX6_lay 17 = .ok (.iload 4, 2) := by decide +kernel
theorem dX6_lay_19 : decode cX6_lay 19 = .ok (.invokevirtual 36, 3) := by decide +kernel
theorem dX6_lay_22 : decode cX6_lay 22 = .ok (.aload_n 0, 1) := by decide +kernel
theorem dX6_lay_23 : decode cX6_lay 23 = .ok (.iload_n 1, 1) := by decide +kernel
theorem dX6_lay_24 : decode cX6_lay 24 = .ok (.iconst 3, 1) := by decide +kernel
theorem dX6_lay_25 : decode cX6_lay 25 = .ok (.iload 5, 2) := by decide +kernel
theorem dX6_lay_27 : decode cX6_lay 27 = .ok (.invokevirtual 36, 3) := by decide +kernel
theorem dX6_lay_30 : decode cX6_lay 30 = .ok (.return_, 1) := by decide +kernel
theorem dX6_empties_0 : decode cX6_empties 0 = .ok (.aload_n 0, 1) := by decide +kernel
theorem dX6_empties_1 : decode cX6_empties 1 = .ok (.getfield 7, 3) := by decide +kernel
theorem dX6_empties_4 : decode cX6_empties 4 = .ok (.iconst 2, 1) := by decide +kernel
theorem dX6_empties_5 : decode cX6_empties 5 = .ok (.iload_n 1, 1) := by decide +kernel
theorem dX6_empties_6 : decode cX6_empties 6 = .ok (.iastore, 1) := by decide +kernel
theorem dX6_empties_7 : decode cX6_empties 7 = .ok (.aload_n 0, 1) := by decide +kernel
theorem dX6_empties_8 : decode cX6_empties 8 = .ok (.getfield 7, 3) := by decide +kernel
theorem dX6_empties_11 : decode cX6_empties 11 = .ok (.iconst 3, 1) := by decide +kernel
theorem dX6_empties_12 : decode cX6_empties 12 = .ok (.iconst 1, 1) := by decide +kernel
theorem dX6_empties_13 : decode cX6_empties 13 = .ok (.iastore, 1) := by decide +kernel
theorem dX6_empties_14 : decode cX6_empties 14 = .ok (.aload_n 0, 1) := by decide +kernel
theorem dX6_empties_15 : decode cX6_empties 15 = .ok (.iconst 0, 1) := by decide +kernel
theorem dX6_empties_16 : decode cX6_empties 16 = .ok (.iconst 0, 1) := by decide +kernel
theorem dX6_empties_17 : decode cX6_empties 17 = .ok (.iload_n 1, 1) := by decide +kernel
theorem dX6_empties_18 : decode cX6_empties 18 = .ok (.iconst 0, 1) := by decide +kernel
theorem dX6_empties_19 : decode cX6_empties 19 = .ok (.iconst (-1), 1) := by decide +kernel
theorem dX6_empties_20 : decode cX6_empties 20 = .ok (.invokevirtual 40, 3) := by decide +kernel
theorem dX6_empties_23 : decode cX6_empties 23 = .ok (.iconst 0, 1) := by decide +kernel
theorem dX6_empties_24 : decode cX6_empties 24 = .ok (.istore_n 2, 1) := by decide +kernel
theorem dX6_empties_25 : decode cX6_empties 25 = .ok (.iload_n 2, 1) := by decide +kernel
theorem dX6_empties_26 : decode cX6_empties 26 = .ok (.bipush 24, 2) := by decide +kernel
theorem dX6_empties_28 : decode cX6_empties 28 = .ok (.if_icmp .ge 19, 3) := by decide +kernel
theorem dX6_empties_31 : decode cX6_empties 31 = .ok (.aload_n 0, 1) := by decide +kernel
theorem dX6_empties_32 : decode cX6_empties 32 = .ok (.getfield 7, 3) := by decide +kernel
theorem dX6_empties_35 : decode cX6_empties 35 = .ok (.bipush 7, 2) := by decide +kernel
theorem dX6_empties_37 : decode cX6_empties 37 = .ok (.iload_n 2, 1) := by decide +kernel
theorem dX6_empties_38 : decode cX6_empties 38 = .ok (.iadd, 1) := by decide +kernel
theorem dX6_empties_39 : decode cX6_empties 39 = .ok (.iconst 0, 1) := by decide +kernel
theorem dX6_empties_40 : decode cX6_empties 40 = .ok (.iastore, 1) := by decide +kernel
theorem dX6_empties_41 : decode cX6_empties 41 = .ok (.iinc 2 1, 3) := by decide +kernel
theorem dX6_empties_44 : decode cX6_empties 44 = .ok (.goto (-19), 3) := by decide +kernel
theorem dX6_empties_47 : decode cX6_empties 47 = .ok (.return_, 1) := by decide +kernel
theorem dX6_sizeOf_0 : decode cX6_sizeOf 0 = .ok (.iconst 1, 1) := by decide +kernel
theorem dX6_sizeOf_1 : decode cX6_sizeOf 1 = .ok (.istore_n 1, 1) := by decide +kernel
theorem dX6_sizeOf_2 : decode cX6_sizeOf 2 = .ok (.iconst 2, 1) := by decide +kernel
theorem dX6_sizeOf_3 : decode cX6_sizeOf 3 = .ok (.istore_n 2, 1) := by decide +kernel
theorem dX6_sizeOf_4 : decode cX6_sizeOf 4 = .ok (.iconst 0, 1) := by decide +kernel
theorem dX6_sizeOf_5 : decode cX6_sizeOf 5 = .ok (.istore_n 3, 1) := by decide +kernel
theorem dX6_sizeOf_6 : decode cX6_sizeOf 6 = .ok (.iload_n 3, 1) := by decide +kernel
theorem dX6_sizeOf_7 : decode cX6_sizeOf 7 = .ok (.iload_n 0, 1) := by decide +kernel
theorem dX6_sizeOf_8 : decode cX6_sizeOf 8 = .ok (.if_icmp .ge 19, 3) := by decide +kernel
theorem dX6_sizeOf_11 : decode cX6_sizeOf 11 = .ok (.iload_n 1, 1) := by decide +kernel
theorem dX6_sizeOf_12 : decode cX6_sizeOf 12 = .ok (.iload_n 2, 1) := by decide +kernel
theorem dX6_sizeOf_13 : decode cX6_sizeOf 13 = .ok (.iadd, 1) := by decide +kernel
theorem dX6_sizeOf_14 : decode cX6_sizeOf 14 = .ok (.istore 4, 2) := by decide +kernel
theorem dX6_sizeOf_16 : decode cX6_sizeOf 16 = .ok (.iload_n 2, 1) := by decide +kernel
theorem dX6_sizeOf_17 : decode cX6_sizeOf 17 = .ok (.istore_n 1, 1) := by decide +kernel
theorem dX6_sizeOf_18 : decode cX6_sizeOf 18 = .ok (.iload 4, 2) := by decide +kernel
theorem dX6_sizeOf_20 : decode cX6_sizeOf 20 = .ok (.istore_n 2, 1) := by decide +kernel
theorem dX6_sizeOf_21 : decode cX6_sizeOf 21 = .ok (.iinc 3 1, 3) := by decide +kernel
theorem dX6_sizeOf_24 : decode cX6_sizeOf 24 = .ok (.goto (-18), 3) := by decide +kernel
theorem dX6_sizeOf_27 : decode cX6_sizeOf 27 = .ok (.iload_n 1, 1) := by decide +kernel
theorem dX6_sizeOf_28 : decode cX6_sizeOf 28 = .ok (.ireturn, 1) := by decide +kernel
theorem dX6_cellsOf_0 : decode cX6_cellsOf 0 = .ok (.aload_n 0, 1) := by decide +kernel
theorem dX6_cellsOf_1 : decode cX6_cellsOf 1 = .ok (.iload_n 1, 1) := by decide +kernel
theorem dX6_cellsOf_2 : decode cX6_cellsOf 2 = .ok (.iconst 1, 1) := by decide +kernel
theorem dX6_cellsOf_3 : decode cX6_cellsOf 3 = .ok (.invokevirtual 44, 3) := by decide +kernel
theorem dX6_cellsOf_6 : decode cX6_cellsOf 6 = .ok (.invokestatic 48, 3) := by decide +kernel
theorem dX6_cellsOf_9 : decode cX6_cellsOf 9 = .ok (.ireturn, 1) := by decide +kernel
theorem dX6_isBlock_0 : decode cX6_isBlock 0 = .ok (.iload_n 1, 1) := by decide +kernel
theorem dX6_isBlock_1 : decode cX6_isBlock 1 = .ok (.iconst 0, 1) := by decide +kernel
theorem dX6_isBlock_2 : decode cX6_isBlock 2 = .ok (.aload_n 0, 1) := by decide +kernel
theorem dX6_isBlock_3 : decode cX6_isBlock 3 = .ok (.getfield 7, 3) := by decide +kernel
theorem dX6_isBlock_6 : decode cX6_isBlock 6 = .ok (.iconst 3, 1) := by decide +kernel
theorem dX6_isBlock_7 : decode cX6_isBlock 7 = .ok (.iaload, 1) := by decide +kernel
theorem dX6_isBlock_8 : decode cX6_isBlock 8 = .ok (.iconst 1, 1) := by decide +kernel
theorem dX6_isBlock_9 : decode cX6_isBlock 9 = .ok (.isub, 1) := by decide +kernel
theorem dX6_isBlock_10 : decode cX6_isBlock 10 = .ok (.invokestatic 52, 3) := by decide +kernel
theorem dX6_isBlock_13 : decode cX6_isBlock 13 = .ok (.ireturn, 1) := by decide +kernel
theorem dX6_isFree_0 : decode cX6_isFree 0 = .ok (.aload_n 0, 1) := by decide +kernel
theorem dX6_isFree_1 : decode cX6_isFree 1 = .ok (.iload_n 1, 1) := by decide +kernel
theorem dX6_isFree_2 : decode cX6_isFree 2 = .ok (.iconst 3, 1) := by decide +kernel
theorem dX6_isFree_3 : decode cX6_isFree 3 = .ok (.invokevirtual 44, 3) := by decide +kernel
theorem dX6_isFree_6 : decode cX6_isFree 6 = .ok (.iconst (-1), 1) := by decide +kernel
theorem dX6_isFree_7 : decode cX6_isFree 7 = .ok (.if_icmp .ne 7, 3) := by decide +kernel
theorem dX6_isFree_10 : decode cX6_isFree 10 = .ok (.iconst 1, 1) := by decide +kernel
theorem dX6_isFree_11 : decode cX6_isFree 11 = .ok (.goto 4, 3) := by decide +kernel
theorem dX6_isFree_14 : decode cX6_isFree 14 = .ok (.iconst 0, 1) := by decide +kernel
theorem dX6_isFree_15 : decode cX6_isFree 15 = .ok (.ireturn, 1) := by decide +kernel
theorem dX6_isUse_0 : decode cX6_isUse 0 = .ok (.iload_n 1, 1) := by decide +kernel
theorem dX6_isUse_1 : decode cX6_isUse 1 = .ok (.iconst 0, 1) := by decide +kernel
theorem dX6_isUse_2 : decode cX6_isUse 2 = .ok (.bipush 23, 2) := by decide +kernel
theorem dX6_isUse_4 : decode cX6_isUse 4 = .ok (.invokestatic 52, 3) := by decide +kernel
theorem dX6_isUse_7 : decode cX6_isUse 7 = .ok (.ifCond .eq 19, 3) := by decide +kernel
theorem dX6_isUse_10 : decode cX6_isUse 10 = .ok (.aload_n 0, 1) := by decide +kernel
theorem dX6_isUse_11 : decode cX6_isUse 11 = .ok (.getfield 7, 3) := by decide +kernel
theorem dX6_isUse_14 : decode cX6_isUse 14 = .ok (.bipush 7, 2) := by decide +kernel
theorem dX6_isUse_16 : decode cX6_isUse 16 = .ok (.iload_n 1, 1) := by decide +kernel
theorem dX6_isUse_17 : decode cX6_isUse 17 = .ok (.iadd, 1) := by decide +kernel
theorem dX6_isUse_18 : decode cX6_isUse 18 = .ok (.iaload, 1) := by decide +kernel
theorem dX6_isUse_19 : decode cX6_isUse 19 = .ok (.ifCond .le 7, 3) := by decide +kernel
theorem dX6_isUse_22 : decode cX6_isUse 22 = .ok (.iconst 1, 1) := by decide +kernel
theorem dX6_isUse_23 : decode cX6_isUse 23 = .ok (.goto 4, 3) := by decide +kernel
theorem dX6_isUse_26 : decode cX6_isUse 26 = .ok (.iconst 0, 1) := by decide +kernel
theorem dX6_isUse_27 : decode cX6_isUse 27 = .ok (.ireturn, 1) := by decide +kernel
theorem dX6_placeOf_0 : decode cX6_placeOf 0 = .ok (.iconst (-1), 1) := by decide +kernel
theorem dX6_placeOf_1 : decode cX6_placeOf 1 = .ok (.istore_n 2, 1) := by decide +kernel
theorem dX6_placeOf_2 : decode cX6_placeOf 2 = .ok (.iconst 0, 1) := by decide +kernel
theorem dX6_placeOf_3 : decode cX6_placeOf 3 = .ok (.istore_n 3, 1) := by decide +kernel
theorem dX6_placeOf_4 : decode cX6_placeOf 4 = .ok (.iload_n 3, 1) := by decide +kernel
theorem dX6_placeOf_5 : decode cX6_placeOf 5 = .ok (.aload_n 0, 1) := by decide +kernel
theorem dX6_placeOf_6 : decode cX6_placeOf 6 = .ok (.getfield 7, 3) := by decide +kernel
theorem dX6_placeOf_9 : decode cX6_placeOf 9 = .ok (.iconst 3, 1) := by decide +kernel
theorem dX6_placeOf_10 : decode cX6_placeOf 10 = .ok (.iaload, 1) := by decide +kernel
theorem dX6_placeOf_11 : decode cX6_placeOf 11 = .ok (.if_icmp .ge 25, 3) := by decide +kernel
theorem dX6_placeOf_14 : decode cX6_placeOf 14 = .ok (.aload_n 0, 1) := by decide +kernel
theorem dX6_placeOf_15 : decode cX6_placeOf 15 = .ok (.iload_n 3, 1) := by decide +kernel
theorem dX6_placeOf_16 : decode cX6_placeOf 16 = .ok (.iconst 3, 1) := by decide +kernel
theorem dX6_placeOf_17 : decode cX6_placeOf 17 = .ok (.invokevirtual 44, 3) := by decide +kernel
theorem dX6_placeOf_20 : decode cX6_placeOf 20 = .ok (.iload_n 1, 1) := by decide +kernel
theorem dX6_placeOf_21 : decode cX6_placeOf 21 = .ok (.if_icmp .ne 7, 3) := by decide +kernel
theorem dX6_placeOf_24 : decode cX6_placeOf 24 = .ok (.iload_n 3, 1) := by decide +kernel
theorem dX6_placeOf_25 : decode cX6_placeOf 25 = .ok (.goto 4, 3) := by decide +kernel
theorem dX6_placeOf_28 : decode cX6_placeOf 28 = .ok (.iload_n 2, 1) := by decide +kernel
theorem dX6_placeOf_29 : decode cX6_placeOf 29 = .ok (.istore_n 2, 1) := by decide +kernel
theorem dX6_placeOf_30 : decode cX6_placeOf 30 = .ok (.iinc 3 1, 3) := by decide +kernel
theorem dX6_placeOf_33 : decode cX6_placeOf 33 = .ok (.goto (-29), 3) := by decide +kernel
theorem dX6_placeOf_36 : decode cX6_placeOf 36 = .ok (.iload_n 2, 1) := by decide +kernel
theorem dX6_placeOf_37 : decode cX6_placeOf 37 = .ok (.ireturn, 1) := by decide +kernel
theorem dX6_uses_0 : decode cX6_uses 0 = .ok (.iconst 0, 1) := by decide +kernel
theorem dX6_uses_1 : decode cX6_uses 1 = .ok (.istore_n 1, 1) := by decide +kernel
theorem dX6_uses_2 : decode cX6_uses 2 = .ok (.iconst 0, 1) := by decide +kernel
theorem dX6_uses_3 : decode cX6_uses 3 = .ok (.istore_n 2, 1) := by decide +kernel
theorem dX6_uses_4 : decode cX6_uses 4 = .ok (.iload_n 2, 1) := by decide +kernel
theorem dX6_uses_5 : decode cX6_uses 5 = .ok (.bipush 24, 2) := by decide +kernel
theorem dX6_uses_7 : decode cX6_uses 7 = .ok (.if_icmp .ge 29, 3) := by decide +kernel
theorem dX6_uses_10 : decode cX6_uses 10 = .ok (.iload_n 1, 1) := by decide +kernel
theorem dX6_uses_11 : decode cX6_uses 11 = .ok (.aload_n 0, 1) := by decide +kernel
theorem dX6_uses_12 : decode cX6_uses 12 = .ok (.getfield 7, 3) := by decide +kernel
theorem dX6_uses_15 : decode cX6_uses 15 = .ok (.bipush 7, 2) := by decide +kernel
theorem dX6_uses_17 : decode cX6_uses 17 = .ok (.iload_n 2, 1) := by decide +kernel
theorem dX6_uses_18 : decode cX6_uses 18 = .ok (.iadd, 1) := by decide +kernel
theorem dX6_uses_19 : decode cX6_uses 19 = .ok (.iaload, 1) := by decide +kernel
theorem dX6_uses_20 : decode cX6_uses 20 = .ok (.ifCond .le 7, 3) := by decide +kernel
theorem dX6_uses_23 : decode cX6_uses 23 = .ok (.iconst 1, 1) := by decide +kernel
theorem dX6_uses_24 : decode cX6_uses 24 = .ok (.goto 4, 3) := by decide +kernel
theorem dX6_uses_27 : decode cX6_uses 27 = .ok (.iconst 0, 1) := by decide +kernel
theorem dX6_uses_28 : decode cX6_uses 28 = .ok (.iadd, 1) := by decide +kernel
theorem dX6_uses_29 : decode cX6_uses 29 = .ok (.istore_n 1, 1) := by decide +kernel
theorem dX6_uses_30 : decode cX6_uses 30 = .ok (.iinc 2 1, 3) := by decide +kernel
theorem dX6_uses_33 : decode cX6_uses 33 = .ok (.goto (-29), 3) := by decide +kernel
theorem dX6_uses_36 : decode cX6_uses 36 = .ok (.iload_n 1, 1) := by decide +kernel
theorem dX6_uses_37 : decode cX6_uses 37 = .ok (.ireturn, 1) := by decide +kernel
theorem dX6_canCut_0 : decode cX6_canCut 0 = .ok (.aload_n 0, 1) := by decide +kernel
theorem dX6_canCut_1 : decode cX6_canCut 1 = .ok (.iload_n 1, 1) := by decide +kernel
theorem dX6_canCut_2 : decode cX6_canCut 2 = .ok (.iconst 1, 1) := by decide +kernel
theorem dX6_canCut_3 : decode cX6_canCut 3 = .ok (.invokevirtual 44, 3) := by decide +kernel
theorem dX6_canCut_6 : decode cX6_canCut 6 = .ok (.iconst 1, 1) := by decide +kernel
theorem dX6_canCut_7 : decode cX6_canCut 7 = .ok (.if_icmp .le 7, 3) := by decide +kernel
theorem dX6_canCut_10 : decode cX6_canCut 10 = .ok (.iconst 1, 1) := by decide +kernel
theorem dX6_canCut_11 : decode cX6_canCut 11 = .ok (.goto 4, 3) := by decide +kernel
theorem dX6_canCut_14 : decode cX6_canCut 14 = .ok (.iconst 0, 1) := by decide +kernel
theorem dX6_canCut_15 : decode cX6_canCut 15 = .ok (.ireturn, 1) := by decide +kernel
theorem dX6_cut_0 : decode cX6_cut 0 = .ok (.aload_n 0, 1) := by decide +kernel
theorem dX6_cut_1 : decode cX6_cut 1 = .ok (.getfield 7, 3) := by decide +kernel
theorem dX6_cut_4 : decode cX6_cut 4 = .ok (.iconst 3, 1) := by decide +kernel
theorem dX6_cut_5 : decode cX6_cut 5 = .ok (.dup2, 1) := by decide +kernel
theorem dX6_cut_6 : decode cX6_cut 6 = .ok (.iaload, 1) := by decide +kernel
theorem dX6_cut_7 : decode cX6_cut 7 = .ok (.iconst 1, 1) := by decide +kernel
theorem dX6_cut_8 : decode cX6_cut 8 = .ok (.iadd, 1) := by decide +kernel
theorem dX6_cut_9 : decode cX6_cut 9 = .ok (.iastore, 1) := by decide +kernel
theorem dX6_cut_10 : decode cX6_cut 10 = .ok (.bipush 31, 2) := by decide +kernel
theorem dX6_cut_12 : decode cX6_cut 12 = .ok (.iconst 4, 1) := by decide +kernel
theorem dX6_cut_13 : decode cX6_cut 13 = .ok (.aload_n 0, 1) := by decide +kernel
theorem dX6_cut_14 : decode cX6_cut 14 = .ok (.getfield 7, 3) := by decide +kernel
theorem dX6_cut_17 : decode cX6_cut 17 = .ok (.iconst 3, 1) := by decide +kernel
theorem dX6_cut_18 : decode cX6_cut 18 = .ok (.iaload, 1) := by decide +kernel
theorem dX6_cut_19 : decode cX6_cut 19 = .ok (.imul, 1) := by decide +kernel
theorem dX6_cut_20 : decode cX6_cut 20 = .ok (.iadd, 1) := by decide +kernel
theorem dX6_cut_21 : decode cX6_cut 21 = .ok (.iconst 1, 1) := by decide +kernel
theorem dX6_cut_22 : decode cX6_cut 22 = .ok (.isub, 1) := by decide +kernel
theorem dX6_cut_23 : decode cX6_cut 23 = .ok (.istore_n 2, 1) := by decide +kernel
theorem dX6_cut_24 : decode cX6_cut 24 = .ok (.iload_n 2, 1) := by decide +kernel
theorem dX6_cut_25 : decode cX6_cut 25 = .ok (.bipush 31, 2) := by decide +kernel
theorem dX6_cut_27 : decode cX6_cut 27 = .ok (.iconst 4, 1) := by decide +kernel
theorem dX6_cut_28 : decode cX6_cut 28 = .ok (.iload_n 1, 1) := by decide +kernel
theorem dX6_cut_29 : decode cX6_cut 29 = .ok (.imul, 1) := by decide +kernel
theorem dX6_cut_30 : decode cX6_cut 30 = .ok (.iadd, 1) := by decide +kernel
theorem dX6_cut_31 : decode cX6_cut 31 = .ok (.bipush 8, 2) := by decide +kernel
theorem dX6_cut_33 : decode cX6_cut 33 = .ok (.iadd, 1) := by decide +kernel
theorem dX6_cut_34 : decode cX6_cut 34 = .ok (.if_icmp .lt 23, 3) := by decide +kernel
theorem dX6_cut_37 : decode cX6_cut 37 = .ok (.aload_n 0, 1) := by decide +kernel
theorem dX6_cut_38 : decode cX6_cut 38 = .ok (.getfield 7, 3) := by decide +kernel
theorem dX6_cut_41 : decode cX6_cut 41 = .ok (.iload_n 2, 1) := by decide +kernel
theorem dX6_cut_42 : decode cX6_cut 42 = .ok (.aload_n 0, 1) := by decide +kernel
theorem dX6_cut_43 : decode cX6_cut 43 = .ok (.getfield 7, 3) := by decide +kernel
theorem dX6_cut_46 : decode cX6_cut 46 = .ok (.iload_n 2, 1) := by decide +kernel
theorem dX6_cut_47 : decode cX6_cut 47 = .ok (.iconst 4, 1) := by decide +kernel
theorem dX6_cut_48 : decode cX6_cut 48 = .ok (.isub, 1) := by decide +kernel
theorem dX6_cut_49 : decode cX6_cut 49 = .ok (.iaload, 1) := by decide +kernel
theorem dX6_cut_50 : decode cX6_cut 50 = .ok (.iastore, 1) := by decide +kernel
theorem dX6_cut_51 : decode cX6_cut 51 = .ok (.iinc 2 (-1), 3) := by decide +kernel
theorem dX6_cut_54 : decode cX6_cut 54 = .ok (.goto (-30), 3) := by decide +kernel
theorem dX6_cut_57 : decode cX6_cut 57 = .ok (.aload_n 0, 1) := by decide +kernel
theorem dX6_cut_58 : decode cX6_cut 58 = .ok (.iload_n 1, 1) := by decide +kernel
theorem dX6_cut_59 : decode cX6_cut 59 = .ok (.iconst 1, 1) := by decide +kernel
theorem dX6_cut_60 : decode cX6_cut 60 = .ok (.invokevirtual 44, 3) := by decide +kernel
theorem dX6_cut_63 : decode cX6_cut 63 = .ok (.istore_n 2, 1) := by decide +kernel
theorem dX6_cut_64 : decode cX6_cut 64 = .ok (.aload_n 0, 1) := by decide +kernel
theorem dX6_cut_65 : decode cX6_cut 65 = .ok (.iload_n 1, 1) := by decide +kernel
theorem dX6_cut_66 : decode cX6_cut 66 = .ok (.iconst 1, 1) := by decide +kernel
theorem dX6_cut_67 : decode cX6_cut 67 = .ok (.iadd, 1) := by decide +kernel
theorem dX6_cut_68 : decode cX6_cut 68 = .ok (.aload_n 0, 1) := by decide +kernel
theorem dX6_cut_69 : decode cX6_cut 69 = .ok (.iload_n 1, 1) := by decide +kernel
theorem dX6_cut_70 : decode cX6_cut 70 = .ok (.iconst 0, 1) := by decide +kernel
theorem dX6_cut_71 : decode cX6_cut 71 = .ok (.invokevirtual 44, 3) := by decide +kernel
theorem dX6_cut_74 : decode cX6_cut 74 = .ok (.iload_n 2, 1) := by decide +kernel
theorem dX6_cut_75 : decode cX6_cut 75 = .ok (.iconst 1, 1) := by decide +kernel
theorem dX6_cut_76 : decode cX6_cut 76 = .ok (.isub, 1) := by decide +kernel
theorem dX6_cut_77 : decode cX6_cut 77 = .ok (.invokestatic 48, 3) := by decide +kernel
theorem dX6_cut_80 : decode cX6_cut 80 = .ok (.iadd, 1) := by decide +kernel
theorem dX6_cut_81 : decode cX6_cut 81 = .ok (.iload_n 2, 1) := by decide +kernel
theorem dX6_cut_82 : decode cX6_cut 82 = .ok (.iconst 2, 1) := by decide +kernel
theorem dX6_cut_83 : decode cX6_cut 83 = .ok (.isub, 1) := by decide +kernel
theorem dX6_cut_84 : decode cX6_cut 84 = .ok (.iconst 0, 1) := by decide +kernel
theorem dX6_cut_85 : decode cX6_cut 85 = .ok (.iconst (-1), 1) := by decide +kernel
theorem dX6_cut_86 : decode cX6_cut 86 = .ok (.invokevirtual 40, 3) := by decide +kernel
theorem dX6_cut_89 : decode cX6_cut 89 = .ok (.aload_n 0, 1) := by decide +kernel
theorem dX6_cut_90 : decode cX6_cut 90 = .ok (.iload_n 1, 1) := by decide +kernel
theorem dX6_cut_91 : decode cX6_cut 91 = .ok (.iconst 1, 1) := by decide +kernel
theorem dX6_cut_92 : decode cX6_cut 92 = .ok (.iload_n 2, 1) := by decide +kernel
theorem dX6_cut_93 : decode cX6_cut 93 = .ok (.iconst 1, 1) := by decide +kernel
theorem dX6_cut_94 : decode cX6_cut 94 = .ok (.isub, 1) := by decide +kernel
theorem dX6_cut_95 : decode cX6_cut 95 = .ok (.invokevirtual 36, 3) := by decide +kernel
theorem dX6_cut_98 : decode cX6_cut 98 = .ok (.aload_n 0, 1) := by decide +kernel
theorem dX6_cut_99 : decode cX6_cut 99 = .ok (.iload_n 1, 1) := by decide +kernel
theorem dX6_cut_100 : decode cX6_cut 100 = .ok (.iconst 2, 1) := by decide +kernel
theorem dX6_cut_101 : decode cX6_cut 101 = .ok (.aload_n 0, 1) := by decide +kernel
theorem dX6_cut_102 : decode cX6_cut 102 = .ok (.iload_n 1, 1) := by decide +kernel
theorem dX6_cut_103 : decode cX6_cut 103 = .ok (.iconst 2, 1) := by decide +kernel
theorem dX6_cut_104 : decode cX6_cut 104 = .ok (.invokevirtual 44, 3) := by decide +kernel
theorem dX6_cut_107 : decode cX6_cut 107 = .ok (.iconst 1, 1) := by decide +kernel
theorem dX6_cut_108 : decode cX6_cut 108 = .ok (.iadd, 1) := by decide +kernel
theorem dX6_cut_109 : decode cX6_cut 109 = .ok (.invokevirtual 36, 3) := by decide +kernel
theorem dX6_cut_112 : decode cX6_cut 112 = .ok (.aload_n 0, 1) := by decide +kernel
theorem dX6_cut_113 : decode cX6_cut 113 = .ok (.getfield 7, 3) := by decide +kernel
theorem dX6_cut_116 : decode cX6_cut 116 = .ok (.iconst 4, 1) := by decide +kernel
theorem dX6_cut_117 : decode cX6_cut 117 = .ok (.dup2, 1) := by decide +kernel
theorem dX6_cut_118 : decode cX6_cut 118 = .ok (.iaload, 1) := by decide +kernel
theorem dX6_cut_119 : decode cX6_cut 119 = .ok (.iconst 1, 1) := by decide +kernel
theorem dX6_cut_120 : decode cX6_cut 120 = .ok (.iadd, 1) := by decide +kernel
theorem dX6_cut_121 : decode cX6_cut 121 = .ok (.iastore, 1) := by decide +kernel
theorem dX6_cut_122 : decode cX6_cut 122 = .ok (.return_, 1) := by decide +kernel
theorem dX6_partnerOf_0 : decode cX6_partnerOf 0 = .ok (.aload_n 0, 1) := by decide +kernel
theorem dX6_partnerOf_1 : decode cX6_partnerOf 1 = .ok (.iload_n 1, 1) := by decide +kernel
theorem dX6_partnerOf_2 : decode cX6_partnerOf 2 = .ok (.iconst 1, 1) := by decide +kernel
theorem dX6_partnerOf_3 : decode cX6_partnerOf 3 = .ok (.invokevirtual 44, 3) := by decide +kernel
theorem dX6_partnerOf_6 : decode cX6_partnerOf 6 = .ok (.aload_n 0, 1) := by decide +kernel
theorem dX6_partnerOf_7 : decode cX6_partnerOf 7 = .ok (.getfield 7, 3) := by decide +kernel
theorem dX6_partnerOf_10 : decode cX6_partnerOf 10 = .ok (.iconst 2, 1) := by decide +kernel
theorem dX6_partnerOf_11 : decode cX6_partnerOf 11 = .ok (.iaload, 1) := by decide +kernel
theorem dX6_partnerOf_12 : decode cX6_partnerOf 12 = .ok (.if_icmp .ne 5, 3) := by decide +kernel
theorem dX6_partnerOf_15 : decode cX6_partnerOf 15 = .ok (.iconst (-1), 1) := by decide +kernel
theorem dX6_partnerOf_16 : decode cX6_partnerOf 16 = .ok (.ireturn, 1) := by decide +kernel
theorem dX6_partnerOf_17 : decode cX6_partnerOf 17 = .ok (.aload_n 0, 1) := by decide +kernel
theorem dX6_partnerOf_18 : decode cX6_partnerOf 18 = .ok (.iload_n 1, 1) := by decide +kernel
theorem dX6_partnerOf_19 : decode cX6_partnerOf 19 = .ok (.iconst 2, 1) := by decide +kernel
theorem dX6_partnerOf_20 : decode cX6_partnerOf 20 = .ok (.invokevirtual 44, 3) := by decide +kernel
theorem dX6_partnerOf_23 : decode cX6_partnerOf 23 = .ok (.ifCond .le 7, 3) := by decide +kernel
theorem dX6_partnerOf_26 : decode cX6_partnerOf 26 = .ok (.iconst 1, 1) := by decide +kernel
theorem dX6_partnerOf_27 : decode cX6_partnerOf 27 = .ok (.goto 4, 3) := by decide +kernel
theorem dX6_partnerOf_30 : decode cX6_partnerOf 30 = .ok (.iconst 0, 1) := by decide +kernel
theorem dX6_partnerOf_31 : decode cX6_partnerOf 31 = .ok (.istore_n 2, 1) := by decide +kernel
theorem dX6_partnerOf_32 : decode cX6_partnerOf 32 = .ok (.iload_n 2, 1) := by decide +kernel
theorem dX6_partnerOf_33 : decode cX6_partnerOf 33 = .ok (.ifCond .eq 9, 3) := by decide +kernel
theorem dX6_partnerOf_36 : decode cX6_partnerOf 36 = .ok (.iload_n 1, 1) := by decide +kernel
theorem dX6_partnerOf_37 : decode cX6_partnerOf 37 = .ok (.iconst 1, 1) := by decide +kernel
theorem dX6_partnerOf_38 : decode cX6_partnerOf 38 = .ok (.iadd, 1) := by decide +kernel
theorem dX6_partnerOf_39 : decode cX6_partnerOf 39 = .ok (.goto 6, 3) := by decide +kernel
theorem dX6_partnerOf_42 : decode cX6_partnerOf 42 = .ok (.iload_n 1, 1) := by decide +kernel
theorem dX6_partnerOf_43 : decode cX6_partnerOf 43 = .ok (.iconst 1, 1) := by decide +kernel
theorem dX6_partnerOf_44 : decode cX6_partnerOf 44 = .ok (.isub, 1) := by decide +kernel
theorem dX6_partnerOf_45 : decode cX6_partnerOf 45 = .ok (.istore_n 3, 1) := by decide +kernel
theorem dX6_partnerOf_46 : decode cX6_partnerOf 46 = .ok (.aload_n 0, 1) := by decide +kernel
theorem dX6_partnerOf_47 : decode cX6_partnerOf 47 = .ok (.iload_n 3, 1) := by decide +kernel
theorem dX6_partnerOf_48 : decode cX6_partnerOf 48 = .ok (.invokevirtual 56, 3) := by decide +kernel
theorem dX6_partnerOf_51 : decode cX6_partnerOf 51 = .ok (.ifCond .ne 5, 3) := by decide +kernel
theorem dX6_partnerOf_54 : decode cX6_partnerOf 54 = .ok (.iconst (-1), 1) := by decide +kernel
theorem dX6_partnerOf_55 : decode cX6_partnerOf 55 = .ok (.ireturn, 1) := by decide +kernel
theorem dX6_partnerOf_56 : decode cX6_partnerOf 56 = .ok (.aload_n 0, 1) := by decide +kernel
theorem dX6_partnerOf_57 : decode cX6_partnerOf 57 = .ok (.iload_n 3, 1) := by decide +kernel
theorem dX6_partnerOf_58 : decode cX6_partnerOf 58 = .ok (.iconst 1, 1) := by decide +kernel
theorem dX6_partnerOf_59 : decode cX6_partnerOf 59 = .ok (.invokevirtual 44, 3) := by decide +kernel
theorem dX6_partnerOf_62 : decode cX6_partnerOf 62 = .ok (.aload_n 0, 1) := by decide +kernel
theorem dX6_partnerOf_63 : decode cX6_partnerOf 63 = .ok (.iload_n 1, 1) := by decide +kernel
theorem dX6_partnerOf_64 : decode cX6_partnerOf 64 = .ok (.iconst 1, 1) := by decide +kernel
theorem dX6_partnerOf_65 : decode cX6_partnerOf 65 = .ok (.invokevirtual 44, 3) := by decide +kernel
theorem dX6_partnerOf_68 : decode cX6_partnerOf 68 = .ok (.isub, 1) := by decide +kernel
theorem dX6_partnerOf_69 : decode cX6_partnerOf 69 = .ok (.iload_n 2, 1) := by decide +kernel
theorem dX6_partnerOf_70 : decode cX6_partnerOf 70 = .ok (.ifCond .eq 7, 3) := by decide +kernel
theorem dX6_partnerOf_73 : decode cX6_partnerOf 73 = .ok (.iconst (-1), 1) := by decide +kernel
theorem dX6_partnerOf_74 : decode cX6_partnerOf 74 = .ok (.goto 4, 3) := by decide +kernel
theorem dX6_partnerOf_77 : decode cX6_partnerOf 77 = .ok (.iconst 1, 1) := by decide +kernel
theorem dX6_partnerOf_78 : decode cX6_partnerOf 78 = .ok (.if_icmp .ne 25, 3) := by decide +kernel
theorem dX6_partnerOf_81 : decode cX6_partnerOf 81 = .ok (.aload_n 0, 1) := by decide +kernel
theorem dX6_partnerOf_82 : decode cX6_partnerOf 82 = .ok (.iload_n 3, 1) := by decide +kernel
theorem dX6_partnerOf_83 : decode cX6_partnerOf 83 = .ok (.iconst 2, 1) := by decide +kernel
theorem dX6_partnerOf_84 : decode cX6_partnerOf 84 = .ok (.invokevirtual 44, 3) := by decide +kernel
theorem dX6_partnerOf_87 : decode cX6_partnerOf 87 = .ok (.ifCond .le 7, 3) := by decide +kernel
theorem dX6_partnerOf_90 : decode cX6_partnerOf 90 = .ok (.iconst 1, 1) := by decide +kernel
theorem dX6_partnerOf_91 : decode cX6_partnerOf 91 = .ok (.goto 4, 3) := by decide +kernel
theorem dX6_partnerOf_94 : decode cX6_partnerOf 94 = .ok (.iconst 0, 1) := by decide +kernel
theorem dX6_partnerOf_95 : decode cX6_partnerOf 95 = .ok (.iload_n 2, 1) := by decide +kernel
theorem dX6_partnerOf_96 : decode cX6_partnerOf 96 = .ok (.if_icmp .eq 7, 3) := by decide +kernel
theorem dX6_partnerOf_99 : decode cX6_partnerOf 99 = .ok (.iconst 1, 1) := by decide +kernel
theorem dX6_partnerOf_100 : decode cX6_partnerOf 100 = .ok (.goto 4, 3) := by decide +kernel
theorem dX6_partnerOf_103 : decode cX6_partnerOf 103 = .ok (.iconst 0, 1) := by decide +kernel
theorem dX6_partnerOf_104 : decode cX6_partnerOf 104 = .ok (.istore 4, 2) := by decide +kernel
theorem dX6_partnerOf_106 : decode cX6_partnerOf 106 = .ok (.iload 4, 2) := by decide +kernel
theorem dX6_partnerOf_108 : decode cX6_partnerOf 108 = .ok (.ifCond .eq 7, 3) := by decide +kernel
theorem dX6_partnerOf_111 : decode cX6_partnerOf 111 = .ok (.iload_n 3, 1) := by decide +kernel
theorem dX6_partnerOf_112 : decode cX6_partnerOf 112 = .ok (.goto 4, 3) := by decide +kernel
theorem dX6_partnerOf_115 : decode cX6_partnerOf 115 = .ok (.iconst (-1), 1) := by decide +kernel
theorem dX6_partnerOf_116 : decode cX6_partnerOf 116 = .ok (.ireturn, 1) := by decide +kernel
theorem dX6_join_0 : decode cX6_join 0 = .ok (.aload_n 0, 1) := by decide +kernel
theorem dX6_join_1 : decode cX6_join 1 = .ok (.iload_n 1, 1) := by decide +kernel
theorem dX6_join_2 : decode cX6_join 2 = .ok (.iconst 1, 1) := by decide +kernel
theorem dX6_join_3 : decode cX6_join 3 = .ok (.aload_n 0, 1) := by decide +kernel
theorem dX6_join_4 : decode cX6_join 4 = .ok (.iload_n 1, 1) := by decide +kernel
theorem dX6_join_5 : decode cX6_join 5 = .ok (.iconst 1, 1) := by decide +kernel
theorem dX6_join_6 : decode cX6_join 6 = .ok (.invokevirtual 44, 3) := by decide +kernel
theorem dX6_join_9 : decode cX6_join 9 = .ok (.iconst 1, 1) := by decide +kernel
theorem dX6_join_10 : decode cX6_join 10 = .ok (.iadd, 1) := by decide +kernel
theorem dX6_join_11 : decode cX6_join 11 = .ok (.invokevirtual 36, 3) := by decide +kernel
theorem dX6_join_14 : decode cX6_join 14 = .ok (.aload_n 0, 1) := by decide +kernel
theorem dX6_join_15 : decode cX6_join 15 = .ok (.iload_n 1, 1) := by decide +kernel
theorem dX6_join_16 : decode cX6_join 16 = .ok (.iconst 2, 1) := by decide +kernel
theorem dX6_join_17 : decode cX6_join 17 = .ok (.aload_n 0, 1) := by decide +kernel
theorem dX6_join_18 : decode cX6_join 18 = .ok (.iload_n 1, 1) := by decide +kernel
theorem dX6_join_19 : decode cX6_join 19 = .ok (.iconst 2, 1) := by decide +kernel
theorem dX6_join_20 : decode cX6_join 20 = .ok (.invokevirtual 44, 3) := by decide +kernel
theorem dX6_join_23 : decode cX6_join 23 = .ok (.iconst 1, 1) := by decide +kernel
theorem dX6_join_24 : decode cX6_join 24 = .ok (.isub, 1) := by decide +kernel
theorem dX6_join_25 : decode cX6_join 25 = .ok (.invokevirtual 36, 3) := by decide +kernel
theorem dX6_join_28 : decode cX6_join 28 = .ok (.aload_n 0, 1) := by decide +kernel
theorem dX6_join_29 : decode cX6_join 29 = .ok (.getfield 7, 3) := by decide +kernel
theorem dX6_join_32 : decode cX6_join 32 = .ok (.iconst 3, 1) := by decide +kernel
theorem dX6_join_33 : decode cX6_join 33 = .ok (.dup2, 1) := by decide +kernel
theorem dX6_join_34 : decode cX6_join 34 = .ok (.iaload, 1) := by decide +kernel
theorem dX6_join_35 : decode cX6_join 35 = .ok (.iconst 1, 1) := by decide +kernel
theorem dX6_join_36 : decode cX6_join 36 = .ok (.isub, 1) := by decide +kernel
theorem dX6_join_37 : decode cX6_join 37 = .ok (.iastore, 1) := by decide +kernel
theorem dX6_join_38 : decode cX6_join 38 = .ok (.bipush 31, 2) := by decide +kernel
theorem dX6_join_40 : decode cX6_join 40 = .ok (.iconst 4, 1) := by decide +kernel
theorem dX6_join_41 : decode cX6_join 41 = .ok (.iload_n 1, 1) := by decide +kernel
theorem dX6_join_42 : decode cX6_join 42 = .ok (.imul, 1) := by decide +kernel
theorem dX6_join_43 : decode cX6_join 43 = .ok (.iadd, 1) := by decide +kernel
theorem dX6_join_44 : decode cX6_join 44 = .ok (.iconst 4, 1) := by decide +kernel
theorem dX6_join_45 : decode cX6_join 45 = .ok (.iadd, 1) := by decide +kernel
theorem dX6_join_46 : decode cX6_join 46 = .ok (.istore_n 2, 1) := by decide +kernel
theorem dX6_join_47 : decode cX6_join 47 = .ok (.iload_n 2, 1) := by decide +kernel
theorem dX6_join_48 : decode cX6_join 48 = .ok (.bipush 31, 2) := by decide +kernel
theorem dX6_join_50 : decode cX6_join 50 = .ok (.iconst 4, 1) := by decide +kernel
theorem dX6_join_51 : decode cX6_join 51 = .ok (.aload_n 0, 1) := by decide +kernel
theorem dX6_join_52 : decode cX6_join 52 = .ok (.getfield 7, 3) := by decide +kernel
theorem dX6_join_55 : decode cX6_join 55 = .ok (.iconst 3, 1) := by decide +kernel
theorem dX6_join_56 : decode cX6_join 56 = .ok (.iaload, 1) := by decide +kernel
theorem dX6_join_57 : decode cX6_join 57 = .ok (.imul, 1) := by decide +kernel
theorem dX6_join_58 : decode cX6_join 58 = .ok (.iadd, 1) := by decide +kernel
theorem dX6_join_59 : decode cX6_join 59 = .ok (.if_icmp .ge 23, 3) := by decide +kernel
theorem dX6_join_62 : decode cX6_join 62 = .ok (.aload_n 0, 1) := by decide +kernel
theorem dX6_join_63 : decode cX6_join 63 = .ok (.getfield 7, 3) := by decide +kernel
theorem dX6_join_66 : decode cX6_join 66 = .ok (.iload_n 2, 1) := by decide +kernel
theorem dX6_join_67 : decode cX6_join 67 = .ok (.aload_n 0, 1) := by decide +kernel
theorem dX6_join_68 : decode cX6_join 68 = .ok (.getfield 7, 3) := by decide +kernel
theorem dX6_join_71 : decode cX6_join 71 = .ok (.iload_n 2, 1) := by decide +kernel
theorem dX6_join_72 : decode cX6_join 72 = .ok (.iconst 4, 1) := by decide +kernel
theorem dX6_join_73 : decode cX6_join 73 = .ok (.iadd, 1) := by decide +kernel
theorem dX6_join_74 : decode cX6_join 74 = .ok (.iaload, 1) := by decide +kernel
theorem dX6_join_75 : decode cX6_join 75 = .ok (.iastore, 1) := by decide +kernel
theorem dX6_join_76 : decode cX6_join 76 = .ok (.iinc 2 1, 3) := by decide +kernel
theorem dX6_join_79 : decode cX6_join 79 = .ok (.goto (-32), 3) := by decide +kernel
theorem dX6_join_82 : decode cX6_join 82 = .ok (.aload_n 0, 1) := by decide +kernel
theorem dX6_join_83 : decode cX6_join 83 = .ok (.getfield 7, 3) := by decide +kernel
theorem dX6_join_86 : decode cX6_join 86 = .ok (.iconst 5, 1) := by decide +kernel
theorem dX6_join_87 : decode cX6_join 87 = .ok (.dup2, 1) := by decide +kernel
theorem dX6_join_88 : decode cX6_join 88 = .ok (.iaload, 1) := by decide +kernel
theorem dX6_join_89 : decode cX6_join 89 = .ok (.iconst 1, 1) := by decide +kernel
theorem dX6_join_90 : decode cX6_join 90 = .ok (.iadd, 1) := by decide +kernel
theorem dX6_join_91 : decode cX6_join 91 = .ok (.iastore, 1) := by decide +kernel
theorem dX6_join_92 : decode cX6_join 92 = .ok (.return_, 1) := by decide +kernel
theorem dX6_gives_0 : decode cX6_gives 0 = .ok (.aload_n 0, 1) := by decide +kernel
theorem dX6_gives_1 : decode cX6_gives 1 = .ok (.iload_n 1, 1) := by decide +kernel
theorem dX6_gives_2 : decode cX6_gives 2 = .ok (.invokevirtual 60, 3) := by decide +kernel
theorem dX6_gives_5 : decode cX6_gives 5 = .ok (.istore_n 2, 1) := by decide +kernel
theorem dX6_gives_6 : decode cX6_gives 6 = .ok (.aload_n 0, 1) := by decide +kernel
theorem dX6_gives_7 : decode cX6_gives 7 = .ok (.getfield 7, 3) := by decide +kernel
theorem dX6_gives_10 : decode cX6_gives 10 = .ok (.iconst 5, 1) := by decide +kernel
theorem dX6_gives_11 : decode cX6_gives 11 = .ok (.iaload, 1) := by decide +kernel
theorem dX6_gives_12 : decode cX6_gives 12 = .ok (.istore_n 3, 1) := by decide +kernel
theorem dX6_gives_13 : decode cX6_gives 13 = .ok (.aload_n 0, 1) := by decide +kernel
theorem dX6_gives_14 : decode cX6_gives 14 = .ok (.iload_n 2, 1) := by decide +kernel
theorem dX6_gives_15 : decode cX6_gives 15 = .ok (.iconst 3, 1) := by decide +kernel
theorem dX6_gives_16 : decode cX6_gives 16 = .ok (.iconst (-1), 1) := by decide +kernel
theorem dX6_gives_17 : decode cX6_gives 17 = .ok (.invokevirtual 36, 3) := by decide +kernel
theorem dX6_gives_20 : decode cX6_gives 20 = .ok (.aload_n 0, 1) := by decide +kernel
theorem dX6_gives_21 : decode cX6_gives 21 = .ok (.getfield 7, 3) := by decide +kernel
theorem dX6_gives_24 : decode cX6_gives 24 = .ok (.bipush 7, 2) := by decide +kernel
theorem dX6_gives_26 : decode cX6_gives 26 = .ok (.iload_n 1, 1) := by decide +kernel
theorem dX6_gives_27 : decode cX6_gives 27 = .ok (.iadd, 1) := by decide +kernel
theorem dX6_gives_28 : decode cX6_gives 28 = .ok (.iconst 0, 1) := by decide +kernel
theorem dX6_gives_29 : decode cX6_gives 29 = .ok (.iastore, 1) := by decide +kernel
theorem dX6_gives_30 : decode cX6_gives 30 = .ok (.aload_n 0, 1) := by decide +kernel
theorem dX6_gives_31 : decode cX6_gives 31 = .ok (.iload_n 2, 1) := by decide +kernel
theorem dX6_gives_32 : decode cX6_gives 32 = .ok (.invokevirtual 63, 3) := by decide +kernel
theorem dX6_gives_35 : decode cX6_gives 35 = .ok (.istore 4, 2) := by decide +kernel
theorem dX6_gives_37 : decode cX6_gives 37 = .ok (.iload 4, 2) := by decide +kernel
theorem dX6_gives_39 : decode cX6_gives 39 = .ok (.iconst (-1), 1) := by decide +kernel
theorem dX6_gives_40 : decode cX6_gives 40 = .ok (.if_icmp .eq 40, 3) := by decide +kernel
theorem dX6_gives_43 : decode cX6_gives 43 = .ok (.aload_n 0, 1) := by decide +kernel
theorem dX6_gives_44 : decode cX6_gives 44 = .ok (.iload 4, 2) := by decide +kernel
theorem dX6_gives_46 : decode cX6_gives 46 = .ok (.invokevirtual 66, 3) := by decide +kernel
theorem dX6_gives_49 : decode cX6_gives 49 = .ok (.ifCond .eq 31, 3) := by decide +kernel
theorem dX6_gives_52 : decode cX6_gives 52 = .ok (.iload 4, 2) := by decide +kernel
theorem dX6_gives_54 : decode cX6_gives 54 = .ok (.iload_n 2, 1) := by decide +kernel
theorem dX6_gives_55 : decode cX6_gives 55 = .ok (.if_icmp .ge 8, 3) := by decide +kernel
theorem dX6_gives_58 : decode cX6_gives 58 = .ok (.iload 4, 2) := by decide +kernel
theorem dX6_gives_60 : decode cX6_gives 60 = .ok (.goto 4, 3) := by decide +kernel
theorem dX6_gives_63 : decode cX6_gives 63 = .ok (.iload_n 2, 1) := by decide +kernel
theorem dX6_gives_64 : decode cX6_gives 64 = .ok (.istore_n 2, 1) := by decide +kernel
theorem dX6_gives_65 : decode cX6_gives 65 = .ok (.aload_n 0, 1) := by decide +kernel
theorem dX6_gives_66 : decode cX6_gives 66 = .ok (.iload_n 2, 1) := by decide +kernel
theorem dX6_gives_67 : decode cX6_gives 67 = .ok (.invokevirtual 69, 3) := by decide +kernel
theorem dX6_gives_70 : decode cX6_gives 70 = .ok (.aload_n 0, 1) := by decide +kernel
theorem dX6_gives_71 : decode cX6_gives 71 = .ok (.iload_n 2, 1) := by decide +kernel
theorem dX6_gives_72 : decode cX6_gives 72 = .ok (.invokevirtual 63, 3) := by decide +kernel
theorem dX6_gives_75 : decode cX6_gives 75 = .ok (.istore 4, 2) := by decide +kernel
theorem dX6_gives_77 : decode cX6_gives 77 = .ok (.goto (-40), 3) := by decide +kernel
theorem dX6_gives_80 : decode cX6_gives 80 = .ok (.aload_n 0, 1) := by decide +kernel
theorem dX6_gives_81 : decode cX6_gives 81 = .ok (.getfield 7, 3) := by decide +kernel
theorem dX6_gives_84 : decode cX6_gives 84 = .ok (.iconst 5, 1) := by decide +kernel
theorem dX6_gives_85 : decode cX6_gives 85 = .ok (.iaload, 1) := by decide +kernel
theorem dX6_gives_86 : decode cX6_gives 86 = .ok (.iload_n 3, 1) := by decide +kernel
theorem dX6_gives_87 : decode cX6_gives 87 = .ok (.isub, 1) := by decide +kernel
theorem dX6_gives_88 : decode cX6_gives 88 = .ok (.ireturn, 1) := by decide +kernel
theorem dX6_orderFor_0 : decode cX6_orderFor 0 = .ok (.iconst 0, 1) := by decide +kernel
theorem dX6_orderFor_1 : decode cX6_orderFor 1 = .ok (.istore_n 1, 1) := by decide +kernel
theorem dX6_orderFor_2 : decode cX6_orderFor 2 = .ok (.iload_n 1, 1) := by decide +kernel
theorem dX6_orderFor_3 : decode cX6_orderFor 3 = .ok (.bipush 15, 2) := by decide +kernel
theorem dX6_orderFor_5 : decode cX6_orderFor 5 = .ok (.if_icmp .ge 17, 3) := by decide +kernel
theorem dX6_orderFor_8 : decode cX6_orderFor 8 = .ok (.iload_n 1, 1) := by decide +kernel
theorem dX6_orderFor_9 : decode cX6_orderFor 9 = .ok (.invokestatic 48, 3) := by decide +kernel
theorem dX6_orderFor_12 : decode cX6_orderFor 12 = .ok (.iload_n 0, 1) := by decide +kernel
theorem dX6_orderFor_13 : decode cX6_orderFor 13 = .ok (.if_icmp .ge 9, 3) := by decide +kernel
theorem dX6_orderFor_16 : decode cX6_orderFor 16 = .ok (.iinc 1 1, 3) := by decide +kernel
theorem dX6_orderFor_19 : decode cX6_orderFor 19 = .ok (.goto (-17), 3) := by decide +kernel
theorem dX6_orderFor_22 : decode cX6_orderFor 22 = .ok (.iload_n 1, 1) := by decide +kernel
theorem dX6_orderFor_23 : decode cX6_orderFor 23 = .ok (.ireturn, 1) := by decide +kernel
theorem dX6_blockFor_0 : decode cX6_blockFor 0 = .ok (.iconst (-1), 1) := by decide +kernel
theorem dX6_blockFor_1 : decode cX6_blockFor 1 = .ok (.istore_n 2, 1) := by decide +kernel
theorem dX6_blockFor_2 : decode cX6_blockFor 2 = .ok (.iconst 0, 1) := by decide +kernel
theorem dX6_blockFor_3 : decode cX6_blockFor 3 = .ok (.istore_n 3, 1) := by decide +kernel
theorem dX6_blockFor_4 : decode cX6_blockFor 4 = .ok (.iload_n 3, 1) := by decide +kernel
theorem dX6_blockFor_5 : decode cX6_blockFor 5 = .ok (.aload_n 0, 1) := by decide +kernel
theorem dX6_blockFor_6 : decode cX6_blockFor 6 = .ok (.getfield 7, 3) := by decide +kernel
theorem dX6_blockFor_9 : decode cX6_blockFor 9 = .ok (.iconst 3, 1) := by decide +kernel
theorem dX6_blockFor_10 : decode cX6_blockFor 10 = .ok (.iaload, 1) := by decide +kernel
theorem dX6_blockFor_11 : decode cX6_blockFor 11 = .ok (.if_icmp .ge 74, 3) := by decide +kernel
theorem dX6_blockFor_14 : decode cX6_blockFor 14 = .ok (.aload_n 0, 1) := by decide +kernel
theorem dX6_blockFor_15 : decode cX6_blockFor 15 = .ok (.iload_n 3, 1) := by decide +kernel
theorem dX6_blockFor_16 : decode cX6_blockFor 16 = .ok (.invokevirtual 66, 3) := by decide +kernel
theorem dX6_blockFor_19 : decode cX6_blockFor 19 = .ok (.ifCond .eq 17, 3) := by decide +kernel
theorem dX6_blockFor_22 : decode cX6_blockFor 22 = .ok (.aload_n 0, 1) := by decide +kernel
theorem dX6_blockFor_23 : decode cX6_blockFor 23 = .ok (.iload_n 3, 1) := by decide +kernel
theorem dX6_blockFor_24 : decode cX6_blockFor 24 = .ok (.iconst 1, 1) := by decide +kernel
theorem dX6_blockFor_25 : decode cX6_blockFor 25 = .ok (.invokevirtual 44, 3) := by decide +kernel
theorem dX6_blockFor_28 : decode cX6_blockFor 28 = .ok (.iload_n 1, 1) := by decide +kernel
theorem dX6_blockFor_29 : decode cX6_blockFor 29 = .ok (.if_icmp .lt 7, 3) := by decide +kernel
theorem dX6_blockFor_32 : decode cX6_blockFor 32 = .ok (.iconst 1, 1) := by decide +kernel
theorem dX6_blockFor_33 : decode cX6_blockFor 33 = .ok (.goto 4, 3) := by decide +kernel
theorem dX6_blockFor_36 : decode cX6_blockFor 36 = .ok (.iconst 0, 1) := by decide +kernel
theorem dX6_blockFor_37 : decode cX6_blockFor 37 = .ok (.istore 4, 2) := by decide +kernel
theorem dX6_blockFor_39 : decode cX6_blockFor 39 = .ok (.iload 4, 2) := by decide +kernel
theorem dX6_blockFor_41 : decode cX6_blockFor 41 = .ok (.ifCond .eq 36, 3) := by decide +kernel
theorem dX6_blockFor_44 : decode cX6_blockFor 44 = .ok (.iload_n 2, 1) := by decide +kernel
theorem dX6_blockFor_45 : decode cX6_blockFor 45 = .ok (.iconst (-1), 1) := by decide +kernel
theorem dX6_blockFor_46 : decode cX6_blockFor 46 = .ok (.if_icmp .eq 27, 3) := by decide +kernel
theorem dX6_blockFor_49 : decode cX6_blockFor 49 = .ok (.aload_n 0, 1) := by decide +kernel
theorem dX6_blockFor_50 : decode cX6_blockFor 50 = .ok (.getfield 7, 3) := by decide +kernel
theorem dX6_blockFor_53 : decode cX6_blockFor 53 = .ok (.iconst 0, 1) := by decide +kernel
theorem dX6_blockFor_54 : decode cX6_blockFor 54 = .ok (.iaload, 1) := by decide +kernel
theorem dX6_blockFor_55 : decode cX6_blockFor 55 = .ok (.ifCond .ne 22, 3) := by decide +kernel
theorem dX6_blockFor_58 : decode cX6_blockFor 58 = .ok (.aload_n 0, 1) := by decide +kernel
theorem dX6_blockFor_59 : decode cX6_blockFor 59 = .ok (.iload_n 3, 1) := by decide +kernel
theorem dX6_blockFor_60 : decode cX6_blockFor 60 = .ok (.iconst 1, 1) := by decide +kernel
theorem dX6_blockFor_61 : decode cX6_blockFor 61 = .ok (.invokevirtual 44, 3) := by decide +kernel
theorem dX6_blockFor_64 : decode cX6_blockFor 64 = .ok (.aload_n 0, 1) := by decide +kernel
theorem dX6_blockFor_65 : decode cX6_blockFor 65 = .ok (.iload_n 2, 1) := by decide +kernel
theorem dX6_blockFor_66 : decode cX6_blockFor 66 = .ok (.iconst 1, 1) := by decide +kernel
theorem dX6_blockFor_67 : decode cX6_blockFor 67 = .ok (.invokevirtual 44, 3) := by decide +kernel
theorem dX6_blockFor_70 : decode cX6_blockFor 70 = .ok (.if_icmp .ge 7, 3) := by decide +kernel
theorem dX6_blockFor_73 : decode cX6_blockFor 73 = .ok (.iload_n 3, 1) := by decide +kernel
theorem dX6_blockFor_74 : decode cX6_blockFor 74 = .ok (.goto 4, 3) := by decide +kernel
theorem dX6_blockFor_77 : decode cX6_blockFor 77 = .ok (.iload_n 2, 1) := by decide +kernel
theorem dX6_blockFor_78 : decode cX6_blockFor 78 = .ok (.istore_n 2, 1) := by decide +kernel
theorem dX6_blockFor_79 : decode cX6_blockFor 79 = .ok (.iinc 3 1, 3) := by decide +kernel
theorem dX6_blockFor_82 : decode cX6_blockFor 82 = .ok (.goto (-78), 3) := by decide +kernel
theorem dX6_blockFor_85 : decode cX6_blockFor 85 = .ok (.iload_n 2, 1) := by decide +kernel
theorem dX6_blockFor_86 : decode cX6_blockFor 86 = .ok (.ireturn, 1) := by decide +kernel
theorem dX6_cutDown_0 : decode cX6_cutDown 0 = .ok (.iload_n 1, 1) := by decide +kernel
theorem dX6_cutDown_1 : decode cX6_cutDown 1 = .ok (.istore_n 3, 1) := by decide +kernel
theorem dX6_cutDown_2 : decode cX6_cutDown 2 = .ok (.aload_n 0, 1) := by decide +kernel
theorem dX6_cutDown_3 : decode cX6_cutDown 3 = .ok (.iload_n 3, 1) := by decide +kernel
theorem dX6_cutDown_4 : decode cX6_cutDown 4 = .ok (.invokevirtual 72, 3) := by decide +kernel
theorem dX6_cutDown_7 : decode cX6_cutDown 7 = .ok (.ifCond .eq 64, 3) := by decide +kernel
theorem dX6_cutDown_10 : decode cX6_cutDown 10 = .ok (.aload_n 0, 1) := by decide +kernel
theorem dX6_cutDown_11 : decode cX6_cutDown 11 = .ok (.iload_n 3, 1) := by decide +kernel
theorem dX6_cutDown_12 : decode cX6_cutDown 12 = .ok (.iconst 1, 1) := by decide +kernel
theorem dX6_cutDown_13 : decode cX6_cutDown 13 = .ok (.invokevirtual 44, 3) := by decide +kernel
theorem dX6_cutDown_16 : decode cX6_cutDown 16 = .ok (.iconst 1, 1) := by decide +kernel
theorem dX6_cutDown_17 : decode cX6_cutDown 17 = .ok (.isub, 1) := by decide +kernel
theorem dX6_cutDown_18 : decode cX6_cutDown 18 = .ok (.iload_n 2, 1) := by decide +kernel
theorem dX6_cutDown_19 : decode cX6_cutDown 19 = .ok (.if_icmp .lt 52, 3) := by decide +kernel
theorem dX6_cutDown_22 : decode cX6_cutDown 22 = .ok (.aload_n 0, 1) := by decide +kernel
theorem dX6_cutDown_23 : decode cX6_cutDown 23 = .ok (.getfield 7, 3) := by decide +kernel
theorem dX6_cutDown_26 : decode cX6_cutDown 26 = .ok (.iconst 1, 1) := by decide +kernel
theorem dX6_cutDown_27 : decode cX6_cutDown 27 = .ok (.iaload, 1) := by decide +kernel
theorem dX6_cutDown_28 : decode cX6_cutDown 28 = .ok (.ifCond .ne 19, 3) := by decide +kernel
theorem dX6_cutDown_31 : decode cX6_cutDown 31 = .ok (.aload_n 0, 1) := by decide +kernel
theorem dX6_cutDown_32 : decode cX6_cutDown 32 = .ok (.iload_n 3, 1) := by decide +kernel
theorem dX6_cutDown_33 : decode cX6_cutDown 33 = .ok (.iconst 1, 1) := by decide +kernel
theorem dX6_cutDown_34 : decode cX6_cutDown 34 = .ok (.invokevirtual 44, 3) := by decide +kernel
theorem dX6_cutDown_37 : decode cX6_cutDown 37 = .ok (.iconst 2, 1) := by decide +kernel
theorem dX6_cutDown_38 : decode cX6_cutDown 38 = .ok (.isub, 1) := by decide +kernel
theorem dX6_cutDown_39 : decode cX6_cutDown 39 = .ok (.iload_n 2, 1) := by decide +kernel
theorem dX6_cutDown_40 : decode cX6_cutDown 40 = .ok (.if_icmp .lt 7, 3) := by decide +kernel
theorem dX6_cutDown_43 : decode cX6_cutDown 43 = .ok (.iconst 1, 1) := by decide +kernel
theorem dX6_cutDown_44 : decode cX6_cutDown 44 = .ok (.goto 4, 3) := by decide +kernel
theorem dX6_cutDown_47 : decode cX6_cutDown 47 = .ok (.iconst 0, 1) := by decide +kernel
theorem dX6_cutDown_48 : decode cX6_cutDown 48 = .ok (.istore 4, 2) := by decide +kernel
theorem dX6_cutDown_50 : decode cX6_cutDown 50 = .ok (.aload_n 0, 1) := by decide +kernel
theorem dX6_cutDown_51 : decode cX6_cutDown 51 = .ok (.iload_n 3, 1) := by decide +kernel
theorem dX6_cutDown_52 : decode cX6_cutDown 52 = .ok (.invokevirtual 75, 3) := by decide +kernel
theorem dX6_cutDown_55 : decode cX6_cutDown 55 = .ok (.iload_n 3, 1) := by decide +kernel
theorem dX6_cutDown_56 : decode cX6_cutDown 56 = .ok (.iload 4, 2) := by decide +kernel
theorem dX6_cutDown_58 : decode cX6_cutDown 58 = .ok (.ifCond .eq 7, 3) := by decide +kernel
theorem dX6_cutDown_61 : decode cX6_cutDown 61 = .ok (.iconst 1, 1) := by decide +kernel
theorem dX6_cutDown_62 : decode cX6_cutDown 62 = .ok (.goto 4, 3) := by decide +kernel
theorem dX6_cutDown_65 : decode cX6_cutDown 65 = .ok (.iconst 0, 1) := by decide +kernel
theorem dX6_cutDown_66 : decode cX6_cutDown 66 = .ok (.iadd, 1) := by decide +kernel
theorem dX6_cutDown_67 : decode cX6_cutDown 67 = .ok (.istore_n 3, 1) := by decide +kernel
theorem dX6_cutDown_68 : decode cX6_cutDown 68 = .ok (.goto (-66), 3) := by decide +kernel
theorem dX6_cutDown_71 : decode cX6_cutDown 71 = .ok (.iload_n 3, 1) := by decide +kernel
theorem dX6_cutDown_72 : decode cX6_cutDown 72 = .ok (.ireturn, 1) := by decide +kernel
theorem dX6_freeNumber_0 : decode cX6_freeNumber 0 = .ok (.iconst 0, 1) := by decide +kernel
theorem dX6_freeNumber_1 : decode cX6_freeNumber 1 = .ok (.istore_n 1, 1) := by decide +kernel
theorem dX6_freeNumber_2 : decode cX6_freeNumber 2 = .ok (.iload_n 1, 1) := by decide +kernel
theorem dX6_freeNumber_3 : decode cX6_freeNumber 3 = .ok (.bipush 24, 2) := by decide +kernel
theorem dX6_freeNumber_5 : decode cX6_freeNumber 5 = .ok (.if_icmp .ge 21, 3) := by decide +kernel
theorem dX6_freeNumber_8 : decode cX6_freeNumber 8 = .ok (.aload_n 0, 1) := by decide +kernel
theorem dX6_freeNumber_9 : decode cX6_freeNumber 9 = .ok (.getfield 7, 3) := by decide +kernel
theorem dX6_freeNumber_12 : decode cX6_freeNumber 12 = .ok (.bipush 7, 2) := by decide +kernel
theorem dX6_freeNumber_14 : decode cX6_freeNumber 14 = .ok (.iload_n 1, 1) := by decide +kernel
theorem dX6_freeNumber_15 : decode cX6_freeNumber 15 = .ok (.iadd, 1) := by decide +kernel
theorem dX6_freeNumber_16 : decode cX6_freeNumber 16 = .ok (.iaload, 1) := by decide +kernel
theorem dX6_freeNumber_17 : decode cX6_freeNumber 17 = .ok (.ifCond .le 9, 3) := by decide +kernel
theorem dX6_freeNumber_20 : decode cX6_freeNumber 20 = .ok (.iinc 1 1, 3) := by decide +kernel
theorem dX6_freeNumber_23 : decode cX6_freeNumber 23 = .ok (.goto (-21), 3) := by decide +kernel
theorem dX6_freeNumber_26 : decode cX6_freeNumber 26 = .ok (.iload_n 1, 1) := by decide +kernel
theorem dX6_freeNumber_27 : decode cX6_freeNumber 27 = .ok (.ireturn, 1) := by decide +kernel
theorem dX6_canWant_0 : decode cX6_canWant 0 = .ok (.aload_n 0, 1) := by decide +kernel
theorem dX6_canWant_1 : decode cX6_canWant 1 = .ok (.invokevirtual 78, 3) := by decide +kernel
theorem dX6_canWant_4 : decode cX6_canWant 4 = .ok (.bipush 24, 2) := by decide +kernel
theorem dX6_canWant_6 : decode cX6_canWant 6 = .ok (.if_icmp .ge 19, 3) := by decide +kernel
theorem dX6_canWant_9 : decode cX6_canWant 9 = .ok (.aload_n 0, 1) := by decide +kernel
theorem dX6_canWant_10 : decode cX6_canWant 10 = .ok (.iload_n 1, 1) := by decide +kernel
theorem dX6_canWant_11 : decode cX6_canWant 11 = .ok (.invokestatic 82, 3) := by decide +kernel
theorem dX6_canWant_14 : decode cX6_canWant 14 = .ok (.invokevirtual 85, 3) := by decide +kernel
theorem dX6_canWant_17 : decode cX6_canWant 17 = .ok (.iconst (-1), 1) := by decide +kernel
theorem dX6_canWant_18 : decode cX6_canWant 18 = .ok (.if_icmp .eq 7, 3) := by decide +kernel
theorem dX6_canWant_21 : decode cX6_canWant 21 = .ok (.iconst 1, 1) := by decide +kernel
theorem dX6_canWant_22 : decode cX6_canWant 22 = .ok (.goto 4, 3) := by decide +kernel
theorem dX6_canWant_25 : decode cX6_canWant 25 = .ok (.iconst 0, 1) := by decide +kernel
theorem dX6_canWant_26 : decode cX6_canWant 26 = .ok (.ireturn, 1) := by decide +kernel
theorem dX6_wants_0 : decode cX6_wants 0 = .ok (.aload_n 0, 1) := by decide +kernel
theorem dX6_wants_1 : decode cX6_wants 1 = .ok (.invokevirtual 78, 3) := by decide +kernel
theorem dX6_wants_4 : decode cX6_wants 4 = .ok (.istore_n 2, 1) := by decide +kernel
theorem dX6_wants_5 : decode cX6_wants 5 = .ok (.iload_n 1, 1) := by decide +kernel
theorem dX6_wants_6 : decode cX6_wants 6 = .ok (.invokestatic 82, 3) := by decide +kernel
theorem dX6_wants_9 : decode cX6_wants 9 = .ok (.istore_n 3, 1) := by decide +kernel
theorem dX6_wants_10 : decode cX6_wants 10 = .ok (.aload_n 0, 1) := by decide +kernel
theorem dX6_wants_11 : decode cX6_wants 11 = .ok (.aload_n 0, 1) := by decide +kernel
theorem dX6_wants_12 : decode cX6_wants 12 = .ok (.iload_n 3, 1) := by decide +kernel
theorem dX6_wants_13 : decode cX6_wants 13 = .ok (.invokevirtual 85, 3) := by decide +kernel
theorem dX6_wants_16 : decode cX6_wants 16 = .ok (.iload_n 3, 1) := by decide +kernel
theorem dX6_wants_17 : decode cX6_wants 17 = .ok (.invokevirtual 88, 3) := by decide +kernel
theorem dX6_wants_20 : decode cX6_wants 20 = .ok (.istore 4, 2) := by decide +kernel
theorem dX6_wants_22 : decode cX6_wants 22 = .ok (.aload_n 0, 1) := by decide +kernel
theorem dX6_wants_23 : decode cX6_wants 23 = .ok (.iload 4, 2) := by decide +kernel
theorem dX6_wants_25 : decode cX6_wants 25 = .ok (.iconst 3, 1) := by decide +kernel
theorem dX6_wants_26 : decode cX6_wants 26 = .ok (.iload_n 2, 1) := by decide +kernel
theorem dX6_wants_27 : decode cX6_wants 27 = .ok (.invokevirtual 36, 3) := by decide +kernel
theorem dX6_wants_30 : decode cX6_wants 30 = .ok (.aload_n 0, 1) := by decide +kernel
theorem dX6_wants_31 : decode cX6_wants 31 = .ok (.getfield 7, 3) := by decide +kernel
theorem dX6_wants_34 : decode cX6_wants 34 = .ok (.bipush 7, 2) := by decide +kernel
theorem dX6_wants_36 : decode cX6_wants 36 = .ok (.iload_n 2, 1) := by decide +kernel
theorem dX6_wants_37 : decode cX6_wants 37 = .ok (.iadd, 1) := by decide +kernel
theorem dX6_wants_38 : decode cX6_wants 38 = .ok (.iload_n 1, 1) := by decide +kernel
theorem dX6_wants_39 : decode cX6_wants 39 = .ok (.iastore, 1) := by decide +kernel
theorem dX6_wants_40 : decode cX6_wants 40 = .ok (.aload_n 0, 1) := by decide +kernel
theorem dX6_wants_41 : decode cX6_wants 41 = .ok (.getfield 7, 3) := by decide +kernel
theorem dX6_wants_44 : decode cX6_wants 44 = .ok (.bipush 6, 2) := by decide +kernel
theorem dX6_wants_46 : decode cX6_wants 46 = .ok (.dup2, 1) := by decide +kernel
theorem dX6_wants_47 : decode cX6_wants 47 = .ok (.iaload, 1) := by decide +kernel
theorem dX6_wants_48 : decode cX6_wants 48 = .ok (.iconst 1, 1) := by decide +kernel
theorem dX6_wants_49 : decode cX6_wants 49 = .ok (.iadd, 1) := by decide +kernel
theorem dX6_wants_50 : decode cX6_wants 50 = .ok (.iastore, 1) := by decide +kernel
theorem dX6_wants_51 : decode cX6_wants 51 = .ok (.iload_n 2, 1) := by decide +kernel
theorem dX6_wants_52 : decode cX6_wants 52 = .ok (.ireturn, 1) := by decide +kernel
theorem dX6_areCells_0 : decode cX6_areCells 0 = .ok (.iload_n 0, 1) := by decide +kernel
theorem dX6_areCells_1 : decode cX6_areCells 1 = .ok (.iconst 1, 1) := by decide +kernel
theorem dX6_areCells_2 : decode cX6_areCells 2 = .ok (.sipush 999, 3) := by decide +kernel
theorem dX6_areCells_5 : decode cX6_areCells 5 = .ok (.invokestatic 52, 3) := by decide +kernel
theorem dX6_areCells_8 : decode cX6_areCells 8 = .ok (.ireturn, 1) := by decide +kernel
theorem dX6_begin_0 : decode cX6_begin 0 = .ok (.aload_n 0, 1) := by decide +kernel
theorem dX6_begin_1 : decode cX6_begin 1 = .ok (.iload_n 1, 1) := by decide +kernel
theorem dX6_begin_2 : decode cX6_begin 2 = .ok (.iconst 3, 1) := by decide +kernel
theorem dX6_begin_3 : decode cX6_begin 3 = .ok (.bipush 14, 2) := by decide +kernel
theorem dX6_begin_5 : decode cX6_begin 5 = .ok (.invokestatic 52, 3) := by decide +kernel
theorem dX6_begin_8 : decode cX6_begin 8 = .ok (.ifCond .eq 7, 3) := by decide +kernel
theorem dX6_begin_11 : decode cX6_begin 11 = .ok (.iconst 0, 1) := by decide +kernel
theorem dX6_begin_12 : decode cX6_begin 12 = .ok (.goto 4, 3) := by decide +kernel
theorem dX6_begin_15 : decode cX6_begin 15 = .ok (.iconst 1, 1) := by decide +kernel
theorem dX6_begin_16 : decode cX6_begin 16 = .ok (.putfield 29, 3) := by decide +kernel
theorem dX6_begin_19 : decode cX6_begin 19 = .ok (.aload_n 0, 1) := by decide +kernel
theorem dX6_begin_20 : decode cX6_begin 20 = .ok (.getfield 29, 3) := by decide +kernel
theorem dX6_begin_23 : decode cX6_begin 23 = .ok (.ifCond .le 5, 3) := by decide +kernel
theorem dX6_begin_26 : decode cX6_begin 26 = .ok (.iconst 0, 1) := by decide +kernel
theorem dX6_begin_27 : decode cX6_begin 27 = .ok (.ireturn, 1) := by decide +kernel
theorem dX6_begin_28 : decode cX6_begin 28 = .ok (.aload_n 0, 1) := by decide +kernel
theorem dX6_begin_29 : decode cX6_begin 29 = .ok (.invokevirtual 91, 3) := by decide +kernel
theorem dX6_begin_32 : decode cX6_begin 32 = .ok (.aload_n 0, 1) := by decide +kernel
theorem dX6_begin_33 : decode cX6_begin 33 = .ok (.iload_n 1, 1) := by decide +kernel
theorem dX6_begin_34 : decode cX6_begin 34 = .ok (.invokevirtual 25, 3) := by decide +kernel
theorem dX6_begin_37 : decode cX6_begin 37 = .ok (.iload_n 1, 1) := by decide +kernel
theorem dX6_begin_38 : decode cX6_begin 38 = .ok (.invokestatic 48, 3) := by decide +kernel
theorem dX6_begin_41 : decode cX6_begin 41 = .ok (.ireturn, 1) := by decide +kernel
theorem dX6_want_0 : decode cX6_want 0 = .ok (.aload_n 0, 1) := by decide +kernel
theorem dX6_want_1 : decode cX6_want 1 = .ok (.iload_n 1, 1) := by decide +kernel
theorem dX6_want_2 : decode cX6_want 2 = .ok (.invokestatic 94, 3) := by decide +kernel
theorem dX6_want_5 : decode cX6_want 5 = .ok (.ifCond .ne 7, 3) := by decide +kernel
theorem dX6_want_8 : decode cX6_want 8 = .ok (.iconst 1, 1) := by decide +kernel
theorem dX6_want_9 : decode cX6_want 9 = .ok (.goto 16, 3) := by decide +kernel
theorem dX6_want_12 : decode cX6_want 12 = .ok (.aload_n 0, 1) := by decide +kernel
theorem dX6_want_13 : decode cX6_want 13 = .ok (.iload_n 1, 1) := by decide +kernel
theorem dX6_want_14 : decode cX6_want 14 = .ok (.invokevirtual 97, 3) := by decide +kernel
theorem dX6_want_17 : decode cX6_want 17 = .ok (.ifCond .eq 7, 3) := by decide +kernel
theorem dX6_want_20 : decode cX6_want 20 = .ok (.iconst 0, 1) := by decide +kernel
theorem dX6_want_21 : decode cX6_want 21 = .ok (.goto 4, 3) := by decide +kernel
theorem dX6_want_24 : decode cX6_want 24 = .ok (.iconst 2, 1) := by decide +kernel
theorem dX6_want_25 : decode cX6_want 25 = .ok (.putfield 29, 3) := by decide +kernel
theorem dX6_want_28 : decode cX6_want 28 = .ok (.aload_n 0, 1) := by decide +kernel
theorem dX6_want_29 : decode cX6_want 29 = .ok (.getfield 29, 3) := by decide +kernel
theorem dX6_want_32 : decode cX6_want 32 = .ok (.ifCond .le 5, 3) := by decide +kernel
theorem dX6_want_35 : decode cX6_want 35 = .ok (.iconst 0, 1) := by decide +kernel
theorem dX6_want_36 : decode cX6_want 36 = .ok (.ireturn, 1) := by decide +kernel
theorem dX6_want_37 : decode cX6_want 37 = .ok (.aload_n 0, 1) := by decide +kernel
theorem dX6_want_38 : decode cX6_want 38 = .ok (.invokevirtual 91, 3) := by decide +kernel
theorem dX6_want_41 : decode cX6_want 41 = .ok (.aload_n 0, 1) := by decide +kernel
theorem dX6_want_42 : decode cX6_want 42 = .ok (.iload_n 1, 1) := by decide +kernel
theorem dX6_want_43 : decode cX6_want 43 = .ok (.invokevirtual 100, 3) := by decide +kernel
theorem dX6_want_46 : decode cX6_want 46 = .ok (.ireturn, 1) := by decide +kernel
theorem dX6_give_0 : decode cX6_give 0 = .ok (.aload_n 0, 1) := by decide +kernel
theorem dX6_give_1 : decode cX6_give 1 = .ok (.aload_n 0, 1) := by decide +kernel
theorem dX6_give_2 : decode cX6_give 2 = .ok (.iload_n 1, 1) := by decide +kernel
theorem dX6_give_3 : decode cX6_give 3 = .ok (.invokevirtual 103, 3) := by decide +kernel
theorem dX6_give_6 : decode cX6_give 6 = .ok (.ifCond .eq 7, 3) := by decide +kernel
theorem dX6_give_9 : decode cX6_give 9 = .ok (.iconst 0, 1) := by decide +kernel
theorem dX6_give_10 : decode cX6_give 10 = .ok (.goto 4, 3) := by decide +kernel
theorem dX6_give_13 : decode cX6_give 13 = .ok (.iconst 1, 1) := by decide +kernel
theorem dX6_give_14 : decode cX6_give 14 = .ok (.putfield 29, 3) := by decide +kernel
theorem dX6_give_17 : decode cX6_give 17 = .ok (.aload_n 0, 1) := by decide +kernel
theorem dX6_give_18 : decode cX6_give 18 = .ok (.getfield 29, 3) := by decide +kernel
theorem dX6_give_21 : decode cX6_give 21 = .ok (.ifCond .le 5, 3) := by decide +kernel
theorem dX6_give_24 : decode cX6_give 24 = .ok (.iconst 0, 1) := by decide +kernel
theorem dX6_give_25 : decode cX6_give 25 = .ok (.ireturn, 1) := by decide +kernel
theorem dX6_give_26 : decode cX6_give 26 = .ok (.aload_n 0, 1) := by decide +kernel
theorem dX6_give_27 : decode cX6_give 27 = .ok (.invokevirtual 91, 3) := by decide +kernel
theorem dX6_give_30 : decode cX6_give 30 = .ok (.aload_n 0, 1) := by decide +kernel
theorem dX6_give_31 : decode cX6_give 31 = .ok (.iload_n 1, 1) := by decide +kernel
theorem dX6_give_32 : decode cX6_give 32 = .ok (.invokevirtual 106, 3) := by decide +kernel
theorem dX6_give_35 : decode cX6_give 35 = .ok (.ireturn, 1) := by decide +kernel
theorem dX6_giveAll_0 : decode cX6_giveAll 0 = .ok (.aload_n 0, 1) := by decide +kernel
theorem dX6_giveAll_1 : decode cX6_giveAll 1 = .ok (.iconst 0, 1) := by decide +kernel
theorem dX6_giveAll_2 : decode cX6_giveAll 2 = .ok (.putfield 29, 3) := by decide +kernel
theorem dX6_giveAll_5 : decode cX6_giveAll 5 = .ok (.aload_n 0, 1) := by decide +kernel
theorem dX6_giveAll_6 : decode cX6_giveAll 6 = .ok (.invokevirtual 91, 3) := by decide +kernel
theorem dX6_giveAll_9 : decode cX6_giveAll 9 = .ok (.aload_n 0, 1) := by decide +kernel
theorem dX6_giveAll_10 : decode cX6_giveAll 10 = .ok (.invokevirtual 109, 3) := by decide +kernel
theorem dX6_giveAll_13 : decode cX6_giveAll 13 = .ok (.istore_n 1, 1) := by decide +kernel
theorem dX6_giveAll_14 : decode cX6_giveAll 14 = .ok (.iconst 0, 1) := by decide +kernel
theorem dX6_giveAll_15 : decode cX6_giveAll 15 = .ok (.istore_n 2, 1) := by decide +kernel
theorem dX6_giveAll_16 : decode cX6_giveAll 16 = .ok (.iload_n 2, 1) := by decide +kernel
theorem dX6_giveAll_17 : decode cX6_giveAll 17 = .ok (.bipush 24, 2) := by decide +kernel
theorem dX6_giveAll_19 : decode cX6_giveAll 19 = .ok (.if_icmp .ge 31, 3) := by decide +kernel
theorem dX6_giveAll_22 : decode cX6_giveAll 22 = .ok (.aload_n 0, 1) := by decide +kernel
theorem dX6_giveAll_23 : decode cX6_giveAll 23 = .ok (.getfield 7, 3) := by decide +kernel
theorem dX6_giveAll_26 : decode cX6_giveAll 26 = .ok (.bipush 7, 2) := by decide +kernel
theorem dX6_giveAll_28 : decode cX6_giveAll 28 = .ok (.iload_n 2, 1) := by decide +kernel
theorem dX6_giveAll_29 : decode cX6_giveAll 29 = .ok (.iadd, 1) := by decide +kernel
theorem dX6_giveAll_30 : decode cX6_giveAll 30 = .ok (.iaload, 1) := by decide +kernel
theorem dX6_giveAll_31 : decode cX6_giveAll 31 = .ok (.ifCond .le 11, 3) := by decide +kernel
theorem dX6_giveAll_34 : decode cX6_giveAll 34 = .ok (.aload_n 0, 1) := by decide +kernel
theorem dX6_giveAll_35 : decode cX6_giveAll 35 = .ok (.iload_n 2, 1) := by decide +kernel
theorem dX6_giveAll_36 : decode cX6_giveAll 36 = .ok (.invokevirtual 106, 3) := by decide +kernel
theorem dX6_giveAll_39 : decode cX6_giveAll 39 = .ok (.goto 4, 3) := by decide +kernel
theorem dX6_giveAll_42 : decode cX6_giveAll 42 = .ok (.iconst 0, 1) := by decide +kernel
theorem dX6_giveAll_43 : decode cX6_giveAll 43 = .ok (.istore_n 3, 1) := by decide +kernel
theorem dX6_giveAll_44 : decode cX6_giveAll 44 = .ok (.iinc 2 1, 3) := by decide +kernel
theorem dX6_giveAll_47 : decode cX6_giveAll 47 = .ok (.goto (-31), 3) := by decide +kernel
theorem dX6_giveAll_50 : decode cX6_giveAll 50 = .ok (.iload_n 1, 1) := by decide +kernel
theorem dX6_giveAll_51 : decode cX6_giveAll 51 = .ok (.ireturn, 1) := by decide +kernel
theorem dX6_canExtend_0 : decode cX6_canExtend 0 = .ok (.aload_n 0, 1) := by decide +kernel
theorem dX6_canExtend_1 : decode cX6_canExtend 1 = .ok (.iload_n 1, 1) := by decide +kernel
theorem dX6_canExtend_2 : decode cX6_canExtend 2 = .ok (.invokevirtual 63, 3) := by decide +kernel
theorem dX6_canExtend_5 : decode cX6_canExtend 5 = .ok (.istore_n 2, 1) := by decide +kernel
theorem dX6_canExtend_6 : decode cX6_canExtend 6 = .ok (.iload_n 2, 1) := by decide +kernel
theorem dX6_canExtend_7 : decode cX6_canExtend 7 = .ok (.iload_n 1, 1) := by decide +kernel
theorem dX6_canExtend_8 : decode cX6_canExtend 8 = .ok (.if_icmp .le 15, 3) := by decide +kernel
theorem dX6_canExtend_11 : decode cX6_canExtend 11 = .ok (.aload_n 0, 1) := by decide +kernel
theorem dX6_canExtend_12 : decode cX6_canExtend 12 = .ok (.iload_n 2, 1) := by decide +kernel
theorem dX6_canExtend_13 : decode cX6_canExtend 13 = .ok (.invokevirtual 66, 3) := by decide +kernel
theorem dX6_canExtend_16 : decode cX6_canExtend 16 = .ok (.ifCond .eq 7, 3) := by decide +kernel
theorem dX6_canExtend_19 : decode cX6_canExtend 19 = .ok (.iconst 1, 1) := by decide +kernel
theorem dX6_canExtend_20 : decode cX6_canExtend 20 = .ok (.goto 4, 3) := by decide +kernel
theorem dX6_canExtend_23 : decode cX6_canExtend 23 = .ok (.iconst 0, 1) := by decide +kernel
theorem dX6_canExtend_24 : decode cX6_canExtend 24 = .ok (.ireturn, 1) := by decide +kernel
theorem dX6_extend_0 : decode cX6_extend 0 = .ok (.aload_n 0, 1) := by decide +kernel
theorem dX6_extend_1 : decode cX6_extend 1 = .ok (.iload_n 1, 1) := by decide +kernel
theorem dX6_extend_2 : decode cX6_extend 2 = .ok (.invokevirtual 60, 3) := by decide +kernel
theorem dX6_extend_5 : decode cX6_extend 5 = .ok (.istore_n 3, 1) := by decide +kernel
theorem dX6_extend_6 : decode cX6_extend 6 = .ok (.aload_n 0, 1) := by decide +kernel
theorem dX6_extend_7 : decode cX6_extend 7 = .ok (.iload_n 3, 1) := by decide +kernel
theorem dX6_extend_8 : decode cX6_extend 8 = .ok (.invokevirtual 112, 3) := by decide +kernel
theorem dX6_extend_11 : decode cX6_extend 11 = .ok (.iload_n 2, 1) := by decide +kernel
theorem dX6_extend_12 : decode cX6_extend 12 = .ok (.if_icmp .ge 19, 3) := by decide +kernel
theorem dX6_extend_15 : decode cX6_extend 15 = .ok (.aload_n 0, 1) := by decide +kernel
theorem dX6_extend_16 : decode cX6_extend 16 = .ok (.iload_n 3, 1) := by decide +kernel
theorem dX6_extend_17 : decode cX6_extend 17 = .ok (.invokevirtual 115, 3) := by decide +kernel
theorem dX6_extend_20 : decode cX6_extend 20 = .ok (.ifCond .eq 11, 3) := by decide +kernel
theorem dX6_extend_23 : decode cX6_extend 23 = .ok (.aload_n 0, 1) := by decide +kernel
theorem dX6_extend_24 : decode cX6_extend 24 = .ok (.iload_n 3, 1) := by decide +kernel
theorem dX6_extend_25 : decode cX6_extend 25 = .ok (.invokevirtual 69, 3) := by decide +kernel
theorem dX6_extend_28 : decode cX6_extend 28 = .ok (.goto (-22), 3) := by decide +kernel
theorem dX6_extend_31 : decode cX6_extend 31 = .ok (.return_, 1) := by decide +kernel
theorem dX6_keep_0 : decode cX6_keep 0 = .ok (.iconst 0, 1) := by decide +kernel
theorem dX6_keep_1 : decode cX6_keep 1 = .ok (.istore_n 1, 1) := by decide +kernel
theorem dX6_keep_2 : decode cX6_keep 2 = .ok (.iload_n 1, 1) := by decide +kernel
theorem dX6_keep_3 : decode cX6_keep 3 = .ok (.sipush 1312, 3) := by decide +kernel
theorem dX6_keep_6 : decode cX6_keep 6 = .ok (.if_icmp .ge 21, 3) := by decide +kernel
theorem dX6_keep_9 : decode cX6_keep 9 = .ok (.aload_n 0, 1) := by decide +kernel
theorem dX6_keep_10 : decode cX6_keep 10 = .ok (.getfield 19, 3) := by decide +kernel
theorem dX6_keep_13 : decode cX6_keep 13 = .ok (.iload_n 1, 1) := by decide +kernel
theorem dX6_keep_14 : decode cX6_keep 14 = .ok (.aload_n 0, 1) := by decide +kernel
theorem dX6_keep_15 : decode cX6_keep 15 = .ok (.getfield 7, 3) := by decide +kernel
theorem dX6_keep_18 : decode cX6_keep 18 = .ok (.iload_n 1, 1) := by decide +kernel
theorem dX6_keep_19 : decode cX6_keep 19 = .ok (.iaload, 1) := by decide +kernel
theorem dX6_keep_20 : decode cX6_keep 20 = .ok (.iastore, 1) := by decide +kernel
theorem dX6_keep_21 : decode cX6_keep 21 = .ok (.iinc 1 1, 3) := by decide +kernel
theorem dX6_keep_24 : decode cX6_keep 24 = .ok (.goto (-22), 3) := by decide +kernel
theorem dX6_keep_27 : decode cX6_keep 27 = .ok (.return_, 1) := by decide +kernel
theorem dX6_layBack_0 : decode cX6_layBack 0 = .ok (.iconst 0, 1) := by decide +kernel
theorem dX6_layBack_1 : decode cX6_layBack 1 = .ok (.istore_n 1, 1) := by decide +kernel
theorem dX6_layBack_2 : decode cX6_layBack 2 = .ok (.iload_n 1, 1) := by decide +kernel
theorem dX6_layBack_3 : decode cX6_layBack 3 = .ok (.sipush 1312, 3) := by decide +kernel
theorem dX6_layBack_6 : decode cX6_layBack 6 = .ok (.if_icmp .ge 21, 3) := by decide +kernel
theorem dX6_layBack_9 : decode cX6_layBack 9 = .ok (.aload_n 0, 1) := by decide +kernel
theorem dX6_layBack_10 : decode cX6_layBack 10 = .ok (.getfield 7, 3) := by decide +kernel
theorem dX6_layBack_13 : decode cX6_layBack 13 = .ok (.iload_n 1, 1) := by decide +kernel
theorem dX6_layBack_14 : decode cX6_layBack 14 = .ok (.aload_n 0, 1) := by decide +kernel
theorem dX6_layBack_15 : decode cX6_layBack 15 = .ok (.getfield 19, 3) := by decide +kernel
theorem dX6_layBack_18 : decode cX6_layBack 18 = .ok (.iload_n 1, 1) := by decide +kernel
theorem dX6_layBack_19 : decode cX6_layBack 19 = .ok (.iaload, 1) := by decide +kernel
theorem dX6_layBack_20 : decode cX6_layBack 20 = .ok (.iastore, 1) := by decide +kernel
theorem dX6_layBack_21 : decode cX6_layBack 21 = .ok (.iinc 1 1, 3) := by decide +kernel
theorem dX6_layBack_24 : decode cX6_layBack 24 = .ok (.goto (-22), 3) := by decide +kernel
theorem dX6_layBack_27 : decode cX6_layBack 27 = .ok (.return_, 1) := by decide +kernel
theorem dX6_reachOf_0 : decode cX6_reachOf 0 = .ok (.aload_n 0, 1) := by decide +kernel
theorem dX6_reachOf_1 : decode cX6_reachOf 1 = .ok (.invokevirtual 118, 3) := by decide +kernel
theorem dX6_reachOf_4 : decode cX6_reachOf 4 = .ok (.aload_n 0, 1) := by decide +kernel
theorem dX6_reachOf_5 : decode cX6_reachOf 5 = .ok (.iload_n 1, 1) := by decide +kernel
theorem dX6_reachOf_6 : decode cX6_reachOf 6 = .ok (.iload_n 2, 1) := by decide +kernel
theorem dX6_reachOf_7 : decode cX6_reachOf 7 = .ok (.invokevirtual 121, 3) := by decide +kernel
theorem dX6_reachOf_10 : decode cX6_reachOf 10 = .ok (.aload_n 0, 1) := by decide +kernel
theorem dX6_reachOf_11 : decode cX6_reachOf 11 = .ok (.aload_n 0, 1) := by decide +kernel
theorem dX6_reachOf_12 : decode cX6_reachOf 12 = .ok (.iload_n 1, 1) := by decide +kernel
theorem dX6_reachOf_13 : decode cX6_reachOf 13 = .ok (.invokevirtual 60, 3) := by decide +kernel
theorem dX6_reachOf_16 : decode cX6_reachOf 16 = .ok (.invokevirtual 112, 3) := by decide +kernel
theorem dX6_reachOf_19 : decode cX6_reachOf 19 = .ok (.istore_n 3, 1) := by decide +kernel
theorem dX6_reachOf_20 : decode cX6_reachOf 20 = .ok (.aload_n 0, 1) := by decide +kernel
theorem dX6_reachOf_21 : decode cX6_reachOf 21 = .ok (.invokevirtual 125, 3) := by decide +kernel
theorem dX6_reachOf_24 : decode cX6_reachOf 24 = .ok (.iload_n 3, 1) := by decide +kernel
theorem dX6_reachOf_25 : decode cX6_reachOf 25 = .ok (.ireturn, 1) := by decide +kernel
theorem dX6_grow_0 : decode cX6_grow 0 = .ok (.aload_n 0, 1) := by decide +kernel
theorem dX6_grow_1 : decode cX6_grow 1 = .ok (.aload_n 0, 1) := by decide +kernel
theorem dX6_grow_2 : decode cX6_grow 2 = .ok (.iload_n 1, 1) := by decide +kernel
theorem dX6_grow_3 : decode cX6_grow 3 = .ok (.invokevirtual 103, 3) := by decide +kernel
theorem dX6_grow_6 : decode cX6_grow 6 = .ok (.ifCond .eq 23, 3) := by decide +kernel
theorem dX6_grow_9 : decode cX6_grow 9 = .ok (.iload_n 2, 1) := by decide +kernel
theorem dX6_grow_10 : decode cX6_grow 10 = .ok (.invokestatic 94, 3) := by decide +kernel
theorem dX6_grow_13 : decode cX6_grow 13 = .ok (.ifCond .eq 16, 3) := by decide +kernel
theorem dX6_grow_16 : decode cX6_grow 16 = .ok (.aload_n 0, 1) := by decide +kernel
theorem dX6_grow_17 : decode cX6_grow 17 = .ok (.getfield 7, 3) := by decide +kernel
theorem dX6_grow_20 : decode cX6_grow 20 = .ok (.bipush 7, 2) := by decide +kernel
theorem dX6_grow_22 : decode cX6_grow 22 = .ok (.iload_n 1, 1) := by decide +kernel
theorem dX6_grow_23 : decode cX6_grow 23 = .ok (.iadd, 1) := by decide +kernel
theorem dX6_grow_24 : decode cX6_grow 24 = .ok (.iaload, 1) := by decide +kernel
theorem dX6_grow_25 : decode cX6_grow 25 = .ok (.iload_n 2, 1) := by decide +kernel
theorem dX6_grow_26 : decode cX6_grow 26 = .ok (.if_icmp .le 7, 3) := by decide +kernel
theorem dX6_grow_29 : decode cX6_grow 29 = .ok (.iconst 1, 1) := by decide +kernel
theorem dX6_grow_30 : decode cX6_grow 30 = .ok (.goto 4, 3) := by decide +kernel
theorem dX6_grow_33 : decode cX6_grow 33 = .ok (.iconst 0, 1) := by decide +kernel
theorem dX6_grow_34 : decode cX6_grow 34 = .ok (.putfield 29, 3) := by decide +kernel
theorem dX6_grow_37 : decode cX6_grow 37 = .ok (.aload_n 0, 1) := by decide +kernel
theorem dX6_grow_38 : decode cX6_grow 38 = .ok (.getfield 29, 3) := by decide +kernel
theorem dX6_grow_41 : decode cX6_grow 41 = .ok (.ifCond .ne 22, 3) := by decide +kernel
theorem dX6_grow_44 : decode cX6_grow 44 = .ok (.aload_n 0, 1) := by decide +kernel
theorem dX6_grow_45 : decode cX6_grow 45 = .ok (.aload_n 0, 1) := by decide +kernel
theorem dX6_grow_46 : decode cX6_grow 46 = .ok (.iload_n 1, 1) := by decide +kernel
theorem dX6_grow_47 : decode cX6_grow 47 = .ok (.iload_n 2, 1) := by decide +kernel
theorem dX6_grow_48 : decode cX6_grow 48 = .ok (.invokevirtual 128, 3) := by decide +kernel
theorem dX6_grow_51 : decode cX6_grow 51 = .ok (.iload_n 2, 1) := by decide +kernel
theorem dX6_grow_52 : decode cX6_grow 52 = .ok (.if_icmp .lt 7, 3) := by decide +kernel
theorem dX6_grow_55 : decode cX6_grow 55 = .ok (.iconst 0, 1) := by decide +kernel
theorem dX6_grow_56 : decode cX6_grow 56 = .ok (.goto 4, 3) := by decide +kernel
theorem dX6_grow_59 : decode cX6_grow 59 = .ok (.iconst 2, 1) := by decide +kernel
theorem dX6_grow_60 : decode cX6_grow 60 = .ok (.putfield 29, 3) := by decide +kernel
theorem dX6_grow_63 : decode cX6_grow 63 = .ok (.aload_n 0, 1) := by decide +kernel
theorem dX6_grow_64 : decode cX6_grow 64 = .ok (.getfield 29, 3) := by decide +kernel
theorem dX6_grow_67 : decode cX6_grow 67 = .ok (.ifCond .le 5, 3) := by decide +kernel
theorem dX6_grow_70 : decode cX6_grow 70 = .ok (.iconst 0, 1) := by decide +kernel
theorem dX6_grow_71 : decode cX6_grow 71 = .ok (.ireturn, 1) := by decide +kernel
theorem dX6_grow_72 : decode cX6_grow 72 = .ok (.aload_n 0, 1) := by decide +kernel
theorem dX6_grow_73 : decode cX6_grow 73 = .ok (.invokevirtual 91, 3) := by decide +kernel
theorem dX6_grow_76 : decode cX6_grow 76 = .ok (.aload_n 0, 1) := by decide +kernel
theorem dX6_grow_77 : decode cX6_grow 77 = .ok (.iload_n 1, 1) := by decide +kernel
theorem dX6_grow_78 : decode cX6_grow 78 = .ok (.iload_n 2, 1) := by decide +kernel
theorem dX6_grow_79 : decode cX6_grow 79 = .ok (.invokevirtual 121, 3) := by decide +kernel
theorem dX6_grow_82 : decode cX6_grow 82 = .ok (.aload_n 0, 1) := by decide +kernel
theorem dX6_grow_83 : decode cX6_grow 83 = .ok (.getfield 7, 3) := by decide +kernel
theorem dX6_grow_86 : decode cX6_grow 86 = .ok (.bipush 7, 2) := by decide +kernel
theorem dX6_grow_88 : decode cX6_grow 88 = .ok (.iload_n 1, 1) := by decide +kernel
theorem dX6_grow_89 : decode cX6_grow 89 = .ok (.iadd, 1) := by decide +kernel
theorem dX6_grow_90 : decode cX6_grow 90 = .ok (.iload_n 2, 1) := by decide +kernel
theorem dX6_grow_91 : decode cX6_grow 91 = .ok (.iastore, 1) := by decide +kernel
theorem dX6_grow_92 : decode cX6_grow 92 = .ok (.aload_n 0, 1) := by decide +kernel
theorem dX6_grow_93 : decode cX6_grow 93 = .ok (.aload_n 0, 1) := by decide +kernel
theorem dX6_grow_94 : decode cX6_grow 94 = .ok (.iload_n 1, 1) := by decide +kernel
theorem dX6_grow_95 : decode cX6_grow 95 = .ok (.invokevirtual 60, 3) := by decide +kernel
theorem dX6_grow_98 : decode cX6_grow 98 = .ok (.iconst 1, 1) := by decide +kernel
theorem dX6_grow_99 : decode cX6_grow 99 = .ok (.invokevirtual 44, 3) := by decide +kernel
theorem dX6_grow_102 : decode cX6_grow 102 = .ok (.ireturn, 1) := by decide +kernel
theorem dX6_shrink_0 : decode cX6_shrink 0 = .ok (.aload_n 0, 1) := by decide +kernel
theorem dX6_shrink_1 : decode cX6_shrink 1 = .ok (.aload_n 0, 1) := by decide +kernel
theorem dX6_shrink_2 : decode cX6_shrink 2 = .ok (.iload_n 1, 1) := by decide +kernel
theorem dX6_shrink_3 : decode cX6_shrink 3 = .ok (.invokevirtual 103, 3) := by decide +kernel
theorem dX6_shrink_6 : decode cX6_shrink 6 = .ok (.ifCond .eq 24, 3) := by decide +kernel
theorem dX6_shrink_9 : decode cX6_shrink 9 = .ok (.iload_n 2, 1) := by decide +kernel
theorem dX6_shrink_10 : decode cX6_shrink 10 = .ok (.iconst 1, 1) := by decide +kernel
theorem dX6_shrink_11 : decode cX6_shrink 11 = .ok (.aload_n 0, 1) := by decide +kernel
theorem dX6_shrink_12 : decode cX6_shrink 12 = .ok (.getfield 7, 3) := by decide +kernel
theorem dX6_shrink_15 : decode cX6_shrink 15 = .ok (.bipush 7, 2) := by decide +kernel
theorem dX6_shrink_17 : decode cX6_shrink 17 = .ok (.iload_n 1, 1) := by decide +kernel
theorem dX6_shrink_18 : decode cX6_shrink 18 = .ok (.iadd, 1) := by decide +kernel
theorem dX6_shrink_19 : decode cX6_shrink 19 = .ok (.iaload, 1) := by decide +kernel
theorem dX6_shrink_20 : decode cX6_shrink 20 = .ok (.invokestatic 52, 3) := by decide +kernel
theorem dX6_shrink_23 : decode cX6_shrink 23 = .ok (.ifCond .eq 7, 3) := by decide +kernel
theorem dX6_shrink_26 : decode cX6_shrink 26 = .ok (.iconst 0, 1) := by decide +kernel
theorem dX6_shrink_27 : decode cX6_shrink 27 = .ok (.goto 4, 3) := by decide +kernel
theorem dX6_shrink_30 : decode cX6_shrink 30 = .ok (.iconst 1, 1) := by decide +kernel
theorem dX6_shrink_31 : decode cX6_shrink 31 = .ok (.putfield 29, 3) := by decide +kernel
theorem dX6_shrink_34 : decode cX6_shrink 34 = .ok (.aload_n 0, 1) := by decide +kernel
theorem dX6_shrink_35 : decode cX6_shrink 35 = .ok (.getfield 29, 3) := by decide +kernel
theorem dX6_shrink_38 : decode cX6_shrink 38 = .ok (.ifCond .le 5, 3) := by decide +kernel
theorem dX6_shrink_41 : decode cX6_shrink 41 = .ok (.iconst 0, 1) := by decide +kernel
theorem dX6_shrink_42 : decode cX6_shrink 42 = .ok (.ireturn, 1) := by decide +kernel
theorem dX6_shrink_43 : decode cX6_shrink 43 = .ok (.aload_n 0, 1) := by decide +kernel
theorem dX6_shrink_44 : decode cX6_shrink 44 = .ok (.invokevirtual 91, 3) := by decide +kernel
theorem dX6_shrink_47 : decode cX6_shrink 47 = .ok (.aload_n 0, 1) := by decide +kernel
theorem dX6_shrink_48 : decode cX6_shrink 48 = .ok (.iload_n 1, 1) := by decide +kernel
theorem dX6_shrink_49 : decode cX6_shrink 49 = .ok (.invokevirtual 60, 3) := by decide +kernel
theorem dX6_shrink_52 : decode cX6_shrink 52 = .ok (.istore_n 3, 1) := by decide +kernel
theorem dX6_shrink_53 : decode cX6_shrink 53 = .ok (.aload_n 0, 1) := by decide +kernel
theorem dX6_shrink_54 : decode cX6_shrink 54 = .ok (.iload_n 3, 1) := by decide +kernel
theorem dX6_shrink_55 : decode cX6_shrink 55 = .ok (.invokevirtual 72, 3) := by decide +kernel
theorem dX6_shrink_58 : decode cX6_shrink 58 = .ok (.ifCond .eq 26, 3) := by decide +kernel
theorem dX6_shrink_61 : decode cX6_shrink 61 = .ok (.aload_n 0, 1) := by decide +kernel
theorem dX6_shrink_62 : decode cX6_shrink 62 = .ok (.iload_n 3, 1) := by decide +kernel
theorem dX6_shrink_63 : decode cX6_shrink 63 = .ok (.iconst 1, 1) := by decide +kernel
theorem dX6_shrink_64 : decode cX6_shrink 64 = .ok (.invokevirtual 44, 3) := by decide +kernel
theorem dX6_shrink_67 : decode cX6_shrink 67 = .ok (.iconst 1, 1) := by decide +kernel
theorem dX6_shrink_68 : decode cX6_shrink 68 = .ok (.isub, 1) := by decide +kernel
theorem dX6_shrink_69 : decode cX6_shrink 69 = .ok (.invokestatic 48, 3) := by decide +kernel
theorem dX6_shrink_72 : decode cX6_shrink 72 = .ok (.iload_n 2, 1) := by decide +kernel
theorem dX6_shrink_73 : decode cX6_shrink 73 = .ok (.if_icmp .lt 11, 3) := by decide +kernel
theorem dX6_shrink_76 : decode cX6_shrink 76 = .ok (.aload_n 0, 1) := by decide +kernel
theorem dX6_shrink_77 : decode cX6_shrink 77 = .ok (.iload_n 3, 1) := by decide +kernel
theorem dX6_shrink_78 : decode cX6_shrink 78 = .ok (.invokevirtual 75, 3) := by decide +kernel
theorem dX6_shrink_81 : decode cX6_shrink 81 = .ok (.goto (-28), 3) := by decide +kernel
theorem dX6_shrink_84 : decode cX6_shrink 84 = .ok (.aload_n 0, 1) := by decide +kernel
theorem dX6_shrink_85 : decode cX6_shrink 85 = .ok (.getfield 7, 3) := by decide +kernel
theorem dX6_shrink_88 : decode cX6_shrink 88 = .ok (.bipush 7, 2) := by decide +kernel
theorem dX6_shrink_90 : decode cX6_shrink 90 = .ok (.iload_n 1, 1) := by decide +kernel
theorem dX6_shrink_91 : decode cX6_shrink 91 = .ok (.iadd, 1) := by decide +kernel
theorem dX6_shrink_92 : decode cX6_shrink 92 = .ok (.iload_n 2, 1) := by decide +kernel
theorem dX6_shrink_93 : decode cX6_shrink 93 = .ok (.iastore, 1) := by decide +kernel
theorem dX6_shrink_94 : decode cX6_shrink 94 = .ok (.aload_n 0, 1) := by decide +kernel
theorem dX6_shrink_95 : decode cX6_shrink 95 = .ok (.iload_n 3, 1) := by decide +kernel
theorem dX6_shrink_96 : decode cX6_shrink 96 = .ok (.iconst 1, 1) := by decide +kernel
theorem dX6_shrink_97 : decode cX6_shrink 97 = .ok (.invokevirtual 44, 3) := by decide +kernel
theorem dX6_shrink_100 : decode cX6_shrink 100 = .ok (.ireturn, 1) := by decide +kernel
theorem dX6_set_0 : decode cX6_set 0 = .ok (.aload_n 0, 1) := by decide +kernel
theorem dX6_set_1 : decode cX6_set 1 = .ok (.iload_n 1, 1) := by decide +kernel
theorem dX6_set_2 : decode cX6_set 2 = .ok (.iconst 0, 1) := by decide +kernel
theorem dX6_set_3 : decode cX6_set 3 = .ok (.iconst 1, 1) := by decide +kernel
theorem dX6_set_4 : decode cX6_set 4 = .ok (.invokestatic 52, 3) := by decide +kernel
theorem dX6_set_7 : decode cX6_set 7 = .ok (.ifCond .ne 7, 3) := by decide +kernel
theorem dX6_set_10 : decode cX6_set 10 = .ok (.iconst 1, 1) := by decide +kernel
theorem dX6_set_11 : decode cX6_set 11 = .ok (.goto 17, 3) := by decide +kernel
theorem dX6_set_14 : decode cX6_set 14 = .ok (.iload_n 2, 1) := by decide +kernel
theorem dX6_set_15 : decode cX6_set 15 = .ok (.iconst 0, 1) := by decide +kernel
theorem dX6_set_16 : decode cX6_set 16 = .ok (.iconst 1, 1) := by decide +kernel
theorem dX6_set_17 : decode cX6_set 17 = .ok (.invokestatic 52, 3) := by decide +kernel
theorem dX6_set_20 : decode cX6_set 20 = .ok (.ifCond .eq 7, 3) := by decide +kernel
theorem dX6_set_23 : decode cX6_set 23 = .ok (.iconst 0, 1) := by decide +kernel
theorem dX6_set_24 : decode cX6_set 24 = .ok (.goto 4, 3) := by decide +kernel
theorem dX6_set_27 : decode cX6_set 27 = .ok (.iconst 2, 1) := by decide +kernel
theorem dX6_set_28 : decode cX6_set 28 = .ok (.putfield 29, 3) := by decide +kernel
theorem dX6_set_31 : decode cX6_set 31 = .ok (.aload_n 0, 1) := by decide +kernel
theorem dX6_set_32 : decode cX6_set 32 = .ok (.getfield 29, 3) := by decide +kernel
theorem dX6_set_35 : decode cX6_set 35 = .ok (.ifCond .le 5, 3) := by decide +kernel
theorem dX6_set_38 : decode cX6_set 38 = .ok (.iconst 0, 1) := by decide +kernel
theorem dX6_set_39 : decode cX6_set 39 = .ok (.ireturn, 1) := by decide +kernel
theorem dX6_set_40 : decode cX6_set 40 = .ok (.aload_n 0, 1) := by decide +kernel
theorem dX6_set_41 : decode cX6_set 41 = .ok (.invokevirtual 91, 3) := by decide +kernel
theorem dX6_set_44 : decode cX6_set 44 = .ok (.aload_n 0, 1) := by decide +kernel
theorem dX6_set_45 : decode cX6_set 45 = .ok (.getfield 7, 3) := by decide +kernel
theorem dX6_set_48 : decode cX6_set 48 = .ok (.iload_n 1, 1) := by decide +kernel
theorem dX6_set_49 : decode cX6_set 49 = .ok (.iaload, 1) := by decide +kernel
theorem dX6_set_50 : decode cX6_set 50 = .ok (.istore_n 3, 1) := by decide +kernel
theorem dX6_set_51 : decode cX6_set 51 = .ok (.aload_n 0, 1) := by decide +kernel
theorem dX6_set_52 : decode cX6_set 52 = .ok (.getfield 7, 3) := by decide +kernel
theorem dX6_set_55 : decode cX6_set 55 = .ok (.iload_n 1, 1) := by decide +kernel
theorem dX6_set_56 : decode cX6_set 56 = .ok (.iload_n 2, 1) := by decide +kernel
theorem dX6_set_57 : decode cX6_set 57 = .ok (.iastore, 1) := by decide +kernel
theorem dX6_set_58 : decode cX6_set 58 = .ok (.iload_n 3, 1) := by decide +kernel
theorem dX6_set_59 : decode cX6_set 59 = .ok (.ireturn, 1) := by decide +kernel
theorem dX6_append_0 : decode cX6_append 0 = .ok (.aload_n 0, 1) := by decide +kernel
theorem dX6_append_1 : decode cX6_append 1 = .ok (.iload_n 1, 1) := by decide +kernel
theorem dX6_append_2 : decode cX6_append 2 = .ok (.bipush 33, 2) := by decide +kernel
theorem dX6_append_4 : decode cX6_append 4 = .ok (.bipush 126, 2) := by decide +kernel
theorem dX6_append_6 : decode cX6_append 6 = .ok (.invokestatic 52, 3) := by decide +kernel
theorem dX6_append_9 : decode cX6_append 9 = .ok (.ifCond .ne 7, 3) := by decide +kernel
theorem dX6_append_12 : decode cX6_append 12 = .ok (.iconst 1, 1) := by decide +kernel
theorem dX6_append_13 : decode cX6_append 13 = .ok (.goto 17, 3) := by decide +kernel
theorem dX6_append_16 : decode cX6_append 16 = .ok (.aload_n 0, 1) := by decide +kernel
theorem dX6_append_17 : decode cX6_append 17 = .ok (.getfield 131, 3) := by decide +kernel
theorem dX6_append_20 : decode cX6_append 20 = .ok (.bipush 60, 2) := by decide +kernel
theorem dX6_append_22 : decode cX6_append 22 = .ok (.if_icmp .ne 7, 3) := by decide +kernel
theorem dX6_append_25 : decode cX6_append 25 = .ok (.iconst 2, 1) := by decide +kernel
theorem dX6_append_26 : decode cX6_append 26 = .ok (.goto 4, 3) := by decide +kernel
theorem dX6_append_29 : decode cX6_append 29 = .ok (.iconst 0, 1) := by decide +kernel
theorem dX6_append_30 : decode cX6_append 30 = .ok (.putfield 29, 3) := by decide +kernel
theorem dX6_append_33 : decode cX6_append 33 = .ok (.aload_n 0, 1) := by decide +kernel
theorem dX6_append_34 : decode cX6_append 34 = .ok (.getfield 29, 3) := by decide +kernel
theorem dX6_append_37 : decode cX6_append 37 = .ok (.ifCond .le 5, 3) := by decide +kernel
theorem dX6_append_40 : decode cX6_append 40 = .ok (.iconst 0, 1) := by decide +kernel
theorem dX6_append_41 : decode cX6_append 41 = .ok (.ireturn, 1) := by decide +kernel
theorem dX6_append_42 : decode cX6_append 42 = .ok (.aload_n 0, 1) := by decide +kernel
theorem dX6_append_43 : decode cX6_append 43 = .ok (.getfield 16, 3) := by decide +kernel
theorem dX6_append_46 : decode cX6_append 46 = .ok (.aload_n 0, 1) := by decide +kernel
theorem dX6_append_47 : decode cX6_append 47 = .ok (.getfield 131, 3) := by decide +kernel
theorem dX6_append_50 : decode cX6_append 50 = .ok (.iload_n 1, 1) := by decide +kernel
theorem dX6_append_51 : decode cX6_append 51 = .ok (.iastore, 1) := by decide +kernel
theorem dX6_append_52 : decode cX6_append 52 = .ok (.aload_n 0, 1) := by decide +kernel
theorem dX6_append_53 : decode cX6_append 53 = .ok (.dup, 1) := by decide +kernel
theorem dX6_append_54 : decode cX6_append 54 = .ok (.getfield 131, 3) := by decide +kernel
theorem dX6_append_57 : decode cX6_append 57 = .ok (.iconst 1, 1) := by decide +kernel
theorem dX6_append_58 : decode cX6_append 58 = .ok (.iadd, 1) := by decide +kernel
theorem dX6_append_59 : decode cX6_append 59 = .ok (.putfield 131, 3) := by decide +kernel
theorem dX6_append_62 : decode cX6_append 62 = .ok (.aload_n 0, 1) := by decide +kernel
theorem dX6_append_63 : decode cX6_append 63 = .ok (.getfield 131, 3) := by decide +kernel
theorem dX6_append_66 : decode cX6_append 66 = .ok (.ireturn, 1) := by decide +kernel
theorem dX6_clearBuffer_0 : decode cX6_clearBuffer 0 = .ok (.aload_n 0, 1) := by decide +kernel
theorem dX6_clearBuffer_1 : decode cX6_clearBuffer 1 = .ok (.iconst 0, 1) := by decide +kernel
theorem dX6_clearBuffer_2 : decode cX6_clearBuffer 2 = .ok (.putfield 29, 3) := by decide +kernel
theorem dX6_clearBuffer_5 : decode cX6_clearBuffer 5 = .ok (.aload_n 0, 1) := by decide +kernel
theorem dX6_clearBuffer_6 : decode cX6_clearBuffer 6 = .ok (.getfield 131, 3) := by decide +kernel
theorem dX6_clearBuffer_9 : decode cX6_clearBuffer 9 = .ok (.istore_n 1, 1) := by decide +kernel
theorem dX6_clearBuffer_10 : decode cX6_clearBuffer 10 = .ok (.aload_n 0, 1) := by decide +kernel
theorem dX6_clearBuffer_11 : decode cX6_clearBuffer 11 = .ok (.iconst 0, 1) := by decide +kernel
theorem dX6_clearBuffer_12 : decode cX6_clearBuffer 12 = .ok (.putfield 131, 3) := by decide +kernel
theorem dX6_clearBuffer_15 : decode cX6_clearBuffer 15 = .ok (.iload_n 1, 1) := by decide +kernel
theorem dX6_clearBuffer_16 : decode cX6_clearBuffer 16 = .ok (.ireturn, 1) := by decide +kernel
theorem dX6_takesDigit_0 : decode cX6_takesDigit 0 = .ok (.aload_n 0, 1) := by decide +kernel
theorem dX6_takesDigit_1 : decode cX6_takesDigit 1 = .ok (.getfield 22, 3) := by decide +kernel
theorem dX6_takesDigit_4 : decode cX6_takesDigit 4 = .ok (.iconst 2, 1) := by decide +kernel
theorem dX6_takesDigit_5 : decode cX6_takesDigit 5 = .ok (.aload_n 0, 1) := by decide +kernel
theorem dX6_takesDigit_6 : decode cX6_takesDigit 6 = .ok (.getfield 134, 3) := by decide +kernel
theorem dX6_takesDigit_9 : decode cX6_takesDigit 9 = .ok (.imul, 1) := by decide +kernel
theorem dX6_takesDigit_10 : decode cX6_takesDigit 10 = .ok (.iaload, 1) := by decide +kernel
theorem dX6_takesDigit_11 : decode cX6_takesDigit 11 = .ok (.iconst 1, 1) := by decide +kernel
theorem dX6_takesDigit_12 : decode cX6_takesDigit 12 = .ok (.if_icmp .ne 7, 3) := by decide +kernel
theorem dX6_takesDigit_15 : decode cX6_takesDigit 15 = .ok (.iconst 1, 1) := by decide +kernel
theorem dX6_takesDigit_16 : decode cX6_takesDigit 16 = .ok (.goto 4, 3) := by decide +kernel
theorem dX6_takesDigit_19 : decode cX6_takesDigit 19 = .ok (.iconst 0, 1) := by decide +kernel
theorem dX6_takesDigit_20 : decode cX6_takesDigit 20 = .ok (.istore_n 2, 1) := by decide +kernel
theorem dX6_takesDigit_21 : decode cX6_takesDigit 21 = .ok (.aload_n 0, 1) := by decide +kernel
theorem dX6_takesDigit_22 : decode cX6_takesDigit 22 = .ok (.getfield 137, 3) := by decide +kernel
theorem dX6_takesDigit_25 : decode cX6_takesDigit 25 = .ok (.iconst (-1), 1) := by decide +kernel
theorem dX6_takesDigit_26 : decode cX6_takesDigit 26 = .ok (.if_icmp .ne 7, 3) := by decide +kernel
theorem dX6_takesDigit_29 : decode cX6_takesDigit 29 = .ok (.iload_n 1, 1) := by decide +kernel
theorem dX6_takesDigit_30 : decode cX6_takesDigit 30 = .ok (.goto 12, 3) := by decide +kernel
theorem dX6_takesDigit_33 : decode cX6_takesDigit 33 = .ok (.bipush 10, 2) := by decide +kernel
theorem dX6_takesDigit_35 : decode cX6_takesDigit 35 = .ok (.aload_n 0, 1) := by decide +kernel
theorem dX6_takesDigit_36 : decode cX6_takesDigit 36 = .ok (.getfield 137, 3) := by decide +kernel
theorem dX6_takesDigit_39 : decode cX6_takesDigit 39 = .ok (.imul, 1) := by decide +kernel
theorem dX6_takesDigit_40 : decode cX6_takesDigit 40 = .ok (.iload_n 1, 1) := by decide +kernel
theorem dX6_takesDigit_41 : decode cX6_takesDigit 41 = .ok (.iadd, 1) := by decide +kernel
theorem dX6_takesDigit_42 : decode cX6_takesDigit 42 = .ok (.istore_n 3, 1) := by decide +kernel
theorem dX6_takesDigit_43 : decode cX6_takesDigit 43 = .ok (.iload_n 1, 1) := by decide +kernel
theorem dX6_takesDigit_44 : decode cX6_takesDigit 44 = .ok (.iconst 0, 1) := by decide +kernel
theorem dX6_takesDigit_45 : decode cX6_takesDigit 45 = .ok (.bipush 9, 2) := by decide +kernel
theorem dX6_takesDigit_47 : decode cX6_takesDigit 47 = .ok (.invokestatic 52, 3) := by decide +kernel
theorem dX6_takesDigit_50 : decode cX6_takesDigit 50 = .ok (.ifCond .eq 34, 3) := by decide +kernel
theorem dX6_takesDigit_53 : decode cX6_takesDigit 53 = .ok (.aload_n 0, 1) := by decide +kernel
theorem dX6_takesDigit_54 : decode cX6_takesDigit 54 = .ok (.getfield 137, 3) := by decide +kernel
theorem dX6_takesDigit_57 : decode cX6_takesDigit 57 = .ok (.ifCond .eq 27, 3) := by decide +kernel
theorem dX6_takesDigit_60 : decode cX6_takesDigit 60 = .ok (.iload_n 2, 1) := by decide +kernel
theorem dX6_takesDigit_61 : decode cX6_takesDigit 61 = .ok (.ifCond .eq 13, 3) := by decide +kernel
theorem dX6_takesDigit_64 : decode cX6_takesDigit 64 = .ok (.iload_n 3, 1) := by decide +kernel
theorem dX6_takesDigit_65 : decode cX6_takesDigit 65 = .ok (.invokestatic 94, 3) := by decide +kernel
theorem dX6_takesDigit_68 : decode cX6_takesDigit 68 = .ok (.ifCond .eq 16, 3) := by decide +kernel
theorem dX6_takesDigit_71 : decode cX6_takesDigit 71 = .ok (.goto 9, 3) := by decide +kernel
theorem dX6_takesDigit_74 : decode cX6_takesDigit 74 = .ok (.iload_n 3, 1) := by decide +kernel
theorem dX6_takesDigit_75 : decode cX6_takesDigit 75 = .ok (.bipush 24, 2) := by decide +kernel
theorem dX6_takesDigit_77 : decode cX6_takesDigit 77 = .ok (.if_icmp .ge 7, 3) := by decide +kernel
theorem dX6_takesDigit_80 : decode cX6_takesDigit 80 = .ok (.iconst 1, 1) := by decide +kernel
theorem dX6_takesDigit_81 : decode cX6_takesDigit 81 = .ok (.goto 4, 3) := by decide +kernel
theorem dX6_takesDigit_84 : decode cX6_takesDigit 84 = .ok (.iconst 0, 1) := by decide +kernel
theorem dX6_takesDigit_85 : decode cX6_takesDigit 85 = .ok (.istore 4, 2) := by decide +kernel
theorem dX6_takesDigit_87 : decode cX6_takesDigit 87 = .ok (.aload_n 0, 1) := by decide +kernel
theorem dX6_takesDigit_88 : decode cX6_takesDigit 88 = .ok (.iload 4, 2) := by decide +kernel
theorem dX6_takesDigit_90 : decode cX6_takesDigit 90 = .ok (.ifCond .eq 7, 3) := by decide +kernel
theorem dX6_takesDigit_93 : decode cX6_takesDigit 93 = .ok (.iload_n 3, 1) := by decide +kernel
theorem dX6_takesDigit_94 : decode cX6_takesDigit 94 = .ok (.goto 7, 3) := by decide +kernel
theorem dX6_takesDigit_97 : decode cX6_takesDigit 97 = .ok (.aload_n 0, 1) := by decide +kernel
theorem dX6_takesDigit_98 : decode cX6_takesDigit 98 = .ok (.getfield 137, 3) := by decide +kernel
theorem dX6_takesDigit_101 : decode cX6_takesDigit 101 = .ok (.putfield 137, 3) := by decide +kernel
theorem dX6_takesDigit_104 : decode cX6_takesDigit 104 = .ok (.aload_n 0, 1) := by decide +kernel
theorem dX6_takesDigit_105 : decode cX6_takesDigit 105 = .ok (.getfield 22, 3) := by decide +kernel
theorem dX6_takesDigit_108 : decode cX6_takesDigit 108 = .ok (.iconst 2, 1) := by decide +kernel
theorem dX6_takesDigit_109 : decode cX6_takesDigit 109 = .ok (.aload_n 0, 1) := by decide +kernel
theorem dX6_takesDigit_110 : decode cX6_takesDigit 110 = .ok (.getfield 134, 3) := by decide +kernel
theorem dX6_takesDigit_113 : decode cX6_takesDigit 113 = .ok (.imul, 1) := by decide +kernel
theorem dX6_takesDigit_114 : decode cX6_takesDigit 114 = .ok (.iconst 1, 1) := by decide +kernel
theorem dX6_takesDigit_115 : decode cX6_takesDigit 115 = .ok (.iadd, 1) := by decide +kernel
theorem dX6_takesDigit_116 : decode cX6_takesDigit 116 = .ok (.aload_n 0, 1) := by decide +kernel
theorem dX6_takesDigit_117 : decode cX6_takesDigit 117 = .ok (.getfield 137, 3) := by decide +kernel
theorem dX6_takesDigit_120 : decode cX6_takesDigit 120 = .ok (.iastore, 1) := by decide +kernel
theorem dX6_takesDigit_121 : decode cX6_takesDigit 121 = .ok (.iload 4, 2) := by decide +kernel
theorem dX6_takesDigit_123 : decode cX6_takesDigit 123 = .ok (.ireturn, 1) := by decide +kernel
theorem dX6_takes_0 : decode cX6_takes 0 = .ok (.aload_n 0, 1) := by decide +kernel
theorem dX6_takes_1 : decode cX6_takes 1 = .ok (.getfield 140, 3) := by decide +kernel
theorem dX6_takes_4 : decode cX6_takes 4 = .ok (.ifCond .eq 53, 3) := by decide +kernel
theorem dX6_takes_7 : decode cX6_takes 7 = .ok (.aload_n 0, 1) := by decide +kernel
theorem dX6_takes_8 : decode cX6_takes 8 = .ok (.getfield 22, 3) := by decide +kernel
theorem dX6_takes_11 : decode cX6_takes 11 = .ok (.iconst 2, 1) := by decide +kernel
theorem dX6_takes_12 : decode cX6_takes 12 = .ok (.aload_n 0, 1) := by decide +kernel
theorem dX6_takes_13 : decode cX6_takes 13 = .ok (.getfield 134, 3) := by decide +kernel
theorem dX6_takes_16 : decode cX6_takes 16 = .ok (.imul, 1) := by decide +kernel
theorem dX6_takes_17 : decode cX6_takes 17 = .ok (.iload_n 1, 1) := by decide +kernel
theorem dX6_takes_18 : decode cX6_takes 18 = .ok (.bipush 119, 2) := by decide +kernel
theorem dX6_takes_20 : decode cX6_takes 20 = .ok (.if_icmp .ne 7, 3) := by decide +kernel
theorem dX6_takes_23 : decode cX6_takes 23 = .ok (.iconst 1, 1) := by decide +kernel
theorem dX6_takes_24 : decode cX6_takes 24 = .ok (.goto 4, 3) := by decide +kernel
theorem dX6_takes_27 : decode cX6_takes 27 = .ok (.iconst 0, 1) := by decide +kernel
theorem dX6_takes_28 : decode cX6_takes 28 = .ok (.iastore, 1) := by decide +kernel
theorem dX6_takes_29 : decode cX6_takes 29 = .ok (.aload_n 0, 1) := by decide +kernel
theorem dX6_takes_30 : decode cX6_takes 30 = .ok (.iconst (-1), 1) := by decide +kernel
theorem dX6_takes_31 : decode cX6_takes 31 = .ok (.putfield 137, 3) := by decide +kernel
theorem dX6_takes_34 : decode cX6_takes 34 = .ok (.aload_n 0, 1) := by decide +kernel
theorem dX6_takes_35 : decode cX6_takes 35 = .ok (.iconst 0, 1) := by decide +kernel
theorem dX6_takes_36 : decode cX6_takes 36 = .ok (.putfield 140, 3) := by decide +kernel
theorem dX6_takes_39 : decode cX6_takes 39 = .ok (.iload_n 1, 1) := by decide +kernel
theorem dX6_takes_40 : decode cX6_takes 40 = .ok (.bipush 119, 2) := by decide +kernel
theorem dX6_takes_42 : decode cX6_takes 42 = .ok (.if_icmp .eq 9, 3) := by decide +kernel
theorem dX6_takes_45 : decode cX6_takes 45 = .ok (.iload_n 1, 1) := by decide +kernel
theorem dX6_takes_46 : decode cX6_takes 46 = .ok (.bipush 103, 2) := by decide +kernel
theorem dX6_takes_48 : decode cX6_takes 48 = .ok (.if_icmp .ne 7, 3) := by decide +kernel
theorem dX6_takes_51 : decode cX6_takes 51 = .ok (.iconst 1, 1) := by decide +kernel
theorem dX6_takes_52 : decode cX6_takes 52 = .ok (.goto 4, 3) := by decide +kernel
theorem dX6_takes_55 : decode cX6_takes 55 = .ok (.iconst 0, 1) := by decide +kernel
theorem dX6_takes_56 : decode cX6_takes 56 = .ok (.ireturn, 1) := by decide +kernel
theorem dX6_takes_57 : decode cX6_takes 57 = .ok (.iload_n 1, 1) := by decide +kernel
theorem dX6_takes_58 : decode cX6_takes 58 = .ok (.bipush 59, 2) := by decide +kernel
theorem dX6_takes_60 : decode cX6_takes 60 = .ok (.if_icmp .ne 28, 3) := by decide +kernel
theorem dX6_takes_63 : decode cX6_takes 63 = .ok (.aload_n 0, 1) := by decide +kernel
theorem dX6_takes_64 : decode cX6_takes 64 = .ok (.getfield 137, 3) := by decide +kernel
theorem dX6_takes_67 : decode cX6_takes 67 = .ok (.iconst (-1), 1) := by decide +kernel
theorem dX6_takes_68 : decode cX6_takes 68 = .ok (.if_icmp .eq 20, 3) := by decide +kernel
theorem dX6_takes_71 : decode cX6_takes 71 = .ok (.aload_n 0, 1) := by decide +kernel
theorem dX6_takes_72 : decode cX6_takes 72 = .ok (.dup, 1) := by decide +kernel
theorem dX6_takes_73 : decode cX6_takes 73 = .ok (.getfield 134, 3) := by decide +kernel
theorem dX6_takes_76 : decode cX6_takes 76 = .ok (.iconst 1, 1) := by decide +kernel
theorem dX6_takes_77 : decode cX6_takes 77 = .ok (.iadd, 1) := by decide +kernel
theorem dX6_takes_78 : decode cX6_takes 78 = .ok (.putfield 134, 3) := by decide +kernel
theorem dX6_takes_81 : decode cX6_takes 81 = .ok (.aload_n 0, 1) := by decide +kernel
theorem dX6_takes_82 : decode cX6_takes 82 = .ok (.iconst 1, 1) := by decide +kernel
theorem dX6_takes_83 : decode cX6_takes 83 = .ok (.putfield 140, 3) := by decide +kernel
theorem dX6_takes_86 : decode cX6_takes 86 = .ok (.iconst 1, 1) := by decide +kernel
theorem dX6_takes_87 : decode cX6_takes 87 = .ok (.ireturn, 1) := by decide +kernel
theorem dX6_takes_88 : decode cX6_takes 88 = .ok (.aload_n 0, 1) := by decide +kernel
theorem dX6_takes_89 : decode cX6_takes 89 = .ok (.iload_n 1, 1) := by decide +kernel
theorem dX6_takes_90 : decode cX6_takes 90 = .ok (.bipush 48, 2) := by decide +kernel
theorem dX6_takes_92 : decode cX6_takes 92 = .ok (.isub, 1) := by decide +kernel
theorem dX6_takes_93 : decode cX6_takes 93 = .ok (.invokevirtual 144, 3) := by decide +kernel
theorem dX6_takes_96 : decode cX6_takes 96 = .ok (.ireturn, 1) := by decide +kernel
theorem dX6_rightUpTo_0 : decode cX6_rightUpTo 0 = .ok (.aload_n 0, 1) := by decide +kernel
theorem dX6_rightUpTo_1 : decode cX6_rightUpTo 1 = .ok (.iconst 0, 1) := by decide +kernel
theorem dX6_rightUpTo_2 : decode cX6_rightUpTo 2 = .ok (.putfield 134, 3) := by decide +kernel
theorem dX6_rightUpTo_5 : decode cX6_rightUpTo 5 = .ok (.aload_n 0, 1) := by decide +kernel
theorem dX6_rightUpTo_6 : decode cX6_rightUpTo 6 = .ok (.iconst 1, 1) := by decide +kernel
theorem dX6_rightUpTo_7 : decode cX6_rightUpTo 7 = .ok (.putfield 140, 3) := by decide +kernel
theorem dX6_rightUpTo_10 : decode cX6_rightUpTo 10 = .ok (.iconst 0, 1) := by decide +kernel
theorem dX6_rightUpTo_11 : decode cX6_rightUpTo 11 = .ok (.istore_n 1, 1) := by decide +kernel
theorem dX6_rightUpTo_12 : decode cX6_rightUpTo 12 = .ok (.iload_n 1, 1) := by decide +kernel
theorem dX6_rightUpTo_13 : decode cX6_rightUpTo 13 = .ok (.aload_n 0, 1) := by decide +kernel
theorem dX6_rightUpTo_14 : decode cX6_rightUpTo 14 = .ok (.getfield 131, 3) := by decide +kernel
theorem dX6_rightUpTo_17 : decode cX6_rightUpTo 17 = .ok (.if_icmp .ge 22, 3) := by decide +kernel
theorem dX6_rightUpTo_20 : decode cX6_rightUpTo 20 = .ok (.aload_n 0, 1) := by decide +kernel
theorem dX6_rightUpTo_21 : decode cX6_rightUpTo 21 = .ok (.aload_n 0, 1) := by decide +kernel
theorem dX6_rightUpTo_22 : decode cX6_rightUpTo 22 = .ok (.getfield 16, 3) := by decide +kernel
theorem dX6_rightUpTo_25 : decode cX6_rightUpTo 25 = .ok (.iload_n 1, 1) := by decide +kernel
theorem dX6_rightUpTo_26 : decode cX6_rightUpTo 26 = .ok (.iaload, 1) := by decide +kernel
theorem dX6_rightUpTo_27 : decode cX6_rightUpTo 27 = .ok (.invokevirtual 147, 3) := by decide +kernel
theorem dX6_rightUpTo_30 : decode cX6_rightUpTo 30 = .ok (.ifCond .eq 9, 3) := by decide +kernel
theorem dX6_rightUpTo_33 : decode cX6_rightUpTo 33 = .ok (.iinc 1 1, 3) := by decide +kernel
theorem dX6_rightUpTo_36 : decode cX6_rightUpTo 36 = .ok (.goto (-24), 3) := by decide +kernel
theorem dX6_rightUpTo_39 : decode cX6_rightUpTo 39 = .ok (.iload_n 1, 1) := by decide +kernel
theorem dX6_rightUpTo_40 : decode cX6_rightUpTo 40 = .ok (.ireturn, 1) := by decide +kernel
theorem dX6_firstError_0 : decode cX6_firstError 0 = .ok (.aload_n 0, 1) := by decide +kernel
theorem dX6_firstError_1 : decode cX6_firstError 1 = .ok (.iconst 0, 1) := by decide +kernel
theorem dX6_firstError_2 : decode cX6_firstError 2 = .ok (.putfield 29, 3) := by decide +kernel
theorem dX6_firstError_5 : decode cX6_firstError 5 = .ok (.aload_n 0, 1) := by decide +kernel
theorem dX6_firstError_6 : decode cX6_firstError 6 = .ok (.invokevirtual 150, 3) := by decide +kernel
theorem dX6_firstError_9 : decode cX6_firstError 9 = .ok (.ireturn, 1) := by decide +kernel
theorem dX6_carries_0 : decode cX6_carries 0 = .ok (.aload_n 0, 1) := by decide +kernel
theorem dX6_carries_1 : decode cX6_carries 1 = .ok (.getfield 22, 3) := by decide +kernel
theorem dX6_carries_4 : decode cX6_carries 4 = .ok (.iconst 2, 1) := by decide +kernel
theorem dX6_carries_5 : decode cX6_carries 5 = .ok (.iload_n 1, 1) := by decide +kernel
theorem dX6_carries_6 : decode cX6_carries 6 = .ok (.imul, 1) := by decide +kernel
theorem dX6_carries_7 : decode cX6_carries 7 = .ok (.iaload, 1) := by decide +kernel
theorem dX6_carries_8 : decode cX6_carries 8 = .ok (.iconst 1, 1) := by decide +kernel
theorem dX6_carries_9 : decode cX6_carries 9 = .ok (.if_icmp .ne 7, 3) := by decide +kernel
theorem dX6_carries_12 : decode cX6_carries 12 = .ok (.iconst 1, 1) := by decide +kernel
theorem dX6_carries_13 : decode cX6_carries 13 = .ok (.goto 4, 3) := by decide +kernel
theorem dX6_carries_16 : decode cX6_carries 16 = .ok (.iconst 0, 1) := by decide +kernel
theorem dX6_carries_17 : decode cX6_carries 17 = .ok (.istore_n 2, 1) := by decide +kernel
theorem dX6_carries_18 : decode cX6_carries 18 = .ok (.aload_n 0, 1) := by decide +kernel
theorem dX6_carries_19 : decode cX6_carries 19 = .ok (.getfield 22, 3) := by decide +kernel
theorem dX6_carries_22 : decode cX6_carries 22 = .ok (.iconst 2, 1) := by decide +kernel
theorem dX6_carries_23 : decode cX6_carries 23 = .ok (.iload_n 1, 1) := by decide +kernel
theorem dX6_carries_24 : decode cX6_carries 24 = .ok (.imul, 1) := by decide +kernel
theorem dX6_carries_25 : decode cX6_carries 25 = .ok (.iconst 1, 1) := by decide +kernel
theorem dX6_carries_26 : decode cX6_carries 26 = .ok (.iadd, 1) := by decide +kernel
theorem dX6_carries_27 : decode cX6_carries 27 = .ok (.iaload, 1) := by decide +kernel
theorem dX6_carries_28 : decode cX6_carries 28 = .ok (.istore_n 3, 1) := by decide +kernel
theorem dX6_carries_29 : decode cX6_carries 29 = .ok (.iload_n 2, 1) := by decide +kernel
theorem dX6_carries_30 : decode cX6_carries 30 = .ok (.ifCond .eq 11, 3) := by decide +kernel
theorem dX6_carries_33 : decode cX6_carries 33 = .ok (.aload_n 0, 1) := by decide +kernel
theorem dX6_carries_34 : decode cX6_carries 34 = .ok (.iload_n 3, 1) := by decide +kernel
theorem dX6_carries_35 : decode cX6_carries 35 = .ok (.invokevirtual 97, 3) := by decide +kernel
theorem dX6_carries_38 : decode cX6_carries 38 = .ok (.goto 8, 3) := by decide +kernel
theorem dX6_carries_41 : decode cX6_carries 41 = .ok (.aload_n 0, 1) := by decide +kernel
theorem dX6_carries_42 : decode cX6_carries 42 = .ok (.iload_n 3, 1) := by decide +kernel
theorem dX6_carries_43 : decode cX6_carries 43 = .ok (.invokevirtual 103, 3) := by decide +kernel
theorem dX6_carries_46 : decode cX6_carries 46 = .ok (.istore 4, 2) := by decide +kernel
theorem dX6_carries_48 : decode cX6_carries 48 = .ok (.iload 4, 2) := by decide +kernel
theorem dX6_carries_50 : decode cX6_carries 50 = .ok (.ifCond .ne 7, 3) := by decide +kernel
theorem dX6_carries_53 : decode cX6_carries 53 = .ok (.iconst 0, 1) := by decide +kernel
theorem dX6_carries_54 : decode cX6_carries 54 = .ok (.goto 20, 3) := by decide +kernel
theorem dX6_carries_57 : decode cX6_carries 57 = .ok (.iload_n 2, 1) := by decide +kernel
theorem dX6_carries_58 : decode cX6_carries 58 = .ok (.ifCond .eq 11, 3) := by decide +kernel
theorem dX6_carries_61 : decode cX6_carries 61 = .ok (.aload_n 0, 1) := by decide +kernel
theorem dX6_carries_62 : decode cX6_carries 62 = .ok (.iload_n 3, 1) := by decide +kernel
theorem dX6_carries_63 : decode cX6_carries 63 = .ok (.invokevirtual 100, 3) := by decide +kernel
theorem dX6_carries_66 : decode cX6_carries 66 = .ok (.goto 8, 3) := by decide +kernel
theorem dX6_carries_69 : decode cX6_carries 69 = .ok (.aload_n 0, 1) := by decide +kernel
theorem dX6_carries_70 : decode cX6_carries 70 = .ok (.iload_n 3, 1) := by decide +kernel
theorem dX6_carries_71 : decode cX6_carries 71 = .ok (.invokevirtual 106, 3) := by decide +kernel
theorem dX6_carries_74 : decode cX6_carries 74 = .ok (.istore 5, 2) := by decide +kernel
theorem dX6_carries_76 : decode cX6_carries 76 = .ok (.iload 4, 2) := by decide +kernel
theorem dX6_carries_78 : decode cX6_carries 78 = .ok (.ireturn, 1) := by decide +kernel
theorem dX6_run_0 : decode cX6_run 0 = .ok (.aload_n 0, 1) := by decide +kernel
theorem dX6_run_1 : decode cX6_run 1 = .ok (.invokevirtual 150, 3) := by decide +kernel
theorem dX6_run_4 : decode cX6_run 4 = .ok (.aload_n 0, 1) := by decide +kernel
theorem dX6_run_5 : decode cX6_run 5 = .ok (.getfield 131, 3) := by decide +kernel
theorem dX6_run_8 : decode cX6_run 8 = .ok (.if_icmp .ne 22, 3) := by decide +kernel
theorem dX6_run_11 : decode cX6_run 11 = .ok (.aload_n 0, 1) := by decide +kernel
theorem dX6_run_12 : decode cX6_run 12 = .ok (.getfield 140, 3) := by decide +kernel
theorem dX6_run_15 : decode cX6_run 15 = .ok (.ifCond .ne 15, 3) := by decide +kernel
theorem dX6_run_18 : decode cX6_run 18 = .ok (.aload_n 0, 1) := by decide +kernel
theorem dX6_run_19 : decode cX6_run 19 = .ok (.getfield 137, 3) := by decide +kernel
theorem dX6_run_22 : decode cX6_run 22 = .ok (.iconst (-1), 1) := by decide +kernel
theorem dX6_run_23 : decode cX6_run 23 = .ok (.if_icmp .eq 7, 3) := by decide +kernel
theorem dX6_run_26 : decode cX6_run 26 = .ok (.iconst 1, 1) := by decide +kernel
theorem dX6_run_27 : decode cX6_run 27 = .ok (.goto 4, 3) := by decide +kernel
theorem dX6_run_30 : decode cX6_run 30 = .ok (.iconst 0, 1) := by decide +kernel
theorem dX6_run_31 : decode cX6_run 31 = .ok (.istore_n 1, 1) := by decide +kernel
theorem dX6_run_32 : decode cX6_run 32 = .ok (.aload_n 0, 1) := by decide +kernel
theorem dX6_run_33 : decode cX6_run 33 = .ok (.iload_n 1, 1) := by decide +kernel
theorem dX6_run_34 : decode cX6_run 34 = .ok (.ifCond .eq 7, 3) := by decide +kernel
theorem dX6_run_37 : decode cX6_run 37 = .ok (.iconst 0, 1) := by decide +kernel
theorem dX6_run_38 : decode cX6_run 38 = .ok (.goto 4, 3) := by decide +kernel
theorem dX6_run_41 : decode cX6_run 41 = .ok (.iconst 1, 1) := by decide +kernel
theorem dX6_run_42 : decode cX6_run 42 = .ok (.putfield 29, 3) := by decide +kernel
theorem dX6_run_45 : decode cX6_run 45 = .ok (.aload_n 0, 1) := by decide +kernel
theorem dX6_run_46 : decode cX6_run 46 = .ok (.getfield 29, 3) := by decide +kernel
theorem dX6_run_49 : decode cX6_run 49 = .ok (.ifCond .le 5, 3) := by decide +kernel
theorem dX6_run_52 : decode cX6_run 52 = .ok (.iconst 0, 1) := by decide +kernel
theorem dX6_run_53 : decode cX6_run 53 = .ok (.ireturn, 1) := by decide +kernel
theorem dX6_run_54 : decode cX6_run 54 = .ok (.aload_n 0, 1) := by decide +kernel
theorem dX6_run_55 : decode cX6_run 55 = .ok (.invokevirtual 91, 3) := by decide +kernel
theorem dX6_run_58 : decode cX6_run 58 = .ok (.aload_n 0, 1) := by decide +kernel
theorem dX6_run_59 : decode cX6_run 59 = .ok (.iconst 0, 1) := by decide +kernel
theorem dX6_run_60 : decode cX6_run 60 = .ok (.putfield 131, 3) := by decide +kernel
theorem dX6_run_63 : decode cX6_run 63 = .ok (.iconst 0, 1) := by decide +kernel
theorem dX6_run_64 : decode cX6_run 64 = .ok (.istore_n 2, 1) := by decide +kernel
theorem dX6_run_65 : decode cX6_run 65 = .ok (.iload_n 2, 1) := by decide +kernel
theorem dX6_run_66 : decode cX6_run 66 = .ok (.aload_n 0, 1) := by decide +kernel
theorem dX6_run_67 : decode cX6_run 67 = .ok (.getfield 134, 3) := by decide +kernel
theorem dX6_run_70 : decode cX6_run 70 = .ok (.if_icmp .gt 17, 3) := by decide +kernel
theorem dX6_run_73 : decode cX6_run 73 = .ok (.aload_n 0, 1) := by decide +kernel
theorem dX6_run_74 : decode cX6_run 74 = .ok (.iload_n 2, 1) := by decide +kernel
theorem dX6_run_75 : decode cX6_run 75 = .ok (.invokevirtual 153, 3) := by decide +kernel
theorem dX6_run_78 : decode cX6_run 78 = .ok (.ifCond .eq 9, 3) := by decide +kernel
theorem dX6_run_81 : decode cX6_run 81 = .ok (.iinc 2 1, 3) := by decide +kernel
theorem dX6_run_84 : decode cX6_run 84 = .ok (.goto (-19), 3) := by decide +kernel
theorem dX6_run_87 : decode cX6_run 87 = .ok (.iload_n 2, 1) := by decide +kernel
theorem dX6_run_88 : decode cX6_run 88 = .ok (.ireturn, 1) := by decide +kernel
theorem dX6_undo_0 : decode cX6_undo 0 = .ok (.aload_n 0, 1) := by decide +kernel
theorem dX6_undo_1 : decode cX6_undo 1 = .ok (.aload_n 0, 1) := by decide +kernel
theorem dX6_undo_2 : decode cX6_undo 2 = .ok (.getfield 33, 3) := by decide +kernel
theorem dX6_undo_5 : decode cX6_undo 5 = .ok (.ifCond .le 7, 3) := by decide +kernel
theorem dX6_undo_8 : decode cX6_undo 8 = .ok (.iconst 0, 1) := by decide +kernel
theorem dX6_undo_9 : decode cX6_undo 9 = .ok (.goto 4, 3) := by decide +kernel
theorem dX6_undo_12 : decode cX6_undo 12 = .ok (.iconst 1, 1) := by decide +kernel
theorem dX6_undo_13 : decode cX6_undo 13 = .ok (.putfield 29, 3) := by decide +kernel
theorem dX6_undo_16 : decode cX6_undo 16 = .ok (.aload_n 0, 1) := by decide +kernel
theorem dX6_undo_17 : decode cX6_undo 17 = .ok (.getfield 29, 3) := by decide +kernel
theorem dX6_undo_20 : decode cX6_undo 20 = .ok (.ifCond .le 5, 3) := by decide +kernel
theorem dX6_undo_23 : decode cX6_undo 23 = .ok (.iconst 0, 1) := by decide +kernel
theorem dX6_undo_24 : decode cX6_undo 24 = .ok (.ireturn, 1) := by decide +kernel
theorem dX6_undo_25 : decode cX6_undo 25 = .ok (.aload_n 0, 1) := by decide +kernel
theorem dX6_undo_26 : decode cX6_undo 26 = .ok (.dup, 1) := by decide +kernel
theorem dX6_undo_27 : decode cX6_undo 27 = .ok (.getfield 33, 3) := by decide +kernel
theorem dX6_undo_30 : decode cX6_undo 30 = .ok (.iconst 1, 1) := by decide +kernel
theorem dX6_undo_31 : decode cX6_undo 31 = .ok (.isub, 1) := by decide +kernel
theorem dX6_undo_32 : decode cX6_undo 32 = .ok (.putfield 33, 3) := by decide +kernel
theorem dX6_undo_35 : decode cX6_undo 35 = .ok (.iconst 0, 1) := by decide +kernel
theorem dX6_undo_36 : decode cX6_undo 36 = .ok (.istore_n 1, 1) := by decide +kernel
theorem dX6_undo_37 : decode cX6_undo 37 = .ok (.iload_n 1, 1) := by decide +kernel
theorem dX6_undo_38 : decode cX6_undo 38 = .ok (.sipush 1312, 3) := by decide +kernel
theorem dX6_undo_41 : decode cX6_undo 41 = .ok (.if_icmp .ge 30, 3) := by decide +kernel
theorem dX6_undo_44 : decode cX6_undo 44 = .ok (.aload_n 0, 1) := by decide +kernel
theorem dX6_undo_45 : decode cX6_undo 45 = .ok (.getfield 7, 3) := by decide +kernel
theorem dX6_undo_48 : decode cX6_undo 48 = .ok (.iload_n 1, 1) := by decide +kernel
theorem dX6_undo_49 : decode cX6_undo 49 = .ok (.aload_n 0, 1) := by decide +kernel
theorem dX6_undo_50 : decode cX6_undo 50 = .ok (.getfield 13, 3) := by decide +kernel
theorem dX6_undo_53 : decode cX6_undo 53 = .ok (.sipush 1312, 3) := by decide +kernel
theorem dX6_undo_56 : decode cX6_undo 56 = .ok (.aload_n 0, 1) := by decide +kernel
theorem dX6_undo_57 : decode cX6_undo 57 = .ok (.getfield 33, 3) := by decide +kernel
theorem dX6_undo_60 : decode cX6_undo 60 = .ok (.imul, 1) := by decide +kernel
theorem dX6_undo_61 : decode cX6_undo 61 = .ok (.iload_n 1, 1) := by decide +kernel
theorem dX6_undo_62 : decode cX6_undo 62 = .ok (.iadd, 1) := by decide +kernel
theorem dX6_undo_63 : decode cX6_undo 63 = .ok (.iaload, 1) := by decide +kernel
theorem dX6_undo_64 : decode cX6_undo 64 = .ok (.iastore, 1) := by decide +kernel
theorem dX6_undo_65 : decode cX6_undo 65 = .ok (.iinc 1 1, 3) := by decide +kernel
theorem dX6_undo_68 : decode cX6_undo 68 = .ok (.goto (-31), 3) := by decide +kernel
theorem dX6_undo_71 : decode cX6_undo 71 = .ok (.aload_n 0, 1) := by decide +kernel
theorem dX6_undo_72 : decode cX6_undo 72 = .ok (.getfield 33, 3) := by decide +kernel
theorem dX6_undo_75 : decode cX6_undo 75 = .ok (.ireturn, 1) := by decide +kernel
theorem dX6_isOrder_0 : decode cX6_isOrder 0 = .ok (.iload_n 0, 1) := by decide +kernel
theorem dX6_isOrder_1 : decode cX6_isOrder 1 = .ok (.iconst 0, 1) := by decide +kernel
theorem dX6_isOrder_2 : decode cX6_isOrder 2 = .ok (.bipush 14, 2) := by decide +kernel
theorem dX6_isOrder_4 : decode cX6_isOrder 4 = .ok (.invokestatic 52, 3) := by decide +kernel
theorem dX6_isOrder_7 : decode cX6_isOrder 7 = .ok (.ireturn, 1) := by decide +kernel
theorem dX6_size_0 : decode cX6_size 0 = .ok (.aload_n 0, 1) := by decide +kernel
theorem dX6_size_1 : decode cX6_size 1 = .ok (.iload_n 1, 1) := by decide +kernel
theorem dX6_size_2 : decode cX6_size 2 = .ok (.invokestatic 156, 3) := by decide +kernel
theorem dX6_size_5 : decode cX6_size 5 = .ok (.ifCond .eq 7, 3) := by decide +kernel
theorem dX6_size_8 : decode cX6_size 8 = .ok (.iconst 0, 1) := by decide +kernel
theorem dX6_size_9 : decode cX6_size 9 = .ok (.goto 4, 3) := by decide +kernel
theorem dX6_size_12 : decode cX6_size 12 = .ok (.iconst 1, 1) := by decide +kernel
theorem dX6_size_13 : decode cX6_size 13 = .ok (.putfield 29, 3) := by decide +kernel
theorem dX6_size_16 : decode cX6_size 16 = .ok (.aload_n 0, 1) := by decide +kernel
theorem dX6_size_17 : decode cX6_size 17 = .ok (.getfield 29, 3) := by decide +kernel
theorem dX6_size_20 : decode cX6_size 20 = .ok (.ifCond .le 7, 3) := by decide +kernel
theorem dX6_size_23 : decode cX6_size 23 = .ok (.iconst 0, 1) := by decide +kernel
theorem dX6_size_24 : decode cX6_size 24 = .ok (.goto 7, 3) := by decide +kernel
theorem dX6_size_27 : decode cX6_size 27 = .ok (.iload_n 1, 1) := by decide +kernel
theorem dX6_size_28 : decode cX6_size 28 = .ok (.invokestatic 48, 3) := by decide +kernel
theorem dX6_size_31 : decode cX6_size 31 = .ok (.ireturn, 1) := by decide +kernel
theorem dX6_blockNow_0 : decode cX6_blockNow 0 = .ok (.iload_n 2, 1) := by decide +kernel
theorem dX6_blockNow_1 : decode cX6_blockNow 1 = .ok (.iconst 4, 1) := by decide +kernel
theorem dX6_blockNow_2 : decode cX6_blockNow 2 = .ok (.if_icmp .ne 11, 3) := by decide +kernel
theorem dX6_blockNow_5 : decode cX6_blockNow 5 = .ok (.aload_n 0, 1) := by decide +kernel
theorem dX6_blockNow_6 : decode cX6_blockNow 6 = .ok (.iload_n 1, 1) := by decide +kernel
theorem dX6_blockNow_7 : decode cX6_blockNow 7 = .ok (.invokevirtual 63, 3) := by decide +kernel
theorem dX6_blockNow_10 : decode cX6_blockNow 10 = .ok (.goto 9, 3) := by decide +kernel
theorem dX6_blockNow_13 : decode cX6_blockNow 13 = .ok (.aload_n 0, 1) := by decide +kernel
theorem dX6_blockNow_14 : decode cX6_blockNow 14 = .ok (.iload_n 1, 1) := by decide +kernel
theorem dX6_blockNow_15 : decode cX6_blockNow 15 = .ok (.iload_n 2, 1) := by decide +kernel
theorem dX6_blockNow_16 : decode cX6_blockNow 16 = .ok (.invokevirtual 44, 3) := by decide +kernel
theorem dX6_blockNow_19 : decode cX6_blockNow 19 = .ok (.ireturn, 1) := by decide +kernel
theorem dX6_block_0 : decode cX6_block 0 = .ok (.aload_n 0, 1) := by decide +kernel
theorem dX6_block_1 : decode cX6_block 1 = .ok (.aload_n 0, 1) := by decide +kernel
theorem dX6_block_2 : decode cX6_block 2 = .ok (.iload_n 1, 1) := by decide +kernel
theorem dX6_block_3 : decode cX6_block 3 = .ok (.invokevirtual 56, 3) := by decide +kernel
theorem dX6_block_6 : decode cX6_block 6 = .ok (.ifCond .ne 7, 3) := by decide +kernel
theorem dX6_block_9 : decode cX6_block 9 = .ok (.iconst 1, 1) := by decide +kernel
theorem dX6_block_10 : decode cX6_block 10 = .ok (.goto 17, 3) := by decide +kernel
theorem dX6_block_13 : decode cX6_block 13 = .ok (.iload_n 2, 1) := by decide +kernel
theorem dX6_block_14 : decode cX6_block 14 = .ok (.iconst 0, 1) := by decide +kernel
theorem dX6_block_15 : decode cX6_block 15 = .ok (.iconst 4, 1) := by decide +kernel
theorem dX6_block_16 : decode cX6_block 16 = .ok (.invokestatic 52, 3) := by decide +kernel
theorem dX6_block_19 : decode cX6_block 19 = .ok (.ifCond .eq 7, 3) := by decide +kernel
theorem dX6_block_22 : decode cX6_block 22 = .ok (.iconst 0, 1) := by decide +kernel
theorem dX6_block_23 : decode cX6_block 23 = .ok (.goto 4, 3) := by decide +kernel
theorem dX6_block_26 : decode cX6_block 26 = .ok (.iconst 2, 1) := by decide +kernel
theorem dX6_block_27 : decode cX6_block 27 = .ok (.putfield 29, 3) := by decide +kernel
theorem dX6_block_30 : decode cX6_block 30 = .ok (.aload_n 0, 1) := by decide +kernel
theorem dX6_block_31 : decode cX6_block 31 = .ok (.getfield 29, 3) := by decide +kernel
theorem dX6_block_34 : decode cX6_block 34 = .ok (.ifCond .le 7, 3) := by decide +kernel
theorem dX6_block_37 : decode cX6_block 37 = .ok (.iconst 0, 1) := by decide +kernel
theorem dX6_block_38 : decode cX6_block 38 = .ok (.goto 9, 3) := by decide +kernel
theorem dX6_block_41 : decode cX6_block 41 = .ok (.aload_n 0, 1) := by decide +kernel
theorem dX6_block_42 : decode cX6_block 42 = .ok (.iload_n 1, 1) := by decide +kernel
theorem dX6_block_43 : decode cX6_block 43 = .ok (.iload_n 2, 1) := by decide +kernel
theorem dX6_block_44 : decode cX6_block 44 = .ok (.invokevirtual 159, 3) := by decide +kernel
theorem dX6_block_47 : decode cX6_block 47 = .ok (.ireturn, 1) := by decide +kernel
theorem dX6_useNow_0 : decode cX6_useNow 0 = .ok (.aload_n 0, 1) := by decide +kernel
theorem dX6_useNow_1 : decode cX6_useNow 1 = .ok (.iload_n 1, 1) := by decide +kernel
theorem dX6_useNow_2 : decode cX6_useNow 2 = .ok (.invokevirtual 103, 3) := by decide +kernel
theorem dX6_useNow_5 : decode cX6_useNow 5 = .ok (.ifCond .ne 5, 3) := by decide +kernel
theorem dX6_useNow_8 : decode cX6_useNow 8 = .ok (.iconst (-1), 1) := by decide +kernel
theorem dX6_useNow_9 : decode cX6_useNow 9 = .ok (.ireturn, 1) := by decide +kernel
theorem dX6_useNow_10 : decode cX6_useNow 10 = .ok (.aload_n 0, 1) := by decide +kernel
theorem dX6_useNow_11 : decode cX6_useNow 11 = .ok (.iload_n 1, 1) := by decide +kernel
theorem dX6_useNow_12 : decode cX6_useNow 12 = .ok (.invokevirtual 60, 3) := by decide +kernel
theorem dX6_useNow_15 : decode cX6_useNow 15 = .ok (.istore_n 3, 1) := by decide +kernel
theorem dX6_useNow_16 : decode cX6_useNow 16 = .ok (.iload_n 2, 1) := by decide +kernel
theorem dX6_useNow_17 : decode cX6_useNow 17 = .ok (.tableswitch 66 0 3 #[31, 33, 43, 59], 31) := by decide +kernel
theorem dX6_useNow_48 : decode cX6_useNow 48 = .ok (.iload_n 3, 1) := by decide +kernel
theorem dX6_useNow_49 : decode cX6_useNow 49 = .ok (.ireturn, 1) := by decide +kernel
theorem dX6_useNow_50 : decode cX6_useNow 50 = .ok (.aload_n 0, 1) := by decide +kernel
theorem dX6_useNow_51 : decode cX6_useNow 51 = .ok (.getfield 7, 3) := by decide +kernel
theorem dX6_useNow_54 : decode cX6_useNow 54 = .ok (.bipush 7, 2) := by decide +kernel
theorem dX6_useNow_56 : decode cX6_useNow 56 = .ok (.iload_n 1, 1) := by decide +kernel
theorem dX6_useNow_57 : decode cX6_useNow 57 = .ok (.iadd, 1) := by decide +kernel
theorem dX6_useNow_58 : decode cX6_useNow 58 = .ok (.iaload, 1) := by decide +kernel
theorem dX6_useNow_59 : decode cX6_useNow 59 = .ok (.ireturn, 1) := by decide +kernel
theorem dX6_useNow_60 : decode cX6_useNow 60 = .ok (.aload_n 0, 1) := by decide +kernel
theorem dX6_useNow_61 : decode cX6_useNow 61 = .ok (.iload_n 3, 1) := by decide +kernel
theorem dX6_useNow_62 : decode cX6_useNow 62 = .ok (.invokevirtual 112, 3) := by decide +kernel
theorem dX6_useNow_65 : decode cX6_useNow 65 = .ok (.aload_n 0, 1) := by decide +kernel
theorem dX6_useNow_66 : decode cX6_useNow 66 = .ok (.getfield 7, 3) := by decide +kernel
theorem dX6_useNow_69 : decode cX6_useNow 69 = .ok (.bipush 7, 2) := by decide +kernel
theorem dX6_useNow_71 : decode cX6_useNow 71 = .ok (.iload_n 1, 1) := by decide +kernel
theorem dX6_useNow_72 : decode cX6_useNow 72 = .ok (.iadd, 1) := by decide +kernel
theorem dX6_useNow_73 : decode cX6_useNow 73 = .ok (.iaload, 1) := by decide +kernel
theorem dX6_useNow_74 : decode cX6_useNow 74 = .ok (.isub, 1) := by decide +kernel
theorem dX6_useNow_75 : decode cX6_useNow 75 = .ok (.ireturn, 1) := by decide +kernel
theorem dX6_useNow_76 : decode cX6_useNow 76 = .ok (.aload_n 0, 1) := by decide +kernel
theorem dX6_useNow_77 : decode cX6_useNow 77 = .ok (.iload_n 3, 1) := by decide +kernel
theorem dX6_useNow_78 : decode cX6_useNow 78 = .ok (.iconst 1, 1) := by decide +kernel
theorem dX6_useNow_79 : decode cX6_useNow 79 = .ok (.invokevirtual 44, 3) := by decide +kernel
theorem dX6_useNow_82 : decode cX6_useNow 82 = .ok (.ireturn, 1) := by decide +kernel
theorem dX6_useNow_83 : decode cX6_useNow 83 = .ok (.aload_n 0, 1) := by decide +kernel
theorem dX6_useNow_84 : decode cX6_useNow 84 = .ok (.iload_n 3, 1) := by decide +kernel
theorem dX6_useNow_85 : decode cX6_useNow 85 = .ok (.iconst 0, 1) := by decide +kernel
theorem dX6_useNow_86 : decode cX6_useNow 86 = .ok (.invokevirtual 44, 3) := by decide +kernel
theorem dX6_useNow_89 : decode cX6_useNow 89 = .ok (.ireturn, 1) := by decide +kernel
theorem dX6_isNumber_0 : decode cX6_isNumber 0 = .ok (.iload_n 0, 1) := by decide +kernel
theorem dX6_isNumber_1 : decode cX6_isNumber 1 = .ok (.iconst 0, 1) := by decide +kernel
theorem dX6_isNumber_2 : decode cX6_isNumber 2 = .ok (.bipush 23, 2) := by decide +kernel
theorem dX6_isNumber_4 : decode cX6_isNumber 4 = .ok (.invokestatic 52, 3) := by decide +kernel
theorem dX6_isNumber_7 : decode cX6_isNumber 7 = .ok (.ireturn, 1) := by decide +kernel
theorem dX6_use_0 : decode cX6_use 0 = .ok (.aload_n 0, 1) := by decide +kernel
theorem dX6_use_1 : decode cX6_use 1 = .ok (.iload_n 1, 1) := by decide +kernel
theorem dX6_use_2 : decode cX6_use 2 = .ok (.invokestatic 162, 3) := by decide +kernel
theorem dX6_use_5 : decode cX6_use 5 = .ok (.ifCond .ne 7, 3) := by decide +kernel
theorem dX6_use_8 : decode cX6_use 8 = .ok (.iconst 1, 1) := by decide +kernel
theorem dX6_use_9 : decode cX6_use 9 = .ok (.goto 17, 3) := by decide +kernel
theorem dX6_use_12 : decode cX6_use 12 = .ok (.iload_n 2, 1) := by decide +kernel
theorem dX6_use_13 : decode cX6_use 13 = .ok (.iconst 0, 1) := by decide +kernel
theorem dX6_use_14 : decode cX6_use 14 = .ok (.iconst 4, 1) := by decide +kernel
theorem dX6_use_15 : decode cX6_use 15 = .ok (.invokestatic 52, 3) := by decide +kernel
theorem dX6_use_18 : decode cX6_use 18 = .ok (.ifCond .eq 7, 3) := by decide +kernel
theorem dX6_use_21 : decode cX6_use 21 = .ok (.iconst 0, 1) := by decide +kernel
theorem dX6_use_22 : decode cX6_use 22 = .ok (.goto 4, 3) := by decide +kernel
theorem dX6_use_25 : decode cX6_use 25 = .ok (.iconst 2, 1) := by decide +kernel
theorem dX6_use_26 : decode cX6_use 26 = .ok (.putfield 29, 3) := by decide +kernel
theorem dX6_use_29 : decode cX6_use 29 = .ok (.aload_n 0, 1) := by decide +kernel
theorem dX6_use_30 : decode cX6_use 30 = .ok (.getfield 29, 3) := by decide +kernel
theorem dX6_use_33 : decode cX6_use 33 = .ok (.ifCond .le 7, 3) := by decide +kernel
theorem dX6_use_36 : decode cX6_use 36 = .ok (.iconst 0, 1) := by decide +kernel
theorem dX6_use_37 : decode cX6_use 37 = .ok (.goto 9, 3) := by decide +kernel
theorem dX6_use_40 : decode cX6_use 40 = .ok (.aload_n 0, 1) := by decide +kernel
theorem dX6_use_41 : decode cX6_use 41 = .ok (.iload_n 1, 1) := by decide +kernel
theorem dX6_use_42 : decode cX6_use 42 = .ok (.iload_n 2, 1) := by decide +kernel
theorem dX6_use_43 : decode cX6_use 43 = .ok (.invokevirtual 165, 3) := by decide +kernel
theorem dX6_use_46 : decode cX6_use 46 = .ok (.ireturn, 1) := by decide +kernel
theorem dX6_blockWith_0 : decode cX6_blockWith 0 = .ok (.iconst 0, 1) := by decide +kernel
theorem dX6_blockWith_1 : decode cX6_blockWith 1 = .ok (.istore_n 2, 1) := by decide +kernel
theorem dX6_blockWith_2 : decode cX6_blockWith 2 = .ok (.iconst 0, 1) := by decide +kernel
theorem dX6_blockWith_3 : decode cX6_blockWith 3 = .ok (.istore_n 3, 1) := by decide +kernel
theorem dX6_blockWith_4 : decode cX6_blockWith 4 = .ok (.iload_n 3, 1) := by decide +kernel
theorem dX6_blockWith_5 : decode cX6_blockWith 5 = .ok (.aload_n 0, 1) := by decide +kernel
theorem dX6_blockWith_6 : decode cX6_blockWith 6 = .ok (.getfield 7, 3) := by decide +kernel
theorem dX6_blockWith_9 : decode cX6_blockWith 9 = .ok (.iconst 3, 1) := by decide +kernel
theorem dX6_blockWith_10 : decode cX6_blockWith 10 = .ok (.iaload, 1) := by decide +kernel
theorem dX6_blockWith_11 : decode cX6_blockWith 11 = .ok (.if_icmp .ge 25, 3) := by decide +kernel
theorem dX6_blockWith_14 : decode cX6_blockWith 14 = .ok (.aload_n 0, 1) := by decide +kernel
theorem dX6_blockWith_15 : decode cX6_blockWith 15 = .ok (.iload_n 3, 1) := by decide +kernel
theorem dX6_blockWith_16 : decode cX6_blockWith 16 = .ok (.iconst 0, 1) := by decide +kernel
theorem dX6_blockWith_17 : decode cX6_blockWith 17 = .ok (.invokevirtual 44, 3) := by decide +kernel
theorem dX6_blockWith_20 : decode cX6_blockWith 20 = .ok (.iload_n 1, 1) := by decide +kernel
theorem dX6_blockWith_21 : decode cX6_blockWith 21 = .ok (.if_icmp .gt 7, 3) := by decide +kernel
theorem dX6_blockWith_24 : decode cX6_blockWith 24 = .ok (.iload_n 3, 1) := by decide +kernel
theorem dX6_blockWith_25 : decode cX6_blockWith 25 = .ok (.goto 4, 3) := by decide +kernel
theorem dX6_blockWith_28 : decode cX6_blockWith 28 = .ok (.iload_n 2, 1) := by decide +kernel
theorem dX6_blockWith_29 : decode cX6_blockWith 29 = .ok (.istore_n 2, 1) := by decide +kernel
theorem dX6_blockWith_30 : decode cX6_blockWith 30 = .ok (.iinc 3 1, 3) := by decide +kernel
theorem dX6_blockWith_33 : decode cX6_blockWith 33 = .ok (.goto (-29), 3) := by decide +kernel
theorem dX6_blockWith_36 : decode cX6_blockWith 36 = .ok (.iload_n 2, 1) := by decide +kernel
theorem dX6_blockWith_37 : decode cX6_blockWith 37 = .ok (.ireturn, 1) := by decide +kernel
theorem dX6_at_0 : decode cX6_at 0 = .ok (.aload_n 0, 1) := by decide +kernel
theorem dX6_at_1 : decode cX6_at 1 = .ok (.iload_n 1, 1) := by decide +kernel
theorem dX6_at_2 : decode cX6_at 2 = .ok (.iconst 0, 1) := by decide +kernel
theorem dX6_at_3 : decode cX6_at 3 = .ok (.aload_n 0, 1) := by decide +kernel
theorem dX6_at_4 : decode cX6_at 4 = .ok (.getfield 7, 3) := by decide +kernel
theorem dX6_at_7 : decode cX6_at 7 = .ok (.iconst 2, 1) := by decide +kernel
theorem dX6_at_8 : decode cX6_at 8 = .ok (.iaload, 1) := by decide +kernel
theorem dX6_at_9 : decode cX6_at 9 = .ok (.invokestatic 48, 3) := by decide +kernel
theorem dX6_at_12 : decode cX6_at 12 = .ok (.iconst 1, 1) := by decide +kernel
theorem dX6_at_13 : decode cX6_at 13 = .ok (.isub, 1) := by decide +kernel
theorem dX6_at_14 : decode cX6_at 14 = .ok (.invokestatic 52, 3) := by decide +kernel
theorem dX6_at_17 : decode cX6_at 17 = .ok (.ifCond .eq 7, 3) := by decide +kernel
theorem dX6_at_20 : decode cX6_at 20 = .ok (.iconst 0, 1) := by decide +kernel
theorem dX6_at_21 : decode cX6_at 21 = .ok (.goto 4, 3) := by decide +kernel
theorem dX6_at_24 : decode cX6_at 24 = .ok (.iconst 1, 1) := by decide +kernel
theorem dX6_at_25 : decode cX6_at 25 = .ok (.putfield 29, 3) := by decide +kernel
theorem dX6_at_28 : decode cX6_at 28 = .ok (.aload_n 0, 1) := by decide +kernel
theorem dX6_at_29 : decode cX6_at 29 = .ok (.getfield 29, 3) := by decide +kernel
theorem dX6_at_32 : decode cX6_at 32 = .ok (.ifCond .le 7, 3) := by decide +kernel
theorem dX6_at_35 : decode cX6_at 35 = .ok (.iconst 0, 1) := by decide +kernel
theorem dX6_at_36 : decode cX6_at 36 = .ok (.goto 8, 3) := by decide +kernel
theorem dX6_at_39 : decode cX6_at 39 = .ok (.aload_n 0, 1) := by decide +kernel
theorem dX6_at_40 : decode cX6_at 40 = .ok (.iload_n 1, 1) := by decide +kernel
theorem dX6_at_41 : decode cX6_at 41 = .ok (.invokevirtual 168, 3) := by decide +kernel
theorem dX6_at_44 : decode cX6_at 44 = .ok (.ireturn, 1) := by decide +kernel
theorem dX6_manyOf_0 : decode cX6_manyOf 0 = .ok (.iconst 0, 1) := by decide +kernel
theorem dX6_manyOf_1 : decode cX6_manyOf 1 = .ok (.istore_n 3, 1) := by decide +kernel
theorem dX6_manyOf_2 : decode cX6_manyOf 2 = .ok (.iconst 0, 1) := by decide +kernel
theorem dX6_manyOf_3 : decode cX6_manyOf 3 = .ok (.istore 4, 2) := by decide +kernel
theorem dX6_manyOf_5 : decode cX6_manyOf 5 = .ok (.iload 4, 2) := by decide +kernel
theorem dX6_manyOf_7 : decode cX6_manyOf 7 = .ok (.aload_n 0, 1) := by decide +kernel
theorem dX6_manyOf_8 : decode cX6_manyOf 8 = .ok (.getfield 7, 3) := by decide +kernel
theorem dX6_manyOf_11 : decode cX6_manyOf 11 = .ok (.iconst 3, 1) := by decide +kernel
theorem dX6_manyOf_12 : decode cX6_manyOf 12 = .ok (.iaload, 1) := by decide +kernel
theorem dX6_manyOf_13 : decode cX6_manyOf 13 = .ok (.if_icmp .ge 38, 3) := by decide +kernel
theorem dX6_manyOf_16 : decode cX6_manyOf 16 = .ok (.iload_n 3, 1) := by decide +kernel
theorem dX6_manyOf_17 : decode cX6_manyOf 17 = .ok (.aload_n 0, 1) := by decide +kernel
theorem dX6_manyOf_18 : decode cX6_manyOf 18 = .ok (.iload 4, 2) := by decide +kernel
theorem dX6_manyOf_20 : decode cX6_manyOf 20 = .ok (.iconst 1, 1) := by decide +kernel
theorem dX6_manyOf_21 : decode cX6_manyOf 21 = .ok (.invokevirtual 44, 3) := by decide +kernel
theorem dX6_manyOf_24 : decode cX6_manyOf 24 = .ok (.iload_n 1, 1) := by decide +kernel
theorem dX6_manyOf_25 : decode cX6_manyOf 25 = .ok (.if_icmp .ne 17, 3) := by decide +kernel
theorem dX6_manyOf_28 : decode cX6_manyOf 28 = .ok (.aload_n 0, 1) := by decide +kernel
theorem dX6_manyOf_29 : decode cX6_manyOf 29 = .ok (.iload 4, 2) := by decide +kernel
theorem dX6_manyOf_31 : decode cX6_manyOf 31 = .ok (.invokevirtual 66, 3) := by decide +kernel
theorem dX6_manyOf_34 : decode cX6_manyOf 34 = .ok (.iload_n 2, 1) := by decide +kernel
theorem dX6_manyOf_35 : decode cX6_manyOf 35 = .ok (.if_icmp .ne 7, 3) := by decide +kernel
theorem dX6_manyOf_38 : decode cX6_manyOf 38 = .ok (.iconst 1, 1) := by decide +kernel
theorem dX6_manyOf_39 : decode cX6_manyOf 39 = .ok (.goto 4, 3) := by decide +kernel
theorem dX6_manyOf_42 : decode cX6_manyOf 42 = .ok (.iconst 0, 1) := by decide +kernel
theorem dX6_manyOf_43 : decode cX6_manyOf 43 = .ok (.iadd, 1) := by decide +kernel
theorem dX6_manyOf_44 : decode cX6_manyOf 44 = .ok (.istore_n 3, 1) := by decide +kernel
theorem dX6_manyOf_45 : decode cX6_manyOf 45 = .ok (.iinc 4 1, 3) := by decide +kernel
theorem dX6_manyOf_48 : decode cX6_manyOf 48 = .ok (.goto (-43), 3) := by decide +kernel
theorem dX6_manyOf_51 : decode cX6_manyOf 51 = .ok (.iload_n 3, 1) := by decide +kernel
theorem dX6_manyOf_52 : decode cX6_manyOf 52 = .ok (.ireturn, 1) := by decide +kernel
theorem dX6_many_0 : decode cX6_many 0 = .ok (.aload_n 0, 1) := by decide +kernel
theorem dX6_many_1 : decode cX6_many 1 = .ok (.iload_n 1, 1) := by decide +kernel
theorem dX6_many_2 : decode cX6_many 2 = .ok (.invokestatic 156, 3) := by decide +kernel
theorem dX6_many_5 : decode cX6_many 5 = .ok (.ifCond .eq 7, 3) := by decide +kernel
theorem dX6_many_8 : decode cX6_many 8 = .ok (.iconst 0, 1) := by decide +kernel
theorem dX6_many_9 : decode cX6_many 9 = .ok (.goto 4, 3) := by decide +kernel
theorem dX6_many_12 : decode cX6_many 12 = .ok (.iconst 1, 1) := by decide +kernel
theorem dX6_many_13 : decode cX6_many 13 = .ok (.putfield 29, 3) := by decide +kernel
theorem dX6_many_16 : decode cX6_many 16 = .ok (.aload_n 0, 1) := by decide +kernel
theorem dX6_many_17 : decode cX6_many 17 = .ok (.getfield 29, 3) := by decide +kernel
theorem dX6_many_20 : decode cX6_many 20 = .ok (.ifCond .le 7, 3) := by decide +kernel
theorem dX6_many_23 : decode cX6_many 23 = .ok (.iconst 0, 1) := by decide +kernel
theorem dX6_many_24 : decode cX6_many 24 = .ok (.goto 9, 3) := by decide +kernel
theorem dX6_many_27 : decode cX6_many 27 = .ok (.aload_n 0, 1) := by decide +kernel
theorem dX6_many_28 : decode cX6_many 28 = .ok (.iload_n 1, 1) := by decide +kernel
theorem dX6_many_29 : decode cX6_many 29 = .ok (.iload_n 2, 1) := by decide +kernel
theorem dX6_many_30 : decode cX6_many 30 = .ok (.invokevirtual 171, 3) := by decide +kernel
theorem dX6_many_33 : decode cX6_many 33 = .ok (.ireturn, 1) := by decide +kernel
theorem dX6_freeBlocks_0 : decode cX6_freeBlocks 0 = .ok (.iconst 0, 1) := by decide +kernel
theorem dX6_freeBlocks_1 : decode cX6_freeBlocks 1 = .ok (.istore_n 1, 1) := by decide +kernel
theorem dX6_freeBlocks_2 : decode cX6_freeBlocks 2 = .ok (.iconst 0, 1) := by decide +kernel
theorem dX6_freeBlocks_3 : decode cX6_freeBlocks 3 = .ok (.istore_n 2, 1) := by decide +kernel
theorem dX6_freeBlocks_4 : decode cX6_freeBlocks 4 = .ok (.iload_n 2, 1) := by decide +kernel
theorem dX6_freeBlocks_5 : decode cX6_freeBlocks 5 = .ok (.aload_n 0, 1) := by decide +kernel
theorem dX6_freeBlocks_6 : decode cX6_freeBlocks 6 = .ok (.getfield 7, 3) := by decide +kernel
theorem dX6_freeBlocks_9 : decode cX6_freeBlocks 9 = .ok (.iconst 3, 1) := by decide +kernel
theorem dX6_freeBlocks_10 : decode cX6_freeBlocks 10 = .ok (.iaload, 1) := by decide +kernel
theorem dX6_freeBlocks_11 : decode cX6_freeBlocks 11 = .ok (.if_icmp .ge 25, 3) := by decide +kernel
theorem dX6_freeBlocks_14 : decode cX6_freeBlocks 14 = .ok (.iload_n 1, 1) := by decide +kernel
theorem dX6_freeBlocks_15 : decode cX6_freeBlocks 15 = .ok (.aload_n 0, 1) := by decide +kernel
theorem dX6_freeBlocks_16 : decode cX6_freeBlocks 16 = .ok (.iload_n 2, 1) := by decide +kernel
theorem dX6_freeBlocks_17 : decode cX6_freeBlocks 17 = .ok (.invokevirtual 66, 3) := by decide +kernel
theorem dX6_freeBlocks_20 : decode cX6_freeBlocks 20 = .ok (.ifCond .eq 7, 3) := by decide +kernel
theorem dX6_freeBlocks_23 : decode cX6_freeBlocks 23 = .ok (.iconst 1, 1) := by decide +kernel
theorem dX6_freeBlocks_24 : decode cX6_freeBlocks 24 = .ok (.goto 4, 3) := by decide +kernel
theorem dX6_freeBlocks_27 : decode cX6_freeBlocks 27 = .ok (.iconst 0, 1) := by decide +kernel
theorem dX6_freeBlocks_28 : decode cX6_freeBlocks 28 = .ok (.iadd, 1) := by decide +kernel
theorem dX6_freeBlocks_29 : decode cX6_freeBlocks 29 = .ok (.istore_n 1, 1) := by decide +kernel
theorem dX6_freeBlocks_30 : decode cX6_freeBlocks 30 = .ok (.iinc 2 1, 3) := by decide +kernel
theorem dX6_freeBlocks_33 : decode cX6_freeBlocks 33 = .ok (.goto (-29), 3) := by decide +kernel
theorem dX6_freeBlocks_36 : decode cX6_freeBlocks 36 = .ok (.iload_n 1, 1) := by decide +kernel
theorem dX6_freeBlocks_37 : decode cX6_freeBlocks 37 = .ok (.ireturn, 1) := by decide +kernel
theorem dX6_freeCells_0 : decode cX6_freeCells 0 = .ok (.iconst 0, 1) := by decide +kernel
theorem dX6_freeCells_1 : decode cX6_freeCells 1 = .ok (.istore_n 1, 1) := by decide +kernel
theorem dX6_freeCells_2 : decode cX6_freeCells 2 = .ok (.iconst 0, 1) := by decide +kernel
theorem dX6_freeCells_3 : decode cX6_freeCells 3 = .ok (.istore_n 2, 1) := by decide +kernel
theorem dX6_freeCells_4 : decode cX6_freeCells 4 = .ok (.iload_n 2, 1) := by decide +kernel
theorem dX6_freeCells_5 : decode cX6_freeCells 5 = .ok (.aload_n 0, 1) := by decide +kernel
theorem dX6_freeCells_6 : decode cX6_freeCells 6 = .ok (.getfield 7, 3) := by decide +kernel
theorem dX6_freeCells_9 : decode cX6_freeCells 9 = .ok (.iconst 3, 1) := by decide +kernel
theorem dX6_freeCells_10 : decode cX6_freeCells 10 = .ok (.iaload, 1) := by decide +kernel
theorem dX6_freeCells_11 : decode cX6_freeCells 11 = .ok (.if_icmp .ge 29, 3) := by decide +kernel
theorem dX6_freeCells_14 : decode cX6_freeCells 14 = .ok (.iload_n 1, 1) := by decide +kernel
theorem dX6_freeCells_15 : decode cX6_freeCells 15 = .ok (.aload_n 0, 1) := by decide +kernel
theorem dX6_freeCells_16 : decode cX6_freeCells 16 = .ok (.iload_n 2, 1) := by decide +kernel
theorem dX6_freeCells_17 : decode cX6_freeCells 17 = .ok (.invokevirtual 66, 3) := by decide +kernel
theorem dX6_freeCells_20 : decode cX6_freeCells 20 = .ok (.ifCond .eq 11, 3) := by decide +kernel
theorem dX6_freeCells_23 : decode cX6_freeCells 23 = .ok (.aload_n 0, 1) := by decide +kernel
theorem dX6_freeCells_24 : decode cX6_freeCells 24 = .ok (.iload_n 2, 1) := by decide +kernel
theorem dX6_freeCells_25 : decode cX6_freeCells 25 = .ok (.invokevirtual 112, 3) := by decide +kernel
theorem dX6_freeCells_28 : decode cX6_freeCells 28 = .ok (.goto 4, 3) := by decide +kernel
theorem dX6_freeCells_31 : decode cX6_freeCells 31 = .ok (.iconst 0, 1) := by decide +kernel
theorem dX6_freeCells_32 : decode cX6_freeCells 32 = .ok (.iadd, 1) := by decide +kernel
theorem dX6_freeCells_33 : decode cX6_freeCells 33 = .ok (.istore_n 1, 1) := by decide +kernel
theorem dX6_freeCells_34 : decode cX6_freeCells 34 = .ok (.iinc 2 1, 3) := by decide +kernel
theorem dX6_freeCells_37 : decode cX6_freeCells 37 = .ok (.goto (-33), 3) := by decide +kernel
theorem dX6_freeCells_40 : decode cX6_freeCells 40 = .ok (.iload_n 1, 1) := by decide +kernel
theorem dX6_freeCells_41 : decode cX6_freeCells 41 = .ok (.ireturn, 1) := by decide +kernel
theorem dX6_wished_0 : decode cX6_wished 0 = .ok (.iconst 0, 1) := by decide +kernel
theorem dX6_wished_1 : decode cX6_wished 1 = .ok (.istore_n 1, 1) := by decide +kernel
theorem dX6_wished_2 : decode cX6_wished 2 = .ok (.iconst 0, 1) := by decide +kernel
theorem dX6_wished_3 : decode cX6_wished 3 = .ok (.istore_n 2, 1) := by decide +kernel
theorem dX6_wished_4 : decode cX6_wished 4 = .ok (.iload_n 2, 1) := by decide +kernel
theorem dX6_wished_5 : decode cX6_wished 5 = .ok (.bipush 24, 2) := by decide +kernel
theorem dX6_wished_7 : decode cX6_wished 7 = .ok (.if_icmp .ge 21, 3) := by decide +kernel
theorem dX6_wished_10 : decode cX6_wished 10 = .ok (.iload_n 1, 1) := by decide +kernel
theorem dX6_wished_11 : decode cX6_wished 11 = .ok (.aload_n 0, 1) := by decide +kernel
theorem dX6_wished_12 : decode cX6_wished 12 = .ok (.getfield 7, 3) := by decide +kernel
theorem dX6_wished_15 : decode cX6_wished 15 = .ok (.bipush 7, 2) := by decide +kernel
theorem dX6_wished_17 : decode cX6_wished 17 = .ok (.iload_n 2, 1) := by decide +kernel
theorem dX6_wished_18 : decode cX6_wished 18 = .ok (.iadd, 1) := by decide +kernel
theorem dX6_wished_19 : decode cX6_wished 19 = .ok (.iaload, 1) := by decide +kernel
theorem dX6_wished_20 : decode cX6_wished 20 = .ok (.iadd, 1) := by decide +kernel
theorem dX6_wished_21 : decode cX6_wished 21 = .ok (.istore_n 1, 1) := by decide +kernel
theorem dX6_wished_22 : decode cX6_wished 22 = .ok (.iinc 2 1, 3) := by decide +kernel
theorem dX6_wished_25 : decode cX6_wished 25 = .ok (.goto (-21), 3) := by decide +kernel
theorem dX6_wished_28 : decode cX6_wished 28 = .ok (.iload_n 1, 1) := by decide +kernel
theorem dX6_wished_29 : decode cX6_wished 29 = .ok (.ireturn, 1) := by decide +kernel
theorem dX6_usedCells_0 : decode cX6_usedCells 0 = .ok (.aload_n 0, 1) := by decide +kernel
theorem dX6_usedCells_1 : decode cX6_usedCells 1 = .ok (.getfield 7, 3) := by decide +kernel
theorem dX6_usedCells_4 : decode cX6_usedCells 4 = .ok (.iconst 2, 1) := by decide +kernel
theorem dX6_usedCells_5 : decode cX6_usedCells 5 = .ok (.iaload, 1) := by decide +kernel
theorem dX6_usedCells_6 : decode cX6_usedCells 6 = .ok (.invokestatic 48, 3) := by decide +kernel
theorem dX6_usedCells_9 : decode cX6_usedCells 9 = .ok (.aload_n 0, 1) := by decide +kernel
theorem dX6_usedCells_10 : decode cX6_usedCells 10 = .ok (.invokevirtual 175, 3) := by decide +kernel
theorem dX6_usedCells_13 : decode cX6_usedCells 13 = .ok (.isub, 1) := by decide +kernel
theorem dX6_usedCells_14 : decode cX6_usedCells 14 = .ok (.ireturn, 1) := by decide +kernel
theorem dX6_greatestFree_0 : decode cX6_greatestFree 0 = .ok (.iconst (-1), 1) := by decide +kernel
theorem dX6_greatestFree_1 : decode cX6_greatestFree 1 = .ok (.istore_n 1, 1) := by decide +kernel
theorem dX6_greatestFree_2 : decode cX6_greatestFree 2 = .ok (.iconst 0, 1) := by decide +kernel
theorem dX6_greatestFree_3 : decode cX6_greatestFree 3 = .ok (.istore_n 2, 1) := by decide +kernel
theorem dX6_greatestFree_4 : decode cX6_greatestFree 4 = .ok (.iload_n 2, 1) := by decide +kernel
theorem dX6_greatestFree_5 : decode cX6_greatestFree 5 = .ok (.aload_n 0, 1) := by decide +kernel
theorem dX6_greatestFree_6 : decode cX6_greatestFree 6 = .ok (.getfield 7, 3) := by decide +kernel
theorem dX6_greatestFree_9 : decode cX6_greatestFree 9 = .ok (.iconst 3, 1) := by decide +kernel
theorem dX6_greatestFree_10 : decode cX6_greatestFree 10 = .ok (.iaload, 1) := by decide +kernel
theorem dX6_greatestFree_11 : decode cX6_greatestFree 11 = .ok (.if_icmp .ge 38, 3) := by decide +kernel
theorem dX6_greatestFree_14 : decode cX6_greatestFree 14 = .ok (.aload_n 0, 1) := by decide +kernel
theorem dX6_greatestFree_15 : decode cX6_greatestFree 15 = .ok (.iload_n 2, 1) := by decide +kernel
theorem dX6_greatestFree_16 : decode cX6_greatestFree 16 = .ok (.invokevirtual 66, 3) := by decide +kernel
theorem dX6_greatestFree_19 : decode cX6_greatestFree 19 = .ok (.ifCond .eq 22, 3) := by decide +kernel
theorem dX6_greatestFree_22 : decode cX6_greatestFree 22 = .ok (.aload_n 0, 1) := by decide +kernel
theorem dX6_greatestFree_23 : decode cX6_greatestFree 23 = .ok (.iload_n 2, 1) := by decide +kernel
theorem dX6_greatestFree_24 : decode cX6_greatestFree 24 = .ok (.iconst 1, 1) := by decide +kernel
theorem dX6_greatestFree_25 : decode cX6_greatestFree 25 = .ok (.invokevirtual 44, 3) := by decide +kernel
theorem dX6_greatestFree_28 : decode cX6_greatestFree 28 = .ok (.iload_n 1, 1) := by decide +kernel
theorem dX6_greatestFree_29 : decode cX6_greatestFree 29 = .ok (.if_icmp .le 12, 3) := by decide +kernel
theorem dX6_greatestFree_32 : decode cX6_greatestFree 32 = .ok (.aload_n 0, 1) := by decide +kernel
theorem dX6_greatestFree_33 : decode cX6_greatestFree 33 = .ok (.iload_n 2, 1) := by decide +kernel
theorem dX6_greatestFree_34 : decode cX6_greatestFree 34 = .ok (.iconst 1, 1) := by decide +kernel
theorem dX6_greatestFree_35 : decode cX6_greatestFree 35 = .ok (.invokevirtual 44, 3) := by decide +kernel
theorem dX6_greatestFree_38 : decode cX6_greatestFree 38 = .ok (.goto 4, 3) := by decide +kernel
theorem dX6_greatestFree_41 : decode cX6_greatestFree 41 = .ok (.iload_n 1, 1) := by decide +kernel
theorem dX6_greatestFree_42 : decode cX6_greatestFree 42 = .ok (.istore_n 1, 1) := by decide +kernel
theorem dX6_greatestFree_43 : decode cX6_greatestFree 43 = .ok (.iinc 2 1, 3) := by decide +kernel
theorem dX6_greatestFree_46 : decode cX6_greatestFree 46 = .ok (.goto (-42), 3) := by decide +kernel
theorem dX6_greatestFree_49 : decode cX6_greatestFree 49 = .ok (.iload_n 1, 1) := by decide +kernel
theorem dX6_greatestFree_50 : decode cX6_greatestFree 50 = .ok (.ireturn, 1) := by decide +kernel
theorem dX6_counted_0 : decode cX6_counted 0 = .ok (.iload_n 1, 1) := by decide +kernel
theorem dX6_counted_1 : decode cX6_counted 1 = .ok (.tableswitch 131 0 11 #[63, 73, 73, 84, 89, 94, 99, 104, 114, 114, 114, 126], 63) := by decide +kernel
theorem dX6_counted_64 : decode cX6_counted 64 = .ok (.aload_n 0, 1) := by decide +kernel
theorem dX6_counted_65 : decode cX6_counted 65 = .ok (.getfield 7, 3) := by decide +kernel
theorem dX6_counted_68 : decode cX6_counted 68 = .ok (.iconst 2, 1) := by decide +kernel
theorem dX6_counted_69 : decode cX6_counted 69 = .ok (.iaload, 1) := by decide +kernel
theorem dX6_counted_70 : decode cX6_counted 70 = .ok (.invokestatic 48, 3) := by decide +kernel
theorem dX6_counted_73 : decode cX6_counted 73 = .ok (.ireturn, 1) := by decide +kernel
theorem dX6_counted_74 : decode cX6_counted 74 = .ok (.aload_n 0, 1) := by decide +kernel
theorem dX6_counted_75 : decode cX6_counted 75 = .ok (.getfield 7, 3) := by decide +kernel
theorem dX6_counted_78 : decode cX6_counted 78 = .ok (.iconst 2, 1) := by decide +kernel
theorem dX6_counted_79 : decode cX6_counted 79 = .ok (.iload_n 1, 1) := by decide +kernel
theorem dX6_counted_80 : decode cX6_counted 80 = .ok (.iadd, 1) := by decide +kernel
theorem dX6_counted_81 : decode cX6_counted 81 = .ok (.iconst 1, 1) := by decide +kernel
theorem dX6_counted_82 : decode cX6_counted 82 = .ok (.isub, 1) := by decide +kernel
theorem dX6_counted_83 : decode cX6_counted 83 = .ok (.iaload, 1) := by decide +kernel
theorem dX6_counted_84 : decode cX6_counted 84 = .ok (.ireturn, 1) := by decide +kernel
theorem dX6_counted_85 : decode cX6_counted 85 = .ok (.aload_n 0, 1) := by decide +kernel
theorem dX6_counted_86 : decode cX6_counted 86 = .ok (.invokevirtual 178, 3) := by decide +kernel
theorem dX6_counted_89 : decode cX6_counted 89 = .ok (.ireturn, 1) := by decide +kernel
theorem dX6_counted_90 : decode cX6_counted 90 = .ok (.aload_n 0, 1) := by decide +kernel
theorem dX6_counted_91 : decode cX6_counted 91 = .ok (.invokevirtual 109, 3) := by decide +kernel
theorem dX6_counted_94 : decode cX6_counted 94 = .ok (.ireturn, 1) := by decide +kernel
theorem dX6_counted_95 : decode cX6_counted 95 = .ok (.aload_n 0, 1) := by decide +kernel
theorem dX6_counted_96 : decode cX6_counted 96 = .ok (.invokevirtual 175, 3) := by decide +kernel
theorem dX6_counted_99 : decode cX6_counted 99 = .ok (.ireturn, 1) := by decide +kernel
theorem dX6_counted_100 : decode cX6_counted 100 = .ok (.aload_n 0, 1) := by decide +kernel
theorem dX6_counted_101 : decode cX6_counted 101 = .ok (.invokevirtual 181, 3) := by decide +kernel
theorem dX6_counted_104 : decode cX6_counted 104 = .ok (.ireturn, 1) := by decide +kernel
theorem dX6_counted_105 : decode cX6_counted 105 = .ok (.aload_n 0, 1) := by decide +kernel
theorem dX6_counted_106 : decode cX6_counted 106 = .ok (.invokevirtual 184, 3) := by decide +kernel
theorem dX6_counted_109 : decode cX6_counted 109 = .ok (.aload_n 0, 1) := by decide +kernel
theorem dX6_counted_110 : decode cX6_counted 110 = .ok (.invokevirtual 181, 3) := by decide +kernel
theorem dX6_counted_113 : decode cX6_counted 113 = .ok (.isub, 1) := by decide +kernel
theorem dX6_counted_114 : decode cX6_counted 114 = .ok (.ireturn, 1) := by decide +kernel
theorem dX6_counted_115 : decode cX6_counted 115 = .ok (.aload_n 0, 1) := by decide +kernel
theorem dX6_counted_116 : decode cX6_counted 116 = .ok (.getfield 7, 3) := by decide +kernel
theorem dX6_counted_119 : decode cX6_counted 119 = .ok (.iconst 4, 1) := by decide +kernel
theorem dX6_counted_120 : decode cX6_counted 120 = .ok (.iload_n 1, 1) := by decide +kernel
theorem dX6_counted_121 : decode cX6_counted 121 = .ok (.iadd, 1) := by decide +kernel
theorem dX6_counted_122 : decode cX6_counted 122 = .ok (.bipush 8, 2) := by decide +kernel
theorem dX6_counted_124 : decode cX6_counted 124 = .ok (.isub, 1) := by decide +kernel
theorem dX6_counted_125 : decode cX6_counted 125 = .ok (.iaload, 1) := by decide +kernel
theorem dX6_counted_126 : decode cX6_counted 126 = .ok (.ireturn, 1) := by decide +kernel
theorem dX6_counted_127 : decode cX6_counted 127 = .ok (.aload_n 0, 1) := by decide +kernel
theorem dX6_counted_128 : decode cX6_counted 128 = .ok (.invokevirtual 187, 3) := by decide +kernel
theorem dX6_counted_131 : decode cX6_counted 131 = .ok (.ireturn, 1) := by decide +kernel
theorem dX6_counted_132 : decode cX6_counted 132 = .ok (.aload_n 0, 1) := by decide +kernel
theorem dX6_counted_133 : decode cX6_counted 133 = .ok (.getfield 33, 3) := by decide +kernel
theorem dX6_counted_136 : decode cX6_counted 136 = .ok (.ireturn, 1) := by decide +kernel
theorem dX6_count_0 : decode cX6_count 0 = .ok (.aload_n 0, 1) := by decide +kernel
theorem dX6_count_1 : decode cX6_count 1 = .ok (.iload_n 1, 1) := by decide +kernel
theorem dX6_count_2 : decode cX6_count 2 = .ok (.iconst 0, 1) := by decide +kernel
theorem dX6_count_3 : decode cX6_count 3 = .ok (.bipush 12, 2) := by decide +kernel
theorem dX6_count_5 : decode cX6_count 5 = .ok (.invokestatic 52, 3) := by decide +kernel
theorem dX6_count_8 : decode cX6_count 8 = .ok (.ifCond .eq 7, 3) := by decide +kernel
theorem dX6_count_11 : decode cX6_count 11 = .ok (.iconst 0, 1) := by decide +kernel
theorem dX6_count_12 : decode cX6_count 12 = .ok (.goto 4, 3) := by decide +kernel
theorem dX6_count_15 : decode cX6_count 15 = .ok (.iconst 1, 1) := by decide +kernel
theorem dX6_count_16 : decode cX6_count 16 = .ok (.putfield 29, 3) := by decide +kernel
theorem dX6_count_19 : decode cX6_count 19 = .ok (.aload_n 0, 1) := by decide +kernel
theorem dX6_count_20 : decode cX6_count 20 = .ok (.getfield 29, 3) := by decide +kernel
theorem dX6_count_23 : decode cX6_count 23 = .ok (.ifCond .le 7, 3) := by decide +kernel
theorem dX6_count_26 : decode cX6_count 26 = .ok (.iconst 0, 1) := by decide +kernel
theorem dX6_count_27 : decode cX6_count 27 = .ok (.goto 8, 3) := by decide +kernel
theorem dX6_count_30 : decode cX6_count 30 = .ok (.aload_n 0, 1) := by decide +kernel
theorem dX6_count_31 : decode cX6_count 31 = .ok (.iload_n 1, 1) := by decide +kernel
theorem dX6_count_32 : decode cX6_count 32 = .ok (.invokevirtual 190, 3) := by decide +kernel
theorem dX6_count_35 : decode cX6_count 35 = .ok (.ireturn, 1) := by decide +kernel
theorem dX6_setting_0 : decode cX6_setting 0 = .ok (.aload_n 0, 1) := by decide +kernel
theorem dX6_setting_1 : decode cX6_setting 1 = .ok (.iload_n 1, 1) := by decide +kernel
theorem dX6_setting_2 : decode cX6_setting 2 = .ok (.iconst 0, 1) := by decide +kernel
theorem dX6_setting_3 : decode cX6_setting 3 = .ok (.iconst 1, 1) := by decide +kernel
theorem dX6_setting_4 : decode cX6_setting 4 = .ok (.invokestatic 52, 3) := by decide +kernel
theorem dX6_setting_7 : decode cX6_setting 7 = .ok (.ifCond .eq 7, 3) := by decide +kernel
theorem dX6_setting_10 : decode cX6_setting 10 = .ok (.iconst 0, 1) := by decide +kernel
theorem dX6_setting_11 : decode cX6_setting 11 = .ok (.goto 4, 3) := by decide +kernel
theorem dX6_setting_14 : decode cX6_setting 14 = .ok (.iconst 1, 1) := by decide +kernel
theorem dX6_setting_15 : decode cX6_setting 15 = .ok (.putfield 29, 3) := by decide +kernel
theorem dX6_setting_18 : decode cX6_setting 18 = .ok (.aload_n 0, 1) := by decide +kernel
theorem dX6_setting_19 : decode cX6_setting 19 = .ok (.getfield 29, 3) := by decide +kernel
theorem dX6_setting_22 : decode cX6_setting 22 = .ok (.ifCond .le 7, 3) := by decide +kernel
theorem dX6_setting_25 : decode cX6_setting 25 = .ok (.iconst 0, 1) := by decide +kernel
theorem dX6_setting_26 : decode cX6_setting 26 = .ok (.goto 9, 3) := by decide +kernel
theorem dX6_setting_29 : decode cX6_setting 29 = .ok (.aload_n 0, 1) := by decide +kernel
theorem dX6_setting_30 : decode cX6_setting 30 = .ok (.getfield 7, 3) := by decide +kernel
theorem dX6_setting_33 : decode cX6_setting 33 = .ok (.iload_n 1, 1) := by decide +kernel
theorem dX6_setting_34 : decode cX6_setting 34 = .ok (.iaload, 1) := by decide +kernel
theorem dX6_setting_35 : decode cX6_setting 35 = .ok (.ireturn, 1) := by decide +kernel
theorem dX6_wantedThen_0 : decode cX6_wantedThen 0 = .ok (.iload_n 1, 1) := by decide +kernel
theorem dX6_wantedThen_1 : decode cX6_wantedThen 1 = .ok (.invokestatic 82, 3) := by decide +kernel
theorem dX6_wantedThen_4 : decode cX6_wantedThen 4 = .ok (.istore_n 3, 1) := by decide +kernel
theorem dX6_wantedThen_5 : decode cX6_wantedThen 5 = .ok (.aload_n 0, 1) := by decide +kernel
theorem dX6_wantedThen_6 : decode cX6_wantedThen 6 = .ok (.iload_n 3, 1) := by decide +kernel
theorem dX6_wantedThen_7 : decode cX6_wantedThen 7 = .ok (.invokevirtual 85, 3) := by decide +kernel
theorem dX6_wantedThen_10 : decode cX6_wantedThen 10 = .ok (.istore 4, 2) := by decide +kernel
theorem dX6_wantedThen_12 : decode cX6_wantedThen 12 = .ok (.iload 4, 2) := by decide +kernel
theorem dX6_wantedThen_14 : decode cX6_wantedThen 14 = .ok (.iconst (-1), 1) := by decide +kernel
theorem dX6_wantedThen_15 : decode cX6_wantedThen 15 = .ok (.if_icmp .ne 5, 3) := by decide +kernel
theorem dX6_wantedThen_18 : decode cX6_wantedThen 18 = .ok (.iconst (-1), 1) := by decide +kernel
theorem dX6_wantedThen_19 : decode cX6_wantedThen 19 = .ok (.ireturn, 1) := by decide +kernel
theorem dX6_wantedThen_20 : decode cX6_wantedThen 20 = .ok (.aload_n 0, 1) := by decide +kernel
theorem dX6_wantedThen_21 : decode cX6_wantedThen 21 = .ok (.invokevirtual 118, 3) := by decide +kernel
theorem dX6_wantedThen_24 : decode cX6_wantedThen 24 = .ok (.aload_n 0, 1) := by decide +kernel
theorem dX6_wantedThen_25 : decode cX6_wantedThen 25 = .ok (.getfield 7, 3) := by decide +kernel
theorem dX6_wantedThen_28 : decode cX6_wantedThen 28 = .ok (.iconst 4, 1) := by decide +kernel
theorem dX6_wantedThen_29 : decode cX6_wantedThen 29 = .ok (.iaload, 1) := by decide +kernel
theorem dX6_wantedThen_30 : decode cX6_wantedThen 30 = .ok (.istore 5, 2) := by decide +kernel
theorem dX6_wantedThen_32 : decode cX6_wantedThen 32 = .ok (.aload_n 0, 1) := by decide +kernel
theorem dX6_wantedThen_33 : decode cX6_wantedThen 33 = .ok (.iload 4, 2) := by decide +kernel
theorem dX6_wantedThen_35 : decode cX6_wantedThen 35 = .ok (.iload_n 3, 1) := by decide +kernel
theorem dX6_wantedThen_36 : decode cX6_wantedThen 36 = .ok (.invokevirtual 88, 3) := by decide +kernel
theorem dX6_wantedThen_39 : decode cX6_wantedThen 39 = .ok (.istore 6, 2) := by decide +kernel
theorem dX6_wantedThen_41 : decode cX6_wantedThen 41 = .ok (.iload_n 2, 1) := by decide +kernel
theorem dX6_wantedThen_42 : decode cX6_wantedThen 42 = .ok (.iconst 2, 1) := by decide +kernel
theorem dX6_wantedThen_43 : decode cX6_wantedThen 43 = .ok (.if_icmp .ge 13, 3) := by decide +kernel
theorem dX6_wantedThen_46 : decode cX6_wantedThen 46 = .ok (.aload_n 0, 1) := by decide +kernel
theorem dX6_wantedThen_47 : decode cX6_wantedThen 47 = .ok (.iload 6, 2) := by decide +kernel
theorem dX6_wantedThen_49 : decode cX6_wantedThen 49 = .ok (.iload_n 2, 1) := by decide +kernel
theorem dX6_wantedThen_50 : decode cX6_wantedThen 50 = .ok (.invokevirtual 44, 3) := by decide +kernel
theorem dX6_wantedThen_53 : decode cX6_wantedThen 53 = .ok (.goto 28, 3) := by decide +kernel
theorem dX6_wantedThen_56 : decode cX6_wantedThen 56 = .ok (.iload_n 2, 1) := by decide +kernel
theorem dX6_wantedThen_57 : decode cX6_wantedThen 57 = .ok (.iconst 2, 1) := by decide +kernel
theorem dX6_wantedThen_58 : decode cX6_wantedThen 58 = .ok (.if_icmp .ne 15, 3) := by decide +kernel
theorem dX6_wantedThen_61 : decode cX6_wantedThen 61 = .ok (.aload_n 0, 1) := by decide +kernel
theorem dX6_wantedThen_62 : decode cX6_wantedThen 62 = .ok (.getfield 7, 3) := by decide +kernel
theorem dX6_wantedThen_65 : decode cX6_wantedThen 65 = .ok (.iconst 4, 1) := by decide +kernel
theorem dX6_wantedThen_66 : decode cX6_wantedThen 66 = .ok (.iaload, 1) := by decide +kernel
theorem dX6_wantedThen_67 : decode cX6_wantedThen 67 = .ok (.iload 5, 2) := by decide +kernel
theorem dX6_wantedThen_69 : decode cX6_wantedThen 69 = .ok (.isub, 1) := by decide +kernel
theorem dX6_wantedThen_70 : decode cX6_wantedThen 70 = .ok (.goto 11, 3) := by decide +kernel
theorem dX6_wantedThen_73 : decode cX6_wantedThen 73 = .ok (.aload_n 0, 1) := by decide +kernel
theorem dX6_wantedThen_74 : decode cX6_wantedThen 74 = .ok (.iload 6, 2) := by decide +kernel
theorem dX6_wantedThen_76 : decode cX6_wantedThen 76 = .ok (.invokevirtual 112, 3) := by decide +kernel
theorem dX6_wantedThen_79 : decode cX6_wantedThen 79 = .ok (.iload_n 1, 1) := by decide +kernel
theorem dX6_wantedThen_80 : decode cX6_wantedThen 80 = .ok (.isub, 1) := by decide +kernel
theorem dX6_wantedThen_81 : decode cX6_wantedThen 81 = .ok (.istore 7, 2) := by decide +kernel
theorem dX6_wantedThen_83 : decode cX6_wantedThen 83 = .ok (.aload_n 0, 1) := by decide +kernel
theorem dX6_wantedThen_84 : decode cX6_wantedThen 84 = .ok (.invokevirtual 125, 3) := by decide +kernel
theorem dX6_wantedThen_87 : decode cX6_wantedThen 87 = .ok (.iload 7, 2) := by decide +kernel
theorem dX6_wantedThen_89 : decode cX6_wantedThen 89 = .ok (.ireturn, 1) := by decide +kernel
theorem dX6_ifWanted_0 : decode cX6_ifWanted 0 = .ok (.aload_n 0, 1) := by decide +kernel
theorem dX6_ifWanted_1 : decode cX6_ifWanted 1 = .ok (.iload_n 1, 1) := by decide +kernel
theorem dX6_ifWanted_2 : decode cX6_ifWanted 2 = .ok (.invokestatic 94, 3) := by decide +kernel
theorem dX6_ifWanted_5 : decode cX6_ifWanted 5 = .ok (.ifCond .eq 16, 3) := by decide +kernel
theorem dX6_ifWanted_8 : decode cX6_ifWanted 8 = .ok (.iload_n 2, 1) := by decide +kernel
theorem dX6_ifWanted_9 : decode cX6_ifWanted 9 = .ok (.iconst 0, 1) := by decide +kernel
theorem dX6_ifWanted_10 : decode cX6_ifWanted 10 = .ok (.iconst 3, 1) := by decide +kernel
theorem dX6_ifWanted_11 : decode cX6_ifWanted 11 = .ok (.invokestatic 52, 3) := by decide +kernel
theorem dX6_ifWanted_14 : decode cX6_ifWanted 14 = .ok (.ifCond .eq 7, 3) := by decide +kernel
theorem dX6_ifWanted_17 : decode cX6_ifWanted 17 = .ok (.iconst 0, 1) := by decide +kernel
theorem dX6_ifWanted_18 : decode cX6_ifWanted 18 = .ok (.goto 4, 3) := by decide +kernel
theorem dX6_ifWanted_21 : decode cX6_ifWanted 21 = .ok (.iconst 1, 1) := by decide +kernel
theorem dX6_ifWanted_22 : decode cX6_ifWanted 22 = .ok (.putfield 29, 3) := by decide +kernel
theorem dX6_ifWanted_25 : decode cX6_ifWanted 25 = .ok (.aload_n 0, 1) := by decide +kernel
theorem dX6_ifWanted_26 : decode cX6_ifWanted 26 = .ok (.getfield 29, 3) := by decide +kernel
theorem dX6_ifWanted_29 : decode cX6_ifWanted 29 = .ok (.ifCond .le 7, 3) := by decide +kernel
theorem dX6_ifWanted_32 : decode cX6_ifWanted 32 = .ok (.iconst 0, 1) := by decide +kernel
theorem dX6_ifWanted_33 : decode cX6_ifWanted 33 = .ok (.goto 9, 3) := by decide +kernel
theorem dX6_ifWanted_36 : decode cX6_ifWanted 36 = .ok (.aload_n 0, 1) := by decide +kernel
theorem dX6_ifWanted_37 : decode cX6_ifWanted 37 = .ok (.iload_n 1, 1) := by decide +kernel
theorem dX6_ifWanted_38 : decode cX6_ifWanted 38 = .ok (.iload_n 2, 1) := by decide +kernel
theorem dX6_ifWanted_39 : decode cX6_ifWanted 39 = .ok (.invokevirtual 193, 3) := by decide +kernel
theorem dX6_ifWanted_42 : decode cX6_ifWanted 42 = .ok (.ireturn, 1) := by decide +kernel
theorem dX6_givenThen_0 : decode cX6_givenThen 0 = .ok (.aload_n 0, 1) := by decide +kernel
theorem dX6_givenThen_1 : decode cX6_givenThen 1 = .ok (.iload_n 1, 1) := by decide +kernel
theorem dX6_givenThen_2 : decode cX6_givenThen 2 = .ok (.invokevirtual 103, 3) := by decide +kernel
theorem dX6_givenThen_5 : decode cX6_givenThen 5 = .ok (.ifCond .ne 5, 3) := by decide +kernel
theorem dX6_givenThen_8 : decode cX6_givenThen 8 = .ok (.iconst (-1), 1) := by decide +kernel
theorem dX6_givenThen_9 : decode cX6_givenThen 9 = .ok (.ireturn, 1) := by decide +kernel
theorem dX6_givenThen_10 : decode cX6_givenThen 10 = .ok (.aload_n 0, 1) := by decide +kernel
theorem dX6_givenThen_11 : decode cX6_givenThen 11 = .ok (.invokevirtual 118, 3) := by decide +kernel
theorem dX6_givenThen_14 : decode cX6_givenThen 14 = .ok (.aload_n 0, 1) := by decide +kernel
theorem dX6_givenThen_15 : decode cX6_givenThen 15 = .ok (.iload_n 1, 1) := by decide +kernel
theorem dX6_givenThen_16 : decode cX6_givenThen 16 = .ok (.invokevirtual 106, 3) := by decide +kernel
theorem dX6_givenThen_19 : decode cX6_givenThen 19 = .ok (.istore_n 2, 1) := by decide +kernel
theorem dX6_givenThen_20 : decode cX6_givenThen 20 = .ok (.aload_n 0, 1) := by decide +kernel
theorem dX6_givenThen_21 : decode cX6_givenThen 21 = .ok (.invokevirtual 125, 3) := by decide +kernel
theorem dX6_givenThen_24 : decode cX6_givenThen 24 = .ok (.iload_n 2, 1) := by decide +kernel
theorem dX6_givenThen_25 : decode cX6_givenThen 25 = .ok (.ireturn, 1) := by decide +kernel
theorem dX6_ifGiven_0 : decode cX6_ifGiven 0 = .ok (.aload_n 0, 1) := by decide +kernel
theorem dX6_ifGiven_1 : decode cX6_ifGiven 1 = .ok (.iload_n 1, 1) := by decide +kernel
theorem dX6_ifGiven_2 : decode cX6_ifGiven 2 = .ok (.invokestatic 162, 3) := by decide +kernel
theorem dX6_ifGiven_5 : decode cX6_ifGiven 5 = .ok (.ifCond .eq 7, 3) := by decide +kernel
theorem dX6_ifGiven_8 : decode cX6_ifGiven 8 = .ok (.iconst 0, 1) := by decide +kernel
theorem dX6_ifGiven_9 : decode cX6_ifGiven 9 = .ok (.goto 4, 3) := by decide +kernel
theorem dX6_ifGiven_12 : decode cX6_ifGiven 12 = .ok (.iconst 1, 1) := by decide +kernel
theorem dX6_ifGiven_13 : decode cX6_ifGiven 13 = .ok (.putfield 29, 3) := by decide +kernel
theorem dX6_ifGiven_16 : decode cX6_ifGiven 16 = .ok (.aload_n 0, 1) := by decide +kernel
theorem dX6_ifGiven_17 : decode cX6_ifGiven 17 = .ok (.getfield 29, 3) := by decide +kernel
theorem dX6_ifGiven_20 : decode cX6_ifGiven 20 = .ok (.ifCond .le 7, 3) := by decide +kernel
theorem dX6_ifGiven_23 : decode cX6_ifGiven 23 = .ok (.iconst 0, 1) := by decide +kernel
theorem dX6_ifGiven_24 : decode cX6_ifGiven 24 = .ok (.goto 8, 3) := by decide +kernel
theorem dX6_ifGiven_27 : decode cX6_ifGiven 27 = .ok (.aload_n 0, 1) := by decide +kernel
theorem dX6_ifGiven_28 : decode cX6_ifGiven 28 = .ok (.iload_n 1, 1) := by decide +kernel
theorem dX6_ifGiven_29 : decode cX6_ifGiven 29 = .ok (.invokevirtual 196, 3) := by decide +kernel
theorem dX6_ifGiven_32 : decode cX6_ifGiven 32 = .ok (.ireturn, 1) := by decide +kernel
theorem dX6_reachNow_0 : decode cX6_reachNow 0 = .ok (.aload_n 0, 1) := by decide +kernel
theorem dX6_reachNow_1 : decode cX6_reachNow 1 = .ok (.iload_n 1, 1) := by decide +kernel
theorem dX6_reachNow_2 : decode cX6_reachNow 2 = .ok (.invokevirtual 103, 3) := by decide +kernel
theorem dX6_reachNow_5 : decode cX6_reachNow 5 = .ok (.ifCond .eq 14, 3) := by decide +kernel
theorem dX6_reachNow_8 : decode cX6_reachNow 8 = .ok (.aload_n 0, 1) := by decide +kernel
theorem dX6_reachNow_9 : decode cX6_reachNow 9 = .ok (.iload_n 1, 1) := by decide +kernel
theorem dX6_reachNow_10 : decode cX6_reachNow 10 = .ok (.sipush 999, 3) := by decide +kernel
theorem dX6_reachNow_13 : decode cX6_reachNow 13 = .ok (.invokevirtual 128, 3) := by decide +kernel
theorem dX6_reachNow_16 : decode cX6_reachNow 16 = .ok (.goto 4, 3) := by decide +kernel
theorem dX6_reachNow_19 : decode cX6_reachNow 19 = .ok (.iconst (-1), 1) := by decide +kernel
theorem dX6_reachNow_20 : decode cX6_reachNow 20 = .ok (.ireturn, 1) := by decide +kernel
theorem dX6_reach_0 : decode cX6_reach 0 = .ok (.aload_n 0, 1) := by decide +kernel
theorem dX6_reach_1 : decode cX6_reach 1 = .ok (.iload_n 1, 1) := by decide +kernel
theorem dX6_reach_2 : decode cX6_reach 2 = .ok (.invokestatic 162, 3) := by decide +kernel
theorem dX6_reach_5 : decode cX6_reach 5 = .ok (.ifCond .eq 7, 3) := by decide +kernel
theorem dX6_reach_8 : decode cX6_reach 8 = .ok (.iconst 0, 1) := by decide +kernel
theorem dX6_reach_9 : decode cX6_reach 9 = .ok (.goto 4, 3) := by decide +kernel
theorem dX6_reach_12 : decode cX6_reach 12 = .ok (.iconst 1, 1) := by decide +kernel
theorem dX6_reach_13 : decode cX6_reach 13 = .ok (.putfield 29, 3) := by decide +kernel
theorem dX6_reach_16 : decode cX6_reach 16 = .ok (.aload_n 0, 1) := by decide +kernel
theorem dX6_reach_17 : decode cX6_reach 17 = .ok (.getfield 29, 3) := by decide +kernel
theorem dX6_reach_20 : decode cX6_reach 20 = .ok (.ifCond .le 7, 3) := by decide +kernel
theorem dX6_reach_23 : decode cX6_reach 23 = .ok (.iconst 0, 1) := by decide +kernel
theorem dX6_reach_24 : decode cX6_reach 24 = .ok (.goto 8, 3) := by decide +kernel
theorem dX6_reach_27 : decode cX6_reach 27 = .ok (.aload_n 0, 1) := by decide +kernel
theorem dX6_reach_28 : decode cX6_reach 28 = .ok (.iload_n 1, 1) := by decide +kernel
theorem dX6_reach_29 : decode cX6_reach 29 = .ok (.invokevirtual 199, 3) := by decide +kernel
theorem dX6_reach_32 : decode cX6_reach 32 = .ok (.ireturn, 1) := by decide +kernel
theorem dX6_blockerNow_0 : decode cX6_blockerNow 0 = .ok (.iconst (-1), 1) := by decide +kernel
theorem dX6_blockerNow_1 : decode cX6_blockerNow 1 = .ok (.istore_n 1, 1) := by decide +kernel
theorem dX6_blockerNow_2 : decode cX6_blockerNow 2 = .ok (.iconst (-1), 1) := by decide +kernel
theorem dX6_blockerNow_3 : decode cX6_blockerNow 3 = .ok (.istore_n 2, 1) := by decide +kernel
theorem dX6_blockerNow_4 : decode cX6_blockerNow 4 = .ok (.iconst 0, 1) := by decide +kernel
theorem dX6_blockerNow_5 : decode cX6_blockerNow 5 = .ok (.istore_n 3, 1) := by decide +kernel
theorem dX6_blockerNow_6 : decode cX6_blockerNow 6 = .ok (.iload_n 3, 1) := by decide +kernel
theorem dX6_blockerNow_7 : decode cX6_blockerNow 7 = .ok (.bipush 24, 2) := by decide +kernel
theorem dX6_blockerNow_9 : decode cX6_blockerNow 9 = .ok (.if_icmp .ge 63, 3) := by decide +kernel
theorem dX6_blockerNow_12 : decode cX6_blockerNow 12 = .ok (.aload_n 0, 1) := by decide +kernel
theorem dX6_blockerNow_13 : decode cX6_blockerNow 13 = .ok (.iload_n 3, 1) := by decide +kernel
theorem dX6_blockerNow_14 : decode cX6_blockerNow 14 = .ok (.invokevirtual 103, 3) := by decide +kernel
theorem dX6_blockerNow_17 : decode cX6_blockerNow 17 = .ok (.ifCond .eq 49, 3) := by decide +kernel
theorem dX6_blockerNow_20 : decode cX6_blockerNow 20 = .ok (.aload_n 0, 1) := by decide +kernel
theorem dX6_blockerNow_21 : decode cX6_blockerNow 21 = .ok (.invokevirtual 118, 3) := by decide +kernel
theorem dX6_blockerNow_24 : decode cX6_blockerNow 24 = .ok (.aload_n 0, 1) := by decide +kernel
theorem dX6_blockerNow_25 : decode cX6_blockerNow 25 = .ok (.iload_n 3, 1) := by decide +kernel
theorem dX6_blockerNow_26 : decode cX6_blockerNow 26 = .ok (.invokevirtual 106, 3) := by decide +kernel
theorem dX6_blockerNow_29 : decode cX6_blockerNow 29 = .ok (.istore 4, 2) := by decide +kernel
theorem dX6_blockerNow_31 : decode cX6_blockerNow 31 = .ok (.aload_n 0, 1) := by decide +kernel
theorem dX6_blockerNow_32 : decode cX6_blockerNow 32 = .ok (.invokevirtual 187, 3) := by decide +kernel
theorem dX6_blockerNow_35 : decode cX6_blockerNow 35 = .ok (.istore 5, 2) := by decide +kernel
theorem dX6_blockerNow_37 : decode cX6_blockerNow 37 = .ok (.aload_n 0, 1) := by decide +kernel
theorem dX6_blockerNow_38 : decode cX6_blockerNow 38 = .ok (.invokevirtual 125, 3) := by decide +kernel
theorem dX6_blockerNow_41 : decode cX6_blockerNow 41 = .ok (.iload 5, 2) := by decide +kernel
theorem dX6_blockerNow_43 : decode cX6_blockerNow 43 = .ok (.iload_n 2, 1) := by decide +kernel
theorem dX6_blockerNow_44 : decode cX6_blockerNow 44 = .ok (.if_icmp .le 7, 3) := by decide +kernel
theorem dX6_blockerNow_47 : decode cX6_blockerNow 47 = .ok (.iload_n 3, 1) := by decide +kernel
theorem dX6_blockerNow_48 : decode cX6_blockerNow 48 = .ok (.goto 4, 3) := by decide +kernel
theorem dX6_blockerNow_51 : decode cX6_blockerNow 51 = .ok (.iload_n 1, 1) := by decide +kernel
theorem dX6_blockerNow_52 : decode cX6_blockerNow 52 = .ok (.istore_n 1, 1) := by decide +kernel
theorem dX6_blockerNow_53 : decode cX6_blockerNow 53 = .ok (.iload 5, 2) := by decide +kernel
theorem dX6_blockerNow_55 : decode cX6_blockerNow 55 = .ok (.iload_n 2, 1) := by decide +kernel
theorem dX6_blockerNow_56 : decode cX6_blockerNow 56 = .ok (.if_icmp .le 8, 3) := by decide +kernel
theorem dX6_blockerNow_59 : decode cX6_blockerNow 59 = .ok (.iload 5, 2) := by decide +kernel
theorem dX6_blockerNow_61 : decode cX6_blockerNow 61 = .ok (.goto 4, 3) := by decide +kernel
theorem dX6_blockerNow_64 : decode cX6_blockerNow 64 = .ok (.iload_n 2, 1) := by decide +kernel
theorem dX6_blockerNow_65 : decode cX6_blockerNow 65 = .ok (.istore_n 2, 1) := by decide +kernel
theorem dX6_blockerNow_66 : decode cX6_blockerNow 66 = .ok (.iinc 3 1, 3) := by decide +kernel
theorem dX6_blockerNow_69 : decode cX6_blockerNow 69 = .ok (.goto (-63), 3) := by decide +kernel
theorem dX6_blockerNow_72 : decode cX6_blockerNow 72 = .ok (.iload_n 1, 1) := by decide +kernel
theorem dX6_blockerNow_73 : decode cX6_blockerNow 73 = .ok (.ireturn, 1) := by decide +kernel
theorem dX6_blocker_0 : decode cX6_blocker 0 = .ok (.aload_n 0, 1) := by decide +kernel
theorem dX6_blocker_1 : decode cX6_blocker 1 = .ok (.iconst 0, 1) := by decide +kernel
theorem dX6_blocker_2 : decode cX6_blocker 2 = .ok (.putfield 29, 3) := by decide +kernel
theorem dX6_blocker_5 : decode cX6_blocker 5 = .ok (.aload_n 0, 1) := by decide +kernel
theorem dX6_blocker_6 : decode cX6_blocker 6 = .ok (.invokevirtual 202, 3) := by decide +kernel
theorem dX6_blocker_9 : decode cX6_blocker 9 = .ok (.ireturn, 1) := by decide +kernel
theorem dX6_blockAt_0 : decode cX6_blockAt 0 = .ok (.iconst (-1), 1) := by decide +kernel
theorem dX6_blockAt_1 : decode cX6_blockAt 1 = .ok (.istore_n 3, 1) := by decide +kernel
theorem dX6_blockAt_2 : decode cX6_blockAt 2 = .ok (.iconst 0, 1) := by decide +kernel
theorem dX6_blockAt_3 : decode cX6_blockAt 3 = .ok (.istore 4, 2) := by decide +kernel
theorem dX6_blockAt_5 : decode cX6_blockAt 5 = .ok (.iload 4, 2) := by decide +kernel
theorem dX6_blockAt_7 : decode cX6_blockAt 7 = .ok (.aload_n 0, 1) := by decide +kernel
theorem dX6_blockAt_8 : decode cX6_blockAt 8 = .ok (.getfield 7, 3) := by decide +kernel
theorem dX6_blockAt_11 : decode cX6_blockAt 11 = .ok (.iconst 3, 1) := by decide +kernel
theorem dX6_blockAt_12 : decode cX6_blockAt 12 = .ok (.iaload, 1) := by decide +kernel
theorem dX6_blockAt_13 : decode cX6_blockAt 13 = .ok (.if_icmp .ge 38, 3) := by decide +kernel
theorem dX6_blockAt_16 : decode cX6_blockAt 16 = .ok (.aload_n 0, 1) := by decide +kernel
theorem dX6_blockAt_17 : decode cX6_blockAt 17 = .ok (.iload 4, 2) := by decide +kernel
theorem dX6_blockAt_19 : decode cX6_blockAt 19 = .ok (.iconst 0, 1) := by decide +kernel
theorem dX6_blockAt_20 : decode cX6_blockAt 20 = .ok (.invokevirtual 44, 3) := by decide +kernel
theorem dX6_blockAt_23 : decode cX6_blockAt 23 = .ok (.iload_n 1, 1) := by decide +kernel
theorem dX6_blockAt_24 : decode cX6_blockAt 24 = .ok (.if_icmp .ne 19, 3) := by decide +kernel
theorem dX6_blockAt_27 : decode cX6_blockAt 27 = .ok (.aload_n 0, 1) := by decide +kernel
theorem dX6_blockAt_28 : decode cX6_blockAt 28 = .ok (.iload 4, 2) := by decide +kernel
theorem dX6_blockAt_30 : decode cX6_blockAt 30 = .ok (.iconst 1, 1) := by decide +kernel
theorem dX6_blockAt_31 : decode cX6_blockAt 31 = .ok (.invokevirtual 44, 3) := by decide +kernel
theorem dX6_blockAt_34 : decode cX6_blockAt 34 = .ok (.iload_n 2, 1) := by decide +kernel
theorem dX6_blockAt_35 : decode cX6_blockAt 35 = .ok (.if_icmp .ne 8, 3) := by decide +kernel
theorem dX6_blockAt_38 : decode cX6_blockAt 38 = .ok (.iload 4, 2) := by decide +kernel
theorem dX6_blockAt_40 : decode cX6_blockAt 40 = .ok (.goto 4, 3) := by decide +kernel
theorem dX6_blockAt_43 : decode cX6_blockAt 43 = .ok (.iload_n 3, 1) := by decide +kernel
theorem dX6_blockAt_44 : decode cX6_blockAt 44 = .ok (.istore_n 3, 1) := by decide +kernel
theorem dX6_blockAt_45 : decode cX6_blockAt 45 = .ok (.iinc 4 1, 3) := by decide +kernel
theorem dX6_blockAt_48 : decode cX6_blockAt 48 = .ok (.goto (-43), 3) := by decide +kernel
theorem dX6_blockAt_51 : decode cX6_blockAt 51 = .ok (.iload_n 3, 1) := by decide +kernel
theorem dX6_blockAt_52 : decode cX6_blockAt 52 = .ok (.ireturn, 1) := by decide +kernel
theorem dX6_wayOf_0 : decode cX6_wayOf 0 = .ok (.aload_n 0, 1) := by decide +kernel
theorem dX6_wayOf_1 : decode cX6_wayOf 1 = .ok (.iload_n 1, 1) := by decide +kernel
theorem dX6_wayOf_2 : decode cX6_wayOf 2 = .ok (.iconst 0, 1) := by decide +kernel
theorem dX6_wayOf_3 : decode cX6_wayOf 3 = .ok (.invokevirtual 44, 3) := by decide +kernel
theorem dX6_wayOf_6 : decode cX6_wayOf 6 = .ok (.istore_n 2, 1) := by decide +kernel
theorem dX6_wayOf_7 : decode cX6_wayOf 7 = .ok (.iconst 0, 1) := by decide +kernel
theorem dX6_wayOf_8 : decode cX6_wayOf 8 = .ok (.istore_n 3, 1) := by decide +kernel
theorem dX6_wayOf_9 : decode cX6_wayOf 9 = .ok (.aload_n 0, 1) := by decide +kernel
theorem dX6_wayOf_10 : decode cX6_wayOf 10 = .ok (.getfield 7, 3) := by decide +kernel
theorem dX6_wayOf_13 : decode cX6_wayOf 13 = .ok (.iconst 2, 1) := by decide +kernel
theorem dX6_wayOf_14 : decode cX6_wayOf 14 = .ok (.iaload, 1) := by decide +kernel
theorem dX6_wayOf_15 : decode cX6_wayOf 15 = .ok (.istore 4, 2) := by decide +kernel
theorem dX6_wayOf_17 : decode cX6_wayOf 17 = .ok (.iconst 0, 1) := by decide +kernel
theorem dX6_wayOf_18 : decode cX6_wayOf 18 = .ok (.istore 5, 2) := by decide +kernel
theorem dX6_wayOf_20 : decode cX6_wayOf 20 = .ok (.iconst (-1), 1) := by decide +kernel
theorem dX6_wayOf_21 : decode cX6_wayOf 21 = .ok (.istore 6, 2) := by decide +kernel
theorem dX6_wayOf_23 : decode cX6_wayOf 23 = .ok (.iload_n 3, 1) := by decide +kernel
theorem dX6_wayOf_24 : decode cX6_wayOf 24 = .ok (.iload_n 2, 1) := by decide +kernel
theorem dX6_wayOf_25 : decode cX6_wayOf 25 = .ok (.if_icmp .ne 14, 3) := by decide +kernel
theorem dX6_wayOf_28 : decode cX6_wayOf 28 = .ok (.iload 4, 2) := by decide +kernel
theorem dX6_wayOf_30 : decode cX6_wayOf 30 = .ok (.aload_n 0, 1) := by decide +kernel
theorem dX6_wayOf_31 : decode cX6_wayOf 31 = .ok (.iload_n 1, 1) := by decide +kernel
theorem dX6_wayOf_32 : decode cX6_wayOf 32 = .ok (.iconst 1, 1) := by decide +kernel
theorem dX6_wayOf_33 : decode cX6_wayOf 33 = .ok (.invokevirtual 44, 3) := by decide +kernel
theorem dX6_wayOf_36 : decode cX6_wayOf 36 = .ok (.if_icmp .eq 91, 3) := by decide +kernel
theorem dX6_wayOf_39 : decode cX6_wayOf 39 = .ok (.iload_n 3, 1) := by decide +kernel
theorem dX6_wayOf_40 : decode cX6_wayOf 40 = .ok (.iload 4, 2) := by decide +kernel
theorem dX6_wayOf_42 : decode cX6_wayOf 42 = .ok (.iconst 1, 1) := by decide +kernel
theorem dX6_wayOf_43 : decode cX6_wayOf 43 = .ok (.isub, 1) := by decide +kernel
theorem dX6_wayOf_44 : decode cX6_wayOf 44 = .ok (.invokestatic 48, 3) := by decide +kernel
theorem dX6_wayOf_47 : decode cX6_wayOf 47 = .ok (.iadd, 1) := by decide +kernel
theorem dX6_wayOf_48 : decode cX6_wayOf 48 = .ok (.istore 7, 2) := by decide +kernel
theorem dX6_wayOf_50 : decode cX6_wayOf 50 = .ok (.iload_n 2, 1) := by decide +kernel
theorem dX6_wayOf_51 : decode cX6_wayOf 51 = .ok (.iload 7, 2) := by decide +kernel
theorem dX6_wayOf_53 : decode cX6_wayOf 53 = .ok (.if_icmp .ge 7, 3) := by decide +kernel
theorem dX6_wayOf_56 : decode cX6_wayOf 56 = .ok (.iconst 1, 1) := by decide +kernel
theorem dX6_wayOf_57 : decode cX6_wayOf 57 = .ok (.goto 4, 3) := by decide +kernel
theorem dX6_wayOf_60 : decode cX6_wayOf 60 = .ok (.iconst 0, 1) := by decide +kernel
theorem dX6_wayOf_61 : decode cX6_wayOf 61 = .ok (.istore 8, 2) := by decide +kernel
theorem dX6_wayOf_63 : decode cX6_wayOf 63 = .ok (.iload 8, 2) := by decide +kernel
theorem dX6_wayOf_65 : decode cX6_wayOf 65 = .ok (.ifCond .eq 8, 3) := by decide +kernel
theorem dX6_wayOf_68 : decode cX6_wayOf 68 = .ok (.iload 7, 2) := by decide +kernel
theorem dX6_wayOf_70 : decode cX6_wayOf 70 = .ok (.goto 4, 3) := by decide +kernel
theorem dX6_wayOf_73 : decode cX6_wayOf 73 = .ok (.iload_n 3, 1) := by decide +kernel
theorem dX6_wayOf_74 : decode cX6_wayOf 74 = .ok (.istore 5, 2) := by decide +kernel
theorem dX6_wayOf_76 : decode cX6_wayOf 76 = .ok (.iload 8, 2) := by decide +kernel
theorem dX6_wayOf_78 : decode cX6_wayOf 78 = .ok (.ifCond .eq 10, 3) := by decide +kernel
theorem dX6_wayOf_81 : decode cX6_wayOf 81 = .ok (.iload 4, 2) := by decide +kernel
theorem dX6_wayOf_83 : decode cX6_wayOf 83 = .ok (.iconst 2, 1) := by decide +kernel
theorem dX6_wayOf_84 : decode cX6_wayOf 84 = .ok (.isub, 1) := by decide +kernel
theorem dX6_wayOf_85 : decode cX6_wayOf 85 = .ok (.goto 7, 3) := by decide +kernel
theorem dX6_wayOf_88 : decode cX6_wayOf 88 = .ok (.iload 4, 2) := by decide +kernel
theorem dX6_wayOf_90 : decode cX6_wayOf 90 = .ok (.iconst 1, 1) := by decide +kernel
theorem dX6_wayOf_91 : decode cX6_wayOf 91 = .ok (.isub, 1) := by decide +kernel
theorem dX6_wayOf_92 : decode cX6_wayOf 92 = .ok (.istore 6, 2) := by decide +kernel
theorem dX6_wayOf_94 : decode cX6_wayOf 94 = .ok (.iload 8, 2) := by decide +kernel
theorem dX6_wayOf_96 : decode cX6_wayOf 96 = .ok (.ifCond .eq 7, 3) := by decide +kernel
theorem dX6_wayOf_99 : decode cX6_wayOf 99 = .ok (.iload_n 3, 1) := by decide +kernel
theorem dX6_wayOf_100 : decode cX6_wayOf 100 = .ok (.goto 5, 3) := by decide +kernel
theorem dX6_wayOf_103 : decode cX6_wayOf 103 = .ok (.iload 7, 2) := by decide +kernel
theorem dX6_wayOf_105 : decode cX6_wayOf 105 = .ok (.istore_n 3, 1) := by decide +kernel
theorem dX6_wayOf_106 : decode cX6_wayOf 106 = .ok (.iload 8, 2) := by decide +kernel
theorem dX6_wayOf_108 : decode cX6_wayOf 108 = .ok (.ifCond .eq 10, 3) := by decide +kernel
theorem dX6_wayOf_111 : decode cX6_wayOf 111 = .ok (.iload 4, 2) := by decide +kernel
theorem dX6_wayOf_113 : decode cX6_wayOf 113 = .ok (.iconst 1, 1) := by decide +kernel
theorem dX6_wayOf_114 : decode cX6_wayOf 114 = .ok (.isub, 1) := by decide +kernel
theorem dX6_wayOf_115 : decode cX6_wayOf 115 = .ok (.goto 7, 3) := by decide +kernel
theorem dX6_wayOf_118 : decode cX6_wayOf 118 = .ok (.iload 4, 2) := by decide +kernel
theorem dX6_wayOf_120 : decode cX6_wayOf 120 = .ok (.iconst 2, 1) := by decide +kernel
theorem dX6_wayOf_121 : decode cX6_wayOf 121 = .ok (.isub, 1) := by decide +kernel
theorem dX6_wayOf_122 : decode cX6_wayOf 122 = .ok (.istore 4, 2) := by decide +kernel
theorem dX6_wayOf_124 : decode cX6_wayOf 124 = .ok (.goto (-101), 3) := by decide +kernel
theorem dX6_wayOf_127 : decode cX6_wayOf 127 = .ok (.iload 6, 2) := by decide +kernel
theorem dX6_wayOf_129 : decode cX6_wayOf 129 = .ok (.iconst (-1), 1) := by decide +kernel
theorem dX6_wayOf_130 : decode cX6_wayOf 130 = .ok (.if_icmp .ne 7, 3) := by decide +kernel
theorem dX6_wayOf_133 : decode cX6_wayOf 133 = .ok (.iconst (-1), 1) := by decide +kernel
theorem dX6_wayOf_134 : decode cX6_wayOf 134 = .ok (.goto 11, 3) := by decide +kernel
theorem dX6_wayOf_137 : decode cX6_wayOf 137 = .ok (.aload_n 0, 1) := by decide +kernel
theorem dX6_wayOf_138 : decode cX6_wayOf 138 = .ok (.iload 5, 2) := by decide +kernel
theorem dX6_wayOf_140 : decode cX6_wayOf 140 = .ok (.iload 6, 2) := by decide +kernel
theorem dX6_wayOf_142 : decode cX6_wayOf 142 = .ok (.invokevirtual 205, 3) := by decide +kernel
theorem dX6_wayOf_145 : decode cX6_wayOf 145 = .ok (.ireturn, 1) := by decide +kernel
theorem dX6_byWay_0 : decode cX6_byWay 0 = .ok (.aload_n 0, 1) := by decide +kernel
theorem dX6_byWay_1 : decode cX6_byWay 1 = .ok (.aload_n 0, 1) := by decide +kernel
theorem dX6_byWay_2 : decode cX6_byWay 2 = .ok (.iload_n 1, 1) := by decide +kernel
theorem dX6_byWay_3 : decode cX6_byWay 3 = .ok (.invokevirtual 56, 3) := by decide +kernel
theorem dX6_byWay_6 : decode cX6_byWay 6 = .ok (.ifCond .eq 7, 3) := by decide +kernel
theorem dX6_byWay_9 : decode cX6_byWay 9 = .ok (.iconst 0, 1) := by decide +kernel
theorem dX6_byWay_10 : decode cX6_byWay 10 = .ok (.goto 4, 3) := by decide +kernel
theorem dX6_byWay_13 : decode cX6_byWay 13 = .ok (.iconst 1, 1) := by decide +kernel
theorem dX6_byWay_14 : decode cX6_byWay 14 = .ok (.putfield 29, 3) := by decide +kernel
theorem dX6_byWay_17 : decode cX6_byWay 17 = .ok (.aload_n 0, 1) := by decide +kernel
theorem dX6_byWay_18 : decode cX6_byWay 18 = .ok (.getfield 29, 3) := by decide +kernel
theorem dX6_byWay_21 : decode cX6_byWay 21 = .ok (.ifCond .le 7, 3) := by decide +kernel
theorem dX6_byWay_24 : decode cX6_byWay 24 = .ok (.iconst 0, 1) := by decide +kernel
theorem dX6_byWay_25 : decode cX6_byWay 25 = .ok (.goto 8, 3) := by decide +kernel
theorem dX6_byWay_28 : decode cX6_byWay 28 = .ok (.aload_n 0, 1) := by decide +kernel
theorem dX6_byWay_29 : decode cX6_byWay 29 = .ok (.iload_n 1, 1) := by decide +kernel
theorem dX6_byWay_30 : decode cX6_byWay 30 = .ok (.invokevirtual 208, 3) := by decide +kernel
theorem dX6_byWay_33 : decode cX6_byWay 33 = .ok (.ireturn, 1) := by decide +kernel
theorem dX6_share_0 : decode cX6_share 0 = .ok (.aload_n 0, 1) := by decide +kernel
theorem dX6_share_1 : decode cX6_share 1 = .ok (.invokevirtual 184, 3) := by decide +kernel
theorem dX6_share_4 : decode cX6_share 4 = .ok (.istore_n 1, 1) := by decide +kernel
theorem dX6_share_5 : decode cX6_share 5 = .ok (.iload_n 1, 1) := by decide +kernel
theorem dX6_share_6 : decode cX6_share 6 = .ok (.ifCond .ne 7, 3) := by decide +kernel
theorem dX6_share_9 : decode cX6_share 9 = .ok (.dconst 0, 1) := by decide +kernel
theorem dX6_share_10 : decode cX6_share 10 = .ok (.goto 13, 3) := by decide +kernel
theorem dX6_share_13 : decode cX6_share 13 = .ok (.iload_n 1, 1) := by decide +kernel
theorem dX6_share_14 : decode cX6_share 14 = .ok (.aload_n 0, 1) := by decide +kernel
theorem dX6_share_15 : decode cX6_share 15 = .ok (.invokevirtual 181, 3) := by decide +kernel
theorem dX6_share_18 : decode cX6_share 18 = .ok (.isub, 1) := by decide +kernel
theorem dX6_share_19 : decode cX6_share 19 = .ok (.i2d, 1) := by decide +kernel
theorem dX6_share_20 : decode cX6_share 20 = .ok (.iload_n 1, 1) := by decide +kernel
theorem dX6_share_21 : decode cX6_share 21 = .ok (.i2d, 1) := by decide +kernel
theorem dX6_share_22 : decode cX6_share 22 = .ok (.ddiv, 1) := by decide +kernel
theorem dX6_share_23 : decode cX6_share 23 = .ok (.dreturn, 1) := by decide +kernel
theorem dX6_wasteShare_0 : decode cX6_wasteShare 0 = .ok (.aload_n 0, 1) := by decide +kernel
theorem dX6_wasteShare_1 : decode cX6_wasteShare 1 = .ok (.iconst 0, 1) := by decide +kernel
theorem dX6_wasteShare_2 : decode cX6_wasteShare 2 = .ok (.putfield 29, 3) := by decide +kernel
theorem dX6_wasteShare_5 : decode cX6_wasteShare 5 = .ok (.aload_n 0, 1) := by decide +kernel
theorem dX6_wasteShare_6 : decode cX6_wasteShare 6 = .ok (.invokevirtual 211, 3) := by decide +kernel
theorem dX6_wasteShare_9 : decode cX6_wasteShare 9 = .ok (.dreturn, 1) := by decide +kernel
theorem dX6_mix_0 : decode cX6_mix 0 = .ok (.aload_n 0, 1) := by decide +kernel
theorem dX6_mix_1 : decode cX6_mix 1 = .ok (.ldc2_w 215, 3) := by decide +kernel
theorem dX6_mix_4 : decode cX6_mix 4 = .ok (.aload_n 0, 1) := by decide +kernel
theorem dX6_mix_5 : decode cX6_mix 5 = .ok (.getfield 217, 3) := by decide +kernel
theorem dX6_mix_8 : decode cX6_mix 8 = .ok (.lmul, 1) := by decide +kernel
theorem dX6_mix_9 : decode cX6_mix 9 = .ok (.lload_n 1, 1) := by decide +kernel
theorem dX6_mix_10 : decode cX6_mix 10 = .ok (.ladd, 1) := by decide +kernel
theorem dX6_mix_11 : decode cX6_mix 11 = .ok (.putfield 217, 3) := by decide +kernel
theorem dX6_mix_14 : decode cX6_mix 14 = .ok (.return_, 1) := by decide +kernel
theorem dX6_mixBlock_0 : decode cX6_mixBlock 0 = .ok (.iconst 0, 1) := by decide +kernel
theorem dX6_mixBlock_1 : decode cX6_mixBlock 1 = .ok (.istore_n 2, 1) := by decide +kernel
theorem dX6_mixBlock_2 : decode cX6_mixBlock 2 = .ok (.iload_n 2, 1) := by decide +kernel
theorem dX6_mixBlock_3 : decode cX6_mixBlock 3 = .ok (.iconst 5, 1) := by decide +kernel
theorem dX6_mixBlock_4 : decode cX6_mixBlock 4 = .ok (.if_icmp .ge 20, 3) := by decide +kernel
theorem dX6_mixBlock_7 : decode cX6_mixBlock 7 = .ok (.aload_n 0, 1) := by decide +kernel
theorem dX6_mixBlock_8 : decode cX6_mixBlock 8 = .ok (.aload_n 0, 1) := by decide +kernel
theorem dX6_mixBlock_9 : decode cX6_mixBlock 9 = .ok (.iload_n 1, 1) := by decide +kernel
theorem dX6_mixBlock_10 : decode cX6_mixBlock 10 = .ok (.iload_n 2, 1) := by decide +kernel
theorem dX6_mixBlock_11 : decode cX6_mixBlock 11 = .ok (.invokevirtual 159, 3) := by decide +kernel
theorem dX6_mixBlock_14 : decode cX6_mixBlock 14 = .ok (.i2l, 1) := by decide +kernel
theorem dX6_mixBlock_15 : decode cX6_mixBlock 15 = .ok (.invokevirtual 221, 3) := by decide +kernel
theorem dX6_mixBlock_18 : decode cX6_mixBlock 18 = .ok (.iinc 2 1, 3) := by decide +kernel
theorem dX6_mixBlock_21 : decode cX6_mixBlock 21 = .ok (.goto (-19), 3) := by decide +kernel
theorem dX6_mixBlock_24 : decode cX6_mixBlock 24 = .ok (.aload_n 0, 1) := by decide +kernel
theorem dX6_mixBlock_25 : decode cX6_mixBlock 25 = .ok (.aload_n 0, 1) := by decide +kernel
theorem dX6_mixBlock_26 : decode cX6_mixBlock 26 = .ok (.iload_n 1, 1) := by decide +kernel
theorem dX6_mixBlock_27 : decode cX6_mixBlock 27 = .ok (.invokevirtual 208, 3) := by decide +kernel
theorem dX6_mixBlock_30 : decode cX6_mixBlock 30 = .ok (.i2l, 1) := by decide +kernel
theorem dX6_mixBlock_31 : decode cX6_mixBlock 31 = .ok (.invokevirtual 221, 3) := by decide +kernel
theorem dX6_mixBlock_34 : decode cX6_mixBlock 34 = .ok (.return_, 1) := by decide +kernel
theorem dX6_mixUse_0 : decode cX6_mixUse 0 = .ok (.iconst 0, 1) := by decide +kernel
theorem dX6_mixUse_1 : decode cX6_mixUse 1 = .ok (.istore_n 2, 1) := by decide +kernel
theorem dX6_mixUse_2 : decode cX6_mixUse 2 = .ok (.iload_n 2, 1) := by decide +kernel
theorem dX6_mixUse_3 : decode cX6_mixUse 3 = .ok (.iconst 5, 1) := by decide +kernel
theorem dX6_mixUse_4 : decode cX6_mixUse 4 = .ok (.if_icmp .ge 20, 3) := by decide +kernel
theorem dX6_mixUse_7 : decode cX6_mixUse 7 = .ok (.aload_n 0, 1) := by decide +kernel
theorem dX6_mixUse_8 : decode cX6_mixUse 8 = .ok (.aload_n 0, 1) := by decide +kernel
theorem dX6_mixUse_9 : decode cX6_mixUse 9 = .ok (.iload_n 1, 1) := by decide +kernel
theorem dX6_mixUse_10 : decode cX6_mixUse 10 = .ok (.iload_n 2, 1) := by decide +kernel
theorem dX6_mixUse_11 : decode cX6_mixUse 11 = .ok (.invokevirtual 165, 3) := by decide +kernel
theorem dX6_mixUse_14 : decode cX6_mixUse 14 = .ok (.i2l, 1) := by decide +kernel
theorem dX6_mixUse_15 : decode cX6_mixUse 15 = .ok (.invokevirtual 221, 3) := by decide +kernel
theorem dX6_mixUse_18 : decode cX6_mixUse 18 = .ok (.iinc 2 1, 3) := by decide +kernel
theorem dX6_mixUse_21 : decode cX6_mixUse 21 = .ok (.goto (-19), 3) := by decide +kernel
theorem dX6_mixUse_24 : decode cX6_mixUse 24 = .ok (.aload_n 0, 1) := by decide +kernel
theorem dX6_mixUse_25 : decode cX6_mixUse 25 = .ok (.aload_n 0, 1) := by decide +kernel
theorem dX6_mixUse_26 : decode cX6_mixUse 26 = .ok (.iload_n 1, 1) := by decide +kernel
theorem dX6_mixUse_27 : decode cX6_mixUse 27 = .ok (.invokevirtual 196, 3) := by decide +kernel
theorem dX6_mixUse_30 : decode cX6_mixUse 30 = .ok (.i2l, 1) := by decide +kernel
theorem dX6_mixUse_31 : decode cX6_mixUse 31 = .ok (.invokevirtual 221, 3) := by decide +kernel
theorem dX6_mixUse_34 : decode cX6_mixUse 34 = .ok (.aload_n 0, 1) := by decide +kernel
theorem dX6_mixUse_35 : decode cX6_mixUse 35 = .ok (.aload_n 0, 1) := by decide +kernel
theorem dX6_mixUse_36 : decode cX6_mixUse 36 = .ok (.iload_n 1, 1) := by decide +kernel
theorem dX6_mixUse_37 : decode cX6_mixUse 37 = .ok (.invokevirtual 199, 3) := by decide +kernel
theorem dX6_mixUse_40 : decode cX6_mixUse 40 = .ok (.i2l, 1) := by decide +kernel
theorem dX6_mixUse_41 : decode cX6_mixUse 41 = .ok (.invokevirtual 221, 3) := by decide +kernel
theorem dX6_mixUse_44 : decode cX6_mixUse 44 = .ok (.return_, 1) := by decide +kernel
theorem dX6_mixWish_0 : decode cX6_mixWish 0 = .ok (.iconst 0, 1) := by decide +kernel
theorem dX6_mixWish_1 : decode cX6_mixWish 1 = .ok (.istore_n 2, 1) := by decide +kernel
theorem dX6_mixWish_2 : decode cX6_mixWish 2 = .ok (.iload_n 2, 1) := by decide +kernel
theorem dX6_mixWish_3 : decode cX6_mixWish 3 = .ok (.iconst 4, 1) := by decide +kernel
theorem dX6_mixWish_4 : decode cX6_mixWish 4 = .ok (.if_icmp .ge 20, 3) := by decide +kernel
theorem dX6_mixWish_7 : decode cX6_mixWish 7 = .ok (.aload_n 0, 1) := by decide +kernel
theorem dX6_mixWish_8 : decode cX6_mixWish 8 = .ok (.aload_n 0, 1) := by decide +kernel
theorem dX6_mixWish_9 : decode cX6_mixWish 9 = .ok (.iload_n 1, 1) := by decide +kernel
theorem dX6_mixWish_10 : decode cX6_mixWish 10 = .ok (.iload_n 2, 1) := by decide +kernel
theorem dX6_mixWish_11 : decode cX6_mixWish 11 = .ok (.invokevirtual 193, 3) := by decide +kernel
theorem dX6_mixWish_14 : decode cX6_mixWish 14 = .ok (.i2l, 1) := by decide +kernel
theorem dX6_mixWish_15 : decode cX6_mixWish 15 = .ok (.invokevirtual 221, 3) := by decide +kernel
theorem dX6_mixWish_18 : decode cX6_mixWish 18 = .ok (.iinc 2 1, 3) := by decide +kernel
theorem dX6_mixWish_21 : decode cX6_mixWish 21 = .ok (.goto (-19), 3) := by decide +kernel
theorem dX6_mixWish_24 : decode cX6_mixWish 24 = .ok (.return_, 1) := by decide +kernel
theorem dX6_digest_0 : decode cX6_digest 0 = .ok (.aload_n 0, 1) := by decide +kernel
theorem dX6_digest_1 : decode cX6_digest 1 = .ok (.iconst 0, 1) := by decide +kernel
theorem dX6_digest_2 : decode cX6_digest 2 = .ok (.putfield 29, 3) := by decide +kernel
theorem dX6_digest_5 : decode cX6_digest 5 = .ok (.aload_n 0, 1) := by decide +kernel
theorem dX6_digest_6 : decode cX6_digest 6 = .ok (.ldc2_w 225, 3) := by decide +kernel
theorem dX6_digest_9 : decode cX6_digest 9 = .ok (.putfield 217, 3) := by decide +kernel
theorem dX6_digest_12 : decode cX6_digest 12 = .ok (.iconst 0, 1) := by decide +kernel
theorem dX6_digest_13 : decode cX6_digest 13 = .ok (.istore_n 1, 1) := by decide +kernel
theorem dX6_digest_14 : decode cX6_digest 14 = .ok (.iload_n 1, 1) := by decide +kernel
theorem dX6_digest_15 : decode cX6_digest 15 = .ok (.bipush 13, 2) := by decide +kernel
theorem dX6_digest_17 : decode cX6_digest 17 = .ok (.if_icmp .ge 19, 3) := by decide +kernel
theorem dX6_digest_20 : decode cX6_digest 20 = .ok (.aload_n 0, 1) := by decide +kernel
theorem dX6_digest_21 : decode cX6_digest 21 = .ok (.aload_n 0, 1) := by decide +kernel
theorem dX6_digest_22 : decode cX6_digest 22 = .ok (.iload_n 1, 1) := by decide +kernel
theorem dX6_digest_23 : decode cX6_digest 23 = .ok (.invokevirtual 190, 3) := by decide +kernel
theorem dX6_digest_26 : decode cX6_digest 26 = .ok (.i2l, 1) := by decide +kernel
theorem dX6_digest_27 : decode cX6_digest 27 = .ok (.invokevirtual 221, 3) := by decide +kernel
theorem dX6_digest_30 : decode cX6_digest 30 = .ok (.iinc 1 1, 3) := by decide +kernel
theorem dX6_digest_33 : decode cX6_digest 33 = .ok (.goto (-19), 3) := by decide +kernel
theorem dX6_digest_36 : decode cX6_digest 36 = .ok (.aload_n 0, 1) := by decide +kernel
theorem dX6_digest_37 : decode cX6_digest 37 = .ok (.aload_n 0, 1) := by decide +kernel
theorem dX6_digest_38 : decode cX6_digest 38 = .ok (.getfield 7, 3) := by decide +kernel
theorem dX6_digest_41 : decode cX6_digest 41 = .ok (.iconst 0, 1) := by decide +kernel
theorem dX6_digest_42 : decode cX6_digest 42 = .ok (.iaload, 1) := by decide +kernel
theorem dX6_digest_43 : decode cX6_digest 43 = .ok (.i2l, 1) := by decide +kernel
theorem dX6_digest_44 : decode cX6_digest 44 = .ok (.invokevirtual 221, 3) := by decide +kernel
theorem dX6_digest_47 : decode cX6_digest 47 = .ok (.aload_n 0, 1) := by decide +kernel
theorem dX6_digest_48 : decode cX6_digest 48 = .ok (.aload_n 0, 1) := by decide +kernel
theorem dX6_digest_49 : decode cX6_digest 49 = .ok (.getfield 7, 3) := by decide +kernel
theorem dX6_digest_52 : decode cX6_digest 52 = .ok (.iconst 1, 1) := by decide +kernel
theorem dX6_digest_53 : decode cX6_digest 53 = .ok (.iaload, 1) := by decide +kernel
theorem dX6_digest_54 : decode cX6_digest 54 = .ok (.i2l, 1) := by decide +kernel
theorem dX6_digest_55 : decode cX6_digest 55 = .ok (.invokevirtual 221, 3) := by decide +kernel
theorem dX6_digest_58 : decode cX6_digest 58 = .ok (.iconst 0, 1) := by decide +kernel
theorem dX6_digest_59 : decode cX6_digest 59 = .ok (.istore_n 1, 1) := by decide +kernel
theorem dX6_digest_60 : decode cX6_digest 60 = .ok (.iload_n 1, 1) := by decide +kernel
theorem dX6_digest_61 : decode cX6_digest 61 = .ok (.aload_n 0, 1) := by decide +kernel
theorem dX6_digest_62 : decode cX6_digest 62 = .ok (.getfield 7, 3) := by decide +kernel
theorem dX6_digest_65 : decode cX6_digest 65 = .ok (.iconst 3, 1) := by decide +kernel
theorem dX6_digest_66 : decode cX6_digest 66 = .ok (.iaload, 1) := by decide +kernel
theorem dX6_digest_67 : decode cX6_digest 67 = .ok (.if_icmp .ge 14, 3) := by decide +kernel
theorem dX6_digest_70 : decode cX6_digest 70 = .ok (.aload_n 0, 1) := by decide +kernel
theorem dX6_digest_71 : decode cX6_digest 71 = .ok (.iload_n 1, 1) := by decide +kernel
theorem dX6_digest_72 : decode cX6_digest 72 = .ok (.invokevirtual 227, 3) := by decide +kernel
theorem dX6_digest_75 : decode cX6_digest 75 = .ok (.iinc 1 1, 3) := by decide +kernel
theorem dX6_digest_78 : decode cX6_digest 78 = .ok (.goto (-18), 3) := by decide +kernel
theorem dX6_digest_81 : decode cX6_digest 81 = .ok (.iconst 0, 1) := by decide +kernel
theorem dX6_digest_82 : decode cX6_digest 82 = .ok (.istore_n 1, 1) := by decide +kernel
theorem dX6_digest_83 : decode cX6_digest 83 = .ok (.iload_n 1, 1) := by decide +kernel
theorem dX6_digest_84 : decode cX6_digest 84 = .ok (.bipush 24, 2) := by decide +kernel
theorem dX6_digest_86 : decode cX6_digest 86 = .ok (.if_icmp .ge 14, 3) := by decide +kernel
theorem dX6_digest_89 : decode cX6_digest 89 = .ok (.aload_n 0, 1) := by decide +kernel
theorem dX6_digest_90 : decode cX6_digest 90 = .ok (.iload_n 1, 1) := by decide +kernel
theorem dX6_digest_91 : decode cX6_digest 91 = .ok (.invokevirtual 230, 3) := by decide +kernel
theorem dX6_digest_94 : decode cX6_digest 94 = .ok (.iinc 1 1, 3) := by decide +kernel
theorem dX6_digest_97 : decode cX6_digest 97 = .ok (.goto (-14), 3) := by decide +kernel
theorem dX6_digest_100 : decode cX6_digest 100 = .ok (.aload_n 0, 1) := by decide +kernel
theorem dX6_digest_101 : decode cX6_digest 101 = .ok (.iconst 1, 1) := by decide +kernel
theorem dX6_digest_102 : decode cX6_digest 102 = .ok (.invokevirtual 233, 3) := by decide +kernel
theorem dX6_digest_105 : decode cX6_digest 105 = .ok (.aload_n 0, 1) := by decide +kernel
theorem dX6_digest_106 : decode cX6_digest 106 = .ok (.bipush 7, 2) := by decide +kernel
theorem dX6_digest_108 : decode cX6_digest 108 = .ok (.invokevirtual 233, 3) := by decide +kernel
theorem dX6_digest_111 : decode cX6_digest 111 = .ok (.aload_n 0, 1) := by decide +kernel
theorem dX6_digest_112 : decode cX6_digest 112 = .ok (.bipush 50, 2) := by decide +kernel
theorem dX6_digest_114 : decode cX6_digest 114 = .ok (.invokevirtual 233, 3) := by decide +kernel
theorem dX6_digest_117 : decode cX6_digest 117 = .ok (.aload_n 0, 1) := by decide +kernel
theorem dX6_digest_118 : decode cX6_digest 118 = .ok (.aload_n 0, 1) := by decide +kernel
theorem dX6_digest_119 : decode cX6_digest 119 = .ok (.invokevirtual 202, 3) := by decide +kernel
theorem dX6_digest_122 : decode cX6_digest 122 = .ok (.i2l, 1) := by decide +kernel
theorem dX6_digest_123 : decode cX6_digest 123 = .ok (.invokevirtual 221, 3) := by decide +kernel
theorem dX6_digest_126 : decode cX6_digest 126 = .ok (.aload_n 0, 1) := by decide +kernel
theorem dX6_digest_127 : decode cX6_digest 127 = .ok (.aload_n 0, 1) := by decide +kernel
theorem dX6_digest_128 : decode cX6_digest 128 = .ok (.invokevirtual 211, 3) := by decide +kernel
theorem dX6_digest_131 : decode cX6_digest 131 = .ok (.invokestatic 236, 3) := by decide +kernel
theorem dX6_digest_134 : decode cX6_digest 134 = .ok (.invokevirtual 221, 3) := by decide +kernel
theorem dX6_digest_137 : decode cX6_digest 137 = .ok (.aload_n 0, 1) := by decide +kernel
theorem dX6_digest_138 : decode cX6_digest 138 = .ok (.aload_n 0, 1) := by decide +kernel
theorem dX6_digest_139 : decode cX6_digest 139 = .ok (.getfield 131, 3) := by decide +kernel
theorem dX6_digest_142 : decode cX6_digest 142 = .ok (.i2l, 1) := by decide +kernel
theorem dX6_digest_143 : decode cX6_digest 143 = .ok (.invokevirtual 221, 3) := by decide +kernel
theorem dX6_digest_146 : decode cX6_digest 146 = .ok (.iconst 0, 1) := by decide +kernel
theorem dX6_digest_147 : decode cX6_digest 147 = .ok (.istore_n 1, 1) := by decide +kernel
theorem dX6_digest_148 : decode cX6_digest 148 = .ok (.iload_n 1, 1) := by decide +kernel
theorem dX6_digest_149 : decode cX6_digest 149 = .ok (.aload_n 0, 1) := by decide +kernel
theorem dX6_digest_150 : decode cX6_digest 150 = .ok (.getfield 131, 3) := by decide +kernel
theorem dX6_digest_153 : decode cX6_digest 153 = .ok (.if_icmp .ge 20, 3) := by decide +kernel
theorem dX6_digest_156 : decode cX6_digest 156 = .ok (.aload_n 0, 1) := by decide +kernel
theorem dX6_digest_157 : decode cX6_digest 157 = .ok (.aload_n 0, 1) := by decide +kernel
theorem dX6_digest_158 : decode cX6_digest 158 = .ok (.getfield 16, 3) := by decide +kernel
theorem dX6_digest_161 : decode cX6_digest 161 = .ok (.iload_n 1, 1) := by decide +kernel
theorem dX6_digest_162 : decode cX6_digest 162 = .ok (.iaload, 1) := by decide +kernel
theorem dX6_digest_163 : decode cX6_digest 163 = .ok (.i2l, 1) := by decide +kernel
theorem dX6_digest_164 : decode cX6_digest 164 = .ok (.invokevirtual 221, 3) := by decide +kernel
theorem dX6_digest_167 : decode cX6_digest 167 = .ok (.iinc 1 1, 3) := by decide +kernel
theorem dX6_digest_170 : decode cX6_digest 170 = .ok (.goto (-22), 3) := by decide +kernel
theorem dX6_digest_173 : decode cX6_digest 173 = .ok (.aload_n 0, 1) := by decide +kernel
theorem dX6_digest_174 : decode cX6_digest 174 = .ok (.getfield 217, 3) := by decide +kernel
theorem dX6_digest_177 : decode cX6_digest 177 = .ok (.lreturn, 1) := by decide +kernel
theorem dJxe99ae_isNaN_b9ae7_0 : decode cJxe99ae_isNaN_b9ae7 0 = .ok (.dload_n 0, 1) := by decide +kernel
theorem dJxe99ae_isNaN_b9ae7_1 : decode cJxe99ae_isNaN_b9ae7 1 = .ok (.dload_n 0, 1) := by decide +kernel
theorem dJxe99ae_isNaN_b9ae7_2 : decode cJxe99ae_isNaN_b9ae7 2 = .ok (.dcmp .l, 1) := by decide +kernel
theorem dJxe99ae_isNaN_b9ae7_3 : decode cJxe99ae_isNaN_b9ae7 3 = .ok (.ifCond .eq 7, 3) := by decide +kernel
theorem dJxe99ae_isNaN_b9ae7_6 : decode cJxe99ae_isNaN_b9ae7 6 = .ok (.iconst 1, 1) := by decide +kernel
theorem dJxe99ae_isNaN_b9ae7_7 : decode cJxe99ae_isNaN_b9ae7 7 = .ok (.goto 4, 3) := by decide +kernel
theorem dJxe99ae_isNaN_b9ae7_10 : decode cJxe99ae_isNaN_b9ae7 10 = .ok (.iconst 0, 1) := by decide +kernel
theorem dJxe99ae_isNaN_b9ae7_11 : decode cJxe99ae_isNaN_b9ae7 11 = .ok (.ireturn, 1) := by decide +kernel
set_option maxRecDepth 20000 in
theorem ggJxe99ae_doubleToLongBits_ccdee_Jxe99ae_isNaN_b9ae7 : GoodIn wsJxe99ae_doubleToLongBits_ccdee wsJxe99ae_isNaN_b9ae7 := goodIn_r _ [9] (by decide +kernel) (by decide +kernel)
set_option maxRecDepth 20000 in
theorem gJxe99ae_doubleToLongBits_ccdee_Jxe99ae_isNaN_b9ae7 : GoodIn wsJxe99ae_doubleToLongBits_ccdee (va_wsS RJxe99ae 122 yJxe99ae_isNaN_b9ae7 wsJxe99ae_isNaN_b9ae7) := goodIn_app (goodIn_of _ (by decide +kernel)) ggJxe99ae_doubleToLongBits_ccdee_Jxe99ae_isNaN_b9ae7
theorem dJxe99ae_doubleToLongBits_ccdee_0 : decode cJxe99ae_doubleToLongBits_ccdee 0 = .ok (.dload_n 0, 1) := by decide +kernel
theorem dJxe99ae_doubleToLongBits_ccdee_1 : decode cJxe99ae_doubleToLongBits_ccdee 1 = .ok (.invokestatic 122, 3) := by decide +kernel
theorem dJxe99ae_doubleToLongBits_ccdee_4 : decode cJxe99ae_doubleToLongBits_ccdee 4 = .ok (.ifCond .ne 8, 3) := by decide +kernel
theorem dJxe99ae_doubleToLongBits_ccdee_7 : decode cJxe99ae_doubleToLongBits_ccdee 7 = .ok (.dload_n 0, 1) := by decide +kernel
theorem dJxe99ae_doubleToLongBits_ccdee_8 : decode cJxe99ae_doubleToLongBits_ccdee 8 = .ok (.invokestatic 134, 3) := by decide +kernel
theorem dJxe99ae_doubleToLongBits_ccdee_11 : decode cJxe99ae_doubleToLongBits_ccdee 11 = .ok (.lreturn, 1) := by decide +kernel
theorem dJxe99ae_doubleToLongBits_ccdee_12 : decode cJxe99ae_doubleToLongBits_ccdee 12 = .ok (.ldc2_w 137, 3) := by decide +kernel
theorem dJxe99ae_doubleToLongBits_ccdee_15 : decode cJxe99ae_doubleToLongBits_ccdee 15 = .ok (.lreturn, 1) := by decide +kernel
theorem dJ9_max_7cf53_0 : decode cJ9_max_7cf53 0 = .ok (.iload_n 0, 1) := by decide +kernel
theorem dJ9_max_7cf53_1 : decode cJ9_max_7cf53 1 = .ok (.iload_n 1, 1) := by decide +kernel
theorem dJ9_max_7cf53_2 : decode cJ9_max_7cf53 2 = .ok (.if_icmp .lt 7, 3) := by decide +kernel
theorem dJ9_max_7cf53_5 : decode cJ9_max_7cf53 5 = .ok (.iload_n 0, 1) := by decide +kernel
theorem dJ9_max_7cf53_6 : decode cJ9_max_7cf53 6 = .ok (.goto 4, 3) := by decide +kernel
theorem dJ9_max_7cf53_9 : decode cJ9_max_7cf53 9 = .ok (.iload_n 1, 1) := by decide +kernel
theorem dJ9_max_7cf53_10 : decode cJ9_max_7cf53 10 = .ok (.ireturn, 1) := by decide +kernel
theorem dJ9_min_7cf53_0 : decode cJ9_min_7cf53 0 = .ok (.iload_n 0, 1) := by decide +kernel
theorem dJ9_min_7cf53_1 : decode cJ9_min_7cf53 1 = .ok (.iload_n 1, 1) := by decide +kernel
theorem dJ9_min_7cf53_2 : decode cJ9_min_7cf53 2 = .ok (.if_icmp .gt 7, 3) := by decide +kernel
theorem dJ9_min_7cf53_5 : decode cJ9_min_7cf53 5 = .ok (.iload_n 0, 1) := by decide +kernel
theorem dJ9_min_7cf53_6 : decode cJ9_min_7cf53 6 = .ok (.goto 4, 3) := by decide +kernel
theorem dJ9_min_7cf53_9 : decode cJ9_min_7cf53 9 = .ok (.iload_n 1, 1) := by decide +kernel
theorem dJ9_min_7cf53_10 : decode cJ9_min_7cf53 10 = .ok (.ireturn, 1) := by decide +kernel
theorem dL_begin_0 : decode cL_begin 0 = .ok (.aload_n 2, 1) := by decide +kernel
theorem dL_begin_1 : decode cL_begin 1 = .ok (.iconst 0, 1) := by decide +kernel
theorem dL_begin_2 : decode cL_begin 2 = .ok (.aload_n 0, 1) := by decide +kernel
theorem dL_begin_3 : decode cL_begin 3 = .ok (.iload_n 1, 1) := by decide +kernel
theorem dL_begin_4 : decode cL_begin 4 = .ok (.invokevirtual 7, 3) := by decide +kernel
theorem dL_begin_7 : decode cL_begin 7 = .ok (.i2l, 1) := by decide +kernel
theorem dL_begin_8 : decode cL_begin 8 = .ok (.lastore, 1) := by decide +kernel
theorem dL_begin_9 : decode cL_begin 9 = .ok (.goto 6, 3) := by decide +kernel
theorem dL_begin_12 : decode cL_begin 12 = .ok (.astore_n 3, 1) := by decide +kernel
theorem dL_begin_13 : decode cL_begin 13 = .ok (.iconst 1, 1) := by decide +kernel
theorem dL_begin_14 : decode cL_begin 14 = .ok (.ireturn, 1) := by decide +kernel
theorem dL_begin_15 : decode cL_begin 15 = .ok (.iconst 0, 1) := by decide +kernel
theorem dL_begin_16 : decode cL_begin 16 = .ok (.ireturn, 1) := by decide +kernel
theorem dL_want_0 : decode cL_want 0 = .ok (.aload_n 2, 1) := by decide +kernel
theorem dL_want_1 : decode cL_want 1 = .ok (.iconst 0, 1) := by decide +kernel
theorem dL_want_2 : decode cL_want 2 = .ok (.aload_n 0, 1) := by decide +kernel
theorem dL_want_3 : decode cL_want 3 = .ok (.iload_n 1, 1) := by decide +kernel
theorem dL_want_4 : decode cL_want 4 = .ok (.invokevirtual 15, 3) := by decide +kernel
theorem dL_want_7 : decode cL_want 7 = .ok (.i2l, 1) := by decide +kernel
theorem dL_want_8 : decode cL_want 8 = .ok (.lastore, 1) := by decide +kernel
theorem dL_want_9 : decode cL_want 9 = .ok (.goto 9, 3) := by decide +kernel
theorem dL_want_12 : decode cL_want 12 = .ok (.astore_n 3, 1) := by decide +kernel
theorem dL_want_13 : decode cL_want 13 = .ok (.iconst 1, 1) := by decide +kernel
theorem dL_want_14 : decode cL_want 14 = .ok (.ireturn, 1) := by decide +kernel
theorem dL_want_15 : decode cL_want 15 = .ok (.astore_n 3, 1) := by decide +kernel
theorem dL_want_16 : decode cL_want 16 = .ok (.iconst 2, 1) := by decide +kernel
theorem dL_want_17 : decode cL_want 17 = .ok (.ireturn, 1) := by decide +kernel
theorem dL_want_18 : decode cL_want 18 = .ok (.iconst 0, 1) := by decide +kernel
theorem dL_want_19 : decode cL_want 19 = .ok (.ireturn, 1) := by decide +kernel
theorem dL_give_0 : decode cL_give 0 = .ok (.aload_n 2, 1) := by decide +kernel
theorem dL_give_1 : decode cL_give 1 = .ok (.iconst 0, 1) := by decide +kernel
theorem dL_give_2 : decode cL_give 2 = .ok (.aload_n 0, 1) := by decide +kernel
theorem dL_give_3 : decode cL_give 3 = .ok (.iload_n 1, 1) := by decide +kernel
theorem dL_give_4 : decode cL_give 4 = .ok (.invokevirtual 20, 3) := by decide +kernel
theorem dL_give_7 : decode cL_give 7 = .ok (.i2l, 1) := by decide +kernel
theorem dL_give_8 : decode cL_give 8 = .ok (.lastore, 1) := by decide +kernel
theorem dL_give_9 : decode cL_give 9 = .ok (.goto 6, 3) := by decide +kernel
theorem dL_give_12 : decode cL_give 12 = .ok (.astore_n 3, 1) := by decide +kernel
theorem dL_give_13 : decode cL_give 13 = .ok (.iconst 1, 1) := by decide +kernel
theorem dL_give_14 : decode cL_give 14 = .ok (.ireturn, 1) := by decide +kernel
theorem dL_give_15 : decode cL_give 15 = .ok (.iconst 0, 1) := by decide +kernel
theorem dL_give_16 : decode cL_give 16 = .ok (.ireturn, 1) := by decide +kernel
theorem dL_grow_0 : decode cL_grow 0 = .ok (.aload_n 3, 1) := by decide +kernel
theorem dL_grow_1 : decode cL_grow 1 = .ok (.iconst 0, 1) := by decide +kernel
theorem dL_grow_2 : decode cL_grow 2 = .ok (.aload_n 0, 1) := by decide +kernel
theorem dL_grow_3 : decode cL_grow 3 = .ok (.iload_n 1, 1) := by decide +kernel
theorem dL_grow_4 : decode cL_grow 4 = .ok (.iload_n 2, 1) := by decide +kernel
theorem dL_grow_5 : decode cL_grow 5 = .ok (.invokevirtual 23, 3) := by decide +kernel
theorem dL_grow_8 : decode cL_grow 8 = .ok (.i2l, 1) := by decide +kernel
theorem dL_grow_9 : decode cL_grow 9 = .ok (.lastore, 1) := by decide +kernel
theorem dL_grow_10 : decode cL_grow 10 = .ok (.goto 11, 3) := by decide +kernel
theorem dL_grow_13 : decode cL_grow 13 = .ok (.astore 4, 2) := by decide +kernel
theorem dL_grow_15 : decode cL_grow 15 = .ok (.iconst 1, 1) := by decide +kernel
theorem dL_grow_16 : decode cL_grow 16 = .ok (.ireturn, 1) := by decide +kernel
theorem dL_grow_17 : decode cL_grow 17 = .ok (.astore 4, 2) := by decide +kernel
theorem dL_grow_19 : decode cL_grow 19 = .ok (.iconst 2, 1) := by decide +kernel
theorem dL_grow_20 : decode cL_grow 20 = .ok (.ireturn, 1) := by decide +kernel
theorem dL_grow_21 : decode cL_grow 21 = .ok (.iconst 0, 1) := by decide +kernel
theorem dL_grow_22 : decode cL_grow 22 = .ok (.ireturn, 1) := by decide +kernel
theorem dL_shrink_0 : decode cL_shrink 0 = .ok (.aload_n 3, 1) := by decide +kernel
theorem dL_shrink_1 : decode cL_shrink 1 = .ok (.iconst 0, 1) := by decide +kernel
theorem dL_shrink_2 : decode cL_shrink 2 = .ok (.aload_n 0, 1) := by decide +kernel
theorem dL_shrink_3 : decode cL_shrink 3 = .ok (.iload_n 1, 1) := by decide +kernel
theorem dL_shrink_4 : decode cL_shrink 4 = .ok (.iload_n 2, 1) := by decide +kernel
theorem dL_shrink_5 : decode cL_shrink 5 = .ok (.invokevirtual 27, 3) := by decide +kernel
theorem dL_shrink_8 : decode cL_shrink 8 = .ok (.i2l, 1) := by decide +kernel
theorem dL_shrink_9 : decode cL_shrink 9 = .ok (.lastore, 1) := by decide +kernel
theorem dL_shrink_10 : decode cL_shrink 10 = .ok (.goto 7, 3) := by decide +kernel
theorem dL_shrink_13 : decode cL_shrink 13 = .ok (.astore 4, 2) := by decide +kernel
theorem dL_shrink_15 : decode cL_shrink 15 = .ok (.iconst 1, 1) := by decide +kernel
theorem dL_shrink_16 : decode cL_shrink 16 = .ok (.ireturn, 1) := by decide +kernel
theorem dL_shrink_17 : decode cL_shrink 17 = .ok (.iconst 0, 1) := by decide +kernel
theorem dL_shrink_18 : decode cL_shrink 18 = .ok (.ireturn, 1) := by decide +kernel
theorem dL_set_0 : decode cL_set 0 = .ok (.aload_n 3, 1) := by decide +kernel
theorem dL_set_1 : decode cL_set 1 = .ok (.iconst 0, 1) := by decide +kernel
theorem dL_set_2 : decode cL_set 2 = .ok (.aload_n 0, 1) := by decide +kernel
theorem dL_set_3 : decode cL_set 3 = .ok (.iload_n 1, 1) := by decide +kernel
theorem dL_set_4 : decode cL_set 4 = .ok (.iload_n 2, 1) := by decide +kernel
theorem dL_set_5 : decode cL_set 5 = .ok (.invokevirtual 30, 3) := by decide +kernel
theorem dL_set_8 : decode cL_set 8 = .ok (.i2l, 1) := by decide +kernel
theorem dL_set_9 : decode cL_set 9 = .ok (.lastore, 1) := by decide +kernel
theorem dL_set_10 : decode cL_set 10 = .ok (.goto 11, 3) := by decide +kernel
theorem dL_set_13 : decode cL_set 13 = .ok (.astore 4, 2) := by decide +kernel
theorem dL_set_15 : decode cL_set 15 = .ok (.iconst 1, 1) := by decide +kernel
theorem dL_set_16 : decode cL_set 16 = .ok (.ireturn, 1) := by decide +kernel
theorem dL_set_17 : decode cL_set 17 = .ok (.astore 4, 2) := by decide +kernel
theorem dL_set_19 : decode cL_set 19 = .ok (.iconst 2, 1) := by decide +kernel
theorem dL_set_20 : decode cL_set 20 = .ok (.ireturn, 1) := by decide +kernel
theorem dL_set_21 : decode cL_set 21 = .ok (.iconst 0, 1) := by decide +kernel
theorem dL_set_22 : decode cL_set 22 = .ok (.ireturn, 1) := by decide +kernel
theorem dL_append_0 : decode cL_append 0 = .ok (.aload_n 2, 1) := by decide +kernel
theorem dL_append_1 : decode cL_append 1 = .ok (.iconst 0, 1) := by decide +kernel
theorem dL_append_2 : decode cL_append 2 = .ok (.aload_n 0, 1) := by decide +kernel
theorem dL_append_3 : decode cL_append 3 = .ok (.iload_n 1, 1) := by decide +kernel
theorem dL_append_4 : decode cL_append 4 = .ok (.invokevirtual 35, 3) := by decide +kernel
theorem dL_append_7 : decode cL_append 7 = .ok (.i2l, 1) := by decide +kernel
theorem dL_append_8 : decode cL_append 8 = .ok (.lastore, 1) := by decide +kernel
theorem dL_append_9 : decode cL_append 9 = .ok (.goto 9, 3) := by decide +kernel
theorem dL_append_12 : decode cL_append 12 = .ok (.astore_n 3, 1) := by decide +kernel
theorem dL_append_13 : decode cL_append 13 = .ok (.iconst 1, 1) := by decide +kernel
theorem dL_append_14 : decode cL_append 14 = .ok (.ireturn, 1) := by decide +kernel
theorem dL_append_15 : decode cL_append 15 = .ok (.astore_n 3, 1) := by decide +kernel
theorem dL_append_16 : decode cL_append 16 = .ok (.iconst 2, 1) := by decide +kernel
theorem dL_append_17 : decode cL_append 17 = .ok (.ireturn, 1) := by decide +kernel
theorem dL_append_18 : decode cL_append 18 = .ok (.iconst 0, 1) := by decide +kernel
theorem dL_append_19 : decode cL_append 19 = .ok (.ireturn, 1) := by decide +kernel
theorem dL_run_0 : decode cL_run 0 = .ok (.aload_n 1, 1) := by decide +kernel
theorem dL_run_1 : decode cL_run 1 = .ok (.iconst 0, 1) := by decide +kernel
theorem dL_run_2 : decode cL_run 2 = .ok (.aload_n 0, 1) := by decide +kernel
theorem dL_run_3 : decode cL_run 3 = .ok (.invokevirtual 38, 3) := by decide +kernel
theorem dL_run_6 : decode cL_run 6 = .ok (.i2l, 1) := by decide +kernel
theorem dL_run_7 : decode cL_run 7 = .ok (.lastore, 1) := by decide +kernel
theorem dL_run_8 : decode cL_run 8 = .ok (.goto 6, 3) := by decide +kernel
theorem dL_run_11 : decode cL_run 11 = .ok (.astore_n 2, 1) := by decide +kernel
theorem dL_run_12 : decode cL_run 12 = .ok (.iconst 1, 1) := by decide +kernel
theorem dL_run_13 : decode cL_run 13 = .ok (.ireturn, 1) := by decide +kernel
theorem dL_run_14 : decode cL_run 14 = .ok (.iconst 0, 1) := by decide +kernel
theorem dL_run_15 : decode cL_run 15 = .ok (.ireturn, 1) := by decide +kernel
theorem dL_undo_0 : decode cL_undo 0 = .ok (.aload_n 1, 1) := by decide +kernel
theorem dL_undo_1 : decode cL_undo 1 = .ok (.iconst 0, 1) := by decide +kernel
theorem dL_undo_2 : decode cL_undo 2 = .ok (.aload_n 0, 1) := by decide +kernel
theorem dL_undo_3 : decode cL_undo 3 = .ok (.invokevirtual 42, 3) := by decide +kernel
theorem dL_undo_6 : decode cL_undo 6 = .ok (.i2l, 1) := by decide +kernel
theorem dL_undo_7 : decode cL_undo 7 = .ok (.lastore, 1) := by decide +kernel
theorem dL_undo_8 : decode cL_undo 8 = .ok (.goto 6, 3) := by decide +kernel
theorem dL_undo_11 : decode cL_undo 11 = .ok (.astore_n 2, 1) := by decide +kernel
theorem dL_undo_12 : decode cL_undo 12 = .ok (.iconst 1, 1) := by decide +kernel
theorem dL_undo_13 : decode cL_undo 13 = .ok (.ireturn, 1) := by decide +kernel
theorem dL_undo_14 : decode cL_undo 14 = .ok (.iconst 0, 1) := by decide +kernel
theorem dL_undo_15 : decode cL_undo 15 = .ok (.ireturn, 1) := by decide +kernel
theorem dL_size_0 : decode cL_size 0 = .ok (.aload_n 2, 1) := by decide +kernel
theorem dL_size_1 : decode cL_size 1 = .ok (.iconst 0, 1) := by decide +kernel
theorem dL_size_2 : decode cL_size 2 = .ok (.aload_n 0, 1) := by decide +kernel
theorem dL_size_3 : decode cL_size 3 = .ok (.iload_n 1, 1) := by decide +kernel
theorem dL_size_4 : decode cL_size 4 = .ok (.invokevirtual 45, 3) := by decide +kernel
theorem dL_size_7 : decode cL_size 7 = .ok (.i2l, 1) := by decide +kernel
theorem dL_size_8 : decode cL_size 8 = .ok (.lastore, 1) := by decide +kernel
theorem dL_size_9 : decode cL_size 9 = .ok (.goto 6, 3) := by decide +kernel
theorem dL_size_12 : decode cL_size 12 = .ok (.astore_n 3, 1) := by decide +kernel
theorem dL_size_13 : decode cL_size 13 = .ok (.iconst 1, 1) := by decide +kernel
theorem dL_size_14 : decode cL_size 14 = .ok (.ireturn, 1) := by decide +kernel
theorem dL_size_15 : decode cL_size 15 = .ok (.iconst 0, 1) := by decide +kernel
theorem dL_size_16 : decode cL_size 16 = .ok (.ireturn, 1) := by decide +kernel
theorem dL_block_0 : decode cL_block 0 = .ok (.aload_n 3, 1) := by decide +kernel
theorem dL_block_1 : decode cL_block 1 = .ok (.iconst 0, 1) := by decide +kernel
theorem dL_block_2 : decode cL_block 2 = .ok (.aload_n 0, 1) := by decide +kernel
theorem dL_block_3 : decode cL_block 3 = .ok (.iload_n 1, 1) := by decide +kernel
theorem dL_block_4 : decode cL_block 4 = .ok (.iload_n 2, 1) := by decide +kernel
theorem dL_block_5 : decode cL_block 5 = .ok (.invokevirtual 48, 3) := by decide +kernel
theorem dL_block_8 : decode cL_block 8 = .ok (.i2l, 1) := by decide +kernel
theorem dL_block_9 : decode cL_block 9 = .ok (.lastore, 1) := by decide +kernel
theorem dL_block_10 : decode cL_block 10 = .ok (.goto 11, 3) := by decide +kernel
theorem dL_block_13 : decode cL_block 13 = .ok (.astore 4, 2) := by decide +kernel
theorem dL_block_15 : decode cL_block 15 = .ok (.iconst 1, 1) := by decide +kernel
theorem dL_block_16 : decode cL_block 16 = .ok (.ireturn, 1) := by decide +kernel
theorem dL_block_17 : decode cL_block 17 = .ok (.astore 4, 2) := by decide +kernel
theorem dL_block_19 : decode cL_block 19 = .ok (.iconst 2, 1) := by decide +kernel
theorem dL_block_20 : decode cL_block 20 = .ok (.ireturn, 1) := by decide +kernel
theorem dL_block_21 : decode cL_block 21 = .ok (.iconst 0, 1) := by decide +kernel
theorem dL_block_22 : decode cL_block 22 = .ok (.ireturn, 1) := by decide +kernel
theorem dL_use_0 : decode cL_use 0 = .ok (.aload_n 3, 1) := by decide +kernel
theorem dL_use_1 : decode cL_use 1 = .ok (.iconst 0, 1) := by decide +kernel
theorem dL_use_2 : decode cL_use 2 = .ok (.aload_n 0, 1) := by decide +kernel
theorem dL_use_3 : decode cL_use 3 = .ok (.iload_n 1, 1) := by decide +kernel
theorem dL_use_4 : decode cL_use 4 = .ok (.iload_n 2, 1) := by decide +kernel
theorem dL_use_5 : decode cL_use 5 = .ok (.invokevirtual 51, 3) := by decide +kernel
theorem dL_use_8 : decode cL_use 8 = .ok (.i2l, 1) := by decide +kernel
theorem dL_use_9 : decode cL_use 9 = .ok (.lastore, 1) := by decide +kernel
theorem dL_use_10 : decode cL_use 10 = .ok (.goto 11, 3) := by decide +kernel
theorem dL_use_13 : decode cL_use 13 = .ok (.astore 4, 2) := by decide +kernel
theorem dL_use_15 : decode cL_use 15 = .ok (.iconst 1, 1) := by decide +kernel
theorem dL_use_16 : decode cL_use 16 = .ok (.ireturn, 1) := by decide +kernel
theorem dL_use_17 : decode cL_use 17 = .ok (.astore 4, 2) := by decide +kernel
theorem dL_use_19 : decode cL_use 19 = .ok (.iconst 2, 1) := by decide +kernel
theorem dL_use_20 : decode cL_use 20 = .ok (.ireturn, 1) := by decide +kernel
theorem dL_use_21 : decode cL_use 21 = .ok (.iconst 0, 1) := by decide +kernel
theorem dL_use_22 : decode cL_use 22 = .ok (.ireturn, 1) := by decide +kernel
theorem dL_at_0 : decode cL_at 0 = .ok (.aload_n 2, 1) := by decide +kernel
theorem dL_at_1 : decode cL_at 1 = .ok (.iconst 0, 1) := by decide +kernel
theorem dL_at_2 : decode cL_at 2 = .ok (.aload_n 0, 1) := by decide +kernel
theorem dL_at_3 : decode cL_at 3 = .ok (.iload_n 1, 1) := by decide +kernel
theorem dL_at_4 : decode cL_at 4 = .ok (.invokevirtual 54, 3) := by decide +kernel
theorem dL_at_7 : decode cL_at 7 = .ok (.i2l, 1) := by decide +kernel
theorem dL_at_8 : decode cL_at 8 = .ok (.lastore, 1) := by decide +kernel
theorem dL_at_9 : decode cL_at 9 = .ok (.goto 6, 3) := by decide +kernel
theorem dL_at_12 : decode cL_at 12 = .ok (.astore_n 3, 1) := by decide +kernel
theorem dL_at_13 : decode cL_at 13 = .ok (.iconst 1, 1) := by decide +kernel
theorem dL_at_14 : decode cL_at 14 = .ok (.ireturn, 1) := by decide +kernel
theorem dL_at_15 : decode cL_at 15 = .ok (.iconst 0, 1) := by decide +kernel
theorem dL_at_16 : decode cL_at 16 = .ok (.ireturn, 1) := by decide +kernel
theorem dL_many_0 : decode cL_many 0 = .ok (.aload_n 3, 1) := by decide +kernel
theorem dL_many_1 : decode cL_many 1 = .ok (.iconst 0, 1) := by decide +kernel
theorem dL_many_2 : decode cL_many 2 = .ok (.aload_n 0, 1) := by decide +kernel
theorem dL_many_3 : decode cL_many 3 = .ok (.iload_n 1, 1) := by decide +kernel
theorem dL_many_4 : decode cL_many 4 = .ok (.iload_n 2, 1) := by decide +kernel
theorem dL_many_5 : decode cL_many 5 = .ok (.invokevirtual 57, 3) := by decide +kernel
theorem dL_many_8 : decode cL_many 8 = .ok (.i2l, 1) := by decide +kernel
theorem dL_many_9 : decode cL_many 9 = .ok (.lastore, 1) := by decide +kernel
theorem dL_many_10 : decode cL_many 10 = .ok (.goto 7, 3) := by decide +kernel
theorem dL_many_13 : decode cL_many 13 = .ok (.astore 4, 2) := by decide +kernel
theorem dL_many_15 : decode cL_many 15 = .ok (.iconst 1, 1) := by decide +kernel
theorem dL_many_16 : decode cL_many 16 = .ok (.ireturn, 1) := by decide +kernel
theorem dL_many_17 : decode cL_many 17 = .ok (.iconst 0, 1) := by decide +kernel
theorem dL_many_18 : decode cL_many 18 = .ok (.ireturn, 1) := by decide +kernel
theorem dL_count_0 : decode cL_count 0 = .ok (.aload_n 2, 1) := by decide +kernel
theorem dL_count_1 : decode cL_count 1 = .ok (.iconst 0, 1) := by decide +kernel
theorem dL_count_2 : decode cL_count 2 = .ok (.aload_n 0, 1) := by decide +kernel
theorem dL_count_3 : decode cL_count 3 = .ok (.iload_n 1, 1) := by decide +kernel
theorem dL_count_4 : decode cL_count 4 = .ok (.invokevirtual 61, 3) := by decide +kernel
theorem dL_count_7 : decode cL_count 7 = .ok (.i2l, 1) := by decide +kernel
theorem dL_count_8 : decode cL_count 8 = .ok (.lastore, 1) := by decide +kernel
theorem dL_count_9 : decode cL_count 9 = .ok (.goto 6, 3) := by decide +kernel
theorem dL_count_12 : decode cL_count 12 = .ok (.astore_n 3, 1) := by decide +kernel
theorem dL_count_13 : decode cL_count 13 = .ok (.iconst 1, 1) := by decide +kernel
theorem dL_count_14 : decode cL_count 14 = .ok (.ireturn, 1) := by decide +kernel
theorem dL_count_15 : decode cL_count 15 = .ok (.iconst 0, 1) := by decide +kernel
theorem dL_count_16 : decode cL_count 16 = .ok (.ireturn, 1) := by decide +kernel
theorem dL_setting_0 : decode cL_setting 0 = .ok (.aload_n 2, 1) := by decide +kernel
theorem dL_setting_1 : decode cL_setting 1 = .ok (.iconst 0, 1) := by decide +kernel
theorem dL_setting_2 : decode cL_setting 2 = .ok (.aload_n 0, 1) := by decide +kernel
theorem dL_setting_3 : decode cL_setting 3 = .ok (.iload_n 1, 1) := by decide +kernel
theorem dL_setting_4 : decode cL_setting 4 = .ok (.invokevirtual 64, 3) := by decide +kernel
theorem dL_setting_7 : decode cL_setting 7 = .ok (.i2l, 1) := by decide +kernel
theorem dL_setting_8 : decode cL_setting 8 = .ok (.lastore, 1) := by decide +kernel
theorem dL_setting_9 : decode cL_setting 9 = .ok (.goto 6, 3) := by decide +kernel
theorem dL_setting_12 : decode cL_setting 12 = .ok (.astore_n 3, 1) := by decide +kernel
theorem dL_setting_13 : decode cL_setting 13 = .ok (.iconst 1, 1) := by decide +kernel
theorem dL_setting_14 : decode cL_setting 14 = .ok (.ireturn, 1) := by decide +kernel
theorem dL_setting_15 : decode cL_setting 15 = .ok (.iconst 0, 1) := by decide +kernel
theorem dL_setting_16 : decode cL_setting 16 = .ok (.ireturn, 1) := by decide +kernel
theorem dL_ifWanted_0 : decode cL_ifWanted 0 = .ok (.aload_n 3, 1) := by decide +kernel
theorem dL_ifWanted_1 : decode cL_ifWanted 1 = .ok (.iconst 0, 1) := by decide +kernel
theorem dL_ifWanted_2 : decode cL_ifWanted 2 = .ok (.aload_n 0, 1) := by decide +kernel
theorem dL_ifWanted_3 : decode cL_ifWanted 3 = .ok (.iload_n 1, 1) := by decide +kernel
theorem dL_ifWanted_4 : decode cL_ifWanted 4 = .ok (.iload_n 2, 1) := by decide +kernel
theorem dL_ifWanted_5 : decode cL_ifWanted 5 = .ok (.invokevirtual 67, 3) := by decide +kernel
theorem dL_ifWanted_8 : decode cL_ifWanted 8 = .ok (.i2l, 1) := by decide +kernel
theorem dL_ifWanted_9 : decode cL_ifWanted 9 = .ok (.lastore, 1) := by decide +kernel
theorem dL_ifWanted_10 : decode cL_ifWanted 10 = .ok (.goto 7, 3) := by decide +kernel
theorem dL_ifWanted_13 : decode cL_ifWanted 13 = .ok (.astore 4, 2) := by decide +kernel
theorem dL_ifWanted_15 : decode cL_ifWanted 15 = .ok (.iconst 1, 1) := by decide +kernel
theorem dL_ifWanted_16 : decode cL_ifWanted 16 = .ok (.ireturn, 1) := by decide +kernel
theorem dL_ifWanted_17 : decode cL_ifWanted 17 = .ok (.iconst 0, 1) := by decide +kernel
theorem dL_ifWanted_18 : decode cL_ifWanted 18 = .ok (.ireturn, 1) := by decide +kernel
theorem dL_ifGiven_0 : decode cL_ifGiven 0 = .ok (.aload_n 2, 1) := by decide +kernel
theorem dL_ifGiven_1 : decode cL_ifGiven 1 = .ok (.iconst 0, 1) := by decide +kernel
theorem dL_ifGiven_2 : decode cL_ifGiven 2 = .ok (.aload_n 0, 1) := by decide +kernel
theorem dL_ifGiven_3 : decode cL_ifGiven 3 = .ok (.iload_n 1, 1) := by decide +kernel
theorem dL_ifGiven_4 : decode cL_ifGiven 4 = .ok (.invokevirtual 70, 3) := by decide +kernel
theorem dL_ifGiven_7 : decode cL_ifGiven 7 = .ok (.i2l, 1) := by decide +kernel
theorem dL_ifGiven_8 : decode cL_ifGiven 8 = .ok (.lastore, 1) := by decide +kernel
theorem dL_ifGiven_9 : decode cL_ifGiven 9 = .ok (.goto 6, 3) := by decide +kernel
theorem dL_ifGiven_12 : decode cL_ifGiven 12 = .ok (.astore_n 3, 1) := by decide +kernel
theorem dL_ifGiven_13 : decode cL_ifGiven 13 = .ok (.iconst 1, 1) := by decide +kernel
theorem dL_ifGiven_14 : decode cL_ifGiven 14 = .ok (.ireturn, 1) := by decide +kernel
theorem dL_ifGiven_15 : decode cL_ifGiven 15 = .ok (.iconst 0, 1) := by decide +kernel
theorem dL_ifGiven_16 : decode cL_ifGiven 16 = .ok (.ireturn, 1) := by decide +kernel
theorem dL_reach_0 : decode cL_reach 0 = .ok (.aload_n 2, 1) := by decide +kernel
theorem dL_reach_1 : decode cL_reach 1 = .ok (.iconst 0, 1) := by decide +kernel
theorem dL_reach_2 : decode cL_reach 2 = .ok (.aload_n 0, 1) := by decide +kernel
theorem dL_reach_3 : decode cL_reach 3 = .ok (.iload_n 1, 1) := by decide +kernel
theorem dL_reach_4 : decode cL_reach 4 = .ok (.invokevirtual 73, 3) := by decide +kernel
theorem dL_reach_7 : decode cL_reach 7 = .ok (.i2l, 1) := by decide +kernel
theorem dL_reach_8 : decode cL_reach 8 = .ok (.lastore, 1) := by decide +kernel
theorem dL_reach_9 : decode cL_reach 9 = .ok (.goto 6, 3) := by decide +kernel
theorem dL_reach_12 : decode cL_reach 12 = .ok (.astore_n 3, 1) := by decide +kernel
theorem dL_reach_13 : decode cL_reach 13 = .ok (.iconst 1, 1) := by decide +kernel
theorem dL_reach_14 : decode cL_reach 14 = .ok (.ireturn, 1) := by decide +kernel
theorem dL_reach_15 : decode cL_reach 15 = .ok (.iconst 0, 1) := by decide +kernel
theorem dL_reach_16 : decode cL_reach 16 = .ok (.ireturn, 1) := by decide +kernel
theorem dL_byWay_0 : decode cL_byWay 0 = .ok (.aload_n 2, 1) := by decide +kernel
theorem dL_byWay_1 : decode cL_byWay 1 = .ok (.iconst 0, 1) := by decide +kernel
theorem dL_byWay_2 : decode cL_byWay 2 = .ok (.aload_n 0, 1) := by decide +kernel
theorem dL_byWay_3 : decode cL_byWay 3 = .ok (.iload_n 1, 1) := by decide +kernel
theorem dL_byWay_4 : decode cL_byWay 4 = .ok (.invokevirtual 76, 3) := by decide +kernel
theorem dL_byWay_7 : decode cL_byWay 7 = .ok (.i2l, 1) := by decide +kernel
theorem dL_byWay_8 : decode cL_byWay 8 = .ok (.lastore, 1) := by decide +kernel
theorem dL_byWay_9 : decode cL_byWay 9 = .ok (.goto 6, 3) := by decide +kernel
theorem dL_byWay_12 : decode cL_byWay 12 = .ok (.astore_n 3, 1) := by decide +kernel
theorem dL_byWay_13 : decode cL_byWay 13 = .ok (.iconst 1, 1) := by decide +kernel
theorem dL_byWay_14 : decode cL_byWay 14 = .ok (.ireturn, 1) := by decide +kernel
theorem dL_byWay_15 : decode cL_byWay 15 = .ok (.iconst 0, 1) := by decide +kernel
theorem dL_byWay_16 : decode cL_byWay 16 = .ok (.ireturn, 1) := by decide +kernel
theorem dL_law_0 : decode cL_law 0 = .ok (.new 8, 3) := by decide +kernel
theorem dL_law_3 : decode cL_law 3 = .ok (.dup, 1) := by decide +kernel
theorem dL_law_4 : decode cL_law 4 = .ok (.invokespecial 79, 3) := by decide +kernel
theorem dL_law_7 : decode cL_law 7 = .ok (.astore_n 1, 1) := by decide +kernel
theorem dL_law_8 : decode cL_law 8 = .ok (.new 80, 3) := by decide +kernel
theorem dL_law_11 : decode cL_law 11 = .ok (.dup, 1) := by decide +kernel
theorem dL_law_12 : decode cL_law 12 = .ok (.invokespecial 82, 3) := by decide +kernel
theorem dL_law_15 : decode cL_law 15 = .ok (.astore_n 2, 1) := by decide +kernel
theorem dL_law_16 : decode cL_law 16 = .ok (.iconst 1, 1) := by decide +kernel
theorem dL_law_17 : decode cL_law 17 = .ok (.newarray .long, 2) := by decide +kernel
theorem dL_law_19 : decode cL_law 19 = .ok (.astore_n 3, 1) := by decide +kernel
theorem dL_law_20 : decode cL_law 20 = .ok (.iconst 0, 1) := by decide +kernel
theorem dL_law_21 : decode cL_law 21 = .ok (.istore 4, 2) := by decide +kernel
theorem dL_law_23 : decode cL_law 23 = .ok (.iload 4, 2) := by decide +kernel
theorem dL_law_25 : decode cL_law 25 = .ok (.aload_n 0, 1) := by decide +kernel
theorem dL_law_26 : decode cL_law 26 = .ok (.arraylength, 1) := by decide +kernel
theorem dL_law_27 : decode cL_law 27 = .ok (.iconst 3, 1) := by decide +kernel
theorem dL_law_28 : decode cL_law 28 = .ok (.isub, 1) := by decide +kernel
theorem dL_law_29 : decode cL_law 29 = .ok (.if_icmp .gt 1436, 3) := by decide +kernel
theorem dL_law_32 : decode cL_law 32 = .ok (.aload_n 0, 1) := by decide +kernel
theorem dL_law_33 : decode cL_law 33 = .ok (.iload 4, 2) := by decide +kernel
theorem dL_law_35 : decode cL_law 35 = .ok (.iaload, 1) := by decide +kernel
theorem dL_law_36 : decode cL_law 36 = .ok (.bipush 31, 2) := by decide +kernel
theorem dL_law_38 : decode cL_law 38 = .ok (.iand, 1) := by decide +kernel
theorem dL_law_39 : decode cL_law 39 = .ok (.tableswitch 1420 0 25 #[117, 173, 229, 285, 298, 366, 434, 502, 558, 571, 584, 628, 672, 728, 796, 864, 920, 1004, 1060, 1116, 1184, 1240, 1296, 1309, 1365, 1406], 117) := by decide +kernel
theorem dL_law_156 : decode cL_law 156 = .ok (.aload_n 1, 1) := by decide +kernel
theorem dL_law_157 : decode cL_law 157 = .ok (.aload_n 0, 1) := by decide +kernel
theorem dL_law_158 : decode cL_law 158 = .ok (.iload 4, 2) := by decide +kernel
theorem dL_law_160 : decode cL_law 160 = .ok (.iconst 1, 1) := by decide +kernel
theorem dL_law_161 : decode cL_law 161 = .ok (.iadd, 1) := by decide +kernel
theorem dL_law_162 : decode cL_law 162 = .ok (.iaload, 1) := by decide +kernel
theorem dL_law_163 : decode cL_law 163 = .ok (.aload_n 3, 1) := by decide +kernel
theorem dL_law_164 : decode cL_law 164 = .ok (.invokestatic 83, 3) := by decide +kernel
theorem dL_law_167 : decode cL_law 167 = .ok (.istore 5, 2) := by decide +kernel
theorem dL_law_169 : decode cL_law 169 = .ok (.aload_n 2, 1) := by decide +kernel
theorem dL_law_170 : decode cL_law 170 = .ok (.aload_n 0, 1) := by decide +kernel
theorem dL_law_171 : decode cL_law 171 = .ok (.iload 4, 2) := by decide +kernel
theorem dL_law_173 : decode cL_law 173 = .ok (.iconst 1, 1) := by decide +kernel
theorem dL_law_174 : decode cL_law 174 = .ok (.iadd, 1) := by decide +kernel
theorem dL_law_175 : decode cL_law 175 = .ok (.iaload, 1) := by decide +kernel
theorem dL_law_176 : decode cL_law 176 = .ok (.invokevirtual 88, 3) := by decide +kernel
theorem dL_law_179 : decode cL_law 179 = .ok (.istore 6, 2) := by decide +kernel
theorem dL_law_181 : decode cL_law 181 = .ok (.aload_n 2, 1) := by decide +kernel
theorem dL_law_182 : decode cL_law 182 = .ok (.invokevirtual 89, 3) := by decide +kernel
theorem dL_law_185 : decode cL_law 185 = .ok (.iload 5, 2) := by decide +kernel
theorem dL_law_187 : decode cL_law 187 = .ok (.if_icmp .eq 5, 3) := by decide +kernel
theorem dL_law_190 : decode cL_law 190 = .ok (.iconst 0, 1) := by decide +kernel
theorem dL_law_191 : decode cL_law 191 = .ok (.ireturn, 1) := by decide +kernel
theorem dL_law_192 : decode cL_law 192 = .ok (.iload 5, 2) := by decide +kernel
theorem dL_law_194 : decode cL_law 194 = .ok (.ifCond .ne 15, 3) := by decide +kernel
theorem dL_law_197 : decode cL_law 197 = .ok (.aload_n 3, 1) := by decide +kernel
theorem dL_law_198 : decode cL_law 198 = .ok (.iconst 0, 1) := by decide +kernel
theorem dL_law_199 : decode cL_law 199 = .ok (.laload, 1) := by decide +kernel
theorem dL_law_200 : decode cL_law 200 = .ok (.iload 6, 2) := by decide +kernel
theorem dL_law_202 : decode cL_law 202 = .ok (.i2l, 1) := by decide +kernel
theorem dL_law_203 : decode cL_law 203 = .ok (.lcmp, 1) := by decide +kernel
theorem dL_law_204 : decode cL_law 204 = .ok (.ifCond .eq 5, 3) := by decide +kernel
theorem dL_law_207 : decode cL_law 207 = .ok (.iconst 0, 1) := by decide +kernel
theorem dL_law_208 : decode cL_law 208 = .ok (.ireturn, 1) := by decide +kernel
theorem dL_law_209 : decode cL_law 209 = .ok (.goto 1250, 3) := by decide +kernel
theorem dL_law_212 : decode cL_law 212 = .ok (.aload_n 1, 1) := by decide +kernel
theorem dL_law_213 : decode cL_law 213 = .ok (.aload_n 0, 1) := by decide +kernel
theorem dL_law_214 : decode cL_law 214 = .ok (.iload 4, 2) := by decide +kernel
theorem dL_law_216 : decode cL_law 216 = .ok (.iconst 1, 1) := by decide +kernel
theorem dL_law_217 : decode cL_law 217 = .ok (.iadd, 1) := by decide +kernel
theorem dL_law_218 : decode cL_law 218 = .ok (.iaload, 1) := by decide +kernel
theorem dL_law_219 : decode cL_law 219 = .ok (.aload_n 3, 1) := by decide +kernel
theorem dL_law_220 : decode cL_law 220 = .ok (.invokestatic 92, 3) := by decide +kernel
theorem dL_law_223 : decode cL_law 223 = .ok (.istore 5, 2) := by decide +kernel
theorem dL_law_225 : decode cL_law 225 = .ok (.aload_n 2, 1) := by decide +kernel
theorem dL_law_226 : decode cL_law 226 = .ok (.aload_n 0, 1) := by decide +kernel
theorem dL_law_227 : decode cL_law 227 = .ok (.iload 4, 2) := by decide +kernel
theorem dL_law_229 : decode cL_law 229 = .ok (.iconst 1, 1) := by decide +kernel
theorem dL_law_230 : decode cL_law 230 = .ok (.iadd, 1) := by decide +kernel
theorem dL_law_231 : decode cL_law 231 = .ok (.iaload, 1) := by decide +kernel
theorem dL_law_232 : decode cL_law 232 = .ok (.invokevirtual 94, 3) := by decide +kernel
theorem dL_law_235 : decode cL_law 235 = .ok (.istore 6, 2) := by decide +kernel
theorem dL_law_237 : decode cL_law 237 = .ok (.aload_n 2, 1) := by decide +kernel
theorem dL_law_238 : decode cL_law 238 = .ok (.invokevirtual 89, 3) := by decide +kernel
theorem dL_law_241 : decode cL_law 241 = .ok (.iload 5, 2) := by decide +kernel
theorem dL_law_243 : decode cL_law 243 = .ok (.if_icmp .eq 5, 3) := by decide +kernel
theorem dL_law_246 : decode cL_law 246 = .ok (.iconst 0, 1) := by decide +kernel
theorem dL_law_247 : decode cL_law 247 = .ok (.ireturn, 1) := by decide +kernel
theorem dL_law_248 : decode cL_law 248 = .ok (.iload 5, 2) := by decide +kernel
theorem dL_law_250 : decode cL_law 250 = .ok (.ifCond .ne 15, 3) := by decide +kernel
theorem dL_law_253 : decode cL_law 253 = .ok (.aload_n 3, 1) := by decide +kernel
theorem dL_law_254 : decode cL_law 254 = .ok (.iconst 0, 1) := by decide +kernel
theorem dL_law_255 : decode cL_law 255 = .ok (.laload, 1) := by decide +kernel
theorem dL_law_256 : decode cL_law 256 = .ok (.iload 6, 2) := by decide +kernel
theorem dL_law_258 : decode cL_law 258 = .ok (.i2l, 1) := by decide +kernel
theorem dL_law_259 : decode cL_law 259 = .ok (.lcmp, 1) := by decide +kernel
theorem dL_law_260 : decode cL_law 260 = .ok (.ifCond .eq 5, 3) := by decide +kernel
theorem dL_law_263 : decode cL_law 263 = .ok (.iconst 0, 1) := by decide +kernel
theorem dL_law_264 : decode cL_law 264 = .ok (.ireturn, 1) := by decide +kernel
theorem dL_law_265 : decode cL_law 265 = .ok (.goto 1194, 3) := by decide +kernel
theorem dL_law_268 : decode cL_law 268 = .ok (.aload_n 1, 1) := by decide +kernel
theorem dL_law_269 : decode cL_law 269 = .ok (.aload_n 0, 1) := by decide +kernel
theorem dL_law_270 : decode cL_law 270 = .ok (.iload 4, 2) := by decide +kernel
theorem dL_law_272 : decode cL_law 272 = .ok (.iconst 1, 1) := by decide +kernel
theorem dL_law_273 : decode cL_law 273 = .ok (.iadd, 1) := by decide +kernel
theorem dL_law_274 : decode cL_law 274 = .ok (.iaload, 1) := by decide +kernel
theorem dL_law_275 : decode cL_law 275 = .ok (.aload_n 3, 1) := by decide +kernel
theorem dL_law_276 : decode cL_law 276 = .ok (.invokestatic 95, 3) := by decide +kernel
theorem dL_law_279 : decode cL_law 279 = .ok (.istore 5, 2) := by decide +kernel
theorem dL_law_281 : decode cL_law 281 = .ok (.aload_n 2, 1) := by decide +kernel
theorem dL_law_282 : decode cL_law 282 = .ok (.aload_n 0, 1) := by decide +kernel
theorem dL_law_283 : decode cL_law 283 = .ok (.iload 4, 2) := by decide +kernel
theorem dL_law_285 : decode cL_law 285 = .ok (.iconst 1, 1) := by decide +kernel
theorem dL_law_286 : decode cL_law 286 = .ok (.iadd, 1) := by decide +kernel
theorem dL_law_287 : decode cL_law 287 = .ok (.iaload, 1) := by decide +kernel
theorem dL_law_288 : decode cL_law 288 = .ok (.invokevirtual 97, 3) := by decide +kernel
theorem dL_law_291 : decode cL_law 291 = .ok (.istore 6, 2) := by decide +kernel
theorem dL_law_293 : decode cL_law 293 = .ok (.aload_n 2, 1) := by decide +kernel
theorem dL_law_294 : decode cL_law 294 = .ok (.invokevirtual 89, 3) := by decide +kernel
theorem dL_law_297 : decode cL_law 297 = .ok (.iload 5, 2) := by decide +kernel
theorem dL_law_299 : decode cL_law 299 = .ok (.if_icmp .eq 5, 3) := by decide +kernel
theorem dL_law_302 : decode cL_law 302 = .ok (.iconst 0, 1) := by decide +kernel
theorem dL_law_303 : decode cL_law 303 = .ok (.ireturn, 1) := by decide +kernel
theorem dL_law_304 : decode cL_law 304 = .ok (.iload 5, 2) := by decide +kernel
theorem dL_law_306 : decode cL_law 306 = .ok (.ifCond .ne 15, 3) := by decide +kernel
theorem dL_law_309 : decode cL_law 309 = .ok (.aload_n 3, 1) := by decide +kernel
theorem dL_law_310 : decode cL_law 310 = .ok (.iconst 0, 1) := by decide +kernel
theorem dL_law_311 : decode cL_law 311 = .ok (.laload, 1) := by decide +kernel
theorem dL_law_312 : decode cL_law 312 = .ok (.iload 6, 2) := by decide +kernel
theorem dL_law_314 : decode cL_law 314 = .ok (.i2l, 1) := by decide +kernel
theorem dL_law_315 : decode cL_law 315 = .ok (.lcmp, 1) := by decide +kernel
theorem dL_law_316 : decode cL_law 316 = .ok (.ifCond .eq 5, 3) := by decide +kernel
theorem dL_law_319 : decode cL_law 319 = .ok (.iconst 0, 1) := by decide +kernel
theorem dL_law_320 : decode cL_law 320 = .ok (.ireturn, 1) := by decide +kernel
theorem dL_law_321 : decode cL_law 321 = .ok (.goto 1138, 3) := by decide +kernel
theorem dL_law_324 : decode cL_law 324 = .ok (.aload_n 1, 1) := by decide +kernel
theorem dL_law_325 : decode cL_law 325 = .ok (.invokevirtual 98, 3) := by decide +kernel
theorem dL_law_328 : decode cL_law 328 = .ok (.aload_n 2, 1) := by decide +kernel
theorem dL_law_329 : decode cL_law 329 = .ok (.invokevirtual 101, 3) := by decide +kernel
theorem dL_law_332 : decode cL_law 332 = .ok (.if_icmp .eq 1127, 3) := by decide +kernel
theorem dL_law_335 : decode cL_law 335 = .ok (.iconst 0, 1) := by decide +kernel
theorem dL_law_336 : decode cL_law 336 = .ok (.ireturn, 1) := by decide +kernel
theorem dL_law_337 : decode cL_law 337 = .ok (.aload_n 1, 1) := by decide +kernel
theorem dL_law_338 : decode cL_law 338 = .ok (.aload_n 0, 1) := by decide +kernel
theorem dL_law_339 : decode cL_law 339 = .ok (.iload 4, 2) := by decide +kernel
theorem dL_law_341 : decode cL_law 341 = .ok (.iconst 1, 1) := by decide +kernel
theorem dL_law_342 : decode cL_law 342 = .ok (.iadd, 1) := by decide +kernel
theorem dL_law_343 : decode cL_law 343 = .ok (.iaload, 1) := by decide +kernel
theorem dL_law_344 : decode cL_law 344 = .ok (.aload_n 0, 1) := by decide +kernel
theorem dL_law_345 : decode cL_law 345 = .ok (.iload 4, 2) := by decide +kernel
theorem dL_law_347 : decode cL_law 347 = .ok (.iconst 2, 1) := by decide +kernel
theorem dL_law_348 : decode cL_law 348 = .ok (.iadd, 1) := by decide +kernel
theorem dL_law_349 : decode cL_law 349 = .ok (.iaload, 1) := by decide +kernel
theorem dL_law_350 : decode cL_law 350 = .ok (.aload_n 3, 1) := by decide +kernel
theorem dL_law_351 : decode cL_law 351 = .ok (.invokestatic 102, 3) := by decide +kernel
theorem dL_law_354 : decode cL_law 354 = .ok (.istore 5, 2) := by decide +kernel
theorem dL_law_356 : decode cL_law 356 = .ok (.aload_n 2, 1) := by decide +kernel
theorem dL_law_357 : decode cL_law 357 = .ok (.aload_n 0, 1) := by decide +kernel
theorem dL_law_358 : decode cL_law 358 = .ok (.iload 4, 2) := by decide +kernel
theorem dL_law_360 : decode cL_law 360 = .ok (.iconst 1, 1) := by decide +kernel
theorem dL_law_361 : decode cL_law 361 = .ok (.iadd, 1) := by decide +kernel
theorem dL_law_362 : decode cL_law 362 = .ok (.iaload, 1) := by decide +kernel
theorem dL_law_363 : decode cL_law 363 = .ok (.aload_n 0, 1) := by decide +kernel
theorem dL_law_364 : decode cL_law 364 = .ok (.iload 4, 2) := by decide +kernel
theorem dL_law_366 : decode cL_law 366 = .ok (.iconst 2, 1) := by decide +kernel
theorem dL_law_367 : decode cL_law 367 = .ok (.iadd, 1) := by decide +kernel
theorem dL_law_368 : decode cL_law 368 = .ok (.iaload, 1) := by decide +kernel
theorem dL_law_369 : decode cL_law 369 = .ok (.invokevirtual 105, 3) := by decide +kernel
theorem dL_law_372 : decode cL_law 372 = .ok (.istore 6, 2) := by decide +kernel
theorem dL_law_374 : decode cL_law 374 = .ok (.aload_n 2, 1) := by decide +kernel
theorem dL_law_375 : decode cL_law 375 = .ok (.invokevirtual 89, 3) := by decide +kernel
theorem dL_law_378 : decode cL_law 378 = .ok (.iload 5, 2) := by decide +kernel
theorem dL_law_380 : decode cL_law 380 = .ok (.if_icmp .eq 5, 3) := by decide +kernel
theorem dL_law_383 : decode cL_law 383 = .ok (.iconst 0, 1) := by decide +kernel
theorem dL_law_384 : decode cL_law 384 = .ok (.ireturn, 1) := by decide +kernel
theorem dL_law_385 : decode cL_law 385 = .ok (.iload 5, 2) := by decide +kernel
theorem dL_law_387 : decode cL_law 387 = .ok (.ifCond .ne 15, 3) := by decide +kernel
theorem dL_law_390 : decode cL_law 390 = .ok (.aload_n 3, 1) := by decide +kernel
theorem dL_law_391 : decode cL_law 391 = .ok (.iconst 0, 1) := by decide +kernel
theorem dL_law_392 : decode cL_law 392 = .ok (.laload, 1) := by decide +kernel
theorem dL_law_393 : decode cL_law 393 = .ok (.iload 6, 2) := by decide +kernel
theorem dL_law_395 : decode cL_law 395 = .ok (.i2l, 1) := by decide +kernel
theorem dL_law_396 : decode cL_law 396 = .ok (.lcmp, 1) := by decide +kernel
theorem dL_law_397 : decode cL_law 397 = .ok (.ifCond .eq 5, 3) := by decide +kernel
theorem dL_law_400 : decode cL_law 400 = .ok (.iconst 0, 1) := by decide +kernel
theorem dL_law_401 : decode cL_law 401 = .ok (.ireturn, 1) := by decide +kernel
theorem dL_law_402 : decode cL_law 402 = .ok (.goto 1057, 3) := by decide +kernel
theorem dL_law_405 : decode cL_law 405 = .ok (.aload_n 1, 1) := by decide +kernel
theorem dL_law_406 : decode cL_law 406 = .ok (.aload_n 0, 1) := by decide +kernel
theorem dL_law_407 : decode cL_law 407 = .ok (.iload 4, 2) := by decide +kernel
theorem dL_law_409 : decode cL_law 409 = .ok (.iconst 1, 1) := by decide +kernel
theorem dL_law_410 : decode cL_law 410 = .ok (.iadd, 1) := by decide +kernel
theorem dL_law_411 : decode cL_law 411 = .ok (.iaload, 1) := by decide +kernel
theorem dL_law_412 : decode cL_law 412 = .ok (.aload_n 0, 1) := by decide +kernel
theorem dL_law_413 : decode cL_law 413 = .ok (.iload 4, 2) := by decide +kernel
theorem dL_law_415 : decode cL_law 415 = .ok (.iconst 2, 1) := by decide +kernel
theorem dL_law_416 : decode cL_law 416 = .ok (.iadd, 1) := by decide +kernel
theorem dL_law_417 : decode cL_law 417 = .ok (.iaload, 1) := by decide +kernel
theorem dL_law_418 : decode cL_law 418 = .ok (.aload_n 3, 1) := by decide +kernel
theorem dL_law_419 : decode cL_law 419 = .ok (.invokestatic 106, 3) := by decide +kernel
theorem dL_law_422 : decode cL_law 422 = .ok (.istore 5, 2) := by decide +kernel
theorem dL_law_424 : decode cL_law 424 = .ok (.aload_n 2, 1) := by decide +kernel
theorem dL_law_425 : decode cL_law 425 = .ok (.aload_n 0, 1) := by decide +kernel
theorem dL_law_426 : decode cL_law 426 = .ok (.iload 4, 2) := by decide +kernel
theorem dL_law_428 : decode cL_law 428 = .ok (.iconst 1, 1) := by decide +kernel
theorem dL_law_429 : decode cL_law 429 = .ok (.iadd, 1) := by decide +kernel
theorem dL_law_430 : decode cL_law 430 = .ok (.iaload, 1) := by decide +kernel
theorem dL_law_431 : decode cL_law 431 = .ok (.aload_n 0, 1) := by decide +kernel
theorem dL_law_432 : decode cL_law 432 = .ok (.iload 4, 2) := by decide +kernel
theorem dL_law_434 : decode cL_law 434 = .ok (.iconst 2, 1) := by decide +kernel
theorem dL_law_435 : decode cL_law 435 = .ok (.iadd, 1) := by decide +kernel
theorem dL_law_436 : decode cL_law 436 = .ok (.iaload, 1) := by decide +kernel
theorem dL_law_437 : decode cL_law 437 = .ok (.invokevirtual 108, 3) := by decide +kernel
theorem dL_law_440 : decode cL_law 440 = .ok (.istore 6, 2) := by decide +kernel
theorem dL_law_442 : decode cL_law 442 = .ok (.aload_n 2, 1) := by decide +kernel
theorem dL_law_443 : decode cL_law 443 = .ok (.invokevirtual 89, 3) := by decide +kernel
theorem dL_law_446 : decode cL_law 446 = .ok (.iload 5, 2) := by decide +kernel
theorem dL_law_448 : decode cL_law 448 = .ok (.if_icmp .eq 5, 3) := by decide +kernel
theorem dL_law_451 : decode cL_law 451 = .ok (.iconst 0, 1) := by decide +kernel
theorem dL_law_452 : decode cL_law 452 = .ok (.ireturn, 1) := by decide +kernel
theorem dL_law_453 : decode cL_law 453 = .ok (.iload 5, 2) := by decide +kernel
theorem dL_law_455 : decode cL_law 455 = .ok (.ifCond .ne 15, 3) := by decide +kernel
theorem dL_law_458 : decode cL_law 458 = .ok (.aload_n 3, 1) := by decide +kernel
theorem dL_law_459 : decode cL_law 459 = .ok (.iconst 0, 1) := by decide +kernel
theorem dL_law_460 : decode cL_law 460 = .ok (.laload, 1) := by decide +kernel
theorem dL_law_461 : decode cL_law 461 = .ok (.iload 6, 2) := by decide +kernel
theorem dL_law_463 : decode cL_law 463 = .ok (.i2l, 1) := by decide +kernel
theorem dL_law_464 : decode cL_law 464 = .ok (.lcmp, 1) := by decide +kernel
theorem dL_law_465 : decode cL_law 465 = .ok (.ifCond .eq 5, 3) := by decide +kernel
theorem dL_law_468 : decode cL_law 468 = .ok (.iconst 0, 1) := by decide +kernel
theorem dL_law_469 : decode cL_law 469 = .ok (.ireturn, 1) := by decide +kernel
theorem dL_law_470 : decode cL_law 470 = .ok (.goto 989, 3) := by decide +kernel
theorem dL_law_473 : decode cL_law 473 = .ok (.aload_n 1, 1) := by decide +kernel
theorem dL_law_474 : decode cL_law 474 = .ok (.aload_n 0, 1) := by decide +kernel
theorem dL_law_475 : decode cL_law 475 = .ok (.iload 4, 2) := by decide +kernel
theorem dL_law_477 : decode cL_law 477 = .ok (.iconst 1, 1) := by decide +kernel
theorem dL_law_478 : decode cL_law 478 = .ok (.iadd, 1) := by decide +kernel
theorem dL_law_479 : decode cL_law 479 = .ok (.iaload, 1) := by decide +kernel
theorem dL_law_480 : decode cL_law 480 = .ok (.aload_n 0, 1) := by decide +kernel
theorem dL_law_481 : decode cL_law 481 = .ok (.iload 4, 2) := by decide +kernel
theorem dL_law_483 : decode cL_law 483 = .ok (.iconst 2, 1) := by decide +kernel
theorem dL_law_484 : decode cL_law 484 = .ok (.iadd, 1) := by decide +kernel
theorem dL_law_485 : decode cL_law 485 = .ok (.iaload, 1) := by decide +kernel
theorem dL_law_486 : decode cL_law 486 = .ok (.aload_n 3, 1) := by decide +kernel
theorem dL_law_487 : decode cL_law 487 = .ok (.invokestatic 109, 3) := by decide +kernel
theorem dL_law_490 : decode cL_law 490 = .ok (.istore 5, 2) := by decide +kernel
theorem dL_law_492 : decode cL_law 492 = .ok (.aload_n 2, 1) := by decide +kernel
theorem dL_law_493 : decode cL_law 493 = .ok (.aload_n 0, 1) := by decide +kernel
theorem dL_law_494 : decode cL_law 494 = .ok (.iload 4, 2) := by decide +kernel
theorem dL_law_496 : decode cL_law 496 = .ok (.iconst 1, 1) := by decide +kernel
theorem dL_law_497 : decode cL_law 497 = .ok (.iadd, 1) := by decide +kernel
theorem dL_law_498 : decode cL_law 498 = .ok (.iaload, 1) := by decide +kernel
theorem dL_law_499 : decode cL_law 499 = .ok (.aload_n 0, 1) := by decide +kernel
theorem dL_law_500 : decode cL_law 500 = .ok (.iload 4, 2) := by decide +kernel
theorem dL_law_502 : decode cL_law 502 = .ok (.iconst 2, 1) := by decide +kernel
theorem dL_law_503 : decode cL_law 503 = .ok (.iadd, 1) := by decide +kernel
theorem dL_law_504 : decode cL_law 504 = .ok (.iaload, 1) := by decide +kernel
theorem dL_law_505 : decode cL_law 505 = .ok (.invokevirtual 111, 3) := by decide +kernel
theorem dL_law_508 : decode cL_law 508 = .ok (.istore 6, 2) := by decide +kernel
theorem dL_law_510 : decode cL_law 510 = .ok (.aload_n 2, 1) := by decide +kernel
theorem dL_law_511 : decode cL_law 511 = .ok (.invokevirtual 89, 3) := by decide +kernel
theorem dL_law_514 : decode cL_law 514 = .ok (.iload 5, 2) := by decide +kernel
theorem dL_law_516 : decode cL_law 516 = .ok (.if_icmp .eq 5, 3) := by decide +kernel
theorem dL_law_519 : decode cL_law 519 = .ok (.iconst 0, 1) := by decide +kernel
theorem dL_law_520 : decode cL_law 520 = .ok (.ireturn, 1) := by decide +kernel
theorem dL_law_521 : decode cL_law 521 = .ok (.iload 5, 2) := by decide +kernel
theorem dL_law_523 : decode cL_law 523 = .ok (.ifCond .ne 15, 3) := by decide +kernel
theorem dL_law_526 : decode cL_law 526 = .ok (.aload_n 3, 1) := by decide +kernel
theorem dL_law_527 : decode cL_law 527 = .ok (.iconst 0, 1) := by decide +kernel
theorem dL_law_528 : decode cL_law 528 = .ok (.laload, 1) := by decide +kernel
theorem dL_law_529 : decode cL_law 529 = .ok (.iload 6, 2) := by decide +kernel
theorem dL_law_531 : decode cL_law 531 = .ok (.i2l, 1) := by decide +kernel
theorem dL_law_532 : decode cL_law 532 = .ok (.lcmp, 1) := by decide +kernel
theorem dL_law_533 : decode cL_law 533 = .ok (.ifCond .eq 5, 3) := by decide +kernel
theorem dL_law_536 : decode cL_law 536 = .ok (.iconst 0, 1) := by decide +kernel
theorem dL_law_537 : decode cL_law 537 = .ok (.ireturn, 1) := by decide +kernel
theorem dL_law_538 : decode cL_law 538 = .ok (.goto 921, 3) := by decide +kernel
theorem dL_law_541 : decode cL_law 541 = .ok (.aload_n 1, 1) := by decide +kernel
theorem dL_law_542 : decode cL_law 542 = .ok (.aload_n 0, 1) := by decide +kernel
theorem dL_law_543 : decode cL_law 543 = .ok (.iload 4, 2) := by decide +kernel
theorem dL_law_545 : decode cL_law 545 = .ok (.iconst 1, 1) := by decide +kernel
theorem dL_law_546 : decode cL_law 546 = .ok (.iadd, 1) := by decide +kernel
theorem dL_law_547 : decode cL_law 547 = .ok (.iaload, 1) := by decide +kernel
theorem dL_law_548 : decode cL_law 548 = .ok (.aload_n 3, 1) := by decide +kernel
theorem dL_law_549 : decode cL_law 549 = .ok (.invokestatic 112, 3) := by decide +kernel
theorem dL_law_552 : decode cL_law 552 = .ok (.istore 5, 2) := by decide +kernel
theorem dL_law_554 : decode cL_law 554 = .ok (.aload_n 2, 1) := by decide +kernel
theorem dL_law_555 : decode cL_law 555 = .ok (.aload_n 0, 1) := by decide +kernel
theorem dL_law_556 : decode cL_law 556 = .ok (.iload 4, 2) := by decide +kernel
theorem dL_law_558 : decode cL_law 558 = .ok (.iconst 1, 1) := by decide +kernel
theorem dL_law_559 : decode cL_law 559 = .ok (.iadd, 1) := by decide +kernel
theorem dL_law_560 : decode cL_law 560 = .ok (.iaload, 1) := by decide +kernel
theorem dL_law_561 : decode cL_law 561 = .ok (.invokevirtual 114, 3) := by decide +kernel
theorem dL_law_564 : decode cL_law 564 = .ok (.istore 6, 2) := by decide +kernel
theorem dL_law_566 : decode cL_law 566 = .ok (.aload_n 2, 1) := by decide +kernel
theorem dL_law_567 : decode cL_law 567 = .ok (.invokevirtual 89, 3) := by decide +kernel
theorem dL_law_570 : decode cL_law 570 = .ok (.iload 5, 2) := by decide +kernel
theorem dL_law_572 : decode cL_law 572 = .ok (.if_icmp .eq 5, 3) := by decide +kernel
theorem dL_law_575 : decode cL_law 575 = .ok (.iconst 0, 1) := by decide +kernel
theorem dL_law_576 : decode cL_law 576 = .ok (.ireturn, 1) := by decide +kernel
theorem dL_law_577 : decode cL_law 577 = .ok (.iload 5, 2) := by decide +kernel
theorem dL_law_579 : decode cL_law 579 = .ok (.ifCond .ne 15, 3) := by decide +kernel
theorem dL_law_582 : decode cL_law 582 = .ok (.aload_n 3, 1) := by decide +kernel
theorem dL_law_583 : decode cL_law 583 = .ok (.iconst 0, 1) := by decide +kernel
theorem dL_law_584 : decode cL_law 584 = .ok (.laload, 1) := by decide +kernel
theorem dL_law_585 : decode cL_law 585 = .ok (.iload 6, 2) := by decide +kernel
theorem dL_law_587 : decode cL_law 587 = .ok (.i2l, 1) := by decide +kernel
theorem dL_law_588 : decode cL_law 588 = .ok (.lcmp, 1) := by decide +kernel
theorem dL_law_589 : decode cL_law 589 = .ok (.ifCond .eq 5, 3) := by decide +kernel
theorem dL_law_592 : decode cL_law 592 = .ok (.iconst 0, 1) := by decide +kernel
theorem dL_law_593 : decode cL_law 593 = .ok (.ireturn, 1) := by decide +kernel
theorem dL_law_594 : decode cL_law 594 = .ok (.goto 865, 3) := by decide +kernel
theorem dL_law_597 : decode cL_law 597 = .ok (.aload_n 1, 1) := by decide +kernel
theorem dL_law_598 : decode cL_law 598 = .ok (.invokevirtual 115, 3) := by decide +kernel
theorem dL_law_601 : decode cL_law 601 = .ok (.aload_n 2, 1) := by decide +kernel
theorem dL_law_602 : decode cL_law 602 = .ok (.invokevirtual 118, 3) := by decide +kernel
theorem dL_law_605 : decode cL_law 605 = .ok (.if_icmp .eq 854, 3) := by decide +kernel
theorem dL_law_608 : decode cL_law 608 = .ok (.iconst 0, 1) := by decide +kernel
theorem dL_law_609 : decode cL_law 609 = .ok (.ireturn, 1) := by decide +kernel
theorem dL_law_610 : decode cL_law 610 = .ok (.aload_n 1, 1) := by decide +kernel
theorem dL_law_611 : decode cL_law 611 = .ok (.invokevirtual 119, 3) := by decide +kernel
theorem dL_law_614 : decode cL_law 614 = .ok (.aload_n 2, 1) := by decide +kernel
theorem dL_law_615 : decode cL_law 615 = .ok (.invokevirtual 122, 3) := by decide +kernel
theorem dL_law_618 : decode cL_law 618 = .ok (.if_icmp .eq 841, 3) := by decide +kernel
theorem dL_law_621 : decode cL_law 621 = .ok (.iconst 0, 1) := by decide +kernel
theorem dL_law_622 : decode cL_law 622 = .ok (.ireturn, 1) := by decide +kernel
theorem dL_law_623 : decode cL_law 623 = .ok (.aload_n 1, 1) := by decide +kernel
theorem dL_law_624 : decode cL_law 624 = .ok (.aload_n 3, 1) := by decide +kernel
theorem dL_law_625 : decode cL_law 625 = .ok (.invokestatic 123, 3) := by decide +kernel
theorem dL_law_628 : decode cL_law 628 = .ok (.istore 5, 2) := by decide +kernel
theorem dL_law_630 : decode cL_law 630 = .ok (.aload_n 2, 1) := by decide +kernel
theorem dL_law_631 : decode cL_law 631 = .ok (.invokevirtual 126, 3) := by decide +kernel
theorem dL_law_634 : decode cL_law 634 = .ok (.istore 6, 2) := by decide +kernel
theorem dL_law_636 : decode cL_law 636 = .ok (.aload_n 2, 1) := by decide +kernel
theorem dL_law_637 : decode cL_law 637 = .ok (.invokevirtual 89, 3) := by decide +kernel
theorem dL_law_640 : decode cL_law 640 = .ok (.iload 5, 2) := by decide +kernel
theorem dL_law_642 : decode cL_law 642 = .ok (.if_icmp .eq 5, 3) := by decide +kernel
theorem dL_law_645 : decode cL_law 645 = .ok (.iconst 0, 1) := by decide +kernel
theorem dL_law_646 : decode cL_law 646 = .ok (.ireturn, 1) := by decide +kernel
theorem dL_law_647 : decode cL_law 647 = .ok (.iload 5, 2) := by decide +kernel
theorem dL_law_649 : decode cL_law 649 = .ok (.ifCond .ne 15, 3) := by decide +kernel
theorem dL_law_652 : decode cL_law 652 = .ok (.aload_n 3, 1) := by decide +kernel
theorem dL_law_653 : decode cL_law 653 = .ok (.iconst 0, 1) := by decide +kernel
theorem dL_law_654 : decode cL_law 654 = .ok (.laload, 1) := by decide +kernel
theorem dL_law_655 : decode cL_law 655 = .ok (.iload 6, 2) := by decide +kernel
theorem dL_law_657 : decode cL_law 657 = .ok (.i2l, 1) := by decide +kernel
theorem dL_law_658 : decode cL_law 658 = .ok (.lcmp, 1) := by decide +kernel
theorem dL_law_659 : decode cL_law 659 = .ok (.ifCond .eq 5, 3) := by decide +kernel
theorem dL_law_662 : decode cL_law 662 = .ok (.iconst 0, 1) := by decide +kernel
theorem dL_law_663 : decode cL_law 663 = .ok (.ireturn, 1) := by decide +kernel
theorem dL_law_664 : decode cL_law 664 = .ok (.goto 795, 3) := by decide +kernel
theorem dL_law_667 : decode cL_law 667 = .ok (.aload_n 1, 1) := by decide +kernel
theorem dL_law_668 : decode cL_law 668 = .ok (.aload_n 3, 1) := by decide +kernel
theorem dL_law_669 : decode cL_law 669 = .ok (.invokestatic 127, 3) := by decide +kernel
theorem dL_law_672 : decode cL_law 672 = .ok (.istore 5, 2) := by decide +kernel
theorem dL_law_674 : decode cL_law 674 = .ok (.aload_n 2, 1) := by decide +kernel
theorem dL_law_675 : decode cL_law 675 = .ok (.invokevirtual 129, 3) := by decide +kernel
theorem dL_law_678 : decode cL_law 678 = .ok (.istore 6, 2) := by decide +kernel
theorem dL_law_680 : decode cL_law 680 = .ok (.aload_n 2, 1) := by decide +kernel
theorem dL_law_681 : decode cL_law 681 = .ok (.invokevirtual 89, 3) := by decide +kernel
theorem dL_law_684 : decode cL_law 684 = .ok (.iload 5, 2) := by decide +kernel
theorem dL_law_686 : decode cL_law 686 = .ok (.if_icmp .eq 5, 3) := by decide +kernel
theorem dL_law_689 : decode cL_law 689 = .ok (.iconst 0, 1) := by decide +kernel
theorem dL_law_690 : decode cL_law 690 = .ok (.ireturn, 1) := by decide +kernel
theorem dL_law_691 : decode cL_law 691 = .ok (.iload 5, 2) := by decide +kernel
theorem dL_law_693 : decode cL_law 693 = .ok (.ifCond .ne 15, 3) := by decide +kernel
theorem dL_law_696 : decode cL_law 696 = .ok (.aload_n 3, 1) := by decide +kernel
theorem dL_law_697 : decode cL_law 697 = .ok (.iconst 0, 1) := by decide +kernel
theorem dL_law_698 : decode cL_law 698 = .ok (.laload, 1) := by decide +kernel
theorem dL_law_699 : decode cL_law 699 = .ok (.iload 6, 2) := by decide +kernel
theorem dL_law_701 : decode cL_law 701 = .ok (.i2l, 1) := by decide +kernel
theorem dL_law_702 : decode cL_law 702 = .ok (.lcmp, 1) := by decide +kernel
theorem dL_law_703 : decode cL_law 703 = .ok (.ifCond .eq 5, 3) := by decide +kernel
theorem dL_law_706 : decode cL_law 706 = .ok (.iconst 0, 1) := by decide +kernel
theorem dL_law_707 : decode cL_law 707 = .ok (.ireturn, 1) := by decide +kernel
theorem dL_law_708 : decode cL_law 708 = .ok (.goto 751, 3) := by decide +kernel
theorem dL_law_711 : decode cL_law 711 = .ok (.aload_n 1, 1) := by decide +kernel
theorem dL_law_712 : decode cL_law 712 = .ok (.aload_n 0, 1) := by decide +kernel
theorem dL_law_713 : decode cL_law 713 = .ok (.iload 4, 2) := by decide +kernel
theorem dL_law_715 : decode cL_law 715 = .ok (.iconst 1, 1) := by decide +kernel
theorem dL_law_716 : decode cL_law 716 = .ok (.iadd, 1) := by decide +kernel
theorem dL_law_717 : decode cL_law 717 = .ok (.iaload, 1) := by decide +kernel
theorem dL_law_718 : decode cL_law 718 = .ok (.aload_n 3, 1) := by decide +kernel
theorem dL_law_719 : decode cL_law 719 = .ok (.invokestatic 130, 3) := by decide +kernel
theorem dL_law_722 : decode cL_law 722 = .ok (.istore 5, 2) := by decide +kernel
theorem dL_law_724 : decode cL_law 724 = .ok (.aload_n 2, 1) := by decide +kernel
theorem dL_law_725 : decode cL_law 725 = .ok (.aload_n 0, 1) := by decide +kernel
theorem dL_law_726 : decode cL_law 726 = .ok (.iload 4, 2) := by decide +kernel
theorem dL_law_728 : decode cL_law 728 = .ok (.iconst 1, 1) := by decide +kernel
theorem dL_law_729 : decode cL_law 729 = .ok (.iadd, 1) := by decide +kernel
theorem dL_law_730 : decode cL_law 730 = .ok (.iaload, 1) := by decide +kernel
theorem dL_law_731 : decode cL_law 731 = .ok (.invokevirtual 132, 3) := by decide +kernel
theorem dL_law_734 : decode cL_law 734 = .ok (.istore 6, 2) := by decide +kernel
theorem dL_law_736 : decode cL_law 736 = .ok (.aload_n 2, 1) := by decide +kernel
theorem dL_law_737 : decode cL_law 737 = .ok (.invokevirtual 89, 3) := by decide +kernel
theorem dL_law_740 : decode cL_law 740 = .ok (.iload 5, 2) := by decide +kernel
theorem dL_law_742 : decode cL_law 742 = .ok (.if_icmp .eq 5, 3) := by decide +kernel
theorem dL_law_745 : decode cL_law 745 = .ok (.iconst 0, 1) := by decide +kernel
theorem dL_law_746 : decode cL_law 746 = .ok (.ireturn, 1) := by decide +kernel
theorem dL_law_747 : decode cL_law 747 = .ok (.iload 5, 2) := by decide +kernel
theorem dL_law_749 : decode cL_law 749 = .ok (.ifCond .ne 15, 3) := by decide +kernel
theorem dL_law_752 : decode cL_law 752 = .ok (.aload_n 3, 1) := by decide +kernel
theorem dL_law_753 : decode cL_law 753 = .ok (.iconst 0, 1) := by decide +kernel
theorem dL_law_754 : decode cL_law 754 = .ok (.laload, 1) := by decide +kernel
theorem dL_law_755 : decode cL_law 755 = .ok (.iload 6, 2) := by decide +kernel
theorem dL_law_757 : decode cL_law 757 = .ok (.i2l, 1) := by decide +kernel
theorem dL_law_758 : decode cL_law 758 = .ok (.lcmp, 1) := by decide +kernel
theorem dL_law_759 : decode cL_law 759 = .ok (.ifCond .eq 5, 3) := by decide +kernel
theorem dL_law_762 : decode cL_law 762 = .ok (.iconst 0, 1) := by decide +kernel
theorem dL_law_763 : decode cL_law 763 = .ok (.ireturn, 1) := by decide +kernel
theorem dL_law_764 : decode cL_law 764 = .ok (.goto 695, 3) := by decide +kernel
theorem dL_law_767 : decode cL_law 767 = .ok (.aload_n 1, 1) := by decide +kernel
theorem dL_law_768 : decode cL_law 768 = .ok (.aload_n 0, 1) := by decide +kernel
theorem dL_law_769 : decode cL_law 769 = .ok (.iload 4, 2) := by decide +kernel
theorem dL_law_771 : decode cL_law 771 = .ok (.iconst 1, 1) := by decide +kernel
theorem dL_law_772 : decode cL_law 772 = .ok (.iadd, 1) := by decide +kernel
theorem dL_law_773 : decode cL_law 773 = .ok (.iaload, 1) := by decide +kernel
theorem dL_law_774 : decode cL_law 774 = .ok (.aload_n 0, 1) := by decide +kernel
theorem dL_law_775 : decode cL_law 775 = .ok (.iload 4, 2) := by decide +kernel
theorem dL_law_777 : decode cL_law 777 = .ok (.iconst 2, 1) := by decide +kernel
theorem dL_law_778 : decode cL_law 778 = .ok (.iadd, 1) := by decide +kernel
theorem dL_law_779 : decode cL_law 779 = .ok (.iaload, 1) := by decide +kernel
theorem dL_law_780 : decode cL_law 780 = .ok (.aload_n 3, 1) := by decide +kernel
theorem dL_law_781 : decode cL_law 781 = .ok (.invokestatic 133, 3) := by decide +kernel
theorem dL_law_784 : decode cL_law 784 = .ok (.istore 5, 2) := by decide +kernel
theorem dL_law_786 : decode cL_law 786 = .ok (.aload_n 2, 1) := by decide +kernel
theorem dL_law_787 : decode cL_law 787 = .ok (.aload_n 0, 1) := by decide +kernel
theorem dL_law_788 : decode cL_law 788 = .ok (.iload 4, 2) := by decide +kernel
theorem dL_law_790 : decode cL_law 790 = .ok (.iconst 1, 1) := by decide +kernel
theorem dL_law_791 : decode cL_law 791 = .ok (.iadd, 1) := by decide +kernel
theorem dL_law_792 : decode cL_law 792 = .ok (.iaload, 1) := by decide +kernel
theorem dL_law_793 : decode cL_law 793 = .ok (.aload_n 0, 1) := by decide +kernel
theorem dL_law_794 : decode cL_law 794 = .ok (.iload 4, 2) := by decide +kernel
theorem dL_law_796 : decode cL_law 796 = .ok (.iconst 2, 1) := by decide +kernel
theorem dL_law_797 : decode cL_law 797 = .ok (.iadd, 1) := by decide +kernel
theorem dL_law_798 : decode cL_law 798 = .ok (.iaload, 1) := by decide +kernel
theorem dL_law_799 : decode cL_law 799 = .ok (.invokevirtual 135, 3) := by decide +kernel
theorem dL_law_802 : decode cL_law 802 = .ok (.istore 6, 2) := by decide +kernel
theorem dL_law_804 : decode cL_law 804 = .ok (.aload_n 2, 1) := by decide +kernel
theorem dL_law_805 : decode cL_law 805 = .ok (.invokevirtual 89, 3) := by decide +kernel
theorem dL_law_808 : decode cL_law 808 = .ok (.iload 5, 2) := by decide +kernel
theorem dL_law_810 : decode cL_law 810 = .ok (.if_icmp .eq 5, 3) := by decide +kernel
theorem dL_law_813 : decode cL_law 813 = .ok (.iconst 0, 1) := by decide +kernel
theorem dL_law_814 : decode cL_law 814 = .ok (.ireturn, 1) := by decide +kernel
theorem dL_law_815 : decode cL_law 815 = .ok (.iload 5, 2) := by decide +kernel
theorem dL_law_817 : decode cL_law 817 = .ok (.ifCond .ne 15, 3) := by decide +kernel
theorem dL_law_820 : decode cL_law 820 = .ok (.aload_n 3, 1) := by decide +kernel
theorem dL_law_821 : decode cL_law 821 = .ok (.iconst 0, 1) := by decide +kernel
theorem dL_law_822 : decode cL_law 822 = .ok (.laload, 1) := by decide +kernel
theorem dL_law_823 : decode cL_law 823 = .ok (.iload 6, 2) := by decide +kernel
theorem dL_law_825 : decode cL_law 825 = .ok (.i2l, 1) := by decide +kernel
theorem dL_law_826 : decode cL_law 826 = .ok (.lcmp, 1) := by decide +kernel
theorem dL_law_827 : decode cL_law 827 = .ok (.ifCond .eq 5, 3) := by decide +kernel
theorem dL_law_830 : decode cL_law 830 = .ok (.iconst 0, 1) := by decide +kernel
theorem dL_law_831 : decode cL_law 831 = .ok (.ireturn, 1) := by decide +kernel
theorem dL_law_832 : decode cL_law 832 = .ok (.goto 627, 3) := by decide +kernel
theorem dL_law_835 : decode cL_law 835 = .ok (.aload_n 1, 1) := by decide +kernel
theorem dL_law_836 : decode cL_law 836 = .ok (.aload_n 0, 1) := by decide +kernel
theorem dL_law_837 : decode cL_law 837 = .ok (.iload 4, 2) := by decide +kernel
theorem dL_law_839 : decode cL_law 839 = .ok (.iconst 1, 1) := by decide +kernel
theorem dL_law_840 : decode cL_law 840 = .ok (.iadd, 1) := by decide +kernel
theorem dL_law_841 : decode cL_law 841 = .ok (.iaload, 1) := by decide +kernel
theorem dL_law_842 : decode cL_law 842 = .ok (.aload_n 0, 1) := by decide +kernel
theorem dL_law_843 : decode cL_law 843 = .ok (.iload 4, 2) := by decide +kernel
theorem dL_law_845 : decode cL_law 845 = .ok (.iconst 2, 1) := by decide +kernel
theorem dL_law_846 : decode cL_law 846 = .ok (.iadd, 1) := by decide +kernel
theorem dL_law_847 : decode cL_law 847 = .ok (.iaload, 1) := by decide +kernel
theorem dL_law_848 : decode cL_law 848 = .ok (.aload_n 3, 1) := by decide +kernel
theorem dL_law_849 : decode cL_law 849 = .ok (.invokestatic 136, 3) := by decide +kernel
theorem dL_law_852 : decode cL_law 852 = .ok (.istore 5, 2) := by decide +kernel
theorem dL_law_854 : decode cL_law 854 = .ok (.aload_n 2, 1) := by decide +kernel
theorem dL_law_855 : decode cL_law 855 = .ok (.aload_n 0, 1) := by decide +kernel
theorem dL_law_856 : decode cL_law 856 = .ok (.iload 4, 2) := by decide +kernel
theorem dL_law_858 : decode cL_law 858 = .ok (.iconst 1, 1) := by decide +kernel
theorem dL_law_859 : decode cL_law 859 = .ok (.iadd, 1) := by decide +kernel
theorem dL_law_860 : decode cL_law 860 = .ok (.iaload, 1) := by decide +kernel
theorem dL_law_861 : decode cL_law 861 = .ok (.aload_n 0, 1) := by decide +kernel
theorem dL_law_862 : decode cL_law 862 = .ok (.iload 4, 2) := by decide +kernel
theorem dL_law_864 : decode cL_law 864 = .ok (.iconst 2, 1) := by decide +kernel
theorem dL_law_865 : decode cL_law 865 = .ok (.iadd, 1) := by decide +kernel
theorem dL_law_866 : decode cL_law 866 = .ok (.iaload, 1) := by decide +kernel
theorem dL_law_867 : decode cL_law 867 = .ok (.invokevirtual 138, 3) := by decide +kernel
theorem dL_law_870 : decode cL_law 870 = .ok (.istore 6, 2) := by decide +kernel
theorem dL_law_872 : decode cL_law 872 = .ok (.aload_n 2, 1) := by decide +kernel
theorem dL_law_873 : decode cL_law 873 = .ok (.invokevirtual 89, 3) := by decide +kernel
theorem dL_law_876 : decode cL_law 876 = .ok (.iload 5, 2) := by decide +kernel
theorem dL_law_878 : decode cL_law 878 = .ok (.if_icmp .eq 5, 3) := by decide +kernel
theorem dL_law_881 : decode cL_law 881 = .ok (.iconst 0, 1) := by decide +kernel
theorem dL_law_882 : decode cL_law 882 = .ok (.ireturn, 1) := by decide +kernel
theorem dL_law_883 : decode cL_law 883 = .ok (.iload 5, 2) := by decide +kernel
theorem dL_law_885 : decode cL_law 885 = .ok (.ifCond .ne 15, 3) := by decide +kernel
theorem dL_law_888 : decode cL_law 888 = .ok (.aload_n 3, 1) := by decide +kernel
theorem dL_law_889 : decode cL_law 889 = .ok (.iconst 0, 1) := by decide +kernel
theorem dL_law_890 : decode cL_law 890 = .ok (.laload, 1) := by decide +kernel
theorem dL_law_891 : decode cL_law 891 = .ok (.iload 6, 2) := by decide +kernel
theorem dL_law_893 : decode cL_law 893 = .ok (.i2l, 1) := by decide +kernel
theorem dL_law_894 : decode cL_law 894 = .ok (.lcmp, 1) := by decide +kernel
theorem dL_law_895 : decode cL_law 895 = .ok (.ifCond .eq 5, 3) := by decide +kernel
theorem dL_law_898 : decode cL_law 898 = .ok (.iconst 0, 1) := by decide +kernel
theorem dL_law_899 : decode cL_law 899 = .ok (.ireturn, 1) := by decide +kernel
theorem dL_law_900 : decode cL_law 900 = .ok (.goto 559, 3) := by decide +kernel
theorem dL_law_903 : decode cL_law 903 = .ok (.aload_n 1, 1) := by decide +kernel
theorem dL_law_904 : decode cL_law 904 = .ok (.aload_n 0, 1) := by decide +kernel
theorem dL_law_905 : decode cL_law 905 = .ok (.iload 4, 2) := by decide +kernel
theorem dL_law_907 : decode cL_law 907 = .ok (.iconst 1, 1) := by decide +kernel
theorem dL_law_908 : decode cL_law 908 = .ok (.iadd, 1) := by decide +kernel
theorem dL_law_909 : decode cL_law 909 = .ok (.iaload, 1) := by decide +kernel
theorem dL_law_910 : decode cL_law 910 = .ok (.aload_n 3, 1) := by decide +kernel
theorem dL_law_911 : decode cL_law 911 = .ok (.invokestatic 139, 3) := by decide +kernel
theorem dL_law_914 : decode cL_law 914 = .ok (.istore 5, 2) := by decide +kernel
theorem dL_law_916 : decode cL_law 916 = .ok (.aload_n 2, 1) := by decide +kernel
theorem dL_law_917 : decode cL_law 917 = .ok (.aload_n 0, 1) := by decide +kernel
theorem dL_law_918 : decode cL_law 918 = .ok (.iload 4, 2) := by decide +kernel
theorem dL_law_920 : decode cL_law 920 = .ok (.iconst 1, 1) := by decide +kernel
theorem dL_law_921 : decode cL_law 921 = .ok (.iadd, 1) := by decide +kernel
theorem dL_law_922 : decode cL_law 922 = .ok (.iaload, 1) := by decide +kernel
theorem dL_law_923 : decode cL_law 923 = .ok (.invokevirtual 141, 3) := by decide +kernel
theorem dL_law_926 : decode cL_law 926 = .ok (.istore 6, 2) := by decide +kernel
theorem dL_law_928 : decode cL_law 928 = .ok (.aload_n 2, 1) := by decide +kernel
theorem dL_law_929 : decode cL_law 929 = .ok (.invokevirtual 89, 3) := by decide +kernel
theorem dL_law_932 : decode cL_law 932 = .ok (.iload 5, 2) := by decide +kernel
theorem dL_law_934 : decode cL_law 934 = .ok (.if_icmp .eq 5, 3) := by decide +kernel
theorem dL_law_937 : decode cL_law 937 = .ok (.iconst 0, 1) := by decide +kernel
theorem dL_law_938 : decode cL_law 938 = .ok (.ireturn, 1) := by decide +kernel
theorem dL_law_939 : decode cL_law 939 = .ok (.iload 5, 2) := by decide +kernel
theorem dL_law_941 : decode cL_law 941 = .ok (.ifCond .ne 15, 3) := by decide +kernel
theorem dL_law_944 : decode cL_law 944 = .ok (.aload_n 3, 1) := by decide +kernel
theorem dL_law_945 : decode cL_law 945 = .ok (.iconst 0, 1) := by decide +kernel
theorem dL_law_946 : decode cL_law 946 = .ok (.laload, 1) := by decide +kernel
theorem dL_law_947 : decode cL_law 947 = .ok (.iload 6, 2) := by decide +kernel
theorem dL_law_949 : decode cL_law 949 = .ok (.i2l, 1) := by decide +kernel
theorem dL_law_950 : decode cL_law 950 = .ok (.lcmp, 1) := by decide +kernel
theorem dL_law_951 : decode cL_law 951 = .ok (.ifCond .eq 5, 3) := by decide +kernel
theorem dL_law_954 : decode cL_law 954 = .ok (.iconst 0, 1) := by decide +kernel
theorem dL_law_955 : decode cL_law 955 = .ok (.ireturn, 1) := by decide +kernel
theorem dL_law_956 : decode cL_law 956 = .ok (.goto 503, 3) := by decide +kernel
theorem dL_law_959 : decode cL_law 959 = .ok (.aload_n 1, 1) := by decide +kernel
theorem dL_law_960 : decode cL_law 960 = .ok (.aload_n 0, 1) := by decide +kernel
theorem dL_law_961 : decode cL_law 961 = .ok (.iload 4, 2) := by decide +kernel
theorem dL_law_963 : decode cL_law 963 = .ok (.iconst 1, 1) := by decide +kernel
theorem dL_law_964 : decode cL_law 964 = .ok (.iadd, 1) := by decide +kernel
theorem dL_law_965 : decode cL_law 965 = .ok (.iaload, 1) := by decide +kernel
theorem dL_law_966 : decode cL_law 966 = .ok (.aload_n 0, 1) := by decide +kernel
theorem dL_law_967 : decode cL_law 967 = .ok (.iload 4, 2) := by decide +kernel
theorem dL_law_969 : decode cL_law 969 = .ok (.iconst 2, 1) := by decide +kernel
theorem dL_law_970 : decode cL_law 970 = .ok (.iadd, 1) := by decide +kernel
theorem dL_law_971 : decode cL_law 971 = .ok (.iaload, 1) := by decide +kernel
theorem dL_law_972 : decode cL_law 972 = .ok (.ifCond .eq 7, 3) := by decide +kernel
theorem dL_law_975 : decode cL_law 975 = .ok (.iconst 1, 1) := by decide +kernel
theorem dL_law_976 : decode cL_law 976 = .ok (.goto 4, 3) := by decide +kernel
theorem dL_law_979 : decode cL_law 979 = .ok (.iconst 0, 1) := by decide +kernel
theorem dL_law_980 : decode cL_law 980 = .ok (.aload_n 3, 1) := by decide +kernel
theorem dL_law_981 : decode cL_law 981 = .ok (.invokestatic 142, 3) := by decide +kernel
theorem dL_law_984 : decode cL_law 984 = .ok (.istore 5, 2) := by decide +kernel
theorem dL_law_986 : decode cL_law 986 = .ok (.aload_n 2, 1) := by decide +kernel
theorem dL_law_987 : decode cL_law 987 = .ok (.aload_n 0, 1) := by decide +kernel
theorem dL_law_988 : decode cL_law 988 = .ok (.iload 4, 2) := by decide +kernel
theorem dL_law_990 : decode cL_law 990 = .ok (.iconst 1, 1) := by decide +kernel
theorem dL_law_991 : decode cL_law 991 = .ok (.iadd, 1) := by decide +kernel
theorem dL_law_992 : decode cL_law 992 = .ok (.iaload, 1) := by decide +kernel
theorem dL_law_993 : decode cL_law 993 = .ok (.aload_n 0, 1) := by decide +kernel
theorem dL_law_994 : decode cL_law 994 = .ok (.iload 4, 2) := by decide +kernel
theorem dL_law_996 : decode cL_law 996 = .ok (.iconst 2, 1) := by decide +kernel
theorem dL_law_997 : decode cL_law 997 = .ok (.iadd, 1) := by decide +kernel
theorem dL_law_998 : decode cL_law 998 = .ok (.iaload, 1) := by decide +kernel
theorem dL_law_999 : decode cL_law 999 = .ok (.ifCond .eq 7, 3) := by decide +kernel
theorem dL_law_1002 : decode cL_law 1002 = .ok (.iconst 1, 1) := by decide +kernel
theorem dL_law_1003 : decode cL_law 1003 = .ok (.goto 4, 3) := by decide +kernel
theorem dL_law_1006 : decode cL_law 1006 = .ok (.iconst 0, 1) := by decide +kernel
theorem dL_law_1007 : decode cL_law 1007 = .ok (.invokevirtual 145, 3) := by decide +kernel
theorem dL_law_1010 : decode cL_law 1010 = .ok (.istore 6, 2) := by decide +kernel
theorem dL_law_1012 : decode cL_law 1012 = .ok (.aload_n 2, 1) := by decide +kernel
theorem dL_law_1013 : decode cL_law 1013 = .ok (.invokevirtual 89, 3) := by decide +kernel
theorem dL_law_1016 : decode cL_law 1016 = .ok (.iload 5, 2) := by decide +kernel
theorem dL_law_1018 : decode cL_law 1018 = .ok (.if_icmp .eq 5, 3) := by decide +kernel
theorem dL_law_1021 : decode cL_law 1021 = .ok (.iconst 0, 1) := by decide +kernel
theorem dL_law_1022 : decode cL_law 1022 = .ok (.ireturn, 1) := by decide +kernel
theorem dL_law_1023 : decode cL_law 1023 = .ok (.iload 5, 2) := by decide +kernel
theorem dL_law_1025 : decode cL_law 1025 = .ok (.ifCond .ne 15, 3) := by decide +kernel
theorem dL_law_1028 : decode cL_law 1028 = .ok (.aload_n 3, 1) := by decide +kernel
theorem dL_law_1029 : decode cL_law 1029 = .ok (.iconst 0, 1) := by decide +kernel
theorem dL_law_1030 : decode cL_law 1030 = .ok (.laload, 1) := by decide +kernel
theorem dL_law_1031 : decode cL_law 1031 = .ok (.iload 6, 2) := by decide +kernel
theorem dL_law_1033 : decode cL_law 1033 = .ok (.i2l, 1) := by decide +kernel
theorem dL_law_1034 : decode cL_law 1034 = .ok (.lcmp, 1) := by decide +kernel
theorem dL_law_1035 : decode cL_law 1035 = .ok (.ifCond .eq 5, 3) := by decide +kernel
theorem dL_law_1038 : decode cL_law 1038 = .ok (.iconst 0, 1) := by decide +kernel
theorem dL_law_1039 : decode cL_law 1039 = .ok (.ireturn, 1) := by decide +kernel
theorem dL_law_1040 : decode cL_law 1040 = .ok (.goto 419, 3) := by decide +kernel
theorem dL_law_1043 : decode cL_law 1043 = .ok (.aload_n 1, 1) := by decide +kernel
theorem dL_law_1044 : decode cL_law 1044 = .ok (.aload_n 0, 1) := by decide +kernel
theorem dL_law_1045 : decode cL_law 1045 = .ok (.iload 4, 2) := by decide +kernel
theorem dL_law_1047 : decode cL_law 1047 = .ok (.iconst 1, 1) := by decide +kernel
theorem dL_law_1048 : decode cL_law 1048 = .ok (.iadd, 1) := by decide +kernel
theorem dL_law_1049 : decode cL_law 1049 = .ok (.iaload, 1) := by decide +kernel
theorem dL_law_1050 : decode cL_law 1050 = .ok (.aload_n 3, 1) := by decide +kernel
theorem dL_law_1051 : decode cL_law 1051 = .ok (.invokestatic 146, 3) := by decide +kernel
theorem dL_law_1054 : decode cL_law 1054 = .ok (.istore 5, 2) := by decide +kernel
theorem dL_law_1056 : decode cL_law 1056 = .ok (.aload_n 2, 1) := by decide +kernel
theorem dL_law_1057 : decode cL_law 1057 = .ok (.aload_n 0, 1) := by decide +kernel
theorem dL_law_1058 : decode cL_law 1058 = .ok (.iload 4, 2) := by decide +kernel
theorem dL_law_1060 : decode cL_law 1060 = .ok (.iconst 1, 1) := by decide +kernel
theorem dL_law_1061 : decode cL_law 1061 = .ok (.iadd, 1) := by decide +kernel
theorem dL_law_1062 : decode cL_law 1062 = .ok (.iaload, 1) := by decide +kernel
theorem dL_law_1063 : decode cL_law 1063 = .ok (.invokevirtual 148, 3) := by decide +kernel
theorem dL_law_1066 : decode cL_law 1066 = .ok (.istore 6, 2) := by decide +kernel
theorem dL_law_1068 : decode cL_law 1068 = .ok (.aload_n 2, 1) := by decide +kernel
theorem dL_law_1069 : decode cL_law 1069 = .ok (.invokevirtual 89, 3) := by decide +kernel
theorem dL_law_1072 : decode cL_law 1072 = .ok (.iload 5, 2) := by decide +kernel
theorem dL_law_1074 : decode cL_law 1074 = .ok (.if_icmp .eq 5, 3) := by decide +kernel
theorem dL_law_1077 : decode cL_law 1077 = .ok (.iconst 0, 1) := by decide +kernel
theorem dL_law_1078 : decode cL_law 1078 = .ok (.ireturn, 1) := by decide +kernel
theorem dL_law_1079 : decode cL_law 1079 = .ok (.iload 5, 2) := by decide +kernel
theorem dL_law_1081 : decode cL_law 1081 = .ok (.ifCond .ne 15, 3) := by decide +kernel
theorem dL_law_1084 : decode cL_law 1084 = .ok (.aload_n 3, 1) := by decide +kernel
theorem dL_law_1085 : decode cL_law 1085 = .ok (.iconst 0, 1) := by decide +kernel
theorem dL_law_1086 : decode cL_law 1086 = .ok (.laload, 1) := by decide +kernel
theorem dL_law_1087 : decode cL_law 1087 = .ok (.iload 6, 2) := by decide +kernel
theorem dL_law_1089 : decode cL_law 1089 = .ok (.i2l, 1) := by decide +kernel
theorem dL_law_1090 : decode cL_law 1090 = .ok (.lcmp, 1) := by decide +kernel
theorem dL_law_1091 : decode cL_law 1091 = .ok (.ifCond .eq 5, 3) := by decide +kernel
theorem dL_law_1094 : decode cL_law 1094 = .ok (.iconst 0, 1) := by decide +kernel
theorem dL_law_1095 : decode cL_law 1095 = .ok (.ireturn, 1) := by decide +kernel
theorem dL_law_1096 : decode cL_law 1096 = .ok (.goto 363, 3) := by decide +kernel
theorem dL_law_1099 : decode cL_law 1099 = .ok (.aload_n 1, 1) := by decide +kernel
theorem dL_law_1100 : decode cL_law 1100 = .ok (.aload_n 0, 1) := by decide +kernel
theorem dL_law_1101 : decode cL_law 1101 = .ok (.iload 4, 2) := by decide +kernel
theorem dL_law_1103 : decode cL_law 1103 = .ok (.iconst 1, 1) := by decide +kernel
theorem dL_law_1104 : decode cL_law 1104 = .ok (.iadd, 1) := by decide +kernel
theorem dL_law_1105 : decode cL_law 1105 = .ok (.iaload, 1) := by decide +kernel
theorem dL_law_1106 : decode cL_law 1106 = .ok (.aload_n 3, 1) := by decide +kernel
theorem dL_law_1107 : decode cL_law 1107 = .ok (.invokestatic 149, 3) := by decide +kernel
theorem dL_law_1110 : decode cL_law 1110 = .ok (.istore 5, 2) := by decide +kernel
theorem dL_law_1112 : decode cL_law 1112 = .ok (.aload_n 2, 1) := by decide +kernel
theorem dL_law_1113 : decode cL_law 1113 = .ok (.aload_n 0, 1) := by decide +kernel
theorem dL_law_1114 : decode cL_law 1114 = .ok (.iload 4, 2) := by decide +kernel
theorem dL_law_1116 : decode cL_law 1116 = .ok (.iconst 1, 1) := by decide +kernel
theorem dL_law_1117 : decode cL_law 1117 = .ok (.iadd, 1) := by decide +kernel
theorem dL_law_1118 : decode cL_law 1118 = .ok (.iaload, 1) := by decide +kernel
theorem dL_law_1119 : decode cL_law 1119 = .ok (.invokevirtual 151, 3) := by decide +kernel
theorem dL_law_1122 : decode cL_law 1122 = .ok (.istore 6, 2) := by decide +kernel
theorem dL_law_1124 : decode cL_law 1124 = .ok (.aload_n 2, 1) := by decide +kernel
theorem dL_law_1125 : decode cL_law 1125 = .ok (.invokevirtual 89, 3) := by decide +kernel
theorem dL_law_1128 : decode cL_law 1128 = .ok (.iload 5, 2) := by decide +kernel
theorem dL_law_1130 : decode cL_law 1130 = .ok (.if_icmp .eq 5, 3) := by decide +kernel
theorem dL_law_1133 : decode cL_law 1133 = .ok (.iconst 0, 1) := by decide +kernel
theorem dL_law_1134 : decode cL_law 1134 = .ok (.ireturn, 1) := by decide +kernel
theorem dL_law_1135 : decode cL_law 1135 = .ok (.iload 5, 2) := by decide +kernel
theorem dL_law_1137 : decode cL_law 1137 = .ok (.ifCond .ne 15, 3) := by decide +kernel
theorem dL_law_1140 : decode cL_law 1140 = .ok (.aload_n 3, 1) := by decide +kernel
theorem dL_law_1141 : decode cL_law 1141 = .ok (.iconst 0, 1) := by decide +kernel
theorem dL_law_1142 : decode cL_law 1142 = .ok (.laload, 1) := by decide +kernel
theorem dL_law_1143 : decode cL_law 1143 = .ok (.iload 6, 2) := by decide +kernel
theorem dL_law_1145 : decode cL_law 1145 = .ok (.i2l, 1) := by decide +kernel
theorem dL_law_1146 : decode cL_law 1146 = .ok (.lcmp, 1) := by decide +kernel
theorem dL_law_1147 : decode cL_law 1147 = .ok (.ifCond .eq 5, 3) := by decide +kernel
theorem dL_law_1150 : decode cL_law 1150 = .ok (.iconst 0, 1) := by decide +kernel
theorem dL_law_1151 : decode cL_law 1151 = .ok (.ireturn, 1) := by decide +kernel
theorem dL_law_1152 : decode cL_law 1152 = .ok (.goto 307, 3) := by decide +kernel
theorem dL_law_1155 : decode cL_law 1155 = .ok (.aload_n 1, 1) := by decide +kernel
theorem dL_law_1156 : decode cL_law 1156 = .ok (.aload_n 0, 1) := by decide +kernel
theorem dL_law_1157 : decode cL_law 1157 = .ok (.iload 4, 2) := by decide +kernel
theorem dL_law_1159 : decode cL_law 1159 = .ok (.iconst 1, 1) := by decide +kernel
theorem dL_law_1160 : decode cL_law 1160 = .ok (.iadd, 1) := by decide +kernel
theorem dL_law_1161 : decode cL_law 1161 = .ok (.iaload, 1) := by decide +kernel
theorem dL_law_1162 : decode cL_law 1162 = .ok (.aload_n 0, 1) := by decide +kernel
theorem dL_law_1163 : decode cL_law 1163 = .ok (.iload 4, 2) := by decide +kernel
theorem dL_law_1165 : decode cL_law 1165 = .ok (.iconst 2, 1) := by decide +kernel
theorem dL_law_1166 : decode cL_law 1166 = .ok (.iadd, 1) := by decide +kernel
theorem dL_law_1167 : decode cL_law 1167 = .ok (.iaload, 1) := by decide +kernel
theorem dL_law_1168 : decode cL_law 1168 = .ok (.aload_n 3, 1) := by decide +kernel
theorem dL_law_1169 : decode cL_law 1169 = .ok (.invokestatic 152, 3) := by decide +kernel
theorem dL_law_1172 : decode cL_law 1172 = .ok (.istore 5, 2) := by decide +kernel
theorem dL_law_1174 : decode cL_law 1174 = .ok (.aload_n 2, 1) := by decide +kernel
theorem dL_law_1175 : decode cL_law 1175 = .ok (.aload_n 0, 1) := by decide +kernel
theorem dL_law_1176 : decode cL_law 1176 = .ok (.iload 4, 2) := by decide +kernel
theorem dL_law_1178 : decode cL_law 1178 = .ok (.iconst 1, 1) := by decide +kernel
theorem dL_law_1179 : decode cL_law 1179 = .ok (.iadd, 1) := by decide +kernel
theorem dL_law_1180 : decode cL_law 1180 = .ok (.iaload, 1) := by decide +kernel
theorem dL_law_1181 : decode cL_law 1181 = .ok (.aload_n 0, 1) := by decide +kernel
theorem dL_law_1182 : decode cL_law 1182 = .ok (.iload 4, 2) := by decide +kernel
theorem dL_law_1184 : decode cL_law 1184 = .ok (.iconst 2, 1) := by decide +kernel
theorem dL_law_1185 : decode cL_law 1185 = .ok (.iadd, 1) := by decide +kernel
theorem dL_law_1186 : decode cL_law 1186 = .ok (.iaload, 1) := by decide +kernel
theorem dL_law_1187 : decode cL_law 1187 = .ok (.invokevirtual 154, 3) := by decide +kernel
theorem dL_law_1190 : decode cL_law 1190 = .ok (.istore 6, 2) := by decide +kernel
theorem dL_law_1192 : decode cL_law 1192 = .ok (.aload_n 2, 1) := by decide +kernel
theorem dL_law_1193 : decode cL_law 1193 = .ok (.invokevirtual 89, 3) := by decide +kernel
theorem dL_law_1196 : decode cL_law 1196 = .ok (.iload 5, 2) := by decide +kernel
theorem dL_law_1198 : decode cL_law 1198 = .ok (.if_icmp .eq 5, 3) := by decide +kernel
theorem dL_law_1201 : decode cL_law 1201 = .ok (.iconst 0, 1) := by decide +kernel
theorem dL_law_1202 : decode cL_law 1202 = .ok (.ireturn, 1) := by decide +kernel
theorem dL_law_1203 : decode cL_law 1203 = .ok (.iload 5, 2) := by decide +kernel
theorem dL_law_1205 : decode cL_law 1205 = .ok (.ifCond .ne 15, 3) := by decide +kernel
theorem dL_law_1208 : decode cL_law 1208 = .ok (.aload_n 3, 1) := by decide +kernel
theorem dL_law_1209 : decode cL_law 1209 = .ok (.iconst 0, 1) := by decide +kernel
theorem dL_law_1210 : decode cL_law 1210 = .ok (.laload, 1) := by decide +kernel
theorem dL_law_1211 : decode cL_law 1211 = .ok (.iload 6, 2) := by decide +kernel
theorem dL_law_1213 : decode cL_law 1213 = .ok (.i2l, 1) := by decide +kernel
theorem dL_law_1214 : decode cL_law 1214 = .ok (.lcmp, 1) := by decide +kernel
theorem dL_law_1215 : decode cL_law 1215 = .ok (.ifCond .eq 5, 3) := by decide +kernel
theorem dL_law_1218 : decode cL_law 1218 = .ok (.iconst 0, 1) := by decide +kernel
theorem dL_law_1219 : decode cL_law 1219 = .ok (.ireturn, 1) := by decide +kernel
theorem dL_law_1220 : decode cL_law 1220 = .ok (.goto 239, 3) := by decide +kernel
theorem dL_law_1223 : decode cL_law 1223 = .ok (.aload_n 1, 1) := by decide +kernel
theorem dL_law_1224 : decode cL_law 1224 = .ok (.aload_n 0, 1) := by decide +kernel
theorem dL_law_1225 : decode cL_law 1225 = .ok (.iload 4, 2) := by decide +kernel
theorem dL_law_1227 : decode cL_law 1227 = .ok (.iconst 1, 1) := by decide +kernel
theorem dL_law_1228 : decode cL_law 1228 = .ok (.iadd, 1) := by decide +kernel
theorem dL_law_1229 : decode cL_law 1229 = .ok (.iaload, 1) := by decide +kernel
theorem dL_law_1230 : decode cL_law 1230 = .ok (.aload_n 3, 1) := by decide +kernel
theorem dL_law_1231 : decode cL_law 1231 = .ok (.invokestatic 155, 3) := by decide +kernel
theorem dL_law_1234 : decode cL_law 1234 = .ok (.istore 5, 2) := by decide +kernel
theorem dL_law_1236 : decode cL_law 1236 = .ok (.aload_n 2, 1) := by decide +kernel
theorem dL_law_1237 : decode cL_law 1237 = .ok (.aload_n 0, 1) := by decide +kernel
theorem dL_law_1238 : decode cL_law 1238 = .ok (.iload 4, 2) := by decide +kernel
theorem dL_law_1240 : decode cL_law 1240 = .ok (.iconst 1, 1) := by decide +kernel
theorem dL_law_1241 : decode cL_law 1241 = .ok (.iadd, 1) := by decide +kernel
theorem dL_law_1242 : decode cL_law 1242 = .ok (.iaload, 1) := by decide +kernel
theorem dL_law_1243 : decode cL_law 1243 = .ok (.invokevirtual 157, 3) := by decide +kernel
theorem dL_law_1246 : decode cL_law 1246 = .ok (.istore 6, 2) := by decide +kernel
theorem dL_law_1248 : decode cL_law 1248 = .ok (.aload_n 2, 1) := by decide +kernel
theorem dL_law_1249 : decode cL_law 1249 = .ok (.invokevirtual 89, 3) := by decide +kernel
theorem dL_law_1252 : decode cL_law 1252 = .ok (.iload 5, 2) := by decide +kernel
theorem dL_law_1254 : decode cL_law 1254 = .ok (.if_icmp .eq 5, 3) := by decide +kernel
theorem dL_law_1257 : decode cL_law 1257 = .ok (.iconst 0, 1) := by decide +kernel
theorem dL_law_1258 : decode cL_law 1258 = .ok (.ireturn, 1) := by decide +kernel
theorem dL_law_1259 : decode cL_law 1259 = .ok (.iload 5, 2) := by decide +kernel
theorem dL_law_1261 : decode cL_law 1261 = .ok (.ifCond .ne 15, 3) := by decide +kernel
theorem dL_law_1264 : decode cL_law 1264 = .ok (.aload_n 3, 1) := by decide +kernel
theorem dL_law_1265 : decode cL_law 1265 = .ok (.iconst 0, 1) := by decide +kernel
theorem dL_law_1266 : decode cL_law 1266 = .ok (.laload, 1) := by decide +kernel
theorem dL_law_1267 : decode cL_law 1267 = .ok (.iload 6, 2) := by decide +kernel
theorem dL_law_1269 : decode cL_law 1269 = .ok (.i2l, 1) := by decide +kernel
theorem dL_law_1270 : decode cL_law 1270 = .ok (.lcmp, 1) := by decide +kernel
theorem dL_law_1271 : decode cL_law 1271 = .ok (.ifCond .eq 5, 3) := by decide +kernel
theorem dL_law_1274 : decode cL_law 1274 = .ok (.iconst 0, 1) := by decide +kernel
theorem dL_law_1275 : decode cL_law 1275 = .ok (.ireturn, 1) := by decide +kernel
theorem dL_law_1276 : decode cL_law 1276 = .ok (.goto 183, 3) := by decide +kernel
theorem dL_law_1279 : decode cL_law 1279 = .ok (.aload_n 1, 1) := by decide +kernel
theorem dL_law_1280 : decode cL_law 1280 = .ok (.aload_n 0, 1) := by decide +kernel
theorem dL_law_1281 : decode cL_law 1281 = .ok (.iload 4, 2) := by decide +kernel
theorem dL_law_1283 : decode cL_law 1283 = .ok (.iconst 1, 1) := by decide +kernel
theorem dL_law_1284 : decode cL_law 1284 = .ok (.iadd, 1) := by decide +kernel
theorem dL_law_1285 : decode cL_law 1285 = .ok (.iaload, 1) := by decide +kernel
theorem dL_law_1286 : decode cL_law 1286 = .ok (.aload_n 3, 1) := by decide +kernel
theorem dL_law_1287 : decode cL_law 1287 = .ok (.invokestatic 158, 3) := by decide +kernel
theorem dL_law_1290 : decode cL_law 1290 = .ok (.istore 5, 2) := by decide +kernel
theorem dL_law_1292 : decode cL_law 1292 = .ok (.aload_n 2, 1) := by decide +kernel
theorem dL_law_1293 : decode cL_law 1293 = .ok (.aload_n 0, 1) := by decide +kernel
theorem dL_law_1294 : decode cL_law 1294 = .ok (.iload 4, 2) := by decide +kernel
theorem dL_law_1296 : decode cL_law 1296 = .ok (.iconst 1, 1) := by decide +kernel
theorem dL_law_1297 : decode cL_law 1297 = .ok (.iadd, 1) := by decide +kernel
theorem dL_law_1298 : decode cL_law 1298 = .ok (.iaload, 1) := by decide +kernel
theorem dL_law_1299 : decode cL_law 1299 = .ok (.invokevirtual 160, 3) := by decide +kernel
theorem dL_law_1302 : decode cL_law 1302 = .ok (.istore 6, 2) := by decide +kernel
theorem dL_law_1304 : decode cL_law 1304 = .ok (.aload_n 2, 1) := by decide +kernel
theorem dL_law_1305 : decode cL_law 1305 = .ok (.invokevirtual 89, 3) := by decide +kernel
theorem dL_law_1308 : decode cL_law 1308 = .ok (.iload 5, 2) := by decide +kernel
theorem dL_law_1310 : decode cL_law 1310 = .ok (.if_icmp .eq 5, 3) := by decide +kernel
theorem dL_law_1313 : decode cL_law 1313 = .ok (.iconst 0, 1) := by decide +kernel
theorem dL_law_1314 : decode cL_law 1314 = .ok (.ireturn, 1) := by decide +kernel
theorem dL_law_1315 : decode cL_law 1315 = .ok (.iload 5, 2) := by decide +kernel
theorem dL_law_1317 : decode cL_law 1317 = .ok (.ifCond .ne 15, 3) := by decide +kernel
theorem dL_law_1320 : decode cL_law 1320 = .ok (.aload_n 3, 1) := by decide +kernel
theorem dL_law_1321 : decode cL_law 1321 = .ok (.iconst 0, 1) := by decide +kernel
theorem dL_law_1322 : decode cL_law 1322 = .ok (.laload, 1) := by decide +kernel
theorem dL_law_1323 : decode cL_law 1323 = .ok (.iload 6, 2) := by decide +kernel
theorem dL_law_1325 : decode cL_law 1325 = .ok (.i2l, 1) := by decide +kernel
theorem dL_law_1326 : decode cL_law 1326 = .ok (.lcmp, 1) := by decide +kernel
theorem dL_law_1327 : decode cL_law 1327 = .ok (.ifCond .eq 5, 3) := by decide +kernel
theorem dL_law_1330 : decode cL_law 1330 = .ok (.iconst 0, 1) := by decide +kernel
theorem dL_law_1331 : decode cL_law 1331 = .ok (.ireturn, 1) := by decide +kernel
theorem dL_law_1332 : decode cL_law 1332 = .ok (.goto 127, 3) := by decide +kernel
theorem dL_law_1335 : decode cL_law 1335 = .ok (.aload_n 1, 1) := by decide +kernel
theorem dL_law_1336 : decode cL_law 1336 = .ok (.invokevirtual 161, 3) := by decide +kernel
theorem dL_law_1339 : decode cL_law 1339 = .ok (.aload_n 2, 1) := by decide +kernel
theorem dL_law_1340 : decode cL_law 1340 = .ok (.invokevirtual 164, 3) := by decide +kernel
theorem dL_law_1343 : decode cL_law 1343 = .ok (.if_icmp .eq 116, 3) := by decide +kernel
theorem dL_law_1346 : decode cL_law 1346 = .ok (.iconst 0, 1) := by decide +kernel
theorem dL_law_1347 : decode cL_law 1347 = .ok (.ireturn, 1) := by decide +kernel
theorem dL_law_1348 : decode cL_law 1348 = .ok (.aload_n 1, 1) := by decide +kernel
theorem dL_law_1349 : decode cL_law 1349 = .ok (.aload_n 0, 1) := by decide +kernel
theorem dL_law_1350 : decode cL_law 1350 = .ok (.iload 4, 2) := by decide +kernel
theorem dL_law_1352 : decode cL_law 1352 = .ok (.iconst 1, 1) := by decide +kernel
theorem dL_law_1353 : decode cL_law 1353 = .ok (.iadd, 1) := by decide +kernel
theorem dL_law_1354 : decode cL_law 1354 = .ok (.iaload, 1) := by decide +kernel
theorem dL_law_1355 : decode cL_law 1355 = .ok (.aload_n 3, 1) := by decide +kernel
theorem dL_law_1356 : decode cL_law 1356 = .ok (.invokestatic 165, 3) := by decide +kernel
theorem dL_law_1359 : decode cL_law 1359 = .ok (.istore 5, 2) := by decide +kernel
theorem dL_law_1361 : decode cL_law 1361 = .ok (.aload_n 2, 1) := by decide +kernel
theorem dL_law_1362 : decode cL_law 1362 = .ok (.aload_n 0, 1) := by decide +kernel
theorem dL_law_1363 : decode cL_law 1363 = .ok (.iload 4, 2) := by decide +kernel
theorem dL_law_1365 : decode cL_law 1365 = .ok (.iconst 1, 1) := by decide +kernel
theorem dL_law_1366 : decode cL_law 1366 = .ok (.iadd, 1) := by decide +kernel
theorem dL_law_1367 : decode cL_law 1367 = .ok (.iaload, 1) := by decide +kernel
theorem dL_law_1368 : decode cL_law 1368 = .ok (.invokevirtual 167, 3) := by decide +kernel
theorem dL_law_1371 : decode cL_law 1371 = .ok (.istore 6, 2) := by decide +kernel
theorem dL_law_1373 : decode cL_law 1373 = .ok (.aload_n 2, 1) := by decide +kernel
theorem dL_law_1374 : decode cL_law 1374 = .ok (.invokevirtual 89, 3) := by decide +kernel
theorem dL_law_1377 : decode cL_law 1377 = .ok (.iload 5, 2) := by decide +kernel
theorem dL_law_1379 : decode cL_law 1379 = .ok (.if_icmp .eq 5, 3) := by decide +kernel
theorem dL_law_1382 : decode cL_law 1382 = .ok (.iconst 0, 1) := by decide +kernel
theorem dL_law_1383 : decode cL_law 1383 = .ok (.ireturn, 1) := by decide +kernel
theorem dL_law_1384 : decode cL_law 1384 = .ok (.iload 5, 2) := by decide +kernel
theorem dL_law_1386 : decode cL_law 1386 = .ok (.ifCond .ne 15, 3) := by decide +kernel
theorem dL_law_1389 : decode cL_law 1389 = .ok (.aload_n 3, 1) := by decide +kernel
theorem dL_law_1390 : decode cL_law 1390 = .ok (.iconst 0, 1) := by decide +kernel
theorem dL_law_1391 : decode cL_law 1391 = .ok (.laload, 1) := by decide +kernel
theorem dL_law_1392 : decode cL_law 1392 = .ok (.iload 6, 2) := by decide +kernel
theorem dL_law_1394 : decode cL_law 1394 = .ok (.i2l, 1) := by decide +kernel
theorem dL_law_1395 : decode cL_law 1395 = .ok (.lcmp, 1) := by decide +kernel
theorem dL_law_1396 : decode cL_law 1396 = .ok (.ifCond .eq 5, 3) := by decide +kernel
theorem dL_law_1399 : decode cL_law 1399 = .ok (.iconst 0, 1) := by decide +kernel
theorem dL_law_1400 : decode cL_law 1400 = .ok (.ireturn, 1) := by decide +kernel
theorem dL_law_1401 : decode cL_law 1401 = .ok (.goto 58, 3) := by decide +kernel
theorem dL_law_1404 : decode cL_law 1404 = .ok (.aload_n 1, 1) := by decide +kernel
theorem dL_law_1405 : decode cL_law 1405 = .ok (.invokevirtual 168, 3) := by decide +kernel
theorem dL_law_1408 : decode cL_law 1408 = .ok (.dstore 5, 2) := by decide +kernel
theorem dL_law_1410 : decode cL_law 1410 = .ok (.aload_n 2, 1) := by decide +kernel
theorem dL_law_1411 : decode cL_law 1411 = .ok (.invokevirtual 172, 3) := by decide +kernel
theorem dL_law_1414 : decode cL_law 1414 = .ok (.dstore 7, 2) := by decide +kernel
theorem dL_law_1416 : decode cL_law 1416 = .ok (.dload 5, 2) := by decide +kernel
theorem dL_law_1418 : decode cL_law 1418 = .ok (.dload 7, 2) := by decide +kernel
theorem dL_law_1420 : decode cL_law 1420 = .ok (.dcmp .l, 1) := by decide +kernel
theorem dL_law_1421 : decode cL_law 1421 = .ok (.ifCond .eq 21, 3) := by decide +kernel
theorem dL_law_1424 : decode cL_law 1424 = .ok (.dload 5, 2) := by decide +kernel
theorem dL_law_1426 : decode cL_law 1426 = .ok (.dload 5, 2) := by decide +kernel
theorem dL_law_1428 : decode cL_law 1428 = .ok (.dcmp .l, 1) := by decide +kernel
theorem dL_law_1429 : decode cL_law 1429 = .ok (.ifCond .eq 11, 3) := by decide +kernel
theorem dL_law_1432 : decode cL_law 1432 = .ok (.dload 7, 2) := by decide +kernel
theorem dL_law_1434 : decode cL_law 1434 = .ok (.dload 7, 2) := by decide +kernel
theorem dL_law_1436 : decode cL_law 1436 = .ok (.dcmp .l, 1) := by decide +kernel
theorem dL_law_1437 : decode cL_law 1437 = .ok (.ifCond .ne 5, 3) := by decide +kernel
theorem dL_law_1440 : decode cL_law 1440 = .ok (.iconst 0, 1) := by decide +kernel
theorem dL_law_1441 : decode cL_law 1441 = .ok (.ireturn, 1) := by decide +kernel
theorem dL_law_1442 : decode cL_law 1442 = .ok (.goto 17, 3) := by decide +kernel
theorem dL_law_1445 : decode cL_law 1445 = .ok (.aload_n 1, 1) := by decide +kernel
theorem dL_law_1446 : decode cL_law 1446 = .ok (.invokevirtual 173, 3) := by decide +kernel
theorem dL_law_1449 : decode cL_law 1449 = .ok (.aload_n 2, 1) := by decide +kernel
theorem dL_law_1450 : decode cL_law 1450 = .ok (.invokevirtual 177, 3) := by decide +kernel
theorem dL_law_1453 : decode cL_law 1453 = .ok (.lcmp, 1) := by decide +kernel
theorem dL_law_1454 : decode cL_law 1454 = .ok (.ifCond .eq 5, 3) := by decide +kernel
theorem dL_law_1457 : decode cL_law 1457 = .ok (.iconst 0, 1) := by decide +kernel
theorem dL_law_1458 : decode cL_law 1458 = .ok (.ireturn, 1) := by decide +kernel
theorem dL_law_1459 : decode cL_law 1459 = .ok (.iinc 4 3, 3) := by decide +kernel
theorem dL_law_1462 : decode cL_law 1462 = .ok (.goto (-1439), 3) := by decide +kernel
theorem dL_law_1465 : decode cL_law 1465 = .ok (.iconst 1, 1) := by decide +kernel
theorem dL_law_1466 : decode cL_law 1466 = .ok (.ireturn, 1) := by decide +kernel
abbrev vwCl : List vw_C := [(RX0, TX0, 6), (RX1, TX1, 7), (RX2, TX2, 2), (RX3, TX3, 3), (RX4, TX4, 5), (RX5, TX5, 3), (RX6, TX6, 12)]
end
section
/-! ===== THE WORLD BY NAMES: a thing's name is (kind, place); what it holds: M.1 kind place slot, the longs M.2 ===== -/
abbrev XM : Type := (Nat → Nat → Nat → Int32) × (Nat → Int64)
def xset (M : XM) (j i k : Nat) (v : Int32) : XM := (fun a b c => if a = j ∧ b = i ∧ c = k then v else M.1 a b c, M.2)
def xsetJ (M : XM) (k : Nat) (v : Int64) : XM := (M.1, fun a => if a = k then v else M.2 a)
def bO {α β : Type} (t : Option (α × XM)) (k : α → XM → Option β) : Option β := match t with
  | some q => k q.1 q.2
  | none => none
def bI {α β : Type} (a : α) (k : α → β) : β := k a
def gd {β : Type} (b : Prop) [Decidable b] (t : Option β) : Option β := if b then t else none
/-- an environment: the classes' numbers, the array classes, the addresses by names, the law's floor, the static row's cell, the texts' cells -/
abbrev XE : Type := va_G × (ClassId × ClassId × ClassId) × (Nat → Nat → Nat) × Nat × Nat × (Nat → Nat)
abbrev eD (E : XE) : va_G := E.1
abbrev eI (E : XE) : ClassId := E.2.1.1
abbrev eJ (E : XE) : ClassId := E.2.1.2.1
abbrev eR (E : XE) : ClassId := E.2.1.2.2
abbrev eA (E : XE) : Nat → Nat → Nat := E.2.2.1
abbrev elo (E : XE) : Nat := E.2.2.2.1
abbrev eS (E : XE) : Nat := E.2.2.2.2.1
abbrev eT (E : XE) : Nat → Nat := E.2.2.2.2.2
def eLo (E : XE) : Nat → Prop := fun q => elo E ≤ q
abbrev eTys (E : XE) : List (ClassId × FieldType) := [(eI E, .int), (eJ E, .long), (eR E, .object "SumBlocks$Memory")]
def xlen (j : Nat) : Nat := match j with
  | 3 => 313
  | 4 => 313
  | 5 => 313
  | 6 => 313
  | 7 => 24
  | 8 => 2
  | 13 => 60
  | 15 => 1312
  | 16 => 7872
  | 17 => 60
  | 18 => 1312
  | 19 => 44
  | _ => 0
def xrow (E : XE) (M : XM) (n j i : Nat) : va_E := .inl (eI E, n, .inl (M.1 j i))
def x_cell (E : XE) (M : XM) (j i : Nat) : va_E := match j with
  | 0 => .inr (1, [.ref (eA E 1 i), .ref (eA E 2 i), .ref (eA E 7 i), .ref (eA E 8 i), .int (M.1 0 i 4), .int (M.1 0 i 5), .int (M.1 0 i 6)])
  | 1 => .inr (0, [.ref (eA E 3 i), .ref (eA E 4 i), .ref (eA E 5 i), .ref (eA E 6 i), .int (M.1 1 i 4), .int (M.1 1 i 5)])
  | 2 => .inr (4, [.int (M.1 2 i 0), .int (M.1 2 i 1), .int (M.1 2 i 2), .int (M.1 2 i 3), .int (M.1 2 i 4)])
  | 3 => xrow E M 313 3 i
  | 4 => xrow E M 313 4 i
  | 5 => xrow E M 313 5 i
  | 6 => xrow E M 313 6 i
  | 7 => xrow E M 24 7 i
  | 8 => xrow E M 2 8 i
  | 9 => .inr (5, [.ref (eA E 0 i), .ref (eA E 10 i), .ref (eA E 12 i)])
  | 10 => .inr (3, [.ref (eA E 11 i), .int (M.1 10 i 1), .int (M.1 10 i 2)])
  | 11 => .inl (eR E, 6, .inr (.inr (.inr (.inr (fun k => some (eA E 0 (k + 1)))))))
  | 12 => .inr (2, [.ref (eA E 13 i), .int (M.1 12 i 1)])
  | 13 => xrow E M 60 13 i
  | 14 => .inr (6, [.ref (eA E 15 i), .int (M.1 14 i 1), .ref (eA E 16 i), .int (M.1 14 i 3), .ref (eA E 17 i), .int (M.1 14 i 5), .ref (eA E 18 i), .ref (eA E 19 i), .int (M.1 14 i 8), .int (M.1 14 i 9), .int (M.1 14 i 10), .long (M.2 (2 * i))])
  | 15 => xrow E M 1312 15 i
  | 16 => xrow E M 7872 16 i
  | 17 => xrow E M 60 17 i
  | 18 => xrow E M 1312 18 i
  | 19 => xrow E M 44 19 i
  | _ => .inl (eJ E, 1, .inr (.inl (fun k => M.2 (2 * k + 1))))
theorem x_cell_congr (E : XE) {M M' : XM} {i : Nat} : ∀ {j : Nat}, M'.1 j i = M.1 j i → M'.2 = M.2 → x_cell E M' j i = x_cell E M j i
  | 0, h, g | 1, h, g | 2, h, g | 3, h, g | 4, h, g | 5, h, g | 6, h, g | 7, h, g | 8, h, g | 9, h, g | 10, h, g | 11, h, g | 12, h, g | 13, h, g | 14, h, g | 15, h, g | 16, h, g | 17, h, g | 18, h, g | 19, h, g | _ + 20, h, g => by simp only [x_cell, xrow, h, g]
theorem xset_ne (M : XM) {j i k a b : Nat} {v : Int32} (h : ¬ (a = j ∧ b = i)) : (xset M j i k v).1 a b = M.1 a b := by
  funext c
  simp only [xset]
  rw [if_neg]
  exact fun z => h ⟨z.1, z.2.1⟩
theorem xset_row (M : XM) (j i k : Nat) (v : Int32) : (xset M j i k v).1 j i = upd (M.1 j i) k v := by
  funext c
  simp [xset, upd]
/-- the cells of the named things -/
def xW (E : XE) (L : List (Nat × Nat)) (M : XM) : va_W := L.map (fun q => (eA E q.1 q.2, x_cell E M q.1 q.2))
theorem xW_get (E : XE) {L : List (Nat × Nat)} (M : XM) {j i : Nat} (h : (j, i) ∈ L) : ∃ q0 : Nat, L[q0]? = some (j, i) ∧ (xW E L M)[q0]? = some (eA E j i, x_cell E M j i) := by
  obtain ⟨q0, hq⟩ := List.getElem?_of_mem h
  exact ⟨q0, hq, by rw [xW, List.getElem?_map, hq]; rfl⟩
theorem xW_set (E : XE) {L : List (Nat × Nat)} {M M' : XM} {j i q0 : Nat} (hn : L.Nodup) (hq : L[q0]? = some (j, i)) (hx : ∀ a b, ¬ (a = j ∧ b = i) → x_cell E M' a b = x_cell E M a b) {ce : va_E} (hc : ce = x_cell E M' j i) : (xW E L M).set q0 (eA E j i, ce) = xW E L M' := by
  subst hc
  refine List.ext_getElem? fun k => ?_
  have hl : q0 < L.length := (List.getElem?_eq_some_iff.mp hq).1
  by_cases hk : q0 = k
  · subst hk
    rw [List.getElem?_set_self (by simpa [xW] using hl), xW, List.getElem?_map, hq]
    rfl
  · rw [List.getElem?_set_ne hk, xW, xW, List.getElem?_map, List.getElem?_map]
    cases hL : L[k]? with
    | none => rfl
    | some q =>
      obtain ⟨a, b⟩ := q
      have hab : ¬ (a = j ∧ b = i) := by
        rintro ⟨rfl, rfl⟩
        obtain ⟨hl2, h2⟩ := List.getElem?_eq_some_iff.mp hL
        obtain ⟨_, h1⟩ := List.getElem?_eq_some_iff.mp hq
        exact hk ((List.getElem_inj (h₀ := hl) (h₁ := hl2) hn).mp (h1.trans h2.symm))
      show some (eA E a b, x_cell E M a b) = some (eA E a b, x_cell E M' a b)
      rw [hx a b hab]
theorem xD_any {A : Nat → Prop} (E : XE) {L : List (Nat × Nat)} {M M' : XM} (h : va_D A (xW E L M)) : va_D A (xW E L M') := by
  have key : ∀ (k : Nat) (q : Nat × va_E), (xW E L M')[k]? = some q → ∃ q2, (xW E L M)[k]? = some q2 ∧ q2.1 = q.1 := by
    intro k q hk
    rw [xW, List.getElem?_map] at hk
    cases hL : L[k]? with
    | none => rw [hL] at hk; cases hk
    | some z =>
      rw [hL] at hk
      cases hk
      exact ⟨(eA E z.1 z.2, x_cell E M z.1 z.2), by rw [xW, List.getElem?_map, hL]; rfl, rfl⟩
  refine ⟨fun a b x y hx hy hxy => ?_, fun k q hk => ?_⟩
  · obtain ⟨x2, e1, e2⟩ := key a x hx
    obtain ⟨y2, e3, e4⟩ := key b y hy
    exact h.1 a b x2 y2 e1 e3 (e2.trans (hxy.trans e4.symm))
  · obtain ⟨x2, e1, e2⟩ := key k q hk
    rw [← e2]
    exact h.2 k x2 e1
/-- the static row of sizes -/
def xSz : Nat → Int32 := fun k => match k with
  | 0 => 1
  | 1 => 2
  | 2 => 3
  | 3 => 5
  | 4 => 8
  | 5 => 13
  | 6 => 21
  | 7 => 34
  | 8 => 55
  | 9 => 89
  | 10 => 144
  | 11 => 233
  | 12 => 377
  | 13 => 610
  | 14 => 987
  | _ => 0
def xNestF : List (String × Nat × String × String × String × String) := [("SumBlocks$Memory", 146, "SumBlocks$Blocks", "many", "I", "SumBlocks"), ("SumBlocks", 244, "SumBlocks$Blocks", "many", "I", "SumBlocks"), ("SumBlocks$Span", 36, "SumBlocks$Blocks", "top", "I", "SumBlocks"), ("SumBlocks", 181, "SumBlocks$Blocks", "top", "I", "SumBlocks"), ("SumBlocks$Memory", 143, "SumBlocks$Blocks", "top", "I", "SumBlocks"), ("SumBlocks$Blocks", 72, "SumBlocks$Span", "left", "I", "SumBlocks"), ("SumBlocks$Blocks", 67, "SumBlocks$Span", "right", "I", "SumBlocks"), ("SumBlocks$Blocks", 75, "SumBlocks$Span", "order", "I", "SumBlocks"), ("SumBlocks$Memory", 117, "SumBlocks$Span", "order", "I", "SumBlocks"), ("SumBlocks$Blocks", 78, "SumBlocks$Span", "count", "I", "SumBlocks"), ("SumBlocks$Memory", 113, "SumBlocks$Span", "joins", "I", "SumBlocks"), ("SumBlocks", 160, "SumBlocks$Memory", "blocks", "LSumBlocks$Blocks;", "SumBlocks"), ("SumBlocks", 149, "SumBlocks$SavedStates", "many", "I", "SumBlocks"), ("SumBlocks", 133, "SumBlocks$OrderText", "length", "I", "SumBlocks")]
def xNestM : List (String × Nat × MethodName × String) := [("SumBlocks", 9, ⟨"SumBlocks$Memory", "<init>", "()V"⟩, "SumBlocks"), ("SumBlocks$Memory", 11, ⟨"SumBlocks$Blocks", "<init>", "()V"⟩, "SumBlocks"), ("SumBlocks$Memory", 20, ⟨"SumBlocks$Span", "<init>", "()V"⟩, "SumBlocks"), ("SumBlocks$SavedStates", 17, ⟨"SumBlocks$Memory", "<init>", "()V"⟩, "SumBlocks"), ("SumBlocks", 25, ⟨"SumBlocks$OrderText", "<init>", "()V"⟩, "SumBlocks"), ("SumBlocks$Blocks", 47, ⟨"SumBlocks", "putAt", "([III)V"⟩, "SumBlocks"), ("SumBlocks$Memory", 36, ⟨"SumBlocks", "putAt", "([III)V"⟩, "SumBlocks"), ("SumBlocks$SavedStates", 42, ⟨"SumBlocks", "isBelow", "(II)Z"⟩, "SumBlocks"), ("SumBlocks$Blocks", 35, ⟨"SumBlocks", "copyRow", "([I[II)V"⟩, "SumBlocks"), ("SumBlocks$Memory", 44, ⟨"SumBlocks", "copyRow", "([I[II)V"⟩, "SumBlocks"), ("SumBlocks$Memory", 62, ⟨"SumBlocks", "valueAt", "([II)I"⟩, "SumBlocks"), ("SumBlocks$Blocks", 91, ⟨"SumBlocks", "valueAt", "([II)I"⟩, "SumBlocks"), ("SumBlocks$OrderText", 23, ⟨"SumBlocks", "valueAt", "([II)I"⟩, "SumBlocks"), ("SumBlocks$Memory", 120, ⟨"SumBlocks", "sizeOf", "(I)I"⟩, "SumBlocks"), ("SumBlocks$Blocks", 64, ⟨"SumBlocks", "sizeOf", "(I)I"⟩, "SumBlocks"), ("SumBlocks$Memory", 73, ⟨"SumBlocks", "leastOrderFor", "(I)I"⟩, "SumBlocks"), ("SumBlocks$OrderText", 19, ⟨"SumBlocks", "putAt", "([III)V"⟩, "SumBlocks")]
def xStr : List (String × Nat × String × Nat) := [("SumBlocks", 36, "order is not 3 to 14", 0), ("SumBlocks", 53, "cells is not 1 to 999", 1), ("SumBlocks", 60, "there are 24 uses, or no free block does", 2), ("SumBlocks", 69, "there is no such use", 3), ("SumBlocks", 81, "no such use, or cells is out of range or too few", 4), ("SumBlocks", 87, "the use cannot grow", 5), ("SumBlocks", 93, "no such use, or cells is out of range", 6), ("SumBlocks", 103, "there is no such setting", 7), ("SumBlocks", 106, "value is not 0 or 1", 8), ("SumBlocks", 111, "code is not 33 to 126", 9), ("SumBlocks", 117, "the buffer has 60 characters", 10), ("SumBlocks", 131, "the buffer is not a complete row of orders", 11), ("SumBlocks", 152, "there is no saved state", 12), ("SumBlocks", 158, "order is not 0 to 14", 13), ("SumBlocks", 169, "there are not so many blocks", 14), ("SumBlocks", 171, "what is not 0 to 4", 15), ("SumBlocks", 176, "use is not 0 to 23", 16), ("SumBlocks", 184, "there is no such cell", 17), ("SumBlocks", 193, "what is not 0 to 12", 18), ("SumBlocks", 201, "cells is not 1 to 999, or what is not 0 to 3", 19)]
/-- what stays through the whole run: the tables, the static row, the words between nest mates, what a throw reads -/
def SP (E : XE) (U : State) : Prop := va_K (eD E) vwCl (eTys E) U ∧ va_Z "SumBlocks" "SIZES" "[I" (.ref (eS E)) (eLo E) U U.heap ∧ va_X (eS E) 15 xSz U U.heap ∧ eS E < elo E ∧ elo E ≤ U.heap.size ∧ (∀ q ∈ xNestF, va_Nw (.fieldLinkNest q.1 q.2.1 q.2.2.1 q.2.2.2.1 q.2.2.2.2.1 q.2.2.2.2.2) U) ∧ (∀ q ∈ xNestM, va_Nw (.methodLinkNest q.1 q.2.1 q.2.2.1 q.2.2.2) U) ∧ vx_Zq Bundle.tN "UNASSIGNED_STACK" Bundle.steD (eLo E) U U.heap ∧ vx_Zq Bundle.tN "SUPPRESSED_SENTINEL" Bundle.listD (eLo E) U U.heap ∧ (∀ q ∈ xStr, vk_R q.1 q.2.1 q.2.2.1 (eT E q.2.2.2) U)
theorem SP.move {E : XE} {s U : State} (h : SP E s) (hW : s.WarmedH U.vm) (hz : s.heap.size ≤ U.heap.size) (hH : ∀ q : Nat, q < s.heap.size → ¬ eLo E q → U.heap[q]? = s.heap[q]?) : SP E U := by
  obtain ⟨h1, h2, h3, h4, h5, h6, h7, h8, h9, h10⟩ := h
  have h4' : ¬ eLo E (eS E) := Nat.not_le.mpr h4
  refine ⟨va_K.moved hW.alike h1, va_Z.moved hW.alike (h2.kept hH), (va_X.moved hW.alike (h3.kept (hH _ (Nat.lt_of_lt_of_le h4 h5) h4'))), h4, Nat.le_trans h5 hz, fun q hq => va_Nw.warmF hW (h6 q hq), fun q hq => va_Nw.warmM hW (h7 q hq), vx_Zq.moved hW.alike (h8.kept hH), vx_Zq.moved hW.alike (h9.kept hH), fun q hq => vk_R.warm hW (h10 q hq)⟩
/-- the world at a state -/
def xWd (E : XE) (L : List (Nat × Nat)) (M : XM) (U : State) : Prop := SP E U ∧ va_P (eD E) vwCl (xW E L M) U.heap ∧ va_D (eLo E) (xW E L M)
theorem xWd.blind {E : XE} {L : List (Nat × Nat)} {M : XM} {av : List Value} : FrameBlind (va_Pc av (fun U => xWd E L M U)) := by
  intro a U g mk ⟨h1, h2, h3, h4⟩
  exact ⟨h1, SP.move (U := U.calling g mk a) h2 (State.WarmedH.refl U) (Nat.le_refl _) (fun _ _ _ => rfl), h3, h4⟩
/-- the words that every contract has -/
def xT : List Cond := lw_tbl.filter goodWord
theorem xT_of {w : Cond} (n : Nat) (h : lw_tbl[n]? = some w) (g : goodWord w = true) : w ∈ xT := List.mem_filter.mpr ⟨List.mem_of_getElem? h, g⟩
theorem xT_goodIn {ws : List Cond} (h : ∀ w ∈ ws, w ∈ xT) : GoodIn xT ws := fun w hw => ⟨h w hw, good_of_word (List.mem_filter.mp (h w hw)).2⟩
theorem inX0 : ∀ w ∈ u_ws RX0 TX0 6, w ∈ xT := by
  have h : (u_ws RX0 TX0 6).all (fun w => decide (w ∈ lw_tbl) && goodWord w) = true := by decide +kernel
  intro w hw
  have h1 := List.all_eq_true.mp h w hw
  simp only [Bool.and_eq_true, decide_eq_true_eq] at h1
  exact List.mem_filter.mpr ⟨h1.1, h1.2⟩
theorem inX1 : ∀ w ∈ u_ws RX1 TX1 7, w ∈ xT := by
  have h : (u_ws RX1 TX1 7).all (fun w => decide (w ∈ lw_tbl) && goodWord w) = true := by decide +kernel
  intro w hw
  have h1 := List.all_eq_true.mp h w hw
  simp only [Bool.and_eq_true, decide_eq_true_eq] at h1
  exact List.mem_filter.mpr ⟨h1.1, h1.2⟩
theorem inX2 : ∀ w ∈ u_ws RX2 TX2 2, w ∈ xT := by
  have h : (u_ws RX2 TX2 2).all (fun w => decide (w ∈ lw_tbl) && goodWord w) = true := by decide +kernel
  intro w hw
  have h1 := List.all_eq_true.mp h w hw
  simp only [Bool.and_eq_true, decide_eq_true_eq] at h1
  exact List.mem_filter.mpr ⟨h1.1, h1.2⟩
theorem inX3 : ∀ w ∈ u_ws RX3 TX3 3, w ∈ xT := by
  have h : (u_ws RX3 TX3 3).all (fun w => decide (w ∈ lw_tbl) && goodWord w) = true := by decide +kernel
  intro w hw
  have h1 := List.all_eq_true.mp h w hw
  simp only [Bool.and_eq_true, decide_eq_true_eq] at h1
  exact List.mem_filter.mpr ⟨h1.1, h1.2⟩
theorem inX4 : ∀ w ∈ u_ws RX4 TX4 5, w ∈ xT := by
  have h : (u_ws RX4 TX4 5).all (fun w => decide (w ∈ lw_tbl) && goodWord w) = true := by decide +kernel
  intro w hw
  have h1 := List.all_eq_true.mp h w hw
  simp only [Bool.and_eq_true, decide_eq_true_eq] at h1
  exact List.mem_filter.mpr ⟨h1.1, h1.2⟩
theorem inX5 : ∀ w ∈ u_ws RX5 TX5 3, w ∈ xT := by
  have h : (u_ws RX5 TX5 3).all (fun w => decide (w ∈ lw_tbl) && goodWord w) = true := by decide +kernel
  intro w hw
  have h1 := List.all_eq_true.mp h w hw
  simp only [Bool.and_eq_true, decide_eq_true_eq] at h1
  exact List.mem_filter.mpr ⟨h1.1, h1.2⟩
theorem inX6 : ∀ w ∈ u_ws RX6 TX6 12, w ∈ xT := by
  have h : (u_ws RX6 TX6 12).all (fun w => decide (w ∈ lw_tbl) && goodWord w) = true := by decide +kernel
  intro w hw
  have h1 := List.all_eq_true.mp h w hw
  simp only [Bool.and_eq_true, decide_eq_true_eq] at h1
  exact List.mem_filter.mpr ⟨h1.1, h1.2⟩
/-! ===== the judgement: from here the machine does what the value t tells ===== -/
section ZROWS
variable {p : Program} {l : Launch} {e : Env} {R : Room} {s : State} {m : MethodId} {args : Array Value} {below : List Frame} {meth : Method} {c : Code} {nL : Nat} {E : XE} {L : List (Nat × Nat)} {cells slots : Nat} {Q : State → Prop} {α : Type} {ρ : Option (α × XM)}
def ZZ {α : Type} (p : Program) (l : Launch) (e : Env) (R : Room) (s : State) (m : MethodId) (args : Array Value) (below : List Frame) (meth : Method) (c : Code) (nL : Nat) (E : XE) (L : List (Nat × Nat)) (cells slots : Nat) (Q : State → Prop) (ρ : Option (α × XM)) (pc : Nat) (lv : List (Nat × Value)) (st : List Value) (M : XM) (t : Option (α × XM)) : Prop :=
  t = ρ → t ≠ none → ∀ (H : Heap) (locs : List Loc) (ls : Array Slot), lv_has ls nL lv → va_P (eD E) vwCl (xW E L M) H → va_S (eLo E) s.heap H locs → W p l e R s m args below meth c H locs cells slots Q (F0 m pc ls st)
def ZC (p : Program) (s : State) (m : MethodId) (args : Array Value) (c : Code) (cc : ByteArray) (nL : Nat) (own : String) (E : XE) (L : List (Nat × Nat)) : Prop :=
  p.tables.exec = Jvm.exec ∧ c.code = cc ∧ c.maxLocals = nL ∧ s.vm.findClass own = some m.cls ∧ (∀ w ∈ xT, w.before args s = true) ∧ SP E s ∧ (∀ M, va_D (eLo E) (xW E L M)) ∧ L.Nodup
variable {cc : ByteArray} {own : String} {pc : Nat} {lv : List (Nat × Value)} {st : List Value} {M : XM} {t : Option (α × XM)}
theorem ZC.fix (C : ZC p s m args c cc nL own E L) : CallFix p m c cc nL s args xT own := ⟨C.1, C.2.1, C.2.2.1, C.2.2.2.1, C.2.2.2.2.1⟩
theorem ZC.hK (C : ZC p s m args c cc nL own E L) : va_K (eD E) vwCl (eTys E) s := C.2.2.2.2.2.1.1
theorem ZC.hA (C : ZC p s m args c cc nL own E L) : ∀ q : Nat, s.heap.size ≤ q → eLo E q := fun _ h => Nat.le_trans C.2.2.2.2.2.1.2.2.2.2.1 h
theorem ZC.hD (C : ZC p s m args c cc nL own E L) : va_D (eLo E) (xW E L M) := C.2.2.2.2.2.2.1 M
theorem ZC.wd (C : ZC p s m args c cc nL own E L) {H : Heap} {locs : List Loc} (hP : va_P (eD E) vwCl (xW E L M) H) (hS : va_S (eLo E) s.heap H locs) {U : State} (hU : U.heap = H) (hW : s.WarmedH U.vm) : xWd E L M U :=
  ⟨C.2.2.2.2.2.1.move hW (by rw [hU]; exact hS.1) (fun q h1 h2 => by rw [hU]; exact hS.2.1 q h1 h2), by rw [hU]; exact hP, C.hD⟩
/-- at a jump: fewer locals, in another order -/
theorem z_sub {lv' : List (Nat × Value)} (ks : List Nat) (h : lv_pick lv ks = lv') (k : ZZ p l e R s m args below meth c nL E L cells slots Q ρ pc lv' st M t) : ZZ p l e R s m args below meth c nL E L cells slots Q ρ pc lv st M t := fun h1 h2 H locs ls hl hP hS => k h1 h2 H locs ls (lv_sub hl ks h) hP hS
/-- a value gets a name -/
theorem z_bI {β : Type} {a : β} {k : β → Option (α × XM)} {stf : β → List Value} (h : ∀ x : β, ZZ p l e R s m args below meth c nL E L cells slots Q ρ pc lv (stf x) M (k x)) : ZZ p l e R s m args below meth c nL E L cells slots Q ρ pc lv (stf a) M (bI a k) := h a
theorem z_gd {b : Prop} [Decidable b] (h : b → ZZ p l e R s m args below meth c nL E L cells slots Q ρ pc lv st M t) : ZZ p l e R s m args below meth c nL E L cells slots Q ρ pc lv st M (gd b t) := by
  intro h1 h2
  by_cases hb : b
  · rw [gd, if_pos hb] at h1 h2
    exact h hb h1 h2
  · rw [gd, if_neg hb] at h2
    exact absurd rfl h2
theorem z_ite {b : Prop} [Decidable b] {t1 t2 : Option (α × XM)} (h : b → ZZ p l e R s m args below meth c nL E L cells slots Q ρ pc lv st M t1) (h' : ¬ b → ZZ p l e R s m args below meth c nL E L cells slots Q ρ pc lv st M t2) : ZZ p l e R s m args below meth c nL E L cells slots Q ρ pc lv st M (if b then t1 else t2) := by
  by_cases hb : b
  · rw [if_pos hb]; exact h hb
  · rw [if_neg hb]; exact h' hb
theorem z_none : ZZ p l e R s m args below meth c nL E L cells slots Q ρ pc lv st M (none : Option (α × XM)) := fun _ h => absurd rfl h
theorem z_iload_n (C : ZC p s m args c cc nL own E L) {k9 : Fin 4} {i x9 : Nat} {x : Int32} (hdg : decode cc pc = .ok (.iload_n k9, 1)) (hi : (k9 : Nat) = i) (n : Nat) (hx : lv[n]? = some (i, .int x)) (k : ZZ p l e R s m args below meth c nL E L cells slots Q ρ (pc + 1) lv (.int x :: st) M t) : ZZ p l e R s m args below meth c nL E L cells slots Q ρ pc lv (st) M t := fun ht hn H locs ls hl hP hS => lv_iload_n C.1 C.2.1 hdg hi (lv_at hl n hx) (k ht hn H locs ls hl hP hS)
theorem z_iload (C : ZC p s m args c cc nL own E L) {i : Nat} {x : Int32} (hdg : decode cc pc = .ok (.iload i, 2)) (n : Nat) (hx : lv[n]? = some (i, .int x)) (k : ZZ p l e R s m args below meth c nL E L cells slots Q ρ (pc + 2) lv (.int x :: st) M t) : ZZ p l e R s m args below meth c nL E L cells slots Q ρ pc lv (st) M t := fun ht hn H locs ls hl hP hS => lv_iload C.1 C.2.1 hdg (lv_at hl n hx) (k ht hn H locs ls hl hP hS)
theorem z_lload_n (C : ZC p s m args c cc nL own E L) {k9 : Fin 4} {i x9 : Nat} {x : Int64} (hdg : decode cc pc = .ok (.lload_n k9, 1)) (hi : (k9 : Nat) = i) (n : Nat) (hx : lv[n]? = some (i, .long x)) (k : ZZ p l e R s m args below meth c nL E L cells slots Q ρ (pc + 1) lv (.long x :: st) M t) : ZZ p l e R s m args below meth c nL E L cells slots Q ρ pc lv (st) M t := fun ht hn H locs ls hl hP hS => lv_lload_n C.1 C.2.1 hdg hi (lv_at hl n hx) (k ht hn H locs ls hl hP hS)
theorem z_lload (C : ZC p s m args c cc nL own E L) {i : Nat} {x : Int64} (hdg : decode cc pc = .ok (.lload i, 2)) (n : Nat) (hx : lv[n]? = some (i, .long x)) (k : ZZ p l e R s m args below meth c nL E L cells slots Q ρ (pc + 2) lv (.long x :: st) M t) : ZZ p l e R s m args below meth c nL E L cells slots Q ρ pc lv (st) M t := fun ht hn H locs ls hl hP hS => lv_lload C.1 C.2.1 hdg (lv_at hl n hx) (k ht hn H locs ls hl hP hS)
theorem z_dload_n (C : ZC p s m args c cc nL own E L) {k9 : Fin 4} {i x9 : Nat} {x : UInt64} (hdg : decode cc pc = .ok (.dload_n k9, 1)) (hi : (k9 : Nat) = i) (n : Nat) (hx : lv[n]? = some (i, .double x)) (k : ZZ p l e R s m args below meth c nL E L cells slots Q ρ (pc + 1) lv (.double x :: st) M t) : ZZ p l e R s m args below meth c nL E L cells slots Q ρ pc lv (st) M t := fun ht hn H locs ls hl hP hS => lv_dload_n C.1 C.2.1 hdg hi (lv_at hl n hx) (k ht hn H locs ls hl hP hS)
theorem z_dload (C : ZC p s m args c cc nL own E L) {i : Nat} {x : UInt64} (hdg : decode cc pc = .ok (.dload i, 2)) (n : Nat) (hx : lv[n]? = some (i, .double x)) (k : ZZ p l e R s m args below meth c nL E L cells slots Q ρ (pc + 2) lv (.double x :: st) M t) : ZZ p l e R s m args below meth c nL E L cells slots Q ρ pc lv (st) M t := fun ht hn H locs ls hl hP hS => lv_dload C.1 C.2.1 hdg (lv_at hl n hx) (k ht hn H locs ls hl hP hS)
theorem z_aload_n (C : ZC p s m args c cc nL own E L) {k9 : Fin 4} {i x9 : Nat} {x : Nat} (hdg : decode cc pc = .ok (.aload_n k9, 1)) (hi : (k9 : Nat) = i) (n : Nat) (hx : lv[n]? = some (i, .ref x)) (k : ZZ p l e R s m args below meth c nL E L cells slots Q ρ (pc + 1) lv (.ref x :: st) M t) : ZZ p l e R s m args below meth c nL E L cells slots Q ρ pc lv (st) M t := fun ht hn H locs ls hl hP hS => lv_aload_n C.1 C.2.1 hdg hi (lv_at hl n hx) (k ht hn H locs ls hl hP hS)
theorem z_aload (C : ZC p s m args c cc nL own E L) {i : Nat} {x : Nat} (hdg : decode cc pc = .ok (.aload i, 2)) (n : Nat) (hx : lv[n]? = some (i, .ref x)) (k : ZZ p l e R s m args below meth c nL E L cells slots Q ρ (pc + 2) lv (.ref x :: st) M t) : ZZ p l e R s m args below meth c nL E L cells slots Q ρ pc lv (st) M t := fun ht hn H locs ls hl hP hS => lv_aload C.1 C.2.1 hdg (lv_at hl n hx) (k ht hn H locs ls hl hP hS)
theorem z_iconst (C : ZC p s m args c cc nL own E L) {n : Int} (v : Int32) (hdg : decode cc pc = .ok (.iconst n, 1)) (hv : Int32.ofInt n = v) (k : ZZ p l e R s m args below meth c nL E L cells slots Q ρ (pc + 1) lv (.int v :: st) M t) : ZZ p l e R s m args below meth c nL E L cells slots Q ρ pc lv (st) M t := fun ht hn H locs ls hl hP hS => lv_iconst C.1 C.2.1 hdg hv (k ht hn H locs ls hl hP hS)
theorem z_bipush (C : ZC p s m args c cc nL own E L) {n : Int} (v : Int32) (hdg : decode cc pc = .ok (.bipush n, 2)) (hv : (Int8.ofInt n).toInt32 = v) (k : ZZ p l e R s m args below meth c nL E L cells slots Q ρ (pc + 2) lv (.int v :: st) M t) : ZZ p l e R s m args below meth c nL E L cells slots Q ρ pc lv (st) M t := fun ht hn H locs ls hl hP hS => lv_bipush C.1 C.2.1 hdg hv (k ht hn H locs ls hl hP hS)
theorem z_sipush (C : ZC p s m args c cc nL own E L) {n : Int} (v : Int32) (hdg : decode cc pc = .ok (.sipush n, 3)) (hv : (Int16.ofInt n).toInt32 = v) (k : ZZ p l e R s m args below meth c nL E L cells slots Q ρ (pc + 3) lv (.int v :: st) M t) : ZZ p l e R s m args below meth c nL E L cells slots Q ρ pc lv (st) M t := fun ht hn H locs ls hl hP hS => lv_sipush C.1 C.2.1 hdg hv (k ht hn H locs ls hl hP hS)
theorem z_lconst (C : ZC p s m args c cc nL own E L) {n : Fin 2} (v : Int64) (hdg : decode cc pc = .ok (.lconst n, 1)) (hv : Int64.ofNat (n : Nat) = v) (k : ZZ p l e R s m args below meth c nL E L cells slots Q ρ (pc + 1) lv (.long v :: st) M t) : ZZ p l e R s m args below meth c nL E L cells slots Q ρ pc lv (st) M t := fun ht hn H locs ls hl hP hS => lv_lconst C.1 C.2.1 hdg hv (k ht hn H locs ls hl hP hS)
theorem z_dconst0 (C : ZC p s m args c cc nL own E L)  (hdg : decode cc pc = .ok (.dconst 0, 1)) (k : ZZ p l e R s m args below meth c nL E L cells slots Q ρ (pc + 1) lv (.double FP.dconst0 :: st) M t) : ZZ p l e R s m args below meth c nL E L cells slots Q ρ pc lv (st) M t := fun ht hn H locs ls hl hP hS => lv_dconst0 C.1 C.2.1 hdg (k ht hn H locs ls hl hP hS)
theorem z_dconst1 (C : ZC p s m args c cc nL own E L)  (hdg : decode cc pc = .ok (.dconst 1, 1)) (k : ZZ p l e R s m args below meth c nL E L cells slots Q ρ (pc + 1) lv (.double FP.dconst1 :: st) M t) : ZZ p l e R s m args below meth c nL E L cells slots Q ρ pc lv (st) M t := fun ht hn H locs ls hl hP hS => lv_dconst1 C.1 C.2.1 hdg (k ht hn H locs ls hl hP hS)
theorem z_ldc2 (C : ZC p s m args c cc nL own E L) {index : Nat} {v : Int64} (hdg : decode cc pc = .ok (.ldc2_w index, 3)) (hw : Cond.constantLong own index v ∈ xT) (k : ZZ p l e R s m args below meth c nL E L cells slots Q ρ (pc + 3) lv (.long v :: st) M t) : ZZ p l e R s m args below meth c nL E L cells slots Q ρ pc lv (st) M t := fun ht hn H locs ls hl hP hS => lv_ldc2 C.1 C.2.1 C.2.2.2.1 (C.2.2.2.2.1 _ hw) hdg (k ht hn H locs ls hl hP hS)
theorem z_ldc2d (C : ZC p s m args c cc nL own E L) {index : Nat} {v : UInt64} (hdg : decode cc pc = .ok (.ldc2_w index, 3)) (hw : Cond.constantDouble own index v ∈ xT) (k : ZZ p l e R s m args below meth c nL E L cells slots Q ρ (pc + 3) lv (.double v :: st) M t) : ZZ p l e R s m args below meth c nL E L cells slots Q ρ pc lv (st) M t := fun ht hn H locs ls hl hP hS => lv_ldc2d C.1 C.2.1 C.2.2.2.1 (C.2.2.2.2.1 _ hw) hdg (k ht hn H locs ls hl hP hS)
theorem z_iadd (C : ZC p s m args c cc nL own E L) {x y : Int32} (hdg : decode cc pc = .ok (.iadd, 1)) (k : ZZ p l e R s m args below meth c nL E L cells slots Q ρ (pc + 1) lv (.int (x + y) :: st) M t) : ZZ p l e R s m args below meth c nL E L cells slots Q ρ pc lv (.int y :: .int x :: st) M t := fun ht hn H locs ls hl hP hS => lv_iadd C.1 C.2.1 hdg (k ht hn H locs ls hl hP hS)
theorem z_isub (C : ZC p s m args c cc nL own E L) {x y : Int32} (hdg : decode cc pc = .ok (.isub, 1)) (k : ZZ p l e R s m args below meth c nL E L cells slots Q ρ (pc + 1) lv (.int (x - y) :: st) M t) : ZZ p l e R s m args below meth c nL E L cells slots Q ρ pc lv (.int y :: .int x :: st) M t := fun ht hn H locs ls hl hP hS => lv_isub C.1 C.2.1 hdg (k ht hn H locs ls hl hP hS)
theorem z_imul (C : ZC p s m args c cc nL own E L) {x y : Int32} (hdg : decode cc pc = .ok (.imul, 1)) (k : ZZ p l e R s m args below meth c nL E L cells slots Q ρ (pc + 1) lv (.int (x * y) :: st) M t) : ZZ p l e R s m args below meth c nL E L cells slots Q ρ pc lv (.int y :: .int x :: st) M t := fun ht hn H locs ls hl hP hS => lv_imul C.1 C.2.1 hdg (k ht hn H locs ls hl hP hS)
theorem z_iand (C : ZC p s m args c cc nL own E L) {x y : Int32} (hdg : decode cc pc = .ok (.iand, 1)) (k : ZZ p l e R s m args below meth c nL E L cells slots Q ρ (pc + 1) lv (.int (x &&& y) :: st) M t) : ZZ p l e R s m args below meth c nL E L cells slots Q ρ pc lv (.int y :: .int x :: st) M t := fun ht hn H locs ls hl hP hS => lv_iand C.1 C.2.1 hdg (k ht hn H locs ls hl hP hS)
theorem z_idiv (C : ZC p s m args c cc nL own E L) {x y : Int32} (hdg : decode cc pc = .ok (.idiv, 1)) (hy : ¬ y = 0) (k : ZZ p l e R s m args below meth c nL E L cells slots Q ρ (pc + 1) lv (.int (x / y) :: st) M t) : ZZ p l e R s m args below meth c nL E L cells slots Q ρ pc lv (.int y :: .int x :: st) M t := fun ht hn H locs ls hl hP hS => lv_idiv C.1 C.2.1 hdg hy (k ht hn H locs ls hl hP hS)
theorem z_irem (C : ZC p s m args c cc nL own E L) {x y : Int32} (hdg : decode cc pc = .ok (.irem, 1)) (hy : ¬ y = 0) (k : ZZ p l e R s m args below meth c nL E L cells slots Q ρ (pc + 1) lv (.int (x - x / y * y) :: st) M t) : ZZ p l e R s m args below meth c nL E L cells slots Q ρ pc lv (.int y :: .int x :: st) M t := fun ht hn H locs ls hl hP hS => lv_irem C.1 C.2.1 hdg hy (k ht hn H locs ls hl hP hS)
theorem z_ladd (C : ZC p s m args c cc nL own E L) {x y : Int64} (hdg : decode cc pc = .ok (.ladd, 1)) (k : ZZ p l e R s m args below meth c nL E L cells slots Q ρ (pc + 1) lv (.long (x + y) :: st) M t) : ZZ p l e R s m args below meth c nL E L cells slots Q ρ pc lv (.long y :: .long x :: st) M t := fun ht hn H locs ls hl hP hS => lv_ladd C.1 C.2.1 hdg (k ht hn H locs ls hl hP hS)
theorem z_lsub (C : ZC p s m args c cc nL own E L) {x y : Int64} (hdg : decode cc pc = .ok (.lsub, 1)) (k : ZZ p l e R s m args below meth c nL E L cells slots Q ρ (pc + 1) lv (.long (x - y) :: st) M t) : ZZ p l e R s m args below meth c nL E L cells slots Q ρ pc lv (.long y :: .long x :: st) M t := fun ht hn H locs ls hl hP hS => lv_lsub C.1 C.2.1 hdg (k ht hn H locs ls hl hP hS)
theorem z_lmul (C : ZC p s m args c cc nL own E L) {x y : Int64} (hdg : decode cc pc = .ok (.lmul, 1)) (k : ZZ p l e R s m args below meth c nL E L cells slots Q ρ (pc + 1) lv (.long (x * y) :: st) M t) : ZZ p l e R s m args below meth c nL E L cells slots Q ρ pc lv (.long y :: .long x :: st) M t := fun ht hn H locs ls hl hP hS => lv_lmul C.1 C.2.1 hdg (k ht hn H locs ls hl hP hS)
theorem z_lor (C : ZC p s m args c cc nL own E L) {x y : Int64} (hdg : decode cc pc = .ok (.lor, 1)) (k : ZZ p l e R s m args below meth c nL E L cells slots Q ρ (pc + 1) lv (.long (x ||| y) :: st) M t) : ZZ p l e R s m args below meth c nL E L cells slots Q ρ pc lv (.long y :: .long x :: st) M t := fun ht hn H locs ls hl hP hS => lv_lor C.1 C.2.1 hdg (k ht hn H locs ls hl hP hS)
theorem z_lshl (C : ZC p s m args c cc nL own E L) {x : Int64} {y : Int32} (hdg : decode cc pc = .ok (.lshl, 1)) (k : ZZ p l e R s m args below meth c nL E L cells slots Q ρ (pc + 1) lv (.long (x <<< (y.toInt64 &&& 63)) :: st) M t) : ZZ p l e R s m args below meth c nL E L cells slots Q ρ pc lv (.int y :: .long x :: st) M t := fun ht hn H locs ls hl hP hS => lv_lshl C.1 C.2.1 hdg rfl (k ht hn H locs ls hl hP hS)
theorem z_i2l (C : ZC p s m args c cc nL own E L) {x : Int32} (hdg : decode cc pc = .ok (.i2l, 1)) (k : ZZ p l e R s m args below meth c nL E L cells slots Q ρ (pc + 1) lv (.long x.toInt64 :: st) M t) : ZZ p l e R s m args below meth c nL E L cells slots Q ρ pc lv (.int x :: st) M t := fun ht hn H locs ls hl hP hS => lv_i2l C.1 C.2.1 hdg rfl (k ht hn H locs ls hl hP hS)
theorem z_i2d (C : ZC p s m args c cc nL own E L) {x : Int32} (hdg : decode cc pc = .ok (.i2d, 1)) (k : ZZ p l e R s m args below meth c nL E L cells slots Q ρ (pc + 1) lv (.double (FP.i2d x) :: st) M t) : ZZ p l e R s m args below meth c nL E L cells slots Q ρ pc lv (.int x :: st) M t := fun ht hn H locs ls hl hP hS => lv_i2d C.1 C.2.1 hdg (k ht hn H locs ls hl hP hS)
theorem z_d2l (C : ZC p s m args c cc nL own E L) {x : UInt64} (hdg : decode cc pc = .ok (.d2l, 1)) (k : ZZ p l e R s m args below meth c nL E L cells slots Q ρ (pc + 1) lv (.long (FP.d2l x) :: st) M t) : ZZ p l e R s m args below meth c nL E L cells slots Q ρ pc lv (.double x :: st) M t := fun ht hn H locs ls hl hP hS => lv_d2l C.1 C.2.1 hdg (k ht hn H locs ls hl hP hS)
theorem z_dmul (C : ZC p s m args c cc nL own E L) {x y : UInt64} (hdg : decode cc pc = .ok (.dmul, 1)) (k : ZZ p l e R s m args below meth c nL E L cells slots Q ρ (pc + 1) lv (.double (FP.dmul x y) :: st) M t) : ZZ p l e R s m args below meth c nL E L cells slots Q ρ pc lv (.double y :: .double x :: st) M (gd ((FP.dmul x y) &&& 0x7fffffffffffffff ≤ 0x7ff0000000000000) t) := z_gd fun hg => fun ht hn H locs ls hl hP hS => lv_dmul C.1 C.2.1 hdg hg (k ht hn H locs ls hl hP hS)
theorem z_ddiv (C : ZC p s m args c cc nL own E L) {x y : UInt64} (hdg : decode cc pc = .ok (.ddiv, 1)) (k : ZZ p l e R s m args below meth c nL E L cells slots Q ρ (pc + 1) lv (.double (FP.ddiv x y) :: st) M t) : ZZ p l e R s m args below meth c nL E L cells slots Q ρ pc lv (.double y :: .double x :: st) M (gd ((FP.ddiv x y) &&& 0x7fffffffffffffff ≤ 0x7ff0000000000000) t) := z_gd fun hg => fun ht hn H locs ls hl hP hS => lv_ddiv C.1 C.2.1 hdg hg (k ht hn H locs ls hl hP hS)
theorem z_dsub (C : ZC p s m args c cc nL own E L) {x y : UInt64} (hdg : decode cc pc = .ok (.dsub, 1)) (k : ZZ p l e R s m args below meth c nL E L cells slots Q ρ (pc + 1) lv (.double (FP.dsub x y) :: st) M t) : ZZ p l e R s m args below meth c nL E L cells slots Q ρ pc lv (.double y :: .double x :: st) M (gd ((FP.dsub x y) &&& 0x7fffffffffffffff ≤ 0x7ff0000000000000) t) := z_gd fun hg => fun ht hn H locs ls hl hP hS => lv_dsub C.1 C.2.1 hdg hg (k ht hn H locs ls hl hP hS)
theorem z_dcmp (C : ZC p s m args c cc nL own E L) {x y : UInt64} {op : CmpOp} (hdg : decode cc pc = .ok (.dcmp op, 1)) (k : ZZ p l e R s m args below meth c nL E L cells slots Q ρ (pc + 1) lv (.int (Op.cmpValue (FP.dcmp x y) op) :: st) M t) : ZZ p l e R s m args below meth c nL E L cells slots Q ρ pc lv (.double y :: .double x :: st) M t := fun ht hn H locs ls hl hP hS => lv_dcmp C.1 C.2.1 hdg (k ht hn H locs ls hl hP hS)
theorem z_lcmp (C : ZC p s m args c cc nL own E L) {x y : Int64} (hdg : decode cc pc = .ok (.lcmp, 1)) (k : ZZ p l e R s m args below meth c nL E L cells slots Q ρ (pc + 1) lv (.int (lg_cmp x y) :: st) M t) : ZZ p l e R s m args below meth c nL E L cells slots Q ρ pc lv (.long y :: .long x :: st) M t := fun ht hn H locs ls hl hP hS => W.lcmp C.1 C.2.1 hdg (k ht hn H locs ls hl hP hS)
theorem z_dup (C : ZC p s m args c cc nL own E L) {va : Value} (hdg : decode cc pc = .ok (.dup, 1)) (hc : va.category = 1) (k : ZZ p l e R s m args below meth c nL E L cells slots Q ρ (pc + 1) lv (va :: va :: st) M t) : ZZ p l e R s m args below meth c nL E L cells slots Q ρ pc lv (va :: st) M t := fun ht hn H locs ls hl hP hS => lv_dup C.1 C.2.1 hdg hc (k ht hn H locs ls hl hP hS)
theorem z_pop (C : ZC p s m args c cc nL own E L) {va : Value} (hdg : decode cc pc = .ok (.pop, 1)) (hc : va.category = 1) (k : ZZ p l e R s m args below meth c nL E L cells slots Q ρ (pc + 1) lv (st) M t) : ZZ p l e R s m args below meth c nL E L cells slots Q ρ pc lv (va :: st) M t := fun ht hn H locs ls hl hP hS => lv_pop C.1 C.2.1 hdg hc (k ht hn H locs ls hl hP hS)
theorem z_dup2 (C : ZC p s m args c cc nL own E L) {va vb : Value} (hdg : decode cc pc = .ok (.dup2, 1)) (h1 : va.category = 1) (h2 : vb.category = 1) (k : ZZ p l e R s m args below meth c nL E L cells slots Q ρ (pc + 1) lv (va :: vb :: va :: vb :: st) M t) : ZZ p l e R s m args below meth c nL E L cells slots Q ρ pc lv (va :: vb :: st) M t := fun ht hn H locs ls hl hP hS => lv_dup2_11 C.1 C.2.1 hdg h1 h2 (k ht hn H locs ls hl hP hS)
theorem z_istore_n (C : ZC p s m args c cc nL own E L) {k9 : Fin 4} {i : Nat} {x : Int32} (lv' : List (Nat × Value)) (hdg : decode cc pc = .ok (.istore_n k9, 1)) (hi : (k9 : Nat) = i) (hq : i < nL) (hv : (i, Value.int x) :: lv.filter (fun q => !(q.1 == i) && !(q.1 + 1 == i && q.2.category == 2)) = lv') (k : ZZ p l e R s m args below meth c nL E L cells slots Q ρ (pc + 1) lv' st M t) : ZZ p l e R s m args below meth c nL E L cells slots Q ρ pc lv (.int x :: st) M t := fun ht hn H locs ls hl hP hS => lv_istore_n C.1 C.2.1 hdg hi hl hq hv (fun ls hl => k ht hn H locs ls hl hP hS)
theorem z_istore (C : ZC p s m args c cc nL own E L) {i : Nat} {x : Int32} (lv' : List (Nat × Value)) (hdg : decode cc pc = .ok (.istore i, 2)) (hq : i < nL) (hv : (i, Value.int x) :: lv.filter (fun q => !(q.1 == i) && !(q.1 + 1 == i && q.2.category == 2)) = lv') (k : ZZ p l e R s m args below meth c nL E L cells slots Q ρ (pc + 2) lv' st M t) : ZZ p l e R s m args below meth c nL E L cells slots Q ρ pc lv (.int x :: st) M t := fun ht hn H locs ls hl hP hS => lv_istore C.1 C.2.1 hdg hl hq hv (fun ls hl => k ht hn H locs ls hl hP hS)
theorem z_astore_n (C : ZC p s m args c cc nL own E L) {k9 : Fin 4} {i : Nat} {x : Nat} (lv' : List (Nat × Value)) (hdg : decode cc pc = .ok (.astore_n k9, 1)) (hi : (k9 : Nat) = i) (hq : i < nL) (hv : (i, Value.ref x) :: lv.filter (fun q => !(q.1 == i) && !(q.1 + 1 == i && q.2.category == 2)) = lv') (k : ZZ p l e R s m args below meth c nL E L cells slots Q ρ (pc + 1) lv' st M t) : ZZ p l e R s m args below meth c nL E L cells slots Q ρ pc lv (.ref x :: st) M t := fun ht hn H locs ls hl hP hS => lv_astore_n C.1 C.2.1 hdg hi hl hq hv (fun ls hl => k ht hn H locs ls hl hP hS)
theorem z_astore (C : ZC p s m args c cc nL own E L) {i : Nat} {x : Nat} (lv' : List (Nat × Value)) (hdg : decode cc pc = .ok (.astore i, 2)) (hq : i < nL) (hv : (i, Value.ref x) :: lv.filter (fun q => !(q.1 == i) && !(q.1 + 1 == i && q.2.category == 2)) = lv') (k : ZZ p l e R s m args below meth c nL E L cells slots Q ρ (pc + 2) lv' st M t) : ZZ p l e R s m args below meth c nL E L cells slots Q ρ pc lv (.ref x :: st) M t := fun ht hn H locs ls hl hP hS => lv_astore C.1 C.2.1 hdg hl hq hv (fun ls hl => k ht hn H locs ls hl hP hS)
theorem z_lstore_n (C : ZC p s m args c cc nL own E L) {k9 : Fin 4} {i : Nat} {x : Int64} (lv' : List (Nat × Value)) (hdg : decode cc pc = .ok (.lstore_n k9, 1)) (hi : (k9 : Nat) = i) (hq : i + 1 < nL) (hv : (i, Value.long x) :: lv.filter (fun q => !(q.1 == i) && (!(q.1 == i + 1) && !(q.1 + 1 == i && q.2.category == 2))) = lv') (k : ZZ p l e R s m args below meth c nL E L cells slots Q ρ (pc + 1) lv' st M t) : ZZ p l e R s m args below meth c nL E L cells slots Q ρ pc lv (.long x :: st) M t := fun ht hn H locs ls hl hP hS => lv_lstore_n C.1 C.2.1 hdg hi hl hq hv (fun ls hl => k ht hn H locs ls hl hP hS)
theorem z_lstore (C : ZC p s m args c cc nL own E L) {i : Nat} {x : Int64} (lv' : List (Nat × Value)) (hdg : decode cc pc = .ok (.lstore i, 2)) (hq : i + 1 < nL) (hv : (i, Value.long x) :: lv.filter (fun q => !(q.1 == i) && (!(q.1 == i + 1) && !(q.1 + 1 == i && q.2.category == 2))) = lv') (k : ZZ p l e R s m args below meth c nL E L cells slots Q ρ (pc + 2) lv' st M t) : ZZ p l e R s m args below meth c nL E L cells slots Q ρ pc lv (.long x :: st) M t := fun ht hn H locs ls hl hP hS => lv_lstore C.1 C.2.1 hdg hl hq hv (fun ls hl => k ht hn H locs ls hl hP hS)
theorem z_dstore_n (C : ZC p s m args c cc nL own E L) {k9 : Fin 4} {i : Nat} {x : UInt64} (lv' : List (Nat × Value)) (hdg : decode cc pc = .ok (.dstore_n k9, 1)) (hi : (k9 : Nat) = i) (hq : i + 1 < nL) (hv : (i, Value.double x) :: lv.filter (fun q => !(q.1 == i) && (!(q.1 == i + 1) && !(q.1 + 1 == i && q.2.category == 2))) = lv') (k : ZZ p l e R s m args below meth c nL E L cells slots Q ρ (pc + 1) lv' st M t) : ZZ p l e R s m args below meth c nL E L cells slots Q ρ pc lv (.double x :: st) M t := fun ht hn H locs ls hl hP hS => lv_dstore_n C.1 C.2.1 hdg hi hl hq hv (fun ls hl => k ht hn H locs ls hl hP hS)
theorem z_dstore (C : ZC p s m args c cc nL own E L) {i : Nat} {x : UInt64} (lv' : List (Nat × Value)) (hdg : decode cc pc = .ok (.dstore i, 2)) (hq : i + 1 < nL) (hv : (i, Value.double x) :: lv.filter (fun q => !(q.1 == i) && (!(q.1 == i + 1) && !(q.1 + 1 == i && q.2.category == 2))) = lv') (k : ZZ p l e R s m args below meth c nL E L cells slots Q ρ (pc + 2) lv' st M t) : ZZ p l e R s m args below meth c nL E L cells slots Q ρ pc lv (.double x :: st) M t := fun ht hn H locs ls hl hP hS => lv_dstore C.1 C.2.1 hdg hl hq hv (fun ls hl => k ht hn H locs ls hl hP hS)
theorem z_iinc (C : ZC p s m args c cc nL own E L) {i : Nat} {n : Int} {x : Int32} (j : Nat) (v : Int32) (lv' : List (Nat × Value)) (hdg : decode cc pc = .ok (.iinc i n, 3)) (hj : lv[j]? = some (i, .int x)) (hx : x + Int32.ofInt n = v) (hq : i < nL) (hv : (i, Value.int v) :: lv.filter (fun q => !(q.1 == i) && !(q.1 + 1 == i && q.2.category == 2)) = lv') (k : ZZ p l e R s m args below meth c nL E L cells slots Q ρ (pc + 3) lv' st M t) : ZZ p l e R s m args below meth c nL E L cells slots Q ρ pc lv st M t := fun ht hn H locs ls hl hP hS => lv_iinc C.1 C.2.1 hdg hl hj hx hq hv (fun ls hl => k ht hn H locs ls hl hP hS)
theorem z_if_ne (C : ZC p s m args c cc nL own E L) {x y : Int32} {off : Int} (tgt : Nat) {t1 t2 : Option (α × XM)} (hdg : decode cc pc = .ok (.ifCond .ne off, 3)) (hg : (pc : Int) + off = (tgt : Int)) (k1 : ¬ x = 0 → ZZ p l e R s m args below meth c nL E L cells slots Q ρ tgt lv st M t1) (k2 : x = 0 → ZZ p l e R s m args below meth c nL E L cells slots Q ρ (pc + 3) lv st M t2) : ZZ p l e R s m args below meth c nL E L cells slots Q ρ pc lv (.int x :: st) M (if x = 0 then t2 else t1) := z_ite (fun hc => fun ht hn H locs ls hl hP hS => lv_if_ne C.1 C.2.1 hdg hg (fun z => absurd hc z) (fun _ => k2 hc ht hn H locs ls hl hP hS)) (fun hc => fun ht hn H locs ls hl hP hS => lv_if_ne C.1 C.2.1 hdg hg (fun _ => k1 hc ht hn H locs ls hl hP hS) (fun z => absurd z hc))
theorem z_icmp_ne (C : ZC p s m args c cc nL own E L) {x y : Int32} {off : Int} (tgt : Nat) {t1 t2 : Option (α × XM)} (hdg : decode cc pc = .ok (.if_icmp .ne off, 3)) (hg : (pc : Int) + off = (tgt : Int)) (k1 : ¬ x = y → ZZ p l e R s m args below meth c nL E L cells slots Q ρ tgt lv st M t1) (k2 : x = y → ZZ p l e R s m args below meth c nL E L cells slots Q ρ (pc + 3) lv st M t2) : ZZ p l e R s m args below meth c nL E L cells slots Q ρ pc lv (.int y :: .int x :: st) M (if x = y then t2 else t1) := z_ite (fun hc => fun ht hn H locs ls hl hP hS => lv_icmp_ne C.1 C.2.1 hdg hg (fun z => absurd hc z) (fun _ => k2 hc ht hn H locs ls hl hP hS)) (fun hc => fun ht hn H locs ls hl hP hS => lv_icmp_ne C.1 C.2.1 hdg hg (fun _ => k1 hc ht hn H locs ls hl hP hS) (fun z => absurd z hc))
theorem z_if_ne_t (C : ZC p s m args c cc nL own E L) {x : Int32} {off : Int} (tgt : Nat) (hdg : decode cc pc = .ok (.ifCond .ne off, 3)) (hg : (pc : Int) + off = (tgt : Int)) (hc : ¬ x = 0) (k1 : ZZ p l e R s m args below meth c nL E L cells slots Q ρ tgt lv st M t) : ZZ p l e R s m args below meth c nL E L cells slots Q ρ pc lv (.int x :: st) M t := fun ht hn H locs ls hl hP hS => lv_if_ne C.1 C.2.1 hdg hg (fun _ => k1 ht hn H locs ls hl hP hS) (fun z => absurd z hc)
theorem z_if_ne_f (C : ZC p s m args c cc nL own E L) {x : Int32} {off : Int} (tgt : Nat) (hdg : decode cc pc = .ok (.ifCond .ne off, 3)) (hg : (pc : Int) + off = (tgt : Int)) (hc : x = 0) (k1 : ZZ p l e R s m args below meth c nL E L cells slots Q ρ (pc + 3) lv st M t) : ZZ p l e R s m args below meth c nL E L cells slots Q ρ pc lv (.int x :: st) M t := fun ht hn H locs ls hl hP hS => lv_if_ne C.1 C.2.1 hdg hg (fun z => absurd hc z) (fun _ => k1 ht hn H locs ls hl hP hS)
theorem z_if_eq (C : ZC p s m args c cc nL own E L) {x : Int32} {off : Int} (tgt : Nat) {t1 t2 : Option (α × XM)} (hdg : decode cc pc = .ok (.ifCond .eq off, 3)) (hg : (pc : Int) + off = (tgt : Int)) (k1 : x = 0 → ZZ p l e R s m args below meth c nL E L cells slots Q ρ tgt lv st M t1) (k2 : ¬ (x = 0) → ZZ p l e R s m args below meth c nL E L cells slots Q ρ (pc + 3) lv st M t2) : ZZ p l e R s m args below meth c nL E L cells slots Q ρ pc lv (.int x :: st) M (if x = 0 then t1 else t2) := z_ite (fun hc => fun ht hn H locs ls hl hP hS => lv_if_eq C.1 C.2.1 hdg hg (fun _ => k1 hc ht hn H locs ls hl hP hS) (fun z => absurd hc z)) (fun hc => fun ht hn H locs ls hl hP hS => lv_if_eq C.1 C.2.1 hdg hg (fun z => absurd z hc) (fun _ => k2 hc ht hn H locs ls hl hP hS))
theorem z_icmp_eq (C : ZC p s m args c cc nL own E L) {x y : Int32} {off : Int} (tgt : Nat) {t1 t2 : Option (α × XM)} (hdg : decode cc pc = .ok (.if_icmp .eq off, 3)) (hg : (pc : Int) + off = (tgt : Int)) (k1 : x = y → ZZ p l e R s m args below meth c nL E L cells slots Q ρ tgt lv st M t1) (k2 : ¬ (x = y) → ZZ p l e R s m args below meth c nL E L cells slots Q ρ (pc + 3) lv st M t2) : ZZ p l e R s m args below meth c nL E L cells slots Q ρ pc lv (.int y :: .int x :: st) M (if x = y then t1 else t2) := z_ite (fun hc => fun ht hn H locs ls hl hP hS => lv_icmp_eq C.1 C.2.1 hdg hg (fun _ => k1 hc ht hn H locs ls hl hP hS) (fun z => absurd hc z)) (fun hc => fun ht hn H locs ls hl hP hS => lv_icmp_eq C.1 C.2.1 hdg hg (fun z => absurd z hc) (fun _ => k2 hc ht hn H locs ls hl hP hS))
theorem z_if_eq_t (C : ZC p s m args c cc nL own E L) {x : Int32} {off : Int} (tgt : Nat) (hdg : decode cc pc = .ok (.ifCond .eq off, 3)) (hg : (pc : Int) + off = (tgt : Int)) (hc : x = 0) (k1 : ZZ p l e R s m args below meth c nL E L cells slots Q ρ tgt lv st M t) : ZZ p l e R s m args below meth c nL E L cells slots Q ρ pc lv (.int x :: st) M t := fun ht hn H locs ls hl hP hS => lv_if_eq C.1 C.2.1 hdg hg (fun _ => k1 ht hn H locs ls hl hP hS) (fun z => absurd hc z)
theorem z_if_eq_f (C : ZC p s m args c cc nL own E L) {x : Int32} {off : Int} (tgt : Nat) (hdg : decode cc pc = .ok (.ifCond .eq off, 3)) (hg : (pc : Int) + off = (tgt : Int)) (hc : ¬ (x = 0)) (k1 : ZZ p l e R s m args below meth c nL E L cells slots Q ρ (pc + 3) lv st M t) : ZZ p l e R s m args below meth c nL E L cells slots Q ρ pc lv (.int x :: st) M t := fun ht hn H locs ls hl hP hS => lv_if_eq C.1 C.2.1 hdg hg (fun z => absurd z hc) (fun _ => k1 ht hn H locs ls hl hP hS)
theorem z_if_lt (C : ZC p s m args c cc nL own E L) {x : Int32} {off : Int} (tgt : Nat) {t1 t2 : Option (α × XM)} (hdg : decode cc pc = .ok (.ifCond .lt off, 3)) (hg : (pc : Int) + off = (tgt : Int)) (k1 : x < 0 → ZZ p l e R s m args below meth c nL E L cells slots Q ρ tgt lv st M t1) (k2 : ¬ (x < 0) → ZZ p l e R s m args below meth c nL E L cells slots Q ρ (pc + 3) lv st M t2) : ZZ p l e R s m args below meth c nL E L cells slots Q ρ pc lv (.int x :: st) M (if x < 0 then t1 else t2) := z_ite (fun hc => fun ht hn H locs ls hl hP hS => lv_if_lt C.1 C.2.1 hdg hg (fun _ => k1 hc ht hn H locs ls hl hP hS) (fun z => absurd hc z)) (fun hc => fun ht hn H locs ls hl hP hS => lv_if_lt C.1 C.2.1 hdg hg (fun z => absurd z hc) (fun _ => k2 hc ht hn H locs ls hl hP hS))
theorem z_icmp_lt (C : ZC p s m args c cc nL own E L) {x y : Int32} {off : Int} (tgt : Nat) {t1 t2 : Option (α × XM)} (hdg : decode cc pc = .ok (.if_icmp .lt off, 3)) (hg : (pc : Int) + off = (tgt : Int)) (k1 : x < y → ZZ p l e R s m args below meth c nL E L cells slots Q ρ tgt lv st M t1) (k2 : ¬ (x < y) → ZZ p l e R s m args below meth c nL E L cells slots Q ρ (pc + 3) lv st M t2) : ZZ p l e R s m args below meth c nL E L cells slots Q ρ pc lv (.int y :: .int x :: st) M (if x < y then t1 else t2) := z_ite (fun hc => fun ht hn H locs ls hl hP hS => lv_icmp_lt C.1 C.2.1 hdg hg (fun _ => k1 hc ht hn H locs ls hl hP hS) (fun z => absurd hc z)) (fun hc => fun ht hn H locs ls hl hP hS => lv_icmp_lt C.1 C.2.1 hdg hg (fun z => absurd z hc) (fun _ => k2 hc ht hn H locs ls hl hP hS))
theorem z_if_lt_t (C : ZC p s m args c cc nL own E L) {x : Int32} {off : Int} (tgt : Nat) (hdg : decode cc pc = .ok (.ifCond .lt off, 3)) (hg : (pc : Int) + off = (tgt : Int)) (hc : x < 0) (k1 : ZZ p l e R s m args below meth c nL E L cells slots Q ρ tgt lv st M t) : ZZ p l e R s m args below meth c nL E L cells slots Q ρ pc lv (.int x :: st) M t := fun ht hn H locs ls hl hP hS => lv_if_lt C.1 C.2.1 hdg hg (fun _ => k1 ht hn H locs ls hl hP hS) (fun z => absurd hc z)
theorem z_if_lt_f (C : ZC p s m args c cc nL own E L) {x : Int32} {off : Int} (tgt : Nat) (hdg : decode cc pc = .ok (.ifCond .lt off, 3)) (hg : (pc : Int) + off = (tgt : Int)) (hc : ¬ (x < 0)) (k1 : ZZ p l e R s m args below meth c nL E L cells slots Q ρ (pc + 3) lv st M t) : ZZ p l e R s m args below meth c nL E L cells slots Q ρ pc lv (.int x :: st) M t := fun ht hn H locs ls hl hP hS => lv_if_lt C.1 C.2.1 hdg hg (fun z => absurd z hc) (fun _ => k1 ht hn H locs ls hl hP hS)
theorem z_if_ge (C : ZC p s m args c cc nL own E L) {x : Int32} {off : Int} (tgt : Nat) {t1 t2 : Option (α × XM)} (hdg : decode cc pc = .ok (.ifCond .ge off, 3)) (hg : (pc : Int) + off = (tgt : Int)) (k1 : 0 ≤ x → ZZ p l e R s m args below meth c nL E L cells slots Q ρ tgt lv st M t1) (k2 : ¬ (0 ≤ x) → ZZ p l e R s m args below meth c nL E L cells slots Q ρ (pc + 3) lv st M t2) : ZZ p l e R s m args below meth c nL E L cells slots Q ρ pc lv (.int x :: st) M (if 0 ≤ x then t1 else t2) := z_ite (fun hc => fun ht hn H locs ls hl hP hS => lv_if_ge C.1 C.2.1 hdg hg (fun _ => k1 hc ht hn H locs ls hl hP hS) (fun z => absurd hc z)) (fun hc => fun ht hn H locs ls hl hP hS => lv_if_ge C.1 C.2.1 hdg hg (fun z => absurd z hc) (fun _ => k2 hc ht hn H locs ls hl hP hS))
theorem z_icmp_ge (C : ZC p s m args c cc nL own E L) {x y : Int32} {off : Int} (tgt : Nat) {t1 t2 : Option (α × XM)} (hdg : decode cc pc = .ok (.if_icmp .ge off, 3)) (hg : (pc : Int) + off = (tgt : Int)) (k1 : y ≤ x → ZZ p l e R s m args below meth c nL E L cells slots Q ρ tgt lv st M t1) (k2 : ¬ (y ≤ x) → ZZ p l e R s m args below meth c nL E L cells slots Q ρ (pc + 3) lv st M t2) : ZZ p l e R s m args below meth c nL E L cells slots Q ρ pc lv (.int y :: .int x :: st) M (if y ≤ x then t1 else t2) := z_ite (fun hc => fun ht hn H locs ls hl hP hS => lv_icmp_ge C.1 C.2.1 hdg hg (fun _ => k1 hc ht hn H locs ls hl hP hS) (fun z => absurd hc z)) (fun hc => fun ht hn H locs ls hl hP hS => lv_icmp_ge C.1 C.2.1 hdg hg (fun z => absurd z hc) (fun _ => k2 hc ht hn H locs ls hl hP hS))
theorem z_if_ge_t (C : ZC p s m args c cc nL own E L) {x : Int32} {off : Int} (tgt : Nat) (hdg : decode cc pc = .ok (.ifCond .ge off, 3)) (hg : (pc : Int) + off = (tgt : Int)) (hc : 0 ≤ x) (k1 : ZZ p l e R s m args below meth c nL E L cells slots Q ρ tgt lv st M t) : ZZ p l e R s m args below meth c nL E L cells slots Q ρ pc lv (.int x :: st) M t := fun ht hn H locs ls hl hP hS => lv_if_ge C.1 C.2.1 hdg hg (fun _ => k1 ht hn H locs ls hl hP hS) (fun z => absurd hc z)
theorem z_if_ge_f (C : ZC p s m args c cc nL own E L) {x : Int32} {off : Int} (tgt : Nat) (hdg : decode cc pc = .ok (.ifCond .ge off, 3)) (hg : (pc : Int) + off = (tgt : Int)) (hc : ¬ (0 ≤ x)) (k1 : ZZ p l e R s m args below meth c nL E L cells slots Q ρ (pc + 3) lv st M t) : ZZ p l e R s m args below meth c nL E L cells slots Q ρ pc lv (.int x :: st) M t := fun ht hn H locs ls hl hP hS => lv_if_ge C.1 C.2.1 hdg hg (fun z => absurd z hc) (fun _ => k1 ht hn H locs ls hl hP hS)
theorem z_if_gt (C : ZC p s m args c cc nL own E L) {x : Int32} {off : Int} (tgt : Nat) {t1 t2 : Option (α × XM)} (hdg : decode cc pc = .ok (.ifCond .gt off, 3)) (hg : (pc : Int) + off = (tgt : Int)) (k1 : 0 < x → ZZ p l e R s m args below meth c nL E L cells slots Q ρ tgt lv st M t1) (k2 : ¬ (0 < x) → ZZ p l e R s m args below meth c nL E L cells slots Q ρ (pc + 3) lv st M t2) : ZZ p l e R s m args below meth c nL E L cells slots Q ρ pc lv (.int x :: st) M (if 0 < x then t1 else t2) := z_ite (fun hc => fun ht hn H locs ls hl hP hS => lv_if_gt C.1 C.2.1 hdg hg (fun _ => k1 hc ht hn H locs ls hl hP hS) (fun z => absurd hc z)) (fun hc => fun ht hn H locs ls hl hP hS => lv_if_gt C.1 C.2.1 hdg hg (fun z => absurd z hc) (fun _ => k2 hc ht hn H locs ls hl hP hS))
theorem z_icmp_gt (C : ZC p s m args c cc nL own E L) {x y : Int32} {off : Int} (tgt : Nat) {t1 t2 : Option (α × XM)} (hdg : decode cc pc = .ok (.if_icmp .gt off, 3)) (hg : (pc : Int) + off = (tgt : Int)) (k1 : y < x → ZZ p l e R s m args below meth c nL E L cells slots Q ρ tgt lv st M t1) (k2 : ¬ (y < x) → ZZ p l e R s m args below meth c nL E L cells slots Q ρ (pc + 3) lv st M t2) : ZZ p l e R s m args below meth c nL E L cells slots Q ρ pc lv (.int y :: .int x :: st) M (if y < x then t1 else t2) := z_ite (fun hc => fun ht hn H locs ls hl hP hS => lv_icmp_gt C.1 C.2.1 hdg hg (fun _ => k1 hc ht hn H locs ls hl hP hS) (fun z => absurd hc z)) (fun hc => fun ht hn H locs ls hl hP hS => lv_icmp_gt C.1 C.2.1 hdg hg (fun z => absurd z hc) (fun _ => k2 hc ht hn H locs ls hl hP hS))
theorem z_if_gt_t (C : ZC p s m args c cc nL own E L) {x : Int32} {off : Int} (tgt : Nat) (hdg : decode cc pc = .ok (.ifCond .gt off, 3)) (hg : (pc : Int) + off = (tgt : Int)) (hc : 0 < x) (k1 : ZZ p l e R s m args below meth c nL E L cells slots Q ρ tgt lv st M t) : ZZ p l e R s m args below meth c nL E L cells slots Q ρ pc lv (.int x :: st) M t := fun ht hn H locs ls hl hP hS => lv_if_gt C.1 C.2.1 hdg hg (fun _ => k1 ht hn H locs ls hl hP hS) (fun z => absurd hc z)
theorem z_if_gt_f (C : ZC p s m args c cc nL own E L) {x : Int32} {off : Int} (tgt : Nat) (hdg : decode cc pc = .ok (.ifCond .gt off, 3)) (hg : (pc : Int) + off = (tgt : Int)) (hc : ¬ (0 < x)) (k1 : ZZ p l e R s m args below meth c nL E L cells slots Q ρ (pc + 3) lv st M t) : ZZ p l e R s m args below meth c nL E L cells slots Q ρ pc lv (.int x :: st) M t := fun ht hn H locs ls hl hP hS => lv_if_gt C.1 C.2.1 hdg hg (fun z => absurd z hc) (fun _ => k1 ht hn H locs ls hl hP hS)
theorem z_if_le (C : ZC p s m args c cc nL own E L) {x : Int32} {off : Int} (tgt : Nat) {t1 t2 : Option (α × XM)} (hdg : decode cc pc = .ok (.ifCond .le off, 3)) (hg : (pc : Int) + off = (tgt : Int)) (k1 : x ≤ 0 → ZZ p l e R s m args below meth c nL E L cells slots Q ρ tgt lv st M t1) (k2 : ¬ (x ≤ 0) → ZZ p l e R s m args below meth c nL E L cells slots Q ρ (pc + 3) lv st M t2) : ZZ p l e R s m args below meth c nL E L cells slots Q ρ pc lv (.int x :: st) M (if x ≤ 0 then t1 else t2) := z_ite (fun hc => fun ht hn H locs ls hl hP hS => lv_if_le C.1 C.2.1 hdg hg (fun _ => k1 hc ht hn H locs ls hl hP hS) (fun z => absurd hc z)) (fun hc => fun ht hn H locs ls hl hP hS => lv_if_le C.1 C.2.1 hdg hg (fun z => absurd z hc) (fun _ => k2 hc ht hn H locs ls hl hP hS))
theorem z_icmp_le (C : ZC p s m args c cc nL own E L) {x y : Int32} {off : Int} (tgt : Nat) {t1 t2 : Option (α × XM)} (hdg : decode cc pc = .ok (.if_icmp .le off, 3)) (hg : (pc : Int) + off = (tgt : Int)) (k1 : x ≤ y → ZZ p l e R s m args below meth c nL E L cells slots Q ρ tgt lv st M t1) (k2 : ¬ (x ≤ y) → ZZ p l e R s m args below meth c nL E L cells slots Q ρ (pc + 3) lv st M t2) : ZZ p l e R s m args below meth c nL E L cells slots Q ρ pc lv (.int y :: .int x :: st) M (if x ≤ y then t1 else t2) := z_ite (fun hc => fun ht hn H locs ls hl hP hS => lv_icmp_le C.1 C.2.1 hdg hg (fun _ => k1 hc ht hn H locs ls hl hP hS) (fun z => absurd hc z)) (fun hc => fun ht hn H locs ls hl hP hS => lv_icmp_le C.1 C.2.1 hdg hg (fun z => absurd z hc) (fun _ => k2 hc ht hn H locs ls hl hP hS))
theorem z_if_le_t (C : ZC p s m args c cc nL own E L) {x : Int32} {off : Int} (tgt : Nat) (hdg : decode cc pc = .ok (.ifCond .le off, 3)) (hg : (pc : Int) + off = (tgt : Int)) (hc : x ≤ 0) (k1 : ZZ p l e R s m args below meth c nL E L cells slots Q ρ tgt lv st M t) : ZZ p l e R s m args below meth c nL E L cells slots Q ρ pc lv (.int x :: st) M t := fun ht hn H locs ls hl hP hS => lv_if_le C.1 C.2.1 hdg hg (fun _ => k1 ht hn H locs ls hl hP hS) (fun z => absurd hc z)
theorem z_if_le_f (C : ZC p s m args c cc nL own E L) {x : Int32} {off : Int} (tgt : Nat) (hdg : decode cc pc = .ok (.ifCond .le off, 3)) (hg : (pc : Int) + off = (tgt : Int)) (hc : ¬ (x ≤ 0)) (k1 : ZZ p l e R s m args below meth c nL E L cells slots Q ρ (pc + 3) lv st M t) : ZZ p l e R s m args below meth c nL E L cells slots Q ρ pc lv (.int x :: st) M t := fun ht hn H locs ls hl hP hS => lv_if_le C.1 C.2.1 hdg hg (fun z => absurd z hc) (fun _ => k1 ht hn H locs ls hl hP hS)
theorem z_goto (C : ZC p s m args c cc nL own E L) {off : Int} (tgt : Nat) (hdg : decode cc pc = .ok (.goto off, 3)) (hg : (pc : Int) + off = (tgt : Int)) (k : ZZ p l e R s m args below meth c nL E L cells slots Q ρ tgt lv st M t) : ZZ p l e R s m args below meth c nL E L cells slots Q ρ pc lv st M t := fun ht hn H locs ls hl hP hS => lv_goto C.1 C.2.1 hdg hg (k ht hn H locs ls hl hP hS)
theorem z_swC {x v : Int32} {t1 t2 : Option (α × XM)} (k1 : ZZ p l e R s m args below meth c nL E L cells slots Q ρ pc lv (.int v :: st) M t1) (k2 : ¬ x = v → ZZ p l e R s m args below meth c nL E L cells slots Q ρ pc lv (.int x :: st) M t2) : ZZ p l e R s m args below meth c nL E L cells slots Q ρ pc lv (.int x :: st) M (if x = v then t1 else t2) := z_ite (fun h => h ▸ k1) k2
theorem z_swIn (C : ZC p s m args c cc nL own E L) {dflt lo hi : Int} {offs : Array Int} {len : Nat} {x : Int32} {off : Int} (tgt : Nat) (hdg : decode cc pc = .ok (.tableswitch dflt lo hi offs, len)) (h1 : ¬ x.toInt < lo) (h2 : ¬ hi < x.toInt) (ho : offs[(x.toInt - lo).toNat]? = some off) (hg : (pc : Int) + off = (tgt : Int)) (k : ZZ p l e R s m args below meth c nL E L cells slots Q ρ tgt lv st M t) : ZZ p l e R s m args below meth c nL E L cells slots Q ρ pc lv (.int x :: st) M t := fun ht hn H locs ls hl hP hS => lv_tableIn C.1 C.2.1 hdg h1 h2 ho hg (k ht hn H locs ls hl hP hS)
theorem z_swOut (C : ZC p s m args c cc nL own E L) {dflt lo hi : Int} {offs : Array Int} {len : Nat} {x : Int32} (tgt : Nat) (hdg : decode cc pc = .ok (.tableswitch dflt lo hi offs, len)) (h : x.toInt < lo ∨ hi < x.toInt) (hg : (pc : Int) + dflt = (tgt : Int)) (k : ZZ p l e R s m args below meth c nL E L cells slots Q ρ tgt lv st M t) : ZZ p l e R s m args below meth c nL E L cells slots Q ρ pc lv (.int x :: st) M t := fun ht hn H locs ls hl hP hS => lv_tableOut C.1 C.2.1 hdg h hg (k ht hn H locs ls hl hP hS)
theorem x_cellJ (E : XE) (M : XM) {i a b : Nat} (v : Int64) (h : ¬ (a = 14 ∧ b = i)) : x_cell E (xsetJ M (2 * i) v) a b = x_cell E M a b := by
  have key : ∀ a : Nat, ¬ (a = 14 ∧ b = i) → x_cell E (xsetJ M (2 * i) v) a b = x_cell E M a b := fun a h => match a, h with
    | 0, _ | 1, _ | 2, _ | 3, _ | 4, _ | 5, _ | 6, _ | 7, _ | 8, _ | 9, _ | 10, _ | 11, _ | 12, _ | 13, _ | 15, _ | 16, _ | 17, _ | 18, _ | 19, _ => rfl
    | 14, h => by
      have hb : ¬ b = i := fun z => h ⟨rfl, z⟩
      have h2 : ¬ 2 * b = 2 * i := by omega
      simp only [x_cell, xsetJ, if_neg h2]
    | _ + 20, _ => by
      have h2 : ∀ k : Nat, ¬ 2 * k + 1 = 2 * i := fun k => by omega
      simp only [x_cell, xsetJ, if_neg (h2 _)]
  exact key a h
theorem x_cellO (E : XE) (M : XM) {b k : Nat} (v : Int64) {a : Nat} (h : ¬ 20 ≤ a) : x_cell E (xsetJ M (2 * k + 1) v) a b = x_cell E M a b := by
  have key : ∀ a : Nat, ¬ 20 ≤ a → x_cell E (xsetJ M (2 * k + 1) v) a b = x_cell E M a b := fun a h => match a, h with
    | 0, _ | 1, _ | 2, _ | 3, _ | 4, _ | 5, _ | 6, _ | 7, _ | 8, _ | 9, _ | 10, _ | 11, _ | 12, _ | 13, _ | 15, _ | 16, _ | 17, _ | 18, _ | 19, _ => rfl
    | 14, h => by
      have h2 : ¬ 2 * b = 2 * k + 1 := by omega
      simp only [x_cell, xsetJ, if_neg h2]
    | _ + 20, h => absurd (Nat.le_add_left _ _) h
  exact key a h
theorem z_get (C : ZC p s m args c cc nL own E L) {j i ci N index : Nat} {Cn : String} {T : u_T} {fs : List Value} {v : Value} (hL : (j, i) ∈ L) (he : x_cell E M j i = .inr (ci, fs)) (hc : vwCl[ci]? = some (Cn, T, N)) (hin : ∀ w ∈ u_ws Cn T N, w ∈ xT) (k : Nat) (hk : k < N) (hw : Cond.fieldLink own index (T k).1 (T k).2.1 (T k).2.2.1 ∈ xT) (hv : fs[k]? = some v) (hdg : decode cc pc = .ok (.getfield index, 3)) (kk : ZZ p l e R s m args below meth c nL E L cells slots Q ρ (pc + 3) lv (v :: st) M t) : ZZ p l e R s m args below meth c nL E L cells slots Q ρ pc lv (.ref (eA E j i) :: st) M t := by
  intro ht hn H locs ls hl hP hS
  obtain ⟨q0, -, hq⟩ := xW_get E M hL
  rw [he] at hq
  exact va_get C.1 C.2.1 C.2.2.2.2.1 hin C.2.2.2.1 C.hK hP q0 hq hc k hk (C.2.2.2.2.1 _ hw) (fun _ h => h) hv hdg (kk ht hn H locs ls hl hP hS)
theorem z_getN (C : ZC p s m args c cc nL own E L) {j i ci N index : Nat} {Cn : String} {T : u_T} {fs : List Value} {v : Value} (hL : (j, i) ∈ L) (he : x_cell E M j i = .inr (ci, fs)) (hc : vwCl[ci]? = some (Cn, T, N)) (hin : ∀ w ∈ u_ws Cn T N, w ∈ xT) (k : Nat) (hk : k < N) (hw : (own, index, (T k).1, (T k).2.1, (T k).2.2.1, "SumBlocks") ∈ xNestF) (hv : fs[k]? = some v) (hdg : decode cc pc = .ok (.getfield index, 3)) (kk : ZZ p l e R s m args below meth c nL E L cells slots Q ρ (pc + 3) lv (v :: st) M t) : ZZ p l e R s m args below meth c nL E L cells slots Q ρ pc lv (.ref (eA E j i) :: st) M t := by
  intro ht hn H locs ls hl hP hS
  obtain ⟨q0, -, hq⟩ := xW_get E M hL
  rw [he] at hq
  exact va_getN C.1 C.2.1 C.2.2.2.2.1 hin C.2.2.2.1 C.hK hP q0 hq hc k hk (va_Nw.use rfl (C.2.2.2.2.2.1.2.2.2.2.2.1 _ hw)) (fun _ h => h) hv hdg (kk ht hn H locs ls hl hP hS)
theorem z_put (C : ZC p s m args c cc nL own E L) {j i ci N index : Nat} {Cn : String} {T : u_T} {fs : List Value} {v : Value} {kk : XM → Option (α × XM)} (hL : (j, i) ∈ L) (he : x_cell E M j i = .inr (ci, fs)) (hc : vwCl[ci]? = some (Cn, T, N)) (hin : ∀ w ∈ u_ws Cn T N, w ∈ xT) (ty0 : Nat → FieldType) (hty : ∀ k, k < N → parseFieldDescriptor (T k).2.2.1 = some (ty0 k)) (hnm : ∀ a, a < N → ∀ b, b < N → a ≠ b → (T a).2.1 ≠ (T b).2.1) (k : Nat) (hk : k < N) (hw : Cond.fieldLink own index (T k).1 (T k).2.1 (T k).2.2.1 ∈ xT) (hfin : (T k).2.2.2 = false) {ty : FieldType} (hd : parseFieldDescriptor (T k).2.2.1 = some ty) (hn : narrow ty v = v) (hfit : fits ty v = true) (hl : k < fs.length) {M' : XM} (hx : ∀ a b, ¬ (a = j ∧ b = i) → x_cell E M' a b = x_cell E M a b) (hce : (.inr (ci, fs.set k v) : va_E) = x_cell E M' j i) (hdg : decode cc pc = .ok (.putfield index, 3)) (k9 : ∀ M'' : XM, ZZ p l e R s m args below meth c nL E L cells slots Q ρ (pc + 3) lv st M'' (kk M'')) : ZZ p l e R s m args below meth c nL E L cells slots Q ρ pc lv (v :: .ref (eA E j i) :: st) M (bI M' kk) := by
  intro ht hn9 H locs ls hl9 hP hS
  obtain ⟨q0, hq0, hq⟩ := xW_get E M hL
  rw [he] at hq
  refine va_put C.1 C.2.1 C.2.2.2.2.1 hin ty0 hty hnm C.2.2.2.1 C.hK hP (C.hD (M := M)) hS q0 hq hc k hk (C.2.2.2.2.1 _ hw) (fun _ h => h) hfin hd hn hfit hl hdg (fun H1 locs1 hP1 _ hS1 => ?_)
  rw [xW_set E C.2.2.2.2.2.2.2 hq0 hx hce] at hP1
  exact k9 M' ht hn9 H1 locs1 ls hl9 hP1 hS1
theorem z_putN (C : ZC p s m args c cc nL own E L) {j i ci N index : Nat} {Cn : String} {T : u_T} {fs : List Value} {v : Value} {kk : XM → Option (α × XM)} (hL : (j, i) ∈ L) (he : x_cell E M j i = .inr (ci, fs)) (hc : vwCl[ci]? = some (Cn, T, N)) (hin : ∀ w ∈ u_ws Cn T N, w ∈ xT) (ty0 : Nat → FieldType) (hty : ∀ k, k < N → parseFieldDescriptor (T k).2.2.1 = some (ty0 k)) (hnm : ∀ a, a < N → ∀ b, b < N → a ≠ b → (T a).2.1 ≠ (T b).2.1) (k : Nat) (hk : k < N) (hw : (own, index, (T k).1, (T k).2.1, (T k).2.2.1, "SumBlocks") ∈ xNestF) (hfin : (T k).2.2.2 = false) {ty : FieldType} (hd : parseFieldDescriptor (T k).2.2.1 = some ty) (hn : narrow ty v = v) (hfit : fits ty v = true) (hl : k < fs.length) {M' : XM} (hx : ∀ a b, ¬ (a = j ∧ b = i) → x_cell E M' a b = x_cell E M a b) (hce : (.inr (ci, fs.set k v) : va_E) = x_cell E M' j i) (hdg : decode cc pc = .ok (.putfield index, 3)) (k9 : ∀ M'' : XM, ZZ p l e R s m args below meth c nL E L cells slots Q ρ (pc + 3) lv st M'' (kk M'')) : ZZ p l e R s m args below meth c nL E L cells slots Q ρ pc lv (v :: .ref (eA E j i) :: st) M (bI M' kk) := by
  intro ht hn9 H locs ls hl9 hP hS
  obtain ⟨q0, hq0, hq⟩ := xW_get E M hL
  rw [he] at hq
  refine va_putN C.1 C.2.1 C.2.2.2.2.1 hin ty0 hty hnm C.2.2.2.1 C.hK hP (C.hD (M := M)) hS q0 hq hc k hk (va_Nw.use rfl (C.2.2.2.2.2.1.2.2.2.2.2.1 _ hw)) (fun _ h => h) hfin hd hn hfit hl hdg (fun H1 locs1 hP1 _ hS1 => ?_)
  rw [xW_set E C.2.2.2.2.2.2.2 hq0 hx hce] at hP1
  exact k9 M' ht hn9 H1 locs1 ls hl9 hP1 hS1
theorem z_iald (C : ZC p s m args c cc nL own E L) {j i n : Nat} {x : Int32} (hL : (j, i) ∈ L) (he : x_cell E M j i = xrow E M n j i) (hdg : decode cc pc = .ok (.iaload, 1)) (k : ZZ p l e R s m args below meth c nL E L cells slots Q ρ (pc + 1) lv (.int (M.1 j i x.toNatClampNeg) :: st) M t) : ZZ p l e R s m args below meth c nL E L cells slots Q ρ pc lv (.int x :: .ref (eA E j i) :: st) M (gd (0 ≤ x.toInt ∧ x.toInt < (n : Int)) t) := z_gd fun hg => by
  intro ht hn H locs ls hl hP hS
  obtain ⟨q0, -, hq⟩ := xW_get E M hL
  rw [he] at hq
  exact va_iald C.1 C.2.1 C.hK hP q0 0 hq rfl (vp_in_iff.mpr hg) hdg (k ht hn H locs ls hl hP hS)
theorem z_iast (C : ZC p s m args c cc nL own E L) {j i n : Nat} {x v : Int32} {kk : XM → Option (α × XM)} (hL : (j, i) ∈ L) (he : ∀ M : XM, x_cell E M j i = xrow E M n j i) (hdg : decode cc pc = .ok (.iastore, 1)) (k : ∀ M' : XM, ZZ p l e R s m args below meth c nL E L cells slots Q ρ (pc + 1) lv st M' (kk M')) : ZZ p l e R s m args below meth c nL E L cells slots Q ρ pc lv (.int v :: .int x :: .ref (eA E j i) :: st) M (gd (0 ≤ x.toInt ∧ x.toInt < (n : Int)) (bI (xset M j i x.toNatClampNeg v) kk)) := z_gd fun hg => by
  intro ht hn H locs ls hl hP hS
  obtain ⟨q0, hq0, hq⟩ := xW_get E M hL
  rw [he] at hq
  refine va_iast C.1 C.2.1 C.hK hP (C.hD (M := M)) hS q0 0 hq rfl (vp_in_iff.mpr hg) hdg (fun H1 locs1 hP1 _ hS1 => ?_)
  rw [xW_set E (M' := xset M j i x.toNatClampNeg v) C.2.2.2.2.2.2.2 hq0 (fun a b h => x_cell_congr E (xset_ne M h) rfl) (by rw [he, xrow, xset_row])] at hP1
  exact k _ ht hn H1 locs1 ls hl hP1 hS1
theorem z_alen (C : ZC p s m args c cc nL own E L) {j i n : Nat} (hL : (j, i) ∈ L) (he : x_cell E M j i = xrow E M n j i) (hdg : decode cc pc = .ok (.arraylength, 1)) (k : ZZ p l e R s m args below meth c nL E L cells slots Q ρ (pc + 1) lv (.int (nI n) :: st) M t) : ZZ p l e R s m args below meth c nL E L cells slots Q ρ pc lv (.ref (eA E j i) :: st) M t := by
  intro ht hn H locs ls hl hP hS
  obtain ⟨q0, -, hq⟩ := xW_get E M hL
  rw [he] at hq
  exact va_alen C.1 C.2.1 C.hK hP q0 0 hq rfl rfl hdg (k ht hn H locs ls hl hP hS)
theorem z_alenR (C : ZC p s m args c cc nL own E L) (hL : (11, 0) ∈ L) (hdg : decode cc pc = .ok (.arraylength, 1)) (k : ZZ p l e R s m args below meth c nL E L cells slots Q ρ (pc + 1) lv (.int (nI 6) :: st) M t) : ZZ p l e R s m args below meth c nL E L cells slots Q ρ pc lv (.ref (eA E 11 0) :: st) M t := by
  intro ht hn H locs ls hl hP hS
  obtain ⟨q0, -, hq⟩ := xW_get E M hL
  exact va_alen C.1 C.2.1 C.hK hP q0 2 hq rfl rfl hdg (k ht hn H locs ls hl hP hS)
theorem z_aald (C : ZC p s m args c cc nL own E L) {x : Int32} (hL : (11, 0) ∈ L) (hg : 0 ≤ x.toInt ∧ x.toInt < 6) (hdg : decode cc pc = .ok (.aaload, 1)) (k : ZZ p l e R s m args below meth c nL E L cells slots Q ρ (pc + 1) lv (.ref (eA E 0 (x.toNatClampNeg + 1)) :: st) M t) : ZZ p l e R s m args below meth c nL E L cells slots Q ρ pc lv (.int x :: .ref (eA E 11 0) :: st) M t := by
  intro ht hn H locs ls hl hP hS
  obtain ⟨q0, -, hq⟩ := xW_get E M hL
  exact va_aldq C.1 C.2.1 C.hK hP q0 2 hq rfl (vp_in_iff.mpr hg) hdg (k ht hn H locs ls hl hP hS)
theorem z_last (C : ZC p s m args c cc nL own E L) {v : Int64} {kk : XM → Option (α × XM)} (hL : (20, 0) ∈ L) (hL1 : ∀ a b, (a, b) ∈ L → 20 ≤ a → a = 20 ∧ b = 0) (hdg : decode cc pc = .ok (.lastore, 1)) (k : ∀ M' : XM, ZZ p l e R s m args below meth c nL E L cells slots Q ρ (pc + 1) lv st M' (kk M')) : ZZ p l e R s m args below meth c nL E L cells slots Q ρ pc lv (.long v :: .int 0 :: .ref (eA E 20 0) :: st) M (bI (xsetJ M 1 v) kk) := by
  intro ht hn H locs ls hl hP hS
  obtain ⟨q0, hq0, hq⟩ := xW_get E M hL
  refine va_last C.1 C.2.1 C.hK hP (C.hD (M := M)) hS q0 1 hq rfl (vp_in_iff.mpr (by decide)) hdg (fun H1 locs1 hP1 _ hS1 => ?_)
  have hset : (xW E L M).set q0 (eA E 20 0, .inl (eJ E, 1, .inr (.inl (vp_updL (fun k => M.2 (2 * k + 1)) (0 : Int32).toNatClampNeg v)))) = xW E L (xsetJ M 1 v) := by
    refine List.ext_getElem? fun k9 => ?_
    have hl9 : q0 < L.length := (List.getElem?_eq_some_iff.mp hq0).1
    by_cases hk : q0 = k9
    · subst hk
      rw [List.getElem?_set_self (by simpa [xW] using hl9), xW, List.getElem?_map, hq0]
      have h0 : vp_updL (fun k => M.2 (2 * k + 1)) (0 : Int32).toNatClampNeg v = fun k => (xsetJ M 1 v).2 (2 * k + 1) := by
        funext k
        have e0 : (0 : Int32).toNatClampNeg = 0 := by decide
        simp only [vp_updL, xsetJ, e0]
        by_cases hk : k = 0
        · subst hk; simp
        · rw [if_neg hk, if_neg (by omega)]
      rw [h0]
      rfl
    · rw [List.getElem?_set_ne hk, xW, xW, List.getElem?_map, List.getElem?_map]
      cases hL9 : L[k9]? with
      | none => rfl
      | some q =>
        obtain ⟨a, b⟩ := q
        have hab : ¬ 20 ≤ a := by
          intro h20
          obtain ⟨rfl, rfl⟩ := hL1 a b (List.mem_of_getElem? hL9) h20
          obtain ⟨hl2, h2⟩ := List.getElem?_eq_some_iff.mp hL9
          obtain ⟨_, h1⟩ := List.getElem?_eq_some_iff.mp hq0
          exact hk ((List.getElem_inj (h₀ := hl9) (h₁ := hl2) C.2.2.2.2.2.2.2).mp (h1.trans h2.symm))
        show some (eA E a b, x_cell E M a b) = some (eA E a b, x_cell E (xsetJ M 1 v) a b)
        rw [show (1 : Nat) = 2 * 0 + 1 from rfl, x_cellO E M v hab]
  have hP2 : va_P (eD E) vwCl (xW E L (xsetJ M 1 v)) H1 := hset ▸ hP1
  exact k _ ht hn H1 locs1 ls hl hP2 hS1
theorem z_lald (C : ZC p s m args c cc nL own E L) (hL : (20, 0) ∈ L) (hdg : decode cc pc = .ok (.laload, 1)) (k : ZZ p l e R s m args below meth c nL E L cells slots Q ρ (pc + 1) lv (.long (M.2 1) :: st) M t) : ZZ p l e R s m args below meth c nL E L cells slots Q ρ pc lv (.int 0 :: .ref (eA E 20 0) :: st) M t := by
  intro ht hn H locs ls hl hP hS
  obtain ⟨q0, -, hq⟩ := xW_get E M hL
  exact va_lald C.1 C.2.1 C.hK hP q0 1 hq rfl (vp_in_iff.mpr (by decide)) hdg (k ht hn H locs ls hl hP hS)
theorem z_gets (C : ZC p s m args c cc nL own E L) {index : Nat} (hw : Cond.fieldLink own index "SumBlocks" "SIZES" "[I" ∈ xT) (hdg : decode cc pc = .ok (.getstatic index, 3)) (k : ZZ p l e R s m args below meth c nL E L cells slots Q ρ (pc + 3) lv (.ref (eS E) :: st) M t) : ZZ p l e R s m args below meth c nL E L cells slots Q ρ pc lv st M t := by
  intro ht hn H locs ls hl hP hS
  exact va_gets C.1 C.2.1 C.2.2.2.2.2.1.2.1 hS C.2.2.2.1 (C.2.2.2.2.1 _ hw) (fun _ h => h) hdg (k ht hn H locs ls hl hP hS)
/-- a row that is read alone, wherever it lies: its length, its ints -/
def xRow (E : XE) (L : List (Nat × Nat)) (a n : Nat) (f : Nat → Int32) (M : XM) : Prop := ∀ U : State, xWd E L M U → va_X a n f U U.heap
theorem xRow.named {E : XE} {L : List (Nat × Nat)} {M : XM} {j i n : Nat} (hL : (j, i) ∈ L) (he : x_cell E M j i = xrow E M n j i) : xRow E L (eA E j i) n (M.1 j i) M := by
  rintro U ⟨h1, h2, -⟩
  obtain ⟨q0, -, hq⟩ := xW_get E M hL
  rw [he] at hq
  have h3 := h2 q0 _ hq
  have h4 := (h1.1.2 0 (eI E, .int) rfl).1
  refine ⟨_, h3, ?_, ?_, ?_, ?_⟩
  · exact h4 n (fun j9 => .int (M.1 j i j9))
  · exact fun h => by cases h
  · simp [vp_cell, arrV]
  · intro j9 hj
    simp [vp_cell, arrV, hj]
theorem xRow.sizes {E : XE} {L : List (Nat × Nat)} {M : XM} : xRow E L (eS E) 15 xSz M := fun _ h => h.1.2.2.1
theorem ZC.row (C : ZC p s m args c cc nL own E L) {a n : Nat} {f : Nat → Int32} (hX : xRow E L a n f M) {H : Heap} {locs : List Loc} (hP : va_P (eD E) vwCl (xW E L M) H) (hS : va_S (eLo E) s.heap H locs) : va_X a n f s H :=
  va_X.moved (u := ({ s with heap := H } : State)) (U := s) (Vm.Alike.refl s.vm) (hX ({ s with heap := H } : State) (C.wd hP hS rfl (State.WarmedH.refl s)))
theorem z_xald (C : ZC p s m args c cc nL own E L) {a n : Nat} {f : Nat → Int32} {x : Int32} (hX : xRow E L a n f M) (hdg : decode cc pc = .ok (.iaload, 1)) (k : ZZ p l e R s m args below meth c nL E L cells slots Q ρ (pc + 1) lv (.int (f x.toNatClampNeg) :: st) M t) : ZZ p l e R s m args below meth c nL E L cells slots Q ρ pc lv (.int x :: .ref a :: st) M (gd (0 ≤ x.toInt ∧ x.toInt < (n : Int)) t) := z_gd fun hg => by
  intro ht hn H locs ls hl hP hS
  obtain ⟨scr, h1, h2, h3, h4, h5⟩ := C.row hX hP hS
  have e1 : x.toNatClampNeg = x.toInt.toNat := rfl
  exact W.iald C.1 C.2.1 h1 h2 h3 (by rw [h4]; exact vp_in_iff.mpr hg) (h5 _ (by omega)) rfl rfl hdg (k ht hn H locs ls hl hP hS)
theorem z_xlen (C : ZC p s m args c cc nL own E L) {a n : Nat} {f : Nat → Int32} (hX : xRow E L a n f M) (hdg : decode cc pc = .ok (.arraylength, 1)) (k : ZZ p l e R s m args below meth c nL E L cells slots Q ρ (pc + 1) lv (.int (nI n) :: st) M t) : ZZ p l e R s m args below meth c nL E L cells slots Q ρ pc lv (.ref a :: st) M t := by
  intro ht hn H locs ls hl hP hS
  obtain ⟨scr, h1, h2, h3, h4, h5⟩ := C.row hX hP hS
  exact W.alen C.1 C.2.1 h1 h2 (by rw [h4]; rfl) rfl rfl hdg (k ht hn H locs ls hl hP hS)
theorem zg_0_0 (C : ZC p s m args c cc nL own E L) {i : Nat} (hL : (0, i) ∈ L) {index : Nat} (hw : Cond.fieldLink own index "SumBlocks$Memory" "blocks" "LSumBlocks$Blocks;" ∈ xT) (hdg : decode cc pc = .ok (.getfield index, 3)) (k : ZZ p l e R s m args below meth c nL E L cells slots Q ρ (pc + 3) lv (.ref (eA E 1 i) :: st) M t) : ZZ p l e R s m args below meth c nL E L cells slots Q ρ pc lv (.ref (eA E 0 i) :: st) M t := z_get C hL rfl (rfl : vwCl[1]? = some (RX1, TX1, 7)) inX1 0 (by decide) (hw : Cond.fieldLink own index (TX1 0).1 (TX1 0).2.1 (TX1 0).2.2.1 ∈ xT) rfl hdg k
theorem zn_0_0 (C : ZC p s m args c cc nL own E L) {i : Nat} (hL : (0, i) ∈ L) {index : Nat} (hw : (own, index, "SumBlocks$Memory", "blocks", "LSumBlocks$Blocks;", "SumBlocks") ∈ xNestF) (hdg : decode cc pc = .ok (.getfield index, 3)) (k : ZZ p l e R s m args below meth c nL E L cells slots Q ρ (pc + 3) lv (.ref (eA E 1 i) :: st) M t) : ZZ p l e R s m args below meth c nL E L cells slots Q ρ pc lv (.ref (eA E 0 i) :: st) M t := z_getN C hL rfl (rfl : vwCl[1]? = some (RX1, TX1, 7)) inX1 0 (by decide) (hw : (own, index, (TX1 0).1, (TX1 0).2.1, (TX1 0).2.2.1, "SumBlocks") ∈ xNestF) rfl hdg k
theorem zg_0_1 (C : ZC p s m args c cc nL own E L) {i : Nat} (hL : (0, i) ∈ L) {index : Nat} (hw : Cond.fieldLink own index "SumBlocks$Memory" "span" "LSumBlocks$Span;" ∈ xT) (hdg : decode cc pc = .ok (.getfield index, 3)) (k : ZZ p l e R s m args below meth c nL E L cells slots Q ρ (pc + 3) lv (.ref (eA E 2 i) :: st) M t) : ZZ p l e R s m args below meth c nL E L cells slots Q ρ pc lv (.ref (eA E 0 i) :: st) M t := z_get C hL rfl (rfl : vwCl[1]? = some (RX1, TX1, 7)) inX1 1 (by decide) (hw : Cond.fieldLink own index (TX1 1).1 (TX1 1).2.1 (TX1 1).2.2.1 ∈ xT) rfl hdg k
theorem zn_0_1 (C : ZC p s m args c cc nL own E L) {i : Nat} (hL : (0, i) ∈ L) {index : Nat} (hw : (own, index, "SumBlocks$Memory", "span", "LSumBlocks$Span;", "SumBlocks") ∈ xNestF) (hdg : decode cc pc = .ok (.getfield index, 3)) (k : ZZ p l e R s m args below meth c nL E L cells slots Q ρ (pc + 3) lv (.ref (eA E 2 i) :: st) M t) : ZZ p l e R s m args below meth c nL E L cells slots Q ρ pc lv (.ref (eA E 0 i) :: st) M t := z_getN C hL rfl (rfl : vwCl[1]? = some (RX1, TX1, 7)) inX1 1 (by decide) (hw : (own, index, (TX1 1).1, (TX1 1).2.1, (TX1 1).2.2.1, "SumBlocks") ∈ xNestF) rfl hdg k
theorem zg_0_2 (C : ZC p s m args c cc nL own E L) {i : Nat} (hL : (0, i) ∈ L) {index : Nat} (hw : Cond.fieldLink own index "SumBlocks$Memory" "wishes" "[I" ∈ xT) (hdg : decode cc pc = .ok (.getfield index, 3)) (k : ZZ p l e R s m args below meth c nL E L cells slots Q ρ (pc + 3) lv (.ref (eA E 7 i) :: st) M t) : ZZ p l e R s m args below meth c nL E L cells slots Q ρ pc lv (.ref (eA E 0 i) :: st) M t := z_get C hL rfl (rfl : vwCl[1]? = some (RX1, TX1, 7)) inX1 2 (by decide) (hw : Cond.fieldLink own index (TX1 2).1 (TX1 2).2.1 (TX1 2).2.2.1 ∈ xT) rfl hdg k
theorem zn_0_2 (C : ZC p s m args c cc nL own E L) {i : Nat} (hL : (0, i) ∈ L) {index : Nat} (hw : (own, index, "SumBlocks$Memory", "wishes", "[I", "SumBlocks") ∈ xNestF) (hdg : decode cc pc = .ok (.getfield index, 3)) (k : ZZ p l e R s m args below meth c nL E L cells slots Q ρ (pc + 3) lv (.ref (eA E 7 i) :: st) M t) : ZZ p l e R s m args below meth c nL E L cells slots Q ρ pc lv (.ref (eA E 0 i) :: st) M t := z_getN C hL rfl (rfl : vwCl[1]? = some (RX1, TX1, 7)) inX1 2 (by decide) (hw : (own, index, (TX1 2).1, (TX1 2).2.1, (TX1 2).2.2.1, "SumBlocks") ∈ xNestF) rfl hdg k
theorem zg_0_3 (C : ZC p s m args c cc nL own E L) {i : Nat} (hL : (0, i) ∈ L) {index : Nat} (hw : Cond.fieldLink own index "SumBlocks$Memory" "settings" "[I" ∈ xT) (hdg : decode cc pc = .ok (.getfield index, 3)) (k : ZZ p l e R s m args below meth c nL E L cells slots Q ρ (pc + 3) lv (.ref (eA E 8 i) :: st) M t) : ZZ p l e R s m args below meth c nL E L cells slots Q ρ pc lv (.ref (eA E 0 i) :: st) M t := z_get C hL rfl (rfl : vwCl[1]? = some (RX1, TX1, 7)) inX1 3 (by decide) (hw : Cond.fieldLink own index (TX1 3).1 (TX1 3).2.1 (TX1 3).2.2.1 ∈ xT) rfl hdg k
theorem zn_0_3 (C : ZC p s m args c cc nL own E L) {i : Nat} (hL : (0, i) ∈ L) {index : Nat} (hw : (own, index, "SumBlocks$Memory", "settings", "[I", "SumBlocks") ∈ xNestF) (hdg : decode cc pc = .ok (.getfield index, 3)) (k : ZZ p l e R s m args below meth c nL E L cells slots Q ρ (pc + 3) lv (.ref (eA E 8 i) :: st) M t) : ZZ p l e R s m args below meth c nL E L cells slots Q ρ pc lv (.ref (eA E 0 i) :: st) M t := z_getN C hL rfl (rfl : vwCl[1]? = some (RX1, TX1, 7)) inX1 3 (by decide) (hw : (own, index, (TX1 3).1, (TX1 3).2.1, (TX1 3).2.2.1, "SumBlocks") ∈ xNestF) rfl hdg k
theorem zg_0_4 (C : ZC p s m args c cc nL own E L) {i : Nat} (hL : (0, i) ∈ L) {index : Nat} (hw : Cond.fieldLink own index "SumBlocks$Memory" "cuts" "I" ∈ xT) (hdg : decode cc pc = .ok (.getfield index, 3)) (k : ZZ p l e R s m args below meth c nL E L cells slots Q ρ (pc + 3) lv (.int (M.1 0 i 4) :: st) M t) : ZZ p l e R s m args below meth c nL E L cells slots Q ρ pc lv (.ref (eA E 0 i) :: st) M t := z_get C hL rfl (rfl : vwCl[1]? = some (RX1, TX1, 7)) inX1 4 (by decide) (hw : Cond.fieldLink own index (TX1 4).1 (TX1 4).2.1 (TX1 4).2.2.1 ∈ xT) rfl hdg k
theorem zn_0_4 (C : ZC p s m args c cc nL own E L) {i : Nat} (hL : (0, i) ∈ L) {index : Nat} (hw : (own, index, "SumBlocks$Memory", "cuts", "I", "SumBlocks") ∈ xNestF) (hdg : decode cc pc = .ok (.getfield index, 3)) (k : ZZ p l e R s m args below meth c nL E L cells slots Q ρ (pc + 3) lv (.int (M.1 0 i 4) :: st) M t) : ZZ p l e R s m args below meth c nL E L cells slots Q ρ pc lv (.ref (eA E 0 i) :: st) M t := z_getN C hL rfl (rfl : vwCl[1]? = some (RX1, TX1, 7)) inX1 4 (by decide) (hw : (own, index, (TX1 4).1, (TX1 4).2.1, (TX1 4).2.2.1, "SumBlocks") ∈ xNestF) rfl hdg k
theorem zp_0_4 (C : ZC p s m args c cc nL own E L) {i : Nat} (hL : (0, i) ∈ L) {index : Nat} {v : Int32} {kk : XM → Option (α × XM)} (hw : Cond.fieldLink own index "SumBlocks$Memory" "cuts" "I" ∈ xT) (hdg : decode cc pc = .ok (.putfield index, 3)) (k : ∀ M' : XM, ZZ p l e R s m args below meth c nL E L cells slots Q ρ (pc + 3) lv st M' (kk M')) : ZZ p l e R s m args below meth c nL E L cells slots Q ρ pc lv (.int v :: .ref (eA E 0 i) :: st) M (bI (xset M 0 i 4 v) kk) := z_put C hL (fs := [.ref (eA E 1 i), .ref (eA E 2 i), .ref (eA E 7 i), .ref (eA E 8 i), .int (M.1 0 i 4), .int (M.1 0 i 5), .int (M.1 0 i 6)]) rfl (rfl : vwCl[1]? = some (RX1, TX1, 7)) inX1 tyX1 tyX1_ok nmX1 4 (by decide) (hw : Cond.fieldLink own index (TX1 4).1 (TX1 4).2.1 (TX1 4).2.2.1 ∈ xT) rfl (ty := .int) (by decide +kernel) rfl rfl (by simp) (M' := xset M 0 i 4 v) (fun a b h => x_cell_congr E (xset_ne M h) rfl) (by simp [x_cell, xset]) hdg k
theorem zg_0_5 (C : ZC p s m args c cc nL own E L) {i : Nat} (hL : (0, i) ∈ L) {index : Nat} (hw : Cond.fieldLink own index "SumBlocks$Memory" "joins" "I" ∈ xT) (hdg : decode cc pc = .ok (.getfield index, 3)) (k : ZZ p l e R s m args below meth c nL E L cells slots Q ρ (pc + 3) lv (.int (M.1 0 i 5) :: st) M t) : ZZ p l e R s m args below meth c nL E L cells slots Q ρ pc lv (.ref (eA E 0 i) :: st) M t := z_get C hL rfl (rfl : vwCl[1]? = some (RX1, TX1, 7)) inX1 5 (by decide) (hw : Cond.fieldLink own index (TX1 5).1 (TX1 5).2.1 (TX1 5).2.2.1 ∈ xT) rfl hdg k
theorem zn_0_5 (C : ZC p s m args c cc nL own E L) {i : Nat} (hL : (0, i) ∈ L) {index : Nat} (hw : (own, index, "SumBlocks$Memory", "joins", "I", "SumBlocks") ∈ xNestF) (hdg : decode cc pc = .ok (.getfield index, 3)) (k : ZZ p l e R s m args below meth c nL E L cells slots Q ρ (pc + 3) lv (.int (M.1 0 i 5) :: st) M t) : ZZ p l e R s m args below meth c nL E L cells slots Q ρ pc lv (.ref (eA E 0 i) :: st) M t := z_getN C hL rfl (rfl : vwCl[1]? = some (RX1, TX1, 7)) inX1 5 (by decide) (hw : (own, index, (TX1 5).1, (TX1 5).2.1, (TX1 5).2.2.1, "SumBlocks") ∈ xNestF) rfl hdg k
theorem zp_0_5 (C : ZC p s m args c cc nL own E L) {i : Nat} (hL : (0, i) ∈ L) {index : Nat} {v : Int32} {kk : XM → Option (α × XM)} (hw : Cond.fieldLink own index "SumBlocks$Memory" "joins" "I" ∈ xT) (hdg : decode cc pc = .ok (.putfield index, 3)) (k : ∀ M' : XM, ZZ p l e R s m args below meth c nL E L cells slots Q ρ (pc + 3) lv st M' (kk M')) : ZZ p l e R s m args below meth c nL E L cells slots Q ρ pc lv (.int v :: .ref (eA E 0 i) :: st) M (bI (xset M 0 i 5 v) kk) := z_put C hL (fs := [.ref (eA E 1 i), .ref (eA E 2 i), .ref (eA E 7 i), .ref (eA E 8 i), .int (M.1 0 i 4), .int (M.1 0 i 5), .int (M.1 0 i 6)]) rfl (rfl : vwCl[1]? = some (RX1, TX1, 7)) inX1 tyX1 tyX1_ok nmX1 5 (by decide) (hw : Cond.fieldLink own index (TX1 5).1 (TX1 5).2.1 (TX1 5).2.2.1 ∈ xT) rfl (ty := .int) (by decide +kernel) rfl rfl (by simp) (M' := xset M 0 i 5 v) (fun a b h => x_cell_congr E (xset_ne M h) rfl) (by simp [x_cell, xset]) hdg k
theorem zg_0_6 (C : ZC p s m args c cc nL own E L) {i : Nat} (hL : (0, i) ∈ L) {index : Nat} (hw : Cond.fieldLink own index "SumBlocks$Memory" "granted" "I" ∈ xT) (hdg : decode cc pc = .ok (.getfield index, 3)) (k : ZZ p l e R s m args below meth c nL E L cells slots Q ρ (pc + 3) lv (.int (M.1 0 i 6) :: st) M t) : ZZ p l e R s m args below meth c nL E L cells slots Q ρ pc lv (.ref (eA E 0 i) :: st) M t := z_get C hL rfl (rfl : vwCl[1]? = some (RX1, TX1, 7)) inX1 6 (by decide) (hw : Cond.fieldLink own index (TX1 6).1 (TX1 6).2.1 (TX1 6).2.2.1 ∈ xT) rfl hdg k
theorem zn_0_6 (C : ZC p s m args c cc nL own E L) {i : Nat} (hL : (0, i) ∈ L) {index : Nat} (hw : (own, index, "SumBlocks$Memory", "granted", "I", "SumBlocks") ∈ xNestF) (hdg : decode cc pc = .ok (.getfield index, 3)) (k : ZZ p l e R s m args below meth c nL E L cells slots Q ρ (pc + 3) lv (.int (M.1 0 i 6) :: st) M t) : ZZ p l e R s m args below meth c nL E L cells slots Q ρ pc lv (.ref (eA E 0 i) :: st) M t := z_getN C hL rfl (rfl : vwCl[1]? = some (RX1, TX1, 7)) inX1 6 (by decide) (hw : (own, index, (TX1 6).1, (TX1 6).2.1, (TX1 6).2.2.1, "SumBlocks") ∈ xNestF) rfl hdg k
theorem zp_0_6 (C : ZC p s m args c cc nL own E L) {i : Nat} (hL : (0, i) ∈ L) {index : Nat} {v : Int32} {kk : XM → Option (α × XM)} (hw : Cond.fieldLink own index "SumBlocks$Memory" "granted" "I" ∈ xT) (hdg : decode cc pc = .ok (.putfield index, 3)) (k : ∀ M' : XM, ZZ p l e R s m args below meth c nL E L cells slots Q ρ (pc + 3) lv st M' (kk M')) : ZZ p l e R s m args below meth c nL E L cells slots Q ρ pc lv (.int v :: .ref (eA E 0 i) :: st) M (bI (xset M 0 i 6 v) kk) := z_put C hL (fs := [.ref (eA E 1 i), .ref (eA E 2 i), .ref (eA E 7 i), .ref (eA E 8 i), .int (M.1 0 i 4), .int (M.1 0 i 5), .int (M.1 0 i 6)]) rfl (rfl : vwCl[1]? = some (RX1, TX1, 7)) inX1 tyX1 tyX1_ok nmX1 6 (by decide) (hw : Cond.fieldLink own index (TX1 6).1 (TX1 6).2.1 (TX1 6).2.2.1 ∈ xT) rfl (ty := .int) (by decide +kernel) rfl rfl (by simp) (M' := xset M 0 i 6 v) (fun a b h => x_cell_congr E (xset_ne M h) rfl) (by simp [x_cell, xset]) hdg k
theorem zg_1_0 (C : ZC p s m args c cc nL own E L) {i : Nat} (hL : (1, i) ∈ L) {index : Nat} (hw : Cond.fieldLink own index "SumBlocks$Blocks" "addresses" "[I" ∈ xT) (hdg : decode cc pc = .ok (.getfield index, 3)) (k : ZZ p l e R s m args below meth c nL E L cells slots Q ρ (pc + 3) lv (.ref (eA E 3 i) :: st) M t) : ZZ p l e R s m args below meth c nL E L cells slots Q ρ pc lv (.ref (eA E 1 i) :: st) M t := z_get C hL rfl (rfl : vwCl[0]? = some (RX0, TX0, 6)) inX0 0 (by decide) (hw : Cond.fieldLink own index (TX0 0).1 (TX0 0).2.1 (TX0 0).2.2.1 ∈ xT) rfl hdg k
theorem zn_1_0 (C : ZC p s m args c cc nL own E L) {i : Nat} (hL : (1, i) ∈ L) {index : Nat} (hw : (own, index, "SumBlocks$Blocks", "addresses", "[I", "SumBlocks") ∈ xNestF) (hdg : decode cc pc = .ok (.getfield index, 3)) (k : ZZ p l e R s m args below meth c nL E L cells slots Q ρ (pc + 3) lv (.ref (eA E 3 i) :: st) M t) : ZZ p l e R s m args below meth c nL E L cells slots Q ρ pc lv (.ref (eA E 1 i) :: st) M t := z_getN C hL rfl (rfl : vwCl[0]? = some (RX0, TX0, 6)) inX0 0 (by decide) (hw : (own, index, (TX0 0).1, (TX0 0).2.1, (TX0 0).2.2.1, "SumBlocks") ∈ xNestF) rfl hdg k
theorem zg_1_1 (C : ZC p s m args c cc nL own E L) {i : Nat} (hL : (1, i) ∈ L) {index : Nat} (hw : Cond.fieldLink own index "SumBlocks$Blocks" "orders" "[I" ∈ xT) (hdg : decode cc pc = .ok (.getfield index, 3)) (k : ZZ p l e R s m args below meth c nL E L cells slots Q ρ (pc + 3) lv (.ref (eA E 4 i) :: st) M t) : ZZ p l e R s m args below meth c nL E L cells slots Q ρ pc lv (.ref (eA E 1 i) :: st) M t := z_get C hL rfl (rfl : vwCl[0]? = some (RX0, TX0, 6)) inX0 1 (by decide) (hw : Cond.fieldLink own index (TX0 1).1 (TX0 1).2.1 (TX0 1).2.2.1 ∈ xT) rfl hdg k
theorem zn_1_1 (C : ZC p s m args c cc nL own E L) {i : Nat} (hL : (1, i) ∈ L) {index : Nat} (hw : (own, index, "SumBlocks$Blocks", "orders", "[I", "SumBlocks") ∈ xNestF) (hdg : decode cc pc = .ok (.getfield index, 3)) (k : ZZ p l e R s m args below meth c nL E L cells slots Q ρ (pc + 3) lv (.ref (eA E 4 i) :: st) M t) : ZZ p l e R s m args below meth c nL E L cells slots Q ρ pc lv (.ref (eA E 1 i) :: st) M t := z_getN C hL rfl (rfl : vwCl[0]? = some (RX0, TX0, 6)) inX0 1 (by decide) (hw : (own, index, (TX0 1).1, (TX0 1).2.1, (TX0 1).2.2.1, "SumBlocks") ∈ xNestF) rfl hdg k
theorem zg_1_2 (C : ZC p s m args c cc nL own E L) {i : Nat} (hL : (1, i) ∈ L) {index : Nat} (hw : Cond.fieldLink own index "SumBlocks$Blocks" "counts" "[I" ∈ xT) (hdg : decode cc pc = .ok (.getfield index, 3)) (k : ZZ p l e R s m args below meth c nL E L cells slots Q ρ (pc + 3) lv (.ref (eA E 5 i) :: st) M t) : ZZ p l e R s m args below meth c nL E L cells slots Q ρ pc lv (.ref (eA E 1 i) :: st) M t := z_get C hL rfl (rfl : vwCl[0]? = some (RX0, TX0, 6)) inX0 2 (by decide) (hw : Cond.fieldLink own index (TX0 2).1 (TX0 2).2.1 (TX0 2).2.2.1 ∈ xT) rfl hdg k
theorem zn_1_2 (C : ZC p s m args c cc nL own E L) {i : Nat} (hL : (1, i) ∈ L) {index : Nat} (hw : (own, index, "SumBlocks$Blocks", "counts", "[I", "SumBlocks") ∈ xNestF) (hdg : decode cc pc = .ok (.getfield index, 3)) (k : ZZ p l e R s m args below meth c nL E L cells slots Q ρ (pc + 3) lv (.ref (eA E 5 i) :: st) M t) : ZZ p l e R s m args below meth c nL E L cells slots Q ρ pc lv (.ref (eA E 1 i) :: st) M t := z_getN C hL rfl (rfl : vwCl[0]? = some (RX0, TX0, 6)) inX0 2 (by decide) (hw : (own, index, (TX0 2).1, (TX0 2).2.1, (TX0 2).2.2.1, "SumBlocks") ∈ xNestF) rfl hdg k
theorem zg_1_3 (C : ZC p s m args c cc nL own E L) {i : Nat} (hL : (1, i) ∈ L) {index : Nat} (hw : Cond.fieldLink own index "SumBlocks$Blocks" "owners" "[I" ∈ xT) (hdg : decode cc pc = .ok (.getfield index, 3)) (k : ZZ p l e R s m args below meth c nL E L cells slots Q ρ (pc + 3) lv (.ref (eA E 6 i) :: st) M t) : ZZ p l e R s m args below meth c nL E L cells slots Q ρ pc lv (.ref (eA E 1 i) :: st) M t := z_get C hL rfl (rfl : vwCl[0]? = some (RX0, TX0, 6)) inX0 3 (by decide) (hw : Cond.fieldLink own index (TX0 3).1 (TX0 3).2.1 (TX0 3).2.2.1 ∈ xT) rfl hdg k
theorem zn_1_3 (C : ZC p s m args c cc nL own E L) {i : Nat} (hL : (1, i) ∈ L) {index : Nat} (hw : (own, index, "SumBlocks$Blocks", "owners", "[I", "SumBlocks") ∈ xNestF) (hdg : decode cc pc = .ok (.getfield index, 3)) (k : ZZ p l e R s m args below meth c nL E L cells slots Q ρ (pc + 3) lv (.ref (eA E 6 i) :: st) M t) : ZZ p l e R s m args below meth c nL E L cells slots Q ρ pc lv (.ref (eA E 1 i) :: st) M t := z_getN C hL rfl (rfl : vwCl[0]? = some (RX0, TX0, 6)) inX0 3 (by decide) (hw : (own, index, (TX0 3).1, (TX0 3).2.1, (TX0 3).2.2.1, "SumBlocks") ∈ xNestF) rfl hdg k
theorem zg_1_4 (C : ZC p s m args c cc nL own E L) {i : Nat} (hL : (1, i) ∈ L) {index : Nat} (hw : Cond.fieldLink own index "SumBlocks$Blocks" "many" "I" ∈ xT) (hdg : decode cc pc = .ok (.getfield index, 3)) (k : ZZ p l e R s m args below meth c nL E L cells slots Q ρ (pc + 3) lv (.int (M.1 1 i 4) :: st) M t) : ZZ p l e R s m args below meth c nL E L cells slots Q ρ pc lv (.ref (eA E 1 i) :: st) M t := z_get C hL rfl (rfl : vwCl[0]? = some (RX0, TX0, 6)) inX0 4 (by decide) (hw : Cond.fieldLink own index (TX0 4).1 (TX0 4).2.1 (TX0 4).2.2.1 ∈ xT) rfl hdg k
theorem zn_1_4 (C : ZC p s m args c cc nL own E L) {i : Nat} (hL : (1, i) ∈ L) {index : Nat} (hw : (own, index, "SumBlocks$Blocks", "many", "I", "SumBlocks") ∈ xNestF) (hdg : decode cc pc = .ok (.getfield index, 3)) (k : ZZ p l e R s m args below meth c nL E L cells slots Q ρ (pc + 3) lv (.int (M.1 1 i 4) :: st) M t) : ZZ p l e R s m args below meth c nL E L cells slots Q ρ pc lv (.ref (eA E 1 i) :: st) M t := z_getN C hL rfl (rfl : vwCl[0]? = some (RX0, TX0, 6)) inX0 4 (by decide) (hw : (own, index, (TX0 4).1, (TX0 4).2.1, (TX0 4).2.2.1, "SumBlocks") ∈ xNestF) rfl hdg k
theorem zp_1_4 (C : ZC p s m args c cc nL own E L) {i : Nat} (hL : (1, i) ∈ L) {index : Nat} {v : Int32} {kk : XM → Option (α × XM)} (hw : Cond.fieldLink own index "SumBlocks$Blocks" "many" "I" ∈ xT) (hdg : decode cc pc = .ok (.putfield index, 3)) (k : ∀ M' : XM, ZZ p l e R s m args below meth c nL E L cells slots Q ρ (pc + 3) lv st M' (kk M')) : ZZ p l e R s m args below meth c nL E L cells slots Q ρ pc lv (.int v :: .ref (eA E 1 i) :: st) M (bI (xset M 1 i 4 v) kk) := z_put C hL (fs := [.ref (eA E 3 i), .ref (eA E 4 i), .ref (eA E 5 i), .ref (eA E 6 i), .int (M.1 1 i 4), .int (M.1 1 i 5)]) rfl (rfl : vwCl[0]? = some (RX0, TX0, 6)) inX0 tyX0 tyX0_ok nmX0 4 (by decide) (hw : Cond.fieldLink own index (TX0 4).1 (TX0 4).2.1 (TX0 4).2.2.1 ∈ xT) rfl (ty := .int) (by decide +kernel) rfl rfl (by simp) (M' := xset M 1 i 4 v) (fun a b h => x_cell_congr E (xset_ne M h) rfl) (by simp [x_cell, xset]) hdg k
theorem zg_1_5 (C : ZC p s m args c cc nL own E L) {i : Nat} (hL : (1, i) ∈ L) {index : Nat} (hw : Cond.fieldLink own index "SumBlocks$Blocks" "top" "I" ∈ xT) (hdg : decode cc pc = .ok (.getfield index, 3)) (k : ZZ p l e R s m args below meth c nL E L cells slots Q ρ (pc + 3) lv (.int (M.1 1 i 5) :: st) M t) : ZZ p l e R s m args below meth c nL E L cells slots Q ρ pc lv (.ref (eA E 1 i) :: st) M t := z_get C hL rfl (rfl : vwCl[0]? = some (RX0, TX0, 6)) inX0 5 (by decide) (hw : Cond.fieldLink own index (TX0 5).1 (TX0 5).2.1 (TX0 5).2.2.1 ∈ xT) rfl hdg k
theorem zn_1_5 (C : ZC p s m args c cc nL own E L) {i : Nat} (hL : (1, i) ∈ L) {index : Nat} (hw : (own, index, "SumBlocks$Blocks", "top", "I", "SumBlocks") ∈ xNestF) (hdg : decode cc pc = .ok (.getfield index, 3)) (k : ZZ p l e R s m args below meth c nL E L cells slots Q ρ (pc + 3) lv (.int (M.1 1 i 5) :: st) M t) : ZZ p l e R s m args below meth c nL E L cells slots Q ρ pc lv (.ref (eA E 1 i) :: st) M t := z_getN C hL rfl (rfl : vwCl[0]? = some (RX0, TX0, 6)) inX0 5 (by decide) (hw : (own, index, (TX0 5).1, (TX0 5).2.1, (TX0 5).2.2.1, "SumBlocks") ∈ xNestF) rfl hdg k
theorem zp_1_5 (C : ZC p s m args c cc nL own E L) {i : Nat} (hL : (1, i) ∈ L) {index : Nat} {v : Int32} {kk : XM → Option (α × XM)} (hw : Cond.fieldLink own index "SumBlocks$Blocks" "top" "I" ∈ xT) (hdg : decode cc pc = .ok (.putfield index, 3)) (k : ∀ M' : XM, ZZ p l e R s m args below meth c nL E L cells slots Q ρ (pc + 3) lv st M' (kk M')) : ZZ p l e R s m args below meth c nL E L cells slots Q ρ pc lv (.int v :: .ref (eA E 1 i) :: st) M (bI (xset M 1 i 5 v) kk) := z_put C hL (fs := [.ref (eA E 3 i), .ref (eA E 4 i), .ref (eA E 5 i), .ref (eA E 6 i), .int (M.1 1 i 4), .int (M.1 1 i 5)]) rfl (rfl : vwCl[0]? = some (RX0, TX0, 6)) inX0 tyX0 tyX0_ok nmX0 5 (by decide) (hw : Cond.fieldLink own index (TX0 5).1 (TX0 5).2.1 (TX0 5).2.2.1 ∈ xT) rfl (ty := .int) (by decide +kernel) rfl rfl (by simp) (M' := xset M 1 i 5 v) (fun a b h => x_cell_congr E (xset_ne M h) rfl) (by simp [x_cell, xset]) hdg k
theorem zg_2_0 (C : ZC p s m args c cc nL own E L) {i : Nat} (hL : (2, i) ∈ L) {index : Nat} (hw : Cond.fieldLink own index "SumBlocks$Span" "left" "I" ∈ xT) (hdg : decode cc pc = .ok (.getfield index, 3)) (k : ZZ p l e R s m args below meth c nL E L cells slots Q ρ (pc + 3) lv (.int (M.1 2 i 0) :: st) M t) : ZZ p l e R s m args below meth c nL E L cells slots Q ρ pc lv (.ref (eA E 2 i) :: st) M t := z_get C hL rfl (rfl : vwCl[4]? = some (RX4, TX4, 5)) inX4 0 (by decide) (hw : Cond.fieldLink own index (TX4 0).1 (TX4 0).2.1 (TX4 0).2.2.1 ∈ xT) rfl hdg k
theorem zn_2_0 (C : ZC p s m args c cc nL own E L) {i : Nat} (hL : (2, i) ∈ L) {index : Nat} (hw : (own, index, "SumBlocks$Span", "left", "I", "SumBlocks") ∈ xNestF) (hdg : decode cc pc = .ok (.getfield index, 3)) (k : ZZ p l e R s m args below meth c nL E L cells slots Q ρ (pc + 3) lv (.int (M.1 2 i 0) :: st) M t) : ZZ p l e R s m args below meth c nL E L cells slots Q ρ pc lv (.ref (eA E 2 i) :: st) M t := z_getN C hL rfl (rfl : vwCl[4]? = some (RX4, TX4, 5)) inX4 0 (by decide) (hw : (own, index, (TX4 0).1, (TX4 0).2.1, (TX4 0).2.2.1, "SumBlocks") ∈ xNestF) rfl hdg k
theorem zp_2_0 (C : ZC p s m args c cc nL own E L) {i : Nat} (hL : (2, i) ∈ L) {index : Nat} {v : Int32} {kk : XM → Option (α × XM)} (hw : Cond.fieldLink own index "SumBlocks$Span" "left" "I" ∈ xT) (hdg : decode cc pc = .ok (.putfield index, 3)) (k : ∀ M' : XM, ZZ p l e R s m args below meth c nL E L cells slots Q ρ (pc + 3) lv st M' (kk M')) : ZZ p l e R s m args below meth c nL E L cells slots Q ρ pc lv (.int v :: .ref (eA E 2 i) :: st) M (bI (xset M 2 i 0 v) kk) := z_put C hL (fs := [.int (M.1 2 i 0), .int (M.1 2 i 1), .int (M.1 2 i 2), .int (M.1 2 i 3), .int (M.1 2 i 4)]) rfl (rfl : vwCl[4]? = some (RX4, TX4, 5)) inX4 tyX4 tyX4_ok nmX4 0 (by decide) (hw : Cond.fieldLink own index (TX4 0).1 (TX4 0).2.1 (TX4 0).2.2.1 ∈ xT) rfl (ty := .int) (by decide +kernel) rfl rfl (by simp) (M' := xset M 2 i 0 v) (fun a b h => x_cell_congr E (xset_ne M h) rfl) (by simp [x_cell, xset]) hdg k
theorem zg_2_1 (C : ZC p s m args c cc nL own E L) {i : Nat} (hL : (2, i) ∈ L) {index : Nat} (hw : Cond.fieldLink own index "SumBlocks$Span" "right" "I" ∈ xT) (hdg : decode cc pc = .ok (.getfield index, 3)) (k : ZZ p l e R s m args below meth c nL E L cells slots Q ρ (pc + 3) lv (.int (M.1 2 i 1) :: st) M t) : ZZ p l e R s m args below meth c nL E L cells slots Q ρ pc lv (.ref (eA E 2 i) :: st) M t := z_get C hL rfl (rfl : vwCl[4]? = some (RX4, TX4, 5)) inX4 1 (by decide) (hw : Cond.fieldLink own index (TX4 1).1 (TX4 1).2.1 (TX4 1).2.2.1 ∈ xT) rfl hdg k
theorem zn_2_1 (C : ZC p s m args c cc nL own E L) {i : Nat} (hL : (2, i) ∈ L) {index : Nat} (hw : (own, index, "SumBlocks$Span", "right", "I", "SumBlocks") ∈ xNestF) (hdg : decode cc pc = .ok (.getfield index, 3)) (k : ZZ p l e R s m args below meth c nL E L cells slots Q ρ (pc + 3) lv (.int (M.1 2 i 1) :: st) M t) : ZZ p l e R s m args below meth c nL E L cells slots Q ρ pc lv (.ref (eA E 2 i) :: st) M t := z_getN C hL rfl (rfl : vwCl[4]? = some (RX4, TX4, 5)) inX4 1 (by decide) (hw : (own, index, (TX4 1).1, (TX4 1).2.1, (TX4 1).2.2.1, "SumBlocks") ∈ xNestF) rfl hdg k
theorem zp_2_1 (C : ZC p s m args c cc nL own E L) {i : Nat} (hL : (2, i) ∈ L) {index : Nat} {v : Int32} {kk : XM → Option (α × XM)} (hw : Cond.fieldLink own index "SumBlocks$Span" "right" "I" ∈ xT) (hdg : decode cc pc = .ok (.putfield index, 3)) (k : ∀ M' : XM, ZZ p l e R s m args below meth c nL E L cells slots Q ρ (pc + 3) lv st M' (kk M')) : ZZ p l e R s m args below meth c nL E L cells slots Q ρ pc lv (.int v :: .ref (eA E 2 i) :: st) M (bI (xset M 2 i 1 v) kk) := z_put C hL (fs := [.int (M.1 2 i 0), .int (M.1 2 i 1), .int (M.1 2 i 2), .int (M.1 2 i 3), .int (M.1 2 i 4)]) rfl (rfl : vwCl[4]? = some (RX4, TX4, 5)) inX4 tyX4 tyX4_ok nmX4 1 (by decide) (hw : Cond.fieldLink own index (TX4 1).1 (TX4 1).2.1 (TX4 1).2.2.1 ∈ xT) rfl (ty := .int) (by decide +kernel) rfl rfl (by simp) (M' := xset M 2 i 1 v) (fun a b h => x_cell_congr E (xset_ne M h) rfl) (by simp [x_cell, xset]) hdg k
theorem zg_2_2 (C : ZC p s m args c cc nL own E L) {i : Nat} (hL : (2, i) ∈ L) {index : Nat} (hw : Cond.fieldLink own index "SumBlocks$Span" "order" "I" ∈ xT) (hdg : decode cc pc = .ok (.getfield index, 3)) (k : ZZ p l e R s m args below meth c nL E L cells slots Q ρ (pc + 3) lv (.int (M.1 2 i 2) :: st) M t) : ZZ p l e R s m args below meth c nL E L cells slots Q ρ pc lv (.ref (eA E 2 i) :: st) M t := z_get C hL rfl (rfl : vwCl[4]? = some (RX4, TX4, 5)) inX4 2 (by decide) (hw : Cond.fieldLink own index (TX4 2).1 (TX4 2).2.1 (TX4 2).2.2.1 ∈ xT) rfl hdg k
theorem zn_2_2 (C : ZC p s m args c cc nL own E L) {i : Nat} (hL : (2, i) ∈ L) {index : Nat} (hw : (own, index, "SumBlocks$Span", "order", "I", "SumBlocks") ∈ xNestF) (hdg : decode cc pc = .ok (.getfield index, 3)) (k : ZZ p l e R s m args below meth c nL E L cells slots Q ρ (pc + 3) lv (.int (M.1 2 i 2) :: st) M t) : ZZ p l e R s m args below meth c nL E L cells slots Q ρ pc lv (.ref (eA E 2 i) :: st) M t := z_getN C hL rfl (rfl : vwCl[4]? = some (RX4, TX4, 5)) inX4 2 (by decide) (hw : (own, index, (TX4 2).1, (TX4 2).2.1, (TX4 2).2.2.1, "SumBlocks") ∈ xNestF) rfl hdg k
theorem zp_2_2 (C : ZC p s m args c cc nL own E L) {i : Nat} (hL : (2, i) ∈ L) {index : Nat} {v : Int32} {kk : XM → Option (α × XM)} (hw : Cond.fieldLink own index "SumBlocks$Span" "order" "I" ∈ xT) (hdg : decode cc pc = .ok (.putfield index, 3)) (k : ∀ M' : XM, ZZ p l e R s m args below meth c nL E L cells slots Q ρ (pc + 3) lv st M' (kk M')) : ZZ p l e R s m args below meth c nL E L cells slots Q ρ pc lv (.int v :: .ref (eA E 2 i) :: st) M (bI (xset M 2 i 2 v) kk) := z_put C hL (fs := [.int (M.1 2 i 0), .int (M.1 2 i 1), .int (M.1 2 i 2), .int (M.1 2 i 3), .int (M.1 2 i 4)]) rfl (rfl : vwCl[4]? = some (RX4, TX4, 5)) inX4 tyX4 tyX4_ok nmX4 2 (by decide) (hw : Cond.fieldLink own index (TX4 2).1 (TX4 2).2.1 (TX4 2).2.2.1 ∈ xT) rfl (ty := .int) (by decide +kernel) rfl rfl (by simp) (M' := xset M 2 i 2 v) (fun a b h => x_cell_congr E (xset_ne M h) rfl) (by simp [x_cell, xset]) hdg k
theorem zg_2_3 (C : ZC p s m args c cc nL own E L) {i : Nat} (hL : (2, i) ∈ L) {index : Nat} (hw : Cond.fieldLink own index "SumBlocks$Span" "count" "I" ∈ xT) (hdg : decode cc pc = .ok (.getfield index, 3)) (k : ZZ p l e R s m args below meth c nL E L cells slots Q ρ (pc + 3) lv (.int (M.1 2 i 3) :: st) M t) : ZZ p l e R s m args below meth c nL E L cells slots Q ρ pc lv (.ref (eA E 2 i) :: st) M t := z_get C hL rfl (rfl : vwCl[4]? = some (RX4, TX4, 5)) inX4 3 (by decide) (hw : Cond.fieldLink own index (TX4 3).1 (TX4 3).2.1 (TX4 3).2.2.1 ∈ xT) rfl hdg k
theorem zn_2_3 (C : ZC p s m args c cc nL own E L) {i : Nat} (hL : (2, i) ∈ L) {index : Nat} (hw : (own, index, "SumBlocks$Span", "count", "I", "SumBlocks") ∈ xNestF) (hdg : decode cc pc = .ok (.getfield index, 3)) (k : ZZ p l e R s m args below meth c nL E L cells slots Q ρ (pc + 3) lv (.int (M.1 2 i 3) :: st) M t) : ZZ p l e R s m args below meth c nL E L cells slots Q ρ pc lv (.ref (eA E 2 i) :: st) M t := z_getN C hL rfl (rfl : vwCl[4]? = some (RX4, TX4, 5)) inX4 3 (by decide) (hw : (own, index, (TX4 3).1, (TX4 3).2.1, (TX4 3).2.2.1, "SumBlocks") ∈ xNestF) rfl hdg k
theorem zp_2_3 (C : ZC p s m args c cc nL own E L) {i : Nat} (hL : (2, i) ∈ L) {index : Nat} {v : Int32} {kk : XM → Option (α × XM)} (hw : Cond.fieldLink own index "SumBlocks$Span" "count" "I" ∈ xT) (hdg : decode cc pc = .ok (.putfield index, 3)) (k : ∀ M' : XM, ZZ p l e R s m args below meth c nL E L cells slots Q ρ (pc + 3) lv st M' (kk M')) : ZZ p l e R s m args below meth c nL E L cells slots Q ρ pc lv (.int v :: .ref (eA E 2 i) :: st) M (bI (xset M 2 i 3 v) kk) := z_put C hL (fs := [.int (M.1 2 i 0), .int (M.1 2 i 1), .int (M.1 2 i 2), .int (M.1 2 i 3), .int (M.1 2 i 4)]) rfl (rfl : vwCl[4]? = some (RX4, TX4, 5)) inX4 tyX4 tyX4_ok nmX4 3 (by decide) (hw : Cond.fieldLink own index (TX4 3).1 (TX4 3).2.1 (TX4 3).2.2.1 ∈ xT) rfl (ty := .int) (by decide +kernel) rfl rfl (by simp) (M' := xset M 2 i 3 v) (fun a b h => x_cell_congr E (xset_ne M h) rfl) (by simp [x_cell, xset]) hdg k
theorem zg_2_4 (C : ZC p s m args c cc nL own E L) {i : Nat} (hL : (2, i) ∈ L) {index : Nat} (hw : Cond.fieldLink own index "SumBlocks$Span" "joins" "I" ∈ xT) (hdg : decode cc pc = .ok (.getfield index, 3)) (k : ZZ p l e R s m args below meth c nL E L cells slots Q ρ (pc + 3) lv (.int (M.1 2 i 4) :: st) M t) : ZZ p l e R s m args below meth c nL E L cells slots Q ρ pc lv (.ref (eA E 2 i) :: st) M t := z_get C hL rfl (rfl : vwCl[4]? = some (RX4, TX4, 5)) inX4 4 (by decide) (hw : Cond.fieldLink own index (TX4 4).1 (TX4 4).2.1 (TX4 4).2.2.1 ∈ xT) rfl hdg k
theorem zn_2_4 (C : ZC p s m args c cc nL own E L) {i : Nat} (hL : (2, i) ∈ L) {index : Nat} (hw : (own, index, "SumBlocks$Span", "joins", "I", "SumBlocks") ∈ xNestF) (hdg : decode cc pc = .ok (.getfield index, 3)) (k : ZZ p l e R s m args below meth c nL E L cells slots Q ρ (pc + 3) lv (.int (M.1 2 i 4) :: st) M t) : ZZ p l e R s m args below meth c nL E L cells slots Q ρ pc lv (.ref (eA E 2 i) :: st) M t := z_getN C hL rfl (rfl : vwCl[4]? = some (RX4, TX4, 5)) inX4 4 (by decide) (hw : (own, index, (TX4 4).1, (TX4 4).2.1, (TX4 4).2.2.1, "SumBlocks") ∈ xNestF) rfl hdg k
theorem zp_2_4 (C : ZC p s m args c cc nL own E L) {i : Nat} (hL : (2, i) ∈ L) {index : Nat} {v : Int32} {kk : XM → Option (α × XM)} (hw : Cond.fieldLink own index "SumBlocks$Span" "joins" "I" ∈ xT) (hdg : decode cc pc = .ok (.putfield index, 3)) (k : ∀ M' : XM, ZZ p l e R s m args below meth c nL E L cells slots Q ρ (pc + 3) lv st M' (kk M')) : ZZ p l e R s m args below meth c nL E L cells slots Q ρ pc lv (.int v :: .ref (eA E 2 i) :: st) M (bI (xset M 2 i 4 v) kk) := z_put C hL (fs := [.int (M.1 2 i 0), .int (M.1 2 i 1), .int (M.1 2 i 2), .int (M.1 2 i 3), .int (M.1 2 i 4)]) rfl (rfl : vwCl[4]? = some (RX4, TX4, 5)) inX4 tyX4 tyX4_ok nmX4 4 (by decide) (hw : Cond.fieldLink own index (TX4 4).1 (TX4 4).2.1 (TX4 4).2.2.1 ∈ xT) rfl (ty := .int) (by decide +kernel) rfl rfl (by simp) (M' := xset M 2 i 4 v) (fun a b h => x_cell_congr E (xset_ne M h) rfl) (by simp [x_cell, xset]) hdg k
theorem zg_9_0 (C : ZC p s m args c cc nL own E L) {i : Nat} (hL : (9, i) ∈ L) {index : Nat} (hw : Cond.fieldLink own index "SumBlocks" "memory" "LSumBlocks$Memory;" ∈ xT) (hdg : decode cc pc = .ok (.getfield index, 3)) (k : ZZ p l e R s m args below meth c nL E L cells slots Q ρ (pc + 3) lv (.ref (eA E 0 i) :: st) M t) : ZZ p l e R s m args below meth c nL E L cells slots Q ρ pc lv (.ref (eA E 9 i) :: st) M t := z_get C hL rfl (rfl : vwCl[5]? = some (RX5, TX5, 3)) inX5 0 (by decide) (hw : Cond.fieldLink own index (TX5 0).1 (TX5 0).2.1 (TX5 0).2.2.1 ∈ xT) rfl hdg k
theorem zn_9_0 (C : ZC p s m args c cc nL own E L) {i : Nat} (hL : (9, i) ∈ L) {index : Nat} (hw : (own, index, "SumBlocks", "memory", "LSumBlocks$Memory;", "SumBlocks") ∈ xNestF) (hdg : decode cc pc = .ok (.getfield index, 3)) (k : ZZ p l e R s m args below meth c nL E L cells slots Q ρ (pc + 3) lv (.ref (eA E 0 i) :: st) M t) : ZZ p l e R s m args below meth c nL E L cells slots Q ρ pc lv (.ref (eA E 9 i) :: st) M t := z_getN C hL rfl (rfl : vwCl[5]? = some (RX5, TX5, 3)) inX5 0 (by decide) (hw : (own, index, (TX5 0).1, (TX5 0).2.1, (TX5 0).2.2.1, "SumBlocks") ∈ xNestF) rfl hdg k
theorem zg_9_1 (C : ZC p s m args c cc nL own E L) {i : Nat} (hL : (9, i) ∈ L) {index : Nat} (hw : Cond.fieldLink own index "SumBlocks" "saved" "LSumBlocks$SavedStates;" ∈ xT) (hdg : decode cc pc = .ok (.getfield index, 3)) (k : ZZ p l e R s m args below meth c nL E L cells slots Q ρ (pc + 3) lv (.ref (eA E 10 i) :: st) M t) : ZZ p l e R s m args below meth c nL E L cells slots Q ρ pc lv (.ref (eA E 9 i) :: st) M t := z_get C hL rfl (rfl : vwCl[5]? = some (RX5, TX5, 3)) inX5 1 (by decide) (hw : Cond.fieldLink own index (TX5 1).1 (TX5 1).2.1 (TX5 1).2.2.1 ∈ xT) rfl hdg k
theorem zn_9_1 (C : ZC p s m args c cc nL own E L) {i : Nat} (hL : (9, i) ∈ L) {index : Nat} (hw : (own, index, "SumBlocks", "saved", "LSumBlocks$SavedStates;", "SumBlocks") ∈ xNestF) (hdg : decode cc pc = .ok (.getfield index, 3)) (k : ZZ p l e R s m args below meth c nL E L cells slots Q ρ (pc + 3) lv (.ref (eA E 10 i) :: st) M t) : ZZ p l e R s m args below meth c nL E L cells slots Q ρ pc lv (.ref (eA E 9 i) :: st) M t := z_getN C hL rfl (rfl : vwCl[5]? = some (RX5, TX5, 3)) inX5 1 (by decide) (hw : (own, index, (TX5 1).1, (TX5 1).2.1, (TX5 1).2.2.1, "SumBlocks") ∈ xNestF) rfl hdg k
theorem zg_9_2 (C : ZC p s m args c cc nL own E L) {i : Nat} (hL : (9, i) ∈ L) {index : Nat} (hw : Cond.fieldLink own index "SumBlocks" "text" "LSumBlocks$OrderText;" ∈ xT) (hdg : decode cc pc = .ok (.getfield index, 3)) (k : ZZ p l e R s m args below meth c nL E L cells slots Q ρ (pc + 3) lv (.ref (eA E 12 i) :: st) M t) : ZZ p l e R s m args below meth c nL E L cells slots Q ρ pc lv (.ref (eA E 9 i) :: st) M t := z_get C hL rfl (rfl : vwCl[5]? = some (RX5, TX5, 3)) inX5 2 (by decide) (hw : Cond.fieldLink own index (TX5 2).1 (TX5 2).2.1 (TX5 2).2.2.1 ∈ xT) rfl hdg k
theorem zn_9_2 (C : ZC p s m args c cc nL own E L) {i : Nat} (hL : (9, i) ∈ L) {index : Nat} (hw : (own, index, "SumBlocks", "text", "LSumBlocks$OrderText;", "SumBlocks") ∈ xNestF) (hdg : decode cc pc = .ok (.getfield index, 3)) (k : ZZ p l e R s m args below meth c nL E L cells slots Q ρ (pc + 3) lv (.ref (eA E 12 i) :: st) M t) : ZZ p l e R s m args below meth c nL E L cells slots Q ρ pc lv (.ref (eA E 9 i) :: st) M t := z_getN C hL rfl (rfl : vwCl[5]? = some (RX5, TX5, 3)) inX5 2 (by decide) (hw : (own, index, (TX5 2).1, (TX5 2).2.1, (TX5 2).2.2.1, "SumBlocks") ∈ xNestF) rfl hdg k
theorem zg_10_0 (C : ZC p s m args c cc nL own E L) {i : Nat} (hL : (10, i) ∈ L) {index : Nat} (hw : Cond.fieldLink own index "SumBlocks$SavedStates" "states" "[LSumBlocks$Memory;" ∈ xT) (hdg : decode cc pc = .ok (.getfield index, 3)) (k : ZZ p l e R s m args below meth c nL E L cells slots Q ρ (pc + 3) lv (.ref (eA E 11 i) :: st) M t) : ZZ p l e R s m args below meth c nL E L cells slots Q ρ pc lv (.ref (eA E 10 i) :: st) M t := z_get C hL rfl (rfl : vwCl[3]? = some (RX3, TX3, 3)) inX3 0 (by decide) (hw : Cond.fieldLink own index (TX3 0).1 (TX3 0).2.1 (TX3 0).2.2.1 ∈ xT) rfl hdg k
theorem zn_10_0 (C : ZC p s m args c cc nL own E L) {i : Nat} (hL : (10, i) ∈ L) {index : Nat} (hw : (own, index, "SumBlocks$SavedStates", "states", "[LSumBlocks$Memory;", "SumBlocks") ∈ xNestF) (hdg : decode cc pc = .ok (.getfield index, 3)) (k : ZZ p l e R s m args below meth c nL E L cells slots Q ρ (pc + 3) lv (.ref (eA E 11 i) :: st) M t) : ZZ p l e R s m args below meth c nL E L cells slots Q ρ pc lv (.ref (eA E 10 i) :: st) M t := z_getN C hL rfl (rfl : vwCl[3]? = some (RX3, TX3, 3)) inX3 0 (by decide) (hw : (own, index, (TX3 0).1, (TX3 0).2.1, (TX3 0).2.2.1, "SumBlocks") ∈ xNestF) rfl hdg k
theorem zg_10_1 (C : ZC p s m args c cc nL own E L) {i : Nat} (hL : (10, i) ∈ L) {index : Nat} (hw : Cond.fieldLink own index "SumBlocks$SavedStates" "next" "I" ∈ xT) (hdg : decode cc pc = .ok (.getfield index, 3)) (k : ZZ p l e R s m args below meth c nL E L cells slots Q ρ (pc + 3) lv (.int (M.1 10 i 1) :: st) M t) : ZZ p l e R s m args below meth c nL E L cells slots Q ρ pc lv (.ref (eA E 10 i) :: st) M t := z_get C hL rfl (rfl : vwCl[3]? = some (RX3, TX3, 3)) inX3 1 (by decide) (hw : Cond.fieldLink own index (TX3 1).1 (TX3 1).2.1 (TX3 1).2.2.1 ∈ xT) rfl hdg k
theorem zn_10_1 (C : ZC p s m args c cc nL own E L) {i : Nat} (hL : (10, i) ∈ L) {index : Nat} (hw : (own, index, "SumBlocks$SavedStates", "next", "I", "SumBlocks") ∈ xNestF) (hdg : decode cc pc = .ok (.getfield index, 3)) (k : ZZ p l e R s m args below meth c nL E L cells slots Q ρ (pc + 3) lv (.int (M.1 10 i 1) :: st) M t) : ZZ p l e R s m args below meth c nL E L cells slots Q ρ pc lv (.ref (eA E 10 i) :: st) M t := z_getN C hL rfl (rfl : vwCl[3]? = some (RX3, TX3, 3)) inX3 1 (by decide) (hw : (own, index, (TX3 1).1, (TX3 1).2.1, (TX3 1).2.2.1, "SumBlocks") ∈ xNestF) rfl hdg k
theorem zp_10_1 (C : ZC p s m args c cc nL own E L) {i : Nat} (hL : (10, i) ∈ L) {index : Nat} {v : Int32} {kk : XM → Option (α × XM)} (hw : Cond.fieldLink own index "SumBlocks$SavedStates" "next" "I" ∈ xT) (hdg : decode cc pc = .ok (.putfield index, 3)) (k : ∀ M' : XM, ZZ p l e R s m args below meth c nL E L cells slots Q ρ (pc + 3) lv st M' (kk M')) : ZZ p l e R s m args below meth c nL E L cells slots Q ρ pc lv (.int v :: .ref (eA E 10 i) :: st) M (bI (xset M 10 i 1 v) kk) := z_put C hL (fs := [.ref (eA E 11 i), .int (M.1 10 i 1), .int (M.1 10 i 2)]) rfl (rfl : vwCl[3]? = some (RX3, TX3, 3)) inX3 tyX3 tyX3_ok nmX3 1 (by decide) (hw : Cond.fieldLink own index (TX3 1).1 (TX3 1).2.1 (TX3 1).2.2.1 ∈ xT) rfl (ty := .int) (by decide +kernel) rfl rfl (by simp) (M' := xset M 10 i 1 v) (fun a b h => x_cell_congr E (xset_ne M h) rfl) (by simp [x_cell, xset]) hdg k
theorem zg_10_2 (C : ZC p s m args c cc nL own E L) {i : Nat} (hL : (10, i) ∈ L) {index : Nat} (hw : Cond.fieldLink own index "SumBlocks$SavedStates" "many" "I" ∈ xT) (hdg : decode cc pc = .ok (.getfield index, 3)) (k : ZZ p l e R s m args below meth c nL E L cells slots Q ρ (pc + 3) lv (.int (M.1 10 i 2) :: st) M t) : ZZ p l e R s m args below meth c nL E L cells slots Q ρ pc lv (.ref (eA E 10 i) :: st) M t := z_get C hL rfl (rfl : vwCl[3]? = some (RX3, TX3, 3)) inX3 2 (by decide) (hw : Cond.fieldLink own index (TX3 2).1 (TX3 2).2.1 (TX3 2).2.2.1 ∈ xT) rfl hdg k
theorem zn_10_2 (C : ZC p s m args c cc nL own E L) {i : Nat} (hL : (10, i) ∈ L) {index : Nat} (hw : (own, index, "SumBlocks$SavedStates", "many", "I", "SumBlocks") ∈ xNestF) (hdg : decode cc pc = .ok (.getfield index, 3)) (k : ZZ p l e R s m args below meth c nL E L cells slots Q ρ (pc + 3) lv (.int (M.1 10 i 2) :: st) M t) : ZZ p l e R s m args below meth c nL E L cells slots Q ρ pc lv (.ref (eA E 10 i) :: st) M t := z_getN C hL rfl (rfl : vwCl[3]? = some (RX3, TX3, 3)) inX3 2 (by decide) (hw : (own, index, (TX3 2).1, (TX3 2).2.1, (TX3 2).2.2.1, "SumBlocks") ∈ xNestF) rfl hdg k
theorem zp_10_2 (C : ZC p s m args c cc nL own E L) {i : Nat} (hL : (10, i) ∈ L) {index : Nat} {v : Int32} {kk : XM → Option (α × XM)} (hw : Cond.fieldLink own index "SumBlocks$SavedStates" "many" "I" ∈ xT) (hdg : decode cc pc = .ok (.putfield index, 3)) (k : ∀ M' : XM, ZZ p l e R s m args below meth c nL E L cells slots Q ρ (pc + 3) lv st M' (kk M')) : ZZ p l e R s m args below meth c nL E L cells slots Q ρ pc lv (.int v :: .ref (eA E 10 i) :: st) M (bI (xset M 10 i 2 v) kk) := z_put C hL (fs := [.ref (eA E 11 i), .int (M.1 10 i 1), .int (M.1 10 i 2)]) rfl (rfl : vwCl[3]? = some (RX3, TX3, 3)) inX3 tyX3 tyX3_ok nmX3 2 (by decide) (hw : Cond.fieldLink own index (TX3 2).1 (TX3 2).2.1 (TX3 2).2.2.1 ∈ xT) rfl (ty := .int) (by decide +kernel) rfl rfl (by simp) (M' := xset M 10 i 2 v) (fun a b h => x_cell_congr E (xset_ne M h) rfl) (by simp [x_cell, xset]) hdg k
theorem zg_12_0 (C : ZC p s m args c cc nL own E L) {i : Nat} (hL : (12, i) ∈ L) {index : Nat} (hw : Cond.fieldLink own index "SumBlocks$OrderText" "codes" "[I" ∈ xT) (hdg : decode cc pc = .ok (.getfield index, 3)) (k : ZZ p l e R s m args below meth c nL E L cells slots Q ρ (pc + 3) lv (.ref (eA E 13 i) :: st) M t) : ZZ p l e R s m args below meth c nL E L cells slots Q ρ pc lv (.ref (eA E 12 i) :: st) M t := z_get C hL rfl (rfl : vwCl[2]? = some (RX2, TX2, 2)) inX2 0 (by decide) (hw : Cond.fieldLink own index (TX2 0).1 (TX2 0).2.1 (TX2 0).2.2.1 ∈ xT) rfl hdg k
theorem zn_12_0 (C : ZC p s m args c cc nL own E L) {i : Nat} (hL : (12, i) ∈ L) {index : Nat} (hw : (own, index, "SumBlocks$OrderText", "codes", "[I", "SumBlocks") ∈ xNestF) (hdg : decode cc pc = .ok (.getfield index, 3)) (k : ZZ p l e R s m args below meth c nL E L cells slots Q ρ (pc + 3) lv (.ref (eA E 13 i) :: st) M t) : ZZ p l e R s m args below meth c nL E L cells slots Q ρ pc lv (.ref (eA E 12 i) :: st) M t := z_getN C hL rfl (rfl : vwCl[2]? = some (RX2, TX2, 2)) inX2 0 (by decide) (hw : (own, index, (TX2 0).1, (TX2 0).2.1, (TX2 0).2.2.1, "SumBlocks") ∈ xNestF) rfl hdg k
theorem zg_12_1 (C : ZC p s m args c cc nL own E L) {i : Nat} (hL : (12, i) ∈ L) {index : Nat} (hw : Cond.fieldLink own index "SumBlocks$OrderText" "length" "I" ∈ xT) (hdg : decode cc pc = .ok (.getfield index, 3)) (k : ZZ p l e R s m args below meth c nL E L cells slots Q ρ (pc + 3) lv (.int (M.1 12 i 1) :: st) M t) : ZZ p l e R s m args below meth c nL E L cells slots Q ρ pc lv (.ref (eA E 12 i) :: st) M t := z_get C hL rfl (rfl : vwCl[2]? = some (RX2, TX2, 2)) inX2 1 (by decide) (hw : Cond.fieldLink own index (TX2 1).1 (TX2 1).2.1 (TX2 1).2.2.1 ∈ xT) rfl hdg k
theorem zn_12_1 (C : ZC p s m args c cc nL own E L) {i : Nat} (hL : (12, i) ∈ L) {index : Nat} (hw : (own, index, "SumBlocks$OrderText", "length", "I", "SumBlocks") ∈ xNestF) (hdg : decode cc pc = .ok (.getfield index, 3)) (k : ZZ p l e R s m args below meth c nL E L cells slots Q ρ (pc + 3) lv (.int (M.1 12 i 1) :: st) M t) : ZZ p l e R s m args below meth c nL E L cells slots Q ρ pc lv (.ref (eA E 12 i) :: st) M t := z_getN C hL rfl (rfl : vwCl[2]? = some (RX2, TX2, 2)) inX2 1 (by decide) (hw : (own, index, (TX2 1).1, (TX2 1).2.1, (TX2 1).2.2.1, "SumBlocks") ∈ xNestF) rfl hdg k
theorem zp_12_1 (C : ZC p s m args c cc nL own E L) {i : Nat} (hL : (12, i) ∈ L) {index : Nat} {v : Int32} {kk : XM → Option (α × XM)} (hw : Cond.fieldLink own index "SumBlocks$OrderText" "length" "I" ∈ xT) (hdg : decode cc pc = .ok (.putfield index, 3)) (k : ∀ M' : XM, ZZ p l e R s m args below meth c nL E L cells slots Q ρ (pc + 3) lv st M' (kk M')) : ZZ p l e R s m args below meth c nL E L cells slots Q ρ pc lv (.int v :: .ref (eA E 12 i) :: st) M (bI (xset M 12 i 1 v) kk) := z_put C hL (fs := [.ref (eA E 13 i), .int (M.1 12 i 1)]) rfl (rfl : vwCl[2]? = some (RX2, TX2, 2)) inX2 tyX2 tyX2_ok nmX2 1 (by decide) (hw : Cond.fieldLink own index (TX2 1).1 (TX2 1).2.1 (TX2 1).2.2.1 ∈ xT) rfl (ty := .int) (by decide +kernel) rfl rfl (by simp) (M' := xset M 12 i 1 v) (fun a b h => x_cell_congr E (xset_ne M h) rfl) (by simp [x_cell, xset]) hdg k
theorem zg_14_0 (C : ZC p s m args c cc nL own E L) {i : Nat} (hL : (14, i) ∈ L) {index : Nat} (hw : Cond.fieldLink own index "SumBlocksModel" "z" "[I" ∈ xT) (hdg : decode cc pc = .ok (.getfield index, 3)) (k : ZZ p l e R s m args below meth c nL E L cells slots Q ρ (pc + 3) lv (.ref (eA E 15 i) :: st) M t) : ZZ p l e R s m args below meth c nL E L cells slots Q ρ pc lv (.ref (eA E 14 i) :: st) M t := z_get C hL rfl (rfl : vwCl[6]? = some (RX6, TX6, 12)) inX6 0 (by decide) (hw : Cond.fieldLink own index (TX6 0).1 (TX6 0).2.1 (TX6 0).2.2.1 ∈ xT) rfl hdg k
theorem zn_14_0 (C : ZC p s m args c cc nL own E L) {i : Nat} (hL : (14, i) ∈ L) {index : Nat} (hw : (own, index, "SumBlocksModel", "z", "[I", "SumBlocks") ∈ xNestF) (hdg : decode cc pc = .ok (.getfield index, 3)) (k : ZZ p l e R s m args below meth c nL E L cells slots Q ρ (pc + 3) lv (.ref (eA E 15 i) :: st) M t) : ZZ p l e R s m args below meth c nL E L cells slots Q ρ pc lv (.ref (eA E 14 i) :: st) M t := z_getN C hL rfl (rfl : vwCl[6]? = some (RX6, TX6, 12)) inX6 0 (by decide) (hw : (own, index, (TX6 0).1, (TX6 0).2.1, (TX6 0).2.2.1, "SumBlocks") ∈ xNestF) rfl hdg k
theorem zg_14_1 (C : ZC p s m args c cc nL own E L) {i : Nat} (hL : (14, i) ∈ L) {index : Nat} (hw : Cond.fieldLink own index "SumBlocksModel" "states" "I" ∈ xT) (hdg : decode cc pc = .ok (.getfield index, 3)) (k : ZZ p l e R s m args below meth c nL E L cells slots Q ρ (pc + 3) lv (.int (M.1 14 i 1) :: st) M t) : ZZ p l e R s m args below meth c nL E L cells slots Q ρ pc lv (.ref (eA E 14 i) :: st) M t := z_get C hL rfl (rfl : vwCl[6]? = some (RX6, TX6, 12)) inX6 1 (by decide) (hw : Cond.fieldLink own index (TX6 1).1 (TX6 1).2.1 (TX6 1).2.2.1 ∈ xT) rfl hdg k
theorem zn_14_1 (C : ZC p s m args c cc nL own E L) {i : Nat} (hL : (14, i) ∈ L) {index : Nat} (hw : (own, index, "SumBlocksModel", "states", "I", "SumBlocks") ∈ xNestF) (hdg : decode cc pc = .ok (.getfield index, 3)) (k : ZZ p l e R s m args below meth c nL E L cells slots Q ρ (pc + 3) lv (.int (M.1 14 i 1) :: st) M t) : ZZ p l e R s m args below meth c nL E L cells slots Q ρ pc lv (.ref (eA E 14 i) :: st) M t := z_getN C hL rfl (rfl : vwCl[6]? = some (RX6, TX6, 12)) inX6 1 (by decide) (hw : (own, index, (TX6 1).1, (TX6 1).2.1, (TX6 1).2.2.1, "SumBlocks") ∈ xNestF) rfl hdg k
theorem zp_14_1 (C : ZC p s m args c cc nL own E L) {i : Nat} (hL : (14, i) ∈ L) {index : Nat} {v : Int32} {kk : XM → Option (α × XM)} (hw : Cond.fieldLink own index "SumBlocksModel" "states" "I" ∈ xT) (hdg : decode cc pc = .ok (.putfield index, 3)) (k : ∀ M' : XM, ZZ p l e R s m args below meth c nL E L cells slots Q ρ (pc + 3) lv st M' (kk M')) : ZZ p l e R s m args below meth c nL E L cells slots Q ρ pc lv (.int v :: .ref (eA E 14 i) :: st) M (bI (xset M 14 i 1 v) kk) := z_put C hL (fs := [.ref (eA E 15 i), .int (M.1 14 i 1), .ref (eA E 16 i), .int (M.1 14 i 3), .ref (eA E 17 i), .int (M.1 14 i 5), .ref (eA E 18 i), .ref (eA E 19 i), .int (M.1 14 i 8), .int (M.1 14 i 9), .int (M.1 14 i 10), .long (M.2 (2 * i))]) rfl (rfl : vwCl[6]? = some (RX6, TX6, 12)) inX6 tyX6 tyX6_ok nmX6 1 (by decide) (hw : Cond.fieldLink own index (TX6 1).1 (TX6 1).2.1 (TX6 1).2.2.1 ∈ xT) rfl (ty := .int) (by decide +kernel) rfl rfl (by simp) (M' := xset M 14 i 1 v) (fun a b h => x_cell_congr E (xset_ne M h) rfl) (by simp [x_cell, xset]) hdg k
theorem zg_14_2 (C : ZC p s m args c cc nL own E L) {i : Nat} (hL : (14, i) ∈ L) {index : Nat} (hw : Cond.fieldLink own index "SumBlocksModel" "history" "[I" ∈ xT) (hdg : decode cc pc = .ok (.getfield index, 3)) (k : ZZ p l e R s m args below meth c nL E L cells slots Q ρ (pc + 3) lv (.ref (eA E 16 i) :: st) M t) : ZZ p l e R s m args below meth c nL E L cells slots Q ρ pc lv (.ref (eA E 14 i) :: st) M t := z_get C hL rfl (rfl : vwCl[6]? = some (RX6, TX6, 12)) inX6 2 (by decide) (hw : Cond.fieldLink own index (TX6 2).1 (TX6 2).2.1 (TX6 2).2.2.1 ∈ xT) rfl hdg k
theorem zn_14_2 (C : ZC p s m args c cc nL own E L) {i : Nat} (hL : (14, i) ∈ L) {index : Nat} (hw : (own, index, "SumBlocksModel", "history", "[I", "SumBlocks") ∈ xNestF) (hdg : decode cc pc = .ok (.getfield index, 3)) (k : ZZ p l e R s m args below meth c nL E L cells slots Q ρ (pc + 3) lv (.ref (eA E 16 i) :: st) M t) : ZZ p l e R s m args below meth c nL E L cells slots Q ρ pc lv (.ref (eA E 14 i) :: st) M t := z_getN C hL rfl (rfl : vwCl[6]? = some (RX6, TX6, 12)) inX6 2 (by decide) (hw : (own, index, (TX6 2).1, (TX6 2).2.1, (TX6 2).2.2.1, "SumBlocks") ∈ xNestF) rfl hdg k
theorem zg_14_3 (C : ZC p s m args c cc nL own E L) {i : Nat} (hL : (14, i) ∈ L) {index : Nat} (hw : Cond.fieldLink own index "SumBlocksModel" "length" "I" ∈ xT) (hdg : decode cc pc = .ok (.getfield index, 3)) (k : ZZ p l e R s m args below meth c nL E L cells slots Q ρ (pc + 3) lv (.int (M.1 14 i 3) :: st) M t) : ZZ p l e R s m args below meth c nL E L cells slots Q ρ pc lv (.ref (eA E 14 i) :: st) M t := z_get C hL rfl (rfl : vwCl[6]? = some (RX6, TX6, 12)) inX6 3 (by decide) (hw : Cond.fieldLink own index (TX6 3).1 (TX6 3).2.1 (TX6 3).2.2.1 ∈ xT) rfl hdg k
theorem zn_14_3 (C : ZC p s m args c cc nL own E L) {i : Nat} (hL : (14, i) ∈ L) {index : Nat} (hw : (own, index, "SumBlocksModel", "length", "I", "SumBlocks") ∈ xNestF) (hdg : decode cc pc = .ok (.getfield index, 3)) (k : ZZ p l e R s m args below meth c nL E L cells slots Q ρ (pc + 3) lv (.int (M.1 14 i 3) :: st) M t) : ZZ p l e R s m args below meth c nL E L cells slots Q ρ pc lv (.ref (eA E 14 i) :: st) M t := z_getN C hL rfl (rfl : vwCl[6]? = some (RX6, TX6, 12)) inX6 3 (by decide) (hw : (own, index, (TX6 3).1, (TX6 3).2.1, (TX6 3).2.2.1, "SumBlocks") ∈ xNestF) rfl hdg k
theorem zp_14_3 (C : ZC p s m args c cc nL own E L) {i : Nat} (hL : (14, i) ∈ L) {index : Nat} {v : Int32} {kk : XM → Option (α × XM)} (hw : Cond.fieldLink own index "SumBlocksModel" "length" "I" ∈ xT) (hdg : decode cc pc = .ok (.putfield index, 3)) (k : ∀ M' : XM, ZZ p l e R s m args below meth c nL E L cells slots Q ρ (pc + 3) lv st M' (kk M')) : ZZ p l e R s m args below meth c nL E L cells slots Q ρ pc lv (.int v :: .ref (eA E 14 i) :: st) M (bI (xset M 14 i 3 v) kk) := z_put C hL (fs := [.ref (eA E 15 i), .int (M.1 14 i 1), .ref (eA E 16 i), .int (M.1 14 i 3), .ref (eA E 17 i), .int (M.1 14 i 5), .ref (eA E 18 i), .ref (eA E 19 i), .int (M.1 14 i 8), .int (M.1 14 i 9), .int (M.1 14 i 10), .long (M.2 (2 * i))]) rfl (rfl : vwCl[6]? = some (RX6, TX6, 12)) inX6 tyX6 tyX6_ok nmX6 3 (by decide) (hw : Cond.fieldLink own index (TX6 3).1 (TX6 3).2.1 (TX6 3).2.2.1 ∈ xT) rfl (ty := .int) (by decide +kernel) rfl rfl (by simp) (M' := xset M 14 i 3 v) (fun a b h => x_cell_congr E (xset_ne M h) rfl) (by simp [x_cell, xset]) hdg k
theorem zg_14_4 (C : ZC p s m args c cc nL own E L) {i : Nat} (hL : (14, i) ∈ L) {index : Nat} (hw : Cond.fieldLink own index "SumBlocksModel" "text" "[I" ∈ xT) (hdg : decode cc pc = .ok (.getfield index, 3)) (k : ZZ p l e R s m args below meth c nL E L cells slots Q ρ (pc + 3) lv (.ref (eA E 17 i) :: st) M t) : ZZ p l e R s m args below meth c nL E L cells slots Q ρ pc lv (.ref (eA E 14 i) :: st) M t := z_get C hL rfl (rfl : vwCl[6]? = some (RX6, TX6, 12)) inX6 4 (by decide) (hw : Cond.fieldLink own index (TX6 4).1 (TX6 4).2.1 (TX6 4).2.2.1 ∈ xT) rfl hdg k
theorem zn_14_4 (C : ZC p s m args c cc nL own E L) {i : Nat} (hL : (14, i) ∈ L) {index : Nat} (hw : (own, index, "SumBlocksModel", "text", "[I", "SumBlocks") ∈ xNestF) (hdg : decode cc pc = .ok (.getfield index, 3)) (k : ZZ p l e R s m args below meth c nL E L cells slots Q ρ (pc + 3) lv (.ref (eA E 17 i) :: st) M t) : ZZ p l e R s m args below meth c nL E L cells slots Q ρ pc lv (.ref (eA E 14 i) :: st) M t := z_getN C hL rfl (rfl : vwCl[6]? = some (RX6, TX6, 12)) inX6 4 (by decide) (hw : (own, index, (TX6 4).1, (TX6 4).2.1, (TX6 4).2.2.1, "SumBlocks") ∈ xNestF) rfl hdg k
theorem zg_14_5 (C : ZC p s m args c cc nL own E L) {i : Nat} (hL : (14, i) ∈ L) {index : Nat} (hw : Cond.fieldLink own index "SumBlocksModel" "thrown" "I" ∈ xT) (hdg : decode cc pc = .ok (.getfield index, 3)) (k : ZZ p l e R s m args below meth c nL E L cells slots Q ρ (pc + 3) lv (.int (M.1 14 i 5) :: st) M t) : ZZ p l e R s m args below meth c nL E L cells slots Q ρ pc lv (.ref (eA E 14 i) :: st) M t := z_get C hL rfl (rfl : vwCl[6]? = some (RX6, TX6, 12)) inX6 5 (by decide) (hw : Cond.fieldLink own index (TX6 5).1 (TX6 5).2.1 (TX6 5).2.2.1 ∈ xT) rfl hdg k
theorem zn_14_5 (C : ZC p s m args c cc nL own E L) {i : Nat} (hL : (14, i) ∈ L) {index : Nat} (hw : (own, index, "SumBlocksModel", "thrown", "I", "SumBlocks") ∈ xNestF) (hdg : decode cc pc = .ok (.getfield index, 3)) (k : ZZ p l e R s m args below meth c nL E L cells slots Q ρ (pc + 3) lv (.int (M.1 14 i 5) :: st) M t) : ZZ p l e R s m args below meth c nL E L cells slots Q ρ pc lv (.ref (eA E 14 i) :: st) M t := z_getN C hL rfl (rfl : vwCl[6]? = some (RX6, TX6, 12)) inX6 5 (by decide) (hw : (own, index, (TX6 5).1, (TX6 5).2.1, (TX6 5).2.2.1, "SumBlocks") ∈ xNestF) rfl hdg k
theorem zp_14_5 (C : ZC p s m args c cc nL own E L) {i : Nat} (hL : (14, i) ∈ L) {index : Nat} {v : Int32} {kk : XM → Option (α × XM)} (hw : Cond.fieldLink own index "SumBlocksModel" "thrown" "I" ∈ xT) (hdg : decode cc pc = .ok (.putfield index, 3)) (k : ∀ M' : XM, ZZ p l e R s m args below meth c nL E L cells slots Q ρ (pc + 3) lv st M' (kk M')) : ZZ p l e R s m args below meth c nL E L cells slots Q ρ pc lv (.int v :: .ref (eA E 14 i) :: st) M (bI (xset M 14 i 5 v) kk) := z_put C hL (fs := [.ref (eA E 15 i), .int (M.1 14 i 1), .ref (eA E 16 i), .int (M.1 14 i 3), .ref (eA E 17 i), .int (M.1 14 i 5), .ref (eA E 18 i), .ref (eA E 19 i), .int (M.1 14 i 8), .int (M.1 14 i 9), .int (M.1 14 i 10), .long (M.2 (2 * i))]) rfl (rfl : vwCl[6]? = some (RX6, TX6, 12)) inX6 tyX6 tyX6_ok nmX6 5 (by decide) (hw : Cond.fieldLink own index (TX6 5).1 (TX6 5).2.1 (TX6 5).2.2.1 ∈ xT) rfl (ty := .int) (by decide +kernel) rfl rfl (by simp) (M' := xset M 14 i 5 v) (fun a b h => x_cell_congr E (xset_ne M h) rfl) (by simp [x_cell, xset]) hdg k
theorem zg_14_6 (C : ZC p s m args c cc nL own E L) {i : Nat} (hL : (14, i) ∈ L) {index : Nat} (hw : Cond.fieldLink own index "SumBlocksModel" "kept" "[I" ∈ xT) (hdg : decode cc pc = .ok (.getfield index, 3)) (k : ZZ p l e R s m args below meth c nL E L cells slots Q ρ (pc + 3) lv (.ref (eA E 18 i) :: st) M t) : ZZ p l e R s m args below meth c nL E L cells slots Q ρ pc lv (.ref (eA E 14 i) :: st) M t := z_get C hL rfl (rfl : vwCl[6]? = some (RX6, TX6, 12)) inX6 6 (by decide) (hw : Cond.fieldLink own index (TX6 6).1 (TX6 6).2.1 (TX6 6).2.2.1 ∈ xT) rfl hdg k
theorem zn_14_6 (C : ZC p s m args c cc nL own E L) {i : Nat} (hL : (14, i) ∈ L) {index : Nat} (hw : (own, index, "SumBlocksModel", "kept", "[I", "SumBlocks") ∈ xNestF) (hdg : decode cc pc = .ok (.getfield index, 3)) (k : ZZ p l e R s m args below meth c nL E L cells slots Q ρ (pc + 3) lv (.ref (eA E 18 i) :: st) M t) : ZZ p l e R s m args below meth c nL E L cells slots Q ρ pc lv (.ref (eA E 14 i) :: st) M t := z_getN C hL rfl (rfl : vwCl[6]? = some (RX6, TX6, 12)) inX6 6 (by decide) (hw : (own, index, (TX6 6).1, (TX6 6).2.1, (TX6 6).2.2.1, "SumBlocks") ∈ xNestF) rfl hdg k
theorem zg_14_7 (C : ZC p s m args c cc nL own E L) {i : Nat} (hL : (14, i) ∈ L) {index : Nat} (hw : Cond.fieldLink own index "SumBlocksModel" "parts" "[I" ∈ xT) (hdg : decode cc pc = .ok (.getfield index, 3)) (k : ZZ p l e R s m args below meth c nL E L cells slots Q ρ (pc + 3) lv (.ref (eA E 19 i) :: st) M t) : ZZ p l e R s m args below meth c nL E L cells slots Q ρ pc lv (.ref (eA E 14 i) :: st) M t := z_get C hL rfl (rfl : vwCl[6]? = some (RX6, TX6, 12)) inX6 7 (by decide) (hw : Cond.fieldLink own index (TX6 7).1 (TX6 7).2.1 (TX6 7).2.2.1 ∈ xT) rfl hdg k
theorem zn_14_7 (C : ZC p s m args c cc nL own E L) {i : Nat} (hL : (14, i) ∈ L) {index : Nat} (hw : (own, index, "SumBlocksModel", "parts", "[I", "SumBlocks") ∈ xNestF) (hdg : decode cc pc = .ok (.getfield index, 3)) (k : ZZ p l e R s m args below meth c nL E L cells slots Q ρ (pc + 3) lv (.ref (eA E 19 i) :: st) M t) : ZZ p l e R s m args below meth c nL E L cells slots Q ρ pc lv (.ref (eA E 14 i) :: st) M t := z_getN C hL rfl (rfl : vwCl[6]? = some (RX6, TX6, 12)) inX6 7 (by decide) (hw : (own, index, (TX6 7).1, (TX6 7).2.1, (TX6 7).2.2.1, "SumBlocks") ∈ xNestF) rfl hdg k
theorem zg_14_8 (C : ZC p s m args c cc nL own E L) {i : Nat} (hL : (14, i) ∈ L) {index : Nat} (hw : Cond.fieldLink own index "SumBlocksModel" "read" "I" ∈ xT) (hdg : decode cc pc = .ok (.getfield index, 3)) (k : ZZ p l e R s m args below meth c nL E L cells slots Q ρ (pc + 3) lv (.int (M.1 14 i 8) :: st) M t) : ZZ p l e R s m args below meth c nL E L cells slots Q ρ pc lv (.ref (eA E 14 i) :: st) M t := z_get C hL rfl (rfl : vwCl[6]? = some (RX6, TX6, 12)) inX6 8 (by decide) (hw : Cond.fieldLink own index (TX6 8).1 (TX6 8).2.1 (TX6 8).2.2.1 ∈ xT) rfl hdg k
theorem zn_14_8 (C : ZC p s m args c cc nL own E L) {i : Nat} (hL : (14, i) ∈ L) {index : Nat} (hw : (own, index, "SumBlocksModel", "read", "I", "SumBlocks") ∈ xNestF) (hdg : decode cc pc = .ok (.getfield index, 3)) (k : ZZ p l e R s m args below meth c nL E L cells slots Q ρ (pc + 3) lv (.int (M.1 14 i 8) :: st) M t) : ZZ p l e R s m args below meth c nL E L cells slots Q ρ pc lv (.ref (eA E 14 i) :: st) M t := z_getN C hL rfl (rfl : vwCl[6]? = some (RX6, TX6, 12)) inX6 8 (by decide) (hw : (own, index, (TX6 8).1, (TX6 8).2.1, (TX6 8).2.2.1, "SumBlocks") ∈ xNestF) rfl hdg k
theorem zp_14_8 (C : ZC p s m args c cc nL own E L) {i : Nat} (hL : (14, i) ∈ L) {index : Nat} {v : Int32} {kk : XM → Option (α × XM)} (hw : Cond.fieldLink own index "SumBlocksModel" "read" "I" ∈ xT) (hdg : decode cc pc = .ok (.putfield index, 3)) (k : ∀ M' : XM, ZZ p l e R s m args below meth c nL E L cells slots Q ρ (pc + 3) lv st M' (kk M')) : ZZ p l e R s m args below meth c nL E L cells slots Q ρ pc lv (.int v :: .ref (eA E 14 i) :: st) M (bI (xset M 14 i 8 v) kk) := z_put C hL (fs := [.ref (eA E 15 i), .int (M.1 14 i 1), .ref (eA E 16 i), .int (M.1 14 i 3), .ref (eA E 17 i), .int (M.1 14 i 5), .ref (eA E 18 i), .ref (eA E 19 i), .int (M.1 14 i 8), .int (M.1 14 i 9), .int (M.1 14 i 10), .long (M.2 (2 * i))]) rfl (rfl : vwCl[6]? = some (RX6, TX6, 12)) inX6 tyX6 tyX6_ok nmX6 8 (by decide) (hw : Cond.fieldLink own index (TX6 8).1 (TX6 8).2.1 (TX6 8).2.2.1 ∈ xT) rfl (ty := .int) (by decide +kernel) rfl rfl (by simp) (M' := xset M 14 i 8 v) (fun a b h => x_cell_congr E (xset_ne M h) rfl) (by simp [x_cell, xset]) hdg k
theorem zg_14_9 (C : ZC p s m args c cc nL own E L) {i : Nat} (hL : (14, i) ∈ L) {index : Nat} (hw : Cond.fieldLink own index "SumBlocksModel" "number" "I" ∈ xT) (hdg : decode cc pc = .ok (.getfield index, 3)) (k : ZZ p l e R s m args below meth c nL E L cells slots Q ρ (pc + 3) lv (.int (M.1 14 i 9) :: st) M t) : ZZ p l e R s m args below meth c nL E L cells slots Q ρ pc lv (.ref (eA E 14 i) :: st) M t := z_get C hL rfl (rfl : vwCl[6]? = some (RX6, TX6, 12)) inX6 9 (by decide) (hw : Cond.fieldLink own index (TX6 9).1 (TX6 9).2.1 (TX6 9).2.2.1 ∈ xT) rfl hdg k
theorem zn_14_9 (C : ZC p s m args c cc nL own E L) {i : Nat} (hL : (14, i) ∈ L) {index : Nat} (hw : (own, index, "SumBlocksModel", "number", "I", "SumBlocks") ∈ xNestF) (hdg : decode cc pc = .ok (.getfield index, 3)) (k : ZZ p l e R s m args below meth c nL E L cells slots Q ρ (pc + 3) lv (.int (M.1 14 i 9) :: st) M t) : ZZ p l e R s m args below meth c nL E L cells slots Q ρ pc lv (.ref (eA E 14 i) :: st) M t := z_getN C hL rfl (rfl : vwCl[6]? = some (RX6, TX6, 12)) inX6 9 (by decide) (hw : (own, index, (TX6 9).1, (TX6 9).2.1, (TX6 9).2.2.1, "SumBlocks") ∈ xNestF) rfl hdg k
theorem zp_14_9 (C : ZC p s m args c cc nL own E L) {i : Nat} (hL : (14, i) ∈ L) {index : Nat} {v : Int32} {kk : XM → Option (α × XM)} (hw : Cond.fieldLink own index "SumBlocksModel" "number" "I" ∈ xT) (hdg : decode cc pc = .ok (.putfield index, 3)) (k : ∀ M' : XM, ZZ p l e R s m args below meth c nL E L cells slots Q ρ (pc + 3) lv st M' (kk M')) : ZZ p l e R s m args below meth c nL E L cells slots Q ρ pc lv (.int v :: .ref (eA E 14 i) :: st) M (bI (xset M 14 i 9 v) kk) := z_put C hL (fs := [.ref (eA E 15 i), .int (M.1 14 i 1), .ref (eA E 16 i), .int (M.1 14 i 3), .ref (eA E 17 i), .int (M.1 14 i 5), .ref (eA E 18 i), .ref (eA E 19 i), .int (M.1 14 i 8), .int (M.1 14 i 9), .int (M.1 14 i 10), .long (M.2 (2 * i))]) rfl (rfl : vwCl[6]? = some (RX6, TX6, 12)) inX6 tyX6 tyX6_ok nmX6 9 (by decide) (hw : Cond.fieldLink own index (TX6 9).1 (TX6 9).2.1 (TX6 9).2.2.1 ∈ xT) rfl (ty := .int) (by decide +kernel) rfl rfl (by simp) (M' := xset M 14 i 9 v) (fun a b h => x_cell_congr E (xset_ne M h) rfl) (by simp [x_cell, xset]) hdg k
theorem zg_14_10 (C : ZC p s m args c cc nL own E L) {i : Nat} (hL : (14, i) ∈ L) {index : Nat} (hw : Cond.fieldLink own index "SumBlocksModel" "isLetterDue" "Z" ∈ xT) (hdg : decode cc pc = .ok (.getfield index, 3)) (k : ZZ p l e R s m args below meth c nL E L cells slots Q ρ (pc + 3) lv (.int (M.1 14 i 10) :: st) M t) : ZZ p l e R s m args below meth c nL E L cells slots Q ρ pc lv (.ref (eA E 14 i) :: st) M t := z_get C hL rfl (rfl : vwCl[6]? = some (RX6, TX6, 12)) inX6 10 (by decide) (hw : Cond.fieldLink own index (TX6 10).1 (TX6 10).2.1 (TX6 10).2.2.1 ∈ xT) rfl hdg k
theorem zn_14_10 (C : ZC p s m args c cc nL own E L) {i : Nat} (hL : (14, i) ∈ L) {index : Nat} (hw : (own, index, "SumBlocksModel", "isLetterDue", "Z", "SumBlocks") ∈ xNestF) (hdg : decode cc pc = .ok (.getfield index, 3)) (k : ZZ p l e R s m args below meth c nL E L cells slots Q ρ (pc + 3) lv (.int (M.1 14 i 10) :: st) M t) : ZZ p l e R s m args below meth c nL E L cells slots Q ρ pc lv (.ref (eA E 14 i) :: st) M t := z_getN C hL rfl (rfl : vwCl[6]? = some (RX6, TX6, 12)) inX6 10 (by decide) (hw : (own, index, (TX6 10).1, (TX6 10).2.1, (TX6 10).2.2.1, "SumBlocks") ∈ xNestF) rfl hdg k
theorem zp_14_10 (C : ZC p s m args c cc nL own E L) {i : Nat} (hL : (14, i) ∈ L) {index : Nat} {v : Int32} {kk : XM → Option (α × XM)} (hw : Cond.fieldLink own index "SumBlocksModel" "isLetterDue" "Z" ∈ xT) (hz : narrow .boolean (.int v) = .int v ∧ fits .boolean (.int v) = true) (hdg : decode cc pc = .ok (.putfield index, 3)) (k : ∀ M' : XM, ZZ p l e R s m args below meth c nL E L cells slots Q ρ (pc + 3) lv st M' (kk M')) : ZZ p l e R s m args below meth c nL E L cells slots Q ρ pc lv (.int v :: .ref (eA E 14 i) :: st) M (bI (xset M 14 i 10 v) kk) := z_put C hL (fs := [.ref (eA E 15 i), .int (M.1 14 i 1), .ref (eA E 16 i), .int (M.1 14 i 3), .ref (eA E 17 i), .int (M.1 14 i 5), .ref (eA E 18 i), .ref (eA E 19 i), .int (M.1 14 i 8), .int (M.1 14 i 9), .int (M.1 14 i 10), .long (M.2 (2 * i))]) rfl (rfl : vwCl[6]? = some (RX6, TX6, 12)) inX6 tyX6 tyX6_ok nmX6 10 (by decide) (hw : Cond.fieldLink own index (TX6 10).1 (TX6 10).2.1 (TX6 10).2.2.1 ∈ xT) rfl (ty := .boolean) (by decide +kernel) hz.1 hz.2 (by simp) (M' := xset M 14 i 10 v) (fun a b h => x_cell_congr E (xset_ne M h) rfl) (by simp [x_cell, xset]) hdg k
theorem zg_14_11 (C : ZC p s m args c cc nL own E L) {i : Nat} (hL : (14, i) ∈ L) {index : Nat} (hw : Cond.fieldLink own index "SumBlocksModel" "hash" "J" ∈ xT) (hdg : decode cc pc = .ok (.getfield index, 3)) (k : ZZ p l e R s m args below meth c nL E L cells slots Q ρ (pc + 3) lv (.long (M.2 (2 * i)) :: st) M t) : ZZ p l e R s m args below meth c nL E L cells slots Q ρ pc lv (.ref (eA E 14 i) :: st) M t := z_get C hL rfl (rfl : vwCl[6]? = some (RX6, TX6, 12)) inX6 11 (by decide) (hw : Cond.fieldLink own index (TX6 11).1 (TX6 11).2.1 (TX6 11).2.2.1 ∈ xT) rfl hdg k
theorem zn_14_11 (C : ZC p s m args c cc nL own E L) {i : Nat} (hL : (14, i) ∈ L) {index : Nat} (hw : (own, index, "SumBlocksModel", "hash", "J", "SumBlocks") ∈ xNestF) (hdg : decode cc pc = .ok (.getfield index, 3)) (k : ZZ p l e R s m args below meth c nL E L cells slots Q ρ (pc + 3) lv (.long (M.2 (2 * i)) :: st) M t) : ZZ p l e R s m args below meth c nL E L cells slots Q ρ pc lv (.ref (eA E 14 i) :: st) M t := z_getN C hL rfl (rfl : vwCl[6]? = some (RX6, TX6, 12)) inX6 11 (by decide) (hw : (own, index, (TX6 11).1, (TX6 11).2.1, (TX6 11).2.2.1, "SumBlocks") ∈ xNestF) rfl hdg k
theorem zp_14_11 (C : ZC p s m args c cc nL own E L) {i : Nat} (hL : (14, i) ∈ L) {index : Nat} {v : Int64} {kk : XM → Option (α × XM)} (hw : Cond.fieldLink own index "SumBlocksModel" "hash" "J" ∈ xT) (hdg : decode cc pc = .ok (.putfield index, 3)) (k : ∀ M' : XM, ZZ p l e R s m args below meth c nL E L cells slots Q ρ (pc + 3) lv st M' (kk M')) : ZZ p l e R s m args below meth c nL E L cells slots Q ρ pc lv (.long v :: .ref (eA E 14 i) :: st) M (bI (xsetJ M (2 * i) v) kk) := z_put C hL (fs := [.ref (eA E 15 i), .int (M.1 14 i 1), .ref (eA E 16 i), .int (M.1 14 i 3), .ref (eA E 17 i), .int (M.1 14 i 5), .ref (eA E 18 i), .ref (eA E 19 i), .int (M.1 14 i 8), .int (M.1 14 i 9), .int (M.1 14 i 10), .long (M.2 (2 * i))]) rfl (rfl : vwCl[6]? = some (RX6, TX6, 12)) inX6 tyX6 tyX6_ok nmX6 11 (by decide) (hw : Cond.fieldLink own index (TX6 11).1 (TX6 11).2.1 (TX6 11).2.2.1 ∈ xT) rfl (ty := .long) (by decide +kernel) rfl rfl (by simp) (M' := xsetJ M (2 * i) v) (fun a b h => x_cellJ E M v h) (by simp [x_cell, xsetJ]) hdg k
abbrev xws (y : MethodName) (bytes : ByteArray) (maxL : Nat) (ret : Option FieldType) : List Cond := .code y bytes maxL ret :: xT
abbrev xrm (fr lo : Nat) : Room := { frames := fr, cells := 0, slots := 0, locals := lo }
def xMi (l : Launch) (y : MethodName) (bytes : ByteArray) (maxL : Nat) (ret : Option FieldType) (fr lo : Nat) (E : XE) (L : List (Nat × Nat)) (avs : List Value) (M : XM) (fc : Option (Int32 × XM)) : Prop := fc ≠ none → Met l y (xws y bytes maxL ret) (xrm fr lo) (va_Pc avs (fun U => xWd E L M U)) (va_Qi (fun (r : Int32) (M2 : XM) => fc = some (r, M2)) (fun M2 t => xWd E L M2 t) (eLo E)) 0 0 (eLo E)
def xMl (l : Launch) (y : MethodName) (bytes : ByteArray) (maxL : Nat) (ret : Option FieldType) (fr lo : Nat) (E : XE) (L : List (Nat × Nat)) (avs : List Value) (M : XM) (fc : Option (Int64 × XM)) : Prop := fc ≠ none → Met l y (xws y bytes maxL ret) (xrm fr lo) (va_Pc avs (fun U => xWd E L M U)) (va_Ql (fun (r : Int64) (M2 : XM) => fc = some (r, M2)) (fun M2 t => xWd E L M2 t) (eLo E)) 0 0 (eLo E)
def xMd (l : Launch) (y : MethodName) (bytes : ByteArray) (maxL : Nat) (ret : Option FieldType) (fr lo : Nat) (E : XE) (L : List (Nat × Nat)) (avs : List Value) (M : XM) (fc : Option (UInt64 × XM)) : Prop := fc ≠ none → Met l y (xws y bytes maxL ret) (xrm fr lo) (va_Pc avs (fun U => xWd E L M U)) (va_Qd (fun (r : UInt64) (M2 : XM) => fc = some (r, M2)) (fun M2 t => xWd E L M2 t) (eLo E)) 0 0 (eLo E)
def xMv (l : Launch) (y : MethodName) (bytes : ByteArray) (maxL : Nat) (ret : Option FieldType) (fr lo : Nat) (E : XE) (L : List (Nat × Nat)) (avs : List Value) (M : XM) (fc : Option (Unit × XM)) : Prop := fc ≠ none → Met l y (xws y bytes maxL ret) (xrm fr lo) (va_Pc avs (fun U => xWd E L M U)) (va_Qv (fun (M2 : XM) => fc = some ((), M2)) (fun M2 t => xWd E L M2 t) (eLo E)) 0 0 (eLo E)
def xMa (l : Launch) (y : MethodName) (bytes : ByteArray) (maxL : Nat) (ret : Option FieldType) (fr lo : Nat) (E : XE) (L : List (Nat × Nat)) (avs : List Value) (M : XM) (fc : Option (Nat × XM)) : Prop := fc ≠ none → Met l y (xws y bytes maxL ret) (xrm fr lo) (va_Pc avs (fun U => xWd E L M U)) (va_Qr (fun (u : Nat × XM) => fc = some u) (fun u a t => a = eA E 0 u.1 ∧ xWd E L u.2 t) (eLo E)) 0 0 (eLo E)
theorem x_cwV {R : Room} {s : State} {args : Array Value} {own C : String} {index fr lo maxL n : Nat} {y : MethodName} {bytes : ByteArray} {ret : Option FieldType} (hts : ∀ w ∈ xT, w.before args s = true) (h1 : Cond.methodLink own index y ∈ xT) (h2 : Cond.instanceMethod y ∈ xT) (h3 : Cond.selects C y y ∈ xT) (h4 : Cond.initialized C ∈ xT) (h5 : Cond.code y bytes maxL ret ∈ xT)
    (hd : y.cls = C ∧ y.cls ≠ "java/lang/invoke/MethodHandle" ∧ y.cls ≠ "java/lang/invoke/VarHandle" ∧ (parseMethodDescriptor y.desc).map (fun d => d.parameters.length) = some n) (hR : fr + 1 ≤ R.frames ∧ 8 + (maxL + 11) + lo ≤ R.locals) : CallW R s args own C index y bytes maxL ret (xws y bytes maxL ret) (xrm fr lo) 0 0 n :=
  cwV n hts (xT_goodIn (fun w hw => by
    unfold wsV at hw
    rcases List.mem_append.mp hw with h | h
    · simp only [List.mem_cons, List.not_mem_nil, or_false] at h
      rcases h with rfl | rfl | rfl | rfl <;> assumption
    · rcases List.mem_cons.mp h with rfl | h
      · exact h5
      · exact h)) rfl rfl rfl hd hR
theorem x_cwS {R : Room} {s : State} {args : Array Value} {own : String} {index fr lo maxL n : Nat} {y : MethodName} {bytes : ByteArray} {ret : Option FieldType} (hts : ∀ w ∈ xT, w.before args s = true) (h1 : Cond.methodLink own index y ∈ xT) (h2 : Cond.static y ∈ xT) (h4 : Cond.initialized own ∈ xT) (h5 : Cond.code y bytes maxL ret ∈ xT)
    (hd : y.cls = own ∧ y.cls ≠ "java/lang/invoke/MethodHandle" ∧ y.cls ≠ "java/lang/invoke/VarHandle" ∧ (parseMethodDescriptor y.desc).map (fun d => d.parameters.length) = some n) (hR : fr + 1 ≤ R.frames ∧ 8 + (maxL + 11) + lo ≤ R.locals) : CallB R s args own index y bytes maxL ret (xws y bytes maxL ret) (xrm fr lo) 0 0 n ∧ (Cond.static y).before args s = true :=
  cwS n hts (xT_goodIn (fun w hw => by
    unfold wsS at hw
    rcases List.mem_append.mp hw with h | h
    · simp only [List.mem_cons, List.not_mem_nil, or_false] at h
      rcases h with rfl | rfl | rfl <;> assumption
    · rcases List.mem_cons.mp h with rfl | h
      · exact h5
      · exact h)) rfl rfl rfl hd hR
theorem x_cn {R : Room} {s : State} {args : Array Value} {own : String} {index fr lo maxL n : Nat} {y : MethodName} {bytes : ByteArray} {ret : Option FieldType} (hts : ∀ w ∈ xT, w.before args s = true) (h1 : va_Nw (.methodLinkNest own index y "SumBlocks") s) (h4 : Cond.initialized y.cls ∈ xT) (h5 : Cond.code y bytes maxL ret ∈ xT)
    (hd : y.cls ≠ "java/lang/invoke/MethodHandle" ∧ y.cls ≠ "java/lang/invoke/VarHandle" ∧ (parseMethodDescriptor y.desc).map (fun d => d.parameters.length) = some n) (hR : fr + 1 ≤ R.frames ∧ 8 + (maxL + 11) + lo ≤ R.locals) : va_CN R s args own index y "SumBlocks" bytes maxL ret (xws y bytes maxL ret) (xrm fr lo) 0 0 n :=
  va_cnB n hts (xT_goodIn (fun w hw => by
    rcases List.mem_cons.mp hw with rfl | h
    · exact h5
    · exact h)) rfl rfl rfl h1 (hts _ h4) hd hR
theorem z_cVi (C : ZC p s m args c cc nL own E L) {y : MethodName} {bytes : ByteArray} {maxL fr lo index : Nat} {ret : Option FieldType} {As rest : List Value} {fc : Option (Int32 × XM)} {kk : Int32 → XM → Option (α × XM)} {j i ci : Nat} {q9 : vw_C} {fs : List Value} (hM : xMi l y bytes maxL ret fr lo E L (.ref (eA E j i) :: As) M fc) (hL : (j, i) ∈ L) (he : x_cell E M j i = .inr (ci, fs)) (hc : vwCl[ci]? = some q9) (cw : CallW R s args own q9.1 index y bytes maxL ret (xws y bytes maxL ret) (xrm fr lo) 0 0 As.length) (hst : st = As.reverse ++ .ref (eA E j i) :: rest) (hw : (rest.map fun v => v.category).sum ≤ 8) (hcs : cells ≤ R.cells ∧ slots ≤ R.slots) (hdg : decode cc pc = .ok (.invokevirtual index, 3)) (k : ∀ (r : Int32) (M' : XM), ZZ p l e R s m args below meth c nL E L cells slots Q ρ (pc + 3) lv (.int r :: rest) M' (kk r M')) : ZZ p l e R s m args below meth c nL E L cells slots Q ρ pc lv st M (bO fc kk) := by
  intro ht hn H locs ls hl hP hS
  have hfn : fc ≠ none := fun z => hn (by rw [z]; rfl)
  subst hst
  obtain ⟨q0, -, hq⟩ := xW_get E M hL
  rw [he] at hq
  refine va_calli (va_runV (As := As) (rest := rest) C.fix (hM hfn) cw ⟨xWd.blind, va_recv C.hK hP hc hq, fun U hU hW => ⟨rfl, C.wd hP hS hU hW⟩⟩ rfl rfl hl.1 rfl (lv_room hw) hdg ⟨by omega, by omega⟩) hS (fun q _ h => h) (fun q h => h) (fun r u t H1 locs1 ht1 hvm hw hB hz1 hk1 hS1 => ?_)
  have hb : bO fc kk = kk r u := by rw [hw]; rfl
  rw [hb] at ht hn
  have hP1 := hB.2.1
  rw [ht1] at hP1
  exact k r u ht hn H1 locs1 ls hl hP1 hS1
theorem z_cSi (C : ZC p s m args c cc nL own E L) {y : MethodName} {bytes : ByteArray} {maxL fr lo index : Nat} {ret : Option FieldType} {As rest : List Value} {fc : Option (Int32 × XM)} {kk : Int32 → XM → Option (α × XM)} (hM : xMi l y bytes maxL ret fr lo E L As M fc) (cw : CallB R s args own index y bytes maxL ret (xws y bytes maxL ret) (xrm fr lo) 0 0 As.length ∧ (Cond.static y).before args s = true) (hst : st = As.reverse ++ rest) (hw : (rest.map fun v => v.category).sum ≤ 8) (hcs : cells ≤ R.cells ∧ slots ≤ R.slots) (hdg : decode cc pc = .ok (.invokestatic index, 3)) (k : ∀ (r : Int32) (M' : XM), ZZ p l e R s m args below meth c nL E L cells slots Q ρ (pc + 3) lv (.int r :: rest) M' (kk r M')) : ZZ p l e R s m args below meth c nL E L cells slots Q ρ pc lv st M (bO fc kk) := by
  intro ht hn H locs ls hl hP hS
  have hfn : fc ≠ none := fun z => hn (by rw [z]; rfl)
  subst hst
  refine va_calli (va_runS (As := As) (rest := rest) C.fix (hM hfn) cw ⟨xWd.blind, fun U hU hW => ⟨rfl, C.wd hP hS hU hW⟩⟩ rfl rfl hl.1 rfl (lv_room hw) hdg ⟨by omega, by omega⟩) hS (fun q _ h => h) (fun q h => h) (fun r u t H1 locs1 ht1 hvm hw hB hz1 hk1 hS1 => ?_)
  have hb : bO fc kk = kk r u := by rw [hw]; rfl
  rw [hb] at ht hn
  have hP1 := hB.2.1
  rw [ht1] at hP1
  exact k r u ht hn H1 locs1 ls hl hP1 hS1
theorem z_cNi (C : ZC p s m args c cc nL own E L) {y : MethodName} {bytes : ByteArray} {maxL fr lo index : Nat} {ret : Option FieldType} {As rest : List Value} {fc : Option (Int32 × XM)} {kk : Int32 → XM → Option (α × XM)} (hM : xMi l y bytes maxL ret fr lo E L As M fc) (cw : va_CN R s args own index y "SumBlocks" bytes maxL ret (xws y bytes maxL ret) (xrm fr lo) 0 0 As.length ∧ (Cond.static y).before args s = true ∧ True) (hst : st = As.reverse ++ rest) (hw : (rest.map fun v => v.category).sum ≤ 8) (hcs : cells ≤ R.cells ∧ slots ≤ R.slots) (hdg : decode cc pc = .ok (.invokestatic index, 3)) (k : ∀ (r : Int32) (M' : XM), ZZ p l e R s m args below meth c nL E L cells slots Q ρ (pc + 3) lv (.int r :: rest) M' (kk r M')) : ZZ p l e R s m args below meth c nL E L cells slots Q ρ pc lv st M (bO fc kk) := by
  intro ht hn H locs ls hl hP hS
  have hfn : fc ≠ none := fun z => hn (by rw [z]; rfl)
  subst hst
  refine va_calli (va_runSN (As := As) (rest := rest) C.fix (hM hfn) cw ⟨xWd.blind, fun U hU hW => ⟨rfl, C.wd hP hS hU hW⟩⟩ rfl rfl hl.1 rfl (lv_room hw) hdg ⟨by omega, by omega⟩) hS (fun q _ h => h) (fun q h => h) (fun r u t H1 locs1 ht1 hvm hw hB hz1 hk1 hS1 => ?_)
  have hb : bO fc kk = kk r u := by rw [hw]; rfl
  rw [hb] at ht hn
  have hP1 := hB.2.1
  rw [ht1] at hP1
  exact k r u ht hn H1 locs1 ls hl hP1 hS1
theorem z_cVl (C : ZC p s m args c cc nL own E L) {y : MethodName} {bytes : ByteArray} {maxL fr lo index : Nat} {ret : Option FieldType} {As rest : List Value} {fc : Option (Int64 × XM)} {kk : Int64 → XM → Option (α × XM)} {j i ci : Nat} {q9 : vw_C} {fs : List Value} (hM : xMl l y bytes maxL ret fr lo E L (.ref (eA E j i) :: As) M fc) (hL : (j, i) ∈ L) (he : x_cell E M j i = .inr (ci, fs)) (hc : vwCl[ci]? = some q9) (cw : CallW R s args own q9.1 index y bytes maxL ret (xws y bytes maxL ret) (xrm fr lo) 0 0 As.length) (hst : st = As.reverse ++ .ref (eA E j i) :: rest) (hw : (rest.map fun v => v.category).sum ≤ 8) (hcs : cells ≤ R.cells ∧ slots ≤ R.slots) (hdg : decode cc pc = .ok (.invokevirtual index, 3)) (k : ∀ (r : Int64) (M' : XM), ZZ p l e R s m args below meth c nL E L cells slots Q ρ (pc + 3) lv (.long r :: rest) M' (kk r M')) : ZZ p l e R s m args below meth c nL E L cells slots Q ρ pc lv st M (bO fc kk) := by
  intro ht hn H locs ls hl hP hS
  have hfn : fc ≠ none := fun z => hn (by rw [z]; rfl)
  subst hst
  obtain ⟨q0, -, hq⟩ := xW_get E M hL
  rw [he] at hq
  refine va_calll (va_runV (As := As) (rest := rest) C.fix (hM hfn) cw ⟨xWd.blind, va_recv C.hK hP hc hq, fun U hU hW => ⟨rfl, C.wd hP hS hU hW⟩⟩ rfl rfl hl.1 rfl (lv_room hw) hdg ⟨by omega, by omega⟩) hS (fun q _ h => h) (fun q h => h) (fun r u t H1 locs1 ht1 hvm hw hB hz1 hk1 hS1 => ?_)
  have hb : bO fc kk = kk r u := by rw [hw]; rfl
  rw [hb] at ht hn
  have hP1 := hB.2.1
  rw [ht1] at hP1
  exact k r u ht hn H1 locs1 ls hl hP1 hS1
theorem z_cSl (C : ZC p s m args c cc nL own E L) {y : MethodName} {bytes : ByteArray} {maxL fr lo index : Nat} {ret : Option FieldType} {As rest : List Value} {fc : Option (Int64 × XM)} {kk : Int64 → XM → Option (α × XM)} (hM : xMl l y bytes maxL ret fr lo E L As M fc) (cw : CallB R s args own index y bytes maxL ret (xws y bytes maxL ret) (xrm fr lo) 0 0 As.length ∧ (Cond.static y).before args s = true) (hst : st = As.reverse ++ rest) (hw : (rest.map fun v => v.category).sum ≤ 8) (hcs : cells ≤ R.cells ∧ slots ≤ R.slots) (hdg : decode cc pc = .ok (.invokestatic index, 3)) (k : ∀ (r : Int64) (M' : XM), ZZ p l e R s m args below meth c nL E L cells slots Q ρ (pc + 3) lv (.long r :: rest) M' (kk r M')) : ZZ p l e R s m args below meth c nL E L cells slots Q ρ pc lv st M (bO fc kk) := by
  intro ht hn H locs ls hl hP hS
  have hfn : fc ≠ none := fun z => hn (by rw [z]; rfl)
  subst hst
  refine va_calll (va_runS (As := As) (rest := rest) C.fix (hM hfn) cw ⟨xWd.blind, fun U hU hW => ⟨rfl, C.wd hP hS hU hW⟩⟩ rfl rfl hl.1 rfl (lv_room hw) hdg ⟨by omega, by omega⟩) hS (fun q _ h => h) (fun q h => h) (fun r u t H1 locs1 ht1 hvm hw hB hz1 hk1 hS1 => ?_)
  have hb : bO fc kk = kk r u := by rw [hw]; rfl
  rw [hb] at ht hn
  have hP1 := hB.2.1
  rw [ht1] at hP1
  exact k r u ht hn H1 locs1 ls hl hP1 hS1
theorem z_cNl (C : ZC p s m args c cc nL own E L) {y : MethodName} {bytes : ByteArray} {maxL fr lo index : Nat} {ret : Option FieldType} {As rest : List Value} {fc : Option (Int64 × XM)} {kk : Int64 → XM → Option (α × XM)} (hM : xMl l y bytes maxL ret fr lo E L As M fc) (cw : va_CN R s args own index y "SumBlocks" bytes maxL ret (xws y bytes maxL ret) (xrm fr lo) 0 0 As.length ∧ (Cond.static y).before args s = true ∧ True) (hst : st = As.reverse ++ rest) (hw : (rest.map fun v => v.category).sum ≤ 8) (hcs : cells ≤ R.cells ∧ slots ≤ R.slots) (hdg : decode cc pc = .ok (.invokestatic index, 3)) (k : ∀ (r : Int64) (M' : XM), ZZ p l e R s m args below meth c nL E L cells slots Q ρ (pc + 3) lv (.long r :: rest) M' (kk r M')) : ZZ p l e R s m args below meth c nL E L cells slots Q ρ pc lv st M (bO fc kk) := by
  intro ht hn H locs ls hl hP hS
  have hfn : fc ≠ none := fun z => hn (by rw [z]; rfl)
  subst hst
  refine va_calll (va_runSN (As := As) (rest := rest) C.fix (hM hfn) cw ⟨xWd.blind, fun U hU hW => ⟨rfl, C.wd hP hS hU hW⟩⟩ rfl rfl hl.1 rfl (lv_room hw) hdg ⟨by omega, by omega⟩) hS (fun q _ h => h) (fun q h => h) (fun r u t H1 locs1 ht1 hvm hw hB hz1 hk1 hS1 => ?_)
  have hb : bO fc kk = kk r u := by rw [hw]; rfl
  rw [hb] at ht hn
  have hP1 := hB.2.1
  rw [ht1] at hP1
  exact k r u ht hn H1 locs1 ls hl hP1 hS1
theorem z_cVd (C : ZC p s m args c cc nL own E L) {y : MethodName} {bytes : ByteArray} {maxL fr lo index : Nat} {ret : Option FieldType} {As rest : List Value} {fc : Option (UInt64 × XM)} {kk : UInt64 → XM → Option (α × XM)} {j i ci : Nat} {q9 : vw_C} {fs : List Value} (hM : xMd l y bytes maxL ret fr lo E L (.ref (eA E j i) :: As) M fc) (hL : (j, i) ∈ L) (he : x_cell E M j i = .inr (ci, fs)) (hc : vwCl[ci]? = some q9) (cw : CallW R s args own q9.1 index y bytes maxL ret (xws y bytes maxL ret) (xrm fr lo) 0 0 As.length) (hst : st = As.reverse ++ .ref (eA E j i) :: rest) (hw : (rest.map fun v => v.category).sum ≤ 8) (hcs : cells ≤ R.cells ∧ slots ≤ R.slots) (hdg : decode cc pc = .ok (.invokevirtual index, 3)) (k : ∀ (r : UInt64) (M' : XM), ZZ p l e R s m args below meth c nL E L cells slots Q ρ (pc + 3) lv (.double r :: rest) M' (kk r M')) : ZZ p l e R s m args below meth c nL E L cells slots Q ρ pc lv st M (bO fc kk) := by
  intro ht hn H locs ls hl hP hS
  have hfn : fc ≠ none := fun z => hn (by rw [z]; rfl)
  subst hst
  obtain ⟨q0, -, hq⟩ := xW_get E M hL
  rw [he] at hq
  refine va_calld (va_runV (As := As) (rest := rest) C.fix (hM hfn) cw ⟨xWd.blind, va_recv C.hK hP hc hq, fun U hU hW => ⟨rfl, C.wd hP hS hU hW⟩⟩ rfl rfl hl.1 rfl (lv_room hw) hdg ⟨by omega, by omega⟩) hS (fun q _ h => h) (fun q h => h) (fun r u t H1 locs1 ht1 hvm hw hB hz1 hk1 hS1 => ?_)
  have hb : bO fc kk = kk r u := by rw [hw]; rfl
  rw [hb] at ht hn
  have hP1 := hB.2.1
  rw [ht1] at hP1
  exact k r u ht hn H1 locs1 ls hl hP1 hS1
theorem z_cSd (C : ZC p s m args c cc nL own E L) {y : MethodName} {bytes : ByteArray} {maxL fr lo index : Nat} {ret : Option FieldType} {As rest : List Value} {fc : Option (UInt64 × XM)} {kk : UInt64 → XM → Option (α × XM)} (hM : xMd l y bytes maxL ret fr lo E L As M fc) (cw : CallB R s args own index y bytes maxL ret (xws y bytes maxL ret) (xrm fr lo) 0 0 As.length ∧ (Cond.static y).before args s = true) (hst : st = As.reverse ++ rest) (hw : (rest.map fun v => v.category).sum ≤ 8) (hcs : cells ≤ R.cells ∧ slots ≤ R.slots) (hdg : decode cc pc = .ok (.invokestatic index, 3)) (k : ∀ (r : UInt64) (M' : XM), ZZ p l e R s m args below meth c nL E L cells slots Q ρ (pc + 3) lv (.double r :: rest) M' (kk r M')) : ZZ p l e R s m args below meth c nL E L cells slots Q ρ pc lv st M (bO fc kk) := by
  intro ht hn H locs ls hl hP hS
  have hfn : fc ≠ none := fun z => hn (by rw [z]; rfl)
  subst hst
  refine va_calld (va_runS (As := As) (rest := rest) C.fix (hM hfn) cw ⟨xWd.blind, fun U hU hW => ⟨rfl, C.wd hP hS hU hW⟩⟩ rfl rfl hl.1 rfl (lv_room hw) hdg ⟨by omega, by omega⟩) hS (fun q _ h => h) (fun q h => h) (fun r u t H1 locs1 ht1 hvm hw hB hz1 hk1 hS1 => ?_)
  have hb : bO fc kk = kk r u := by rw [hw]; rfl
  rw [hb] at ht hn
  have hP1 := hB.2.1
  rw [ht1] at hP1
  exact k r u ht hn H1 locs1 ls hl hP1 hS1
theorem z_cNd (C : ZC p s m args c cc nL own E L) {y : MethodName} {bytes : ByteArray} {maxL fr lo index : Nat} {ret : Option FieldType} {As rest : List Value} {fc : Option (UInt64 × XM)} {kk : UInt64 → XM → Option (α × XM)} (hM : xMd l y bytes maxL ret fr lo E L As M fc) (cw : va_CN R s args own index y "SumBlocks" bytes maxL ret (xws y bytes maxL ret) (xrm fr lo) 0 0 As.length ∧ (Cond.static y).before args s = true ∧ True) (hst : st = As.reverse ++ rest) (hw : (rest.map fun v => v.category).sum ≤ 8) (hcs : cells ≤ R.cells ∧ slots ≤ R.slots) (hdg : decode cc pc = .ok (.invokestatic index, 3)) (k : ∀ (r : UInt64) (M' : XM), ZZ p l e R s m args below meth c nL E L cells slots Q ρ (pc + 3) lv (.double r :: rest) M' (kk r M')) : ZZ p l e R s m args below meth c nL E L cells slots Q ρ pc lv st M (bO fc kk) := by
  intro ht hn H locs ls hl hP hS
  have hfn : fc ≠ none := fun z => hn (by rw [z]; rfl)
  subst hst
  refine va_calld (va_runSN (As := As) (rest := rest) C.fix (hM hfn) cw ⟨xWd.blind, fun U hU hW => ⟨rfl, C.wd hP hS hU hW⟩⟩ rfl rfl hl.1 rfl (lv_room hw) hdg ⟨by omega, by omega⟩) hS (fun q _ h => h) (fun q h => h) (fun r u t H1 locs1 ht1 hvm hw hB hz1 hk1 hS1 => ?_)
  have hb : bO fc kk = kk r u := by rw [hw]; rfl
  rw [hb] at ht hn
  have hP1 := hB.2.1
  rw [ht1] at hP1
  exact k r u ht hn H1 locs1 ls hl hP1 hS1
theorem z_cVv (C : ZC p s m args c cc nL own E L) {y : MethodName} {bytes : ByteArray} {maxL fr lo index : Nat} {ret : Option FieldType} {As rest : List Value} {fc : Option (Unit × XM)} {kk : Unit → XM → Option (α × XM)} {j i ci : Nat} {q9 : vw_C} {fs : List Value} (hM : xMv l y bytes maxL ret fr lo E L (.ref (eA E j i) :: As) M fc) (hL : (j, i) ∈ L) (he : x_cell E M j i = .inr (ci, fs)) (hc : vwCl[ci]? = some q9) (cw : CallW R s args own q9.1 index y bytes maxL ret (xws y bytes maxL ret) (xrm fr lo) 0 0 As.length) (hst : st = As.reverse ++ .ref (eA E j i) :: rest) (hw : (rest.map fun v => v.category).sum ≤ 8) (hcs : cells ≤ R.cells ∧ slots ≤ R.slots) (hdg : decode cc pc = .ok (.invokevirtual index, 3)) (k : ∀ (r : Unit) (M' : XM), ZZ p l e R s m args below meth c nL E L cells slots Q ρ (pc + 3) lv (rest) M' (kk r M')) : ZZ p l e R s m args below meth c nL E L cells slots Q ρ pc lv st M (bO fc kk) := by
  intro ht hn H locs ls hl hP hS
  have hfn : fc ≠ none := fun z => hn (by rw [z]; rfl)
  subst hst
  obtain ⟨q0, -, hq⟩ := xW_get E M hL
  rw [he] at hq
  refine va_callv (va_runV (As := As) (rest := rest) C.fix (hM hfn) cw ⟨xWd.blind, va_recv C.hK hP hc hq, fun U hU hW => ⟨rfl, C.wd hP hS hU hW⟩⟩ rfl rfl hl.1 rfl (lv_room hw) hdg ⟨by omega, by omega⟩) hS (fun q _ h => h) (fun q h => h) (fun u t H1 locs1 ht1 hvm hw hB hz1 hk1 hS1 => ?_)
  have hb : bO fc kk = kk () u := by rw [hw]; rfl
  rw [hb] at ht hn
  have hP1 := hB.2.1
  rw [ht1] at hP1
  exact k () u ht hn H1 locs1 ls hl hP1 hS1
theorem z_cSv (C : ZC p s m args c cc nL own E L) {y : MethodName} {bytes : ByteArray} {maxL fr lo index : Nat} {ret : Option FieldType} {As rest : List Value} {fc : Option (Unit × XM)} {kk : Unit → XM → Option (α × XM)} (hM : xMv l y bytes maxL ret fr lo E L As M fc) (cw : CallB R s args own index y bytes maxL ret (xws y bytes maxL ret) (xrm fr lo) 0 0 As.length ∧ (Cond.static y).before args s = true) (hst : st = As.reverse ++ rest) (hw : (rest.map fun v => v.category).sum ≤ 8) (hcs : cells ≤ R.cells ∧ slots ≤ R.slots) (hdg : decode cc pc = .ok (.invokestatic index, 3)) (k : ∀ (r : Unit) (M' : XM), ZZ p l e R s m args below meth c nL E L cells slots Q ρ (pc + 3) lv (rest) M' (kk r M')) : ZZ p l e R s m args below meth c nL E L cells slots Q ρ pc lv st M (bO fc kk) := by
  intro ht hn H locs ls hl hP hS
  have hfn : fc ≠ none := fun z => hn (by rw [z]; rfl)
  subst hst
  refine va_callv (va_runS (As := As) (rest := rest) C.fix (hM hfn) cw ⟨xWd.blind, fun U hU hW => ⟨rfl, C.wd hP hS hU hW⟩⟩ rfl rfl hl.1 rfl (lv_room hw) hdg ⟨by omega, by omega⟩) hS (fun q _ h => h) (fun q h => h) (fun u t H1 locs1 ht1 hvm hw hB hz1 hk1 hS1 => ?_)
  have hb : bO fc kk = kk () u := by rw [hw]; rfl
  rw [hb] at ht hn
  have hP1 := hB.2.1
  rw [ht1] at hP1
  exact k () u ht hn H1 locs1 ls hl hP1 hS1
theorem z_cNv (C : ZC p s m args c cc nL own E L) {y : MethodName} {bytes : ByteArray} {maxL fr lo index : Nat} {ret : Option FieldType} {As rest : List Value} {fc : Option (Unit × XM)} {kk : Unit → XM → Option (α × XM)} (hM : xMv l y bytes maxL ret fr lo E L As M fc) (cw : va_CN R s args own index y "SumBlocks" bytes maxL ret (xws y bytes maxL ret) (xrm fr lo) 0 0 As.length ∧ (Cond.static y).before args s = true ∧ True) (hst : st = As.reverse ++ rest) (hw : (rest.map fun v => v.category).sum ≤ 8) (hcs : cells ≤ R.cells ∧ slots ≤ R.slots) (hdg : decode cc pc = .ok (.invokestatic index, 3)) (k : ∀ (r : Unit) (M' : XM), ZZ p l e R s m args below meth c nL E L cells slots Q ρ (pc + 3) lv (rest) M' (kk r M')) : ZZ p l e R s m args below meth c nL E L cells slots Q ρ pc lv st M (bO fc kk) := by
  intro ht hn H locs ls hl hP hS
  have hfn : fc ≠ none := fun z => hn (by rw [z]; rfl)
  subst hst
  refine va_callv (va_runSN (As := As) (rest := rest) C.fix (hM hfn) cw ⟨xWd.blind, fun U hU hW => ⟨rfl, C.wd hP hS hU hW⟩⟩ rfl rfl hl.1 rfl (lv_room hw) hdg ⟨by omega, by omega⟩) hS (fun q _ h => h) (fun q h => h) (fun u t H1 locs1 ht1 hvm hw hB hz1 hk1 hS1 => ?_)
  have hb : bO fc kk = kk () u := by rw [hw]; rfl
  rw [hb] at ht hn
  have hP1 := hB.2.1
  rw [ht1] at hP1
  exact k () u ht hn H1 locs1 ls hl hP1 hS1
theorem z_cVa (C : ZC p s m args c cc nL own E L) {y : MethodName} {bytes : ByteArray} {maxL fr lo index : Nat} {ret : Option FieldType} {As rest : List Value} {fc : Option (Nat × XM)} {kk : Nat → XM → Option (α × XM)} {j i ci : Nat} {q9 : vw_C} {fs : List Value} (hM : xMa l y bytes maxL ret fr lo E L (.ref (eA E j i) :: As) M fc) (hL : (j, i) ∈ L) (he : x_cell E M j i = .inr (ci, fs)) (hc : vwCl[ci]? = some q9) (cw : CallW R s args own q9.1 index y bytes maxL ret (xws y bytes maxL ret) (xrm fr lo) 0 0 As.length) (hst : st = As.reverse ++ .ref (eA E j i) :: rest) (hw : (rest.map fun v => v.category).sum ≤ 8) (hcs : cells ≤ R.cells ∧ slots ≤ R.slots) (hdg : decode cc pc = .ok (.invokevirtual index, 3)) (k : ∀ (r : Nat) (M' : XM), ZZ p l e R s m args below meth c nL E L cells slots Q ρ (pc + 3) lv (.ref (eA E 0 r) :: rest) M' (kk r M')) : ZZ p l e R s m args below meth c nL E L cells slots Q ρ pc lv st M (bO fc kk) := by
  intro ht hn H locs ls hl hP hS
  have hfn : fc ≠ none := fun z => hn (by rw [z]; rfl)
  subst hst
  obtain ⟨q0, -, hq⟩ := xW_get E M hL
  rw [he] at hq
  refine va_callr (va_runV (As := As) (rest := rest) C.fix (hM hfn) cw ⟨xWd.blind, va_recv C.hK hP hc hq, fun U hU hW => ⟨rfl, C.wd hP hS hU hW⟩⟩ rfl rfl hl.1 rfl (lv_room hw) hdg ⟨by omega, by omega⟩) hS (fun q _ h => h) (fun q h => h) (fun u a t H1 locs1 ht1 hvm hw hB hz1 hk1 hS1 => ?_)
  obtain ⟨ha, hB⟩ := hB
  subst ha
  have hb : bO fc kk = kk u.1 u.2 := by rw [hw]; rfl
  rw [hb] at ht hn
  have hP1 := hB.2.1
  rw [ht1] at hP1
  exact k u.1 u.2 ht hn H1 locs1 ls hl hP1 hS1
theorem z_cSa (C : ZC p s m args c cc nL own E L) {y : MethodName} {bytes : ByteArray} {maxL fr lo index : Nat} {ret : Option FieldType} {As rest : List Value} {fc : Option (Nat × XM)} {kk : Nat → XM → Option (α × XM)} (hM : xMa l y bytes maxL ret fr lo E L As M fc) (cw : CallB R s args own index y bytes maxL ret (xws y bytes maxL ret) (xrm fr lo) 0 0 As.length ∧ (Cond.static y).before args s = true) (hst : st = As.reverse ++ rest) (hw : (rest.map fun v => v.category).sum ≤ 8) (hcs : cells ≤ R.cells ∧ slots ≤ R.slots) (hdg : decode cc pc = .ok (.invokestatic index, 3)) (k : ∀ (r : Nat) (M' : XM), ZZ p l e R s m args below meth c nL E L cells slots Q ρ (pc + 3) lv (.ref (eA E 0 r) :: rest) M' (kk r M')) : ZZ p l e R s m args below meth c nL E L cells slots Q ρ pc lv st M (bO fc kk) := by
  intro ht hn H locs ls hl hP hS
  have hfn : fc ≠ none := fun z => hn (by rw [z]; rfl)
  subst hst
  refine va_callr (va_runS (As := As) (rest := rest) C.fix (hM hfn) cw ⟨xWd.blind, fun U hU hW => ⟨rfl, C.wd hP hS hU hW⟩⟩ rfl rfl hl.1 rfl (lv_room hw) hdg ⟨by omega, by omega⟩) hS (fun q _ h => h) (fun q h => h) (fun u a t H1 locs1 ht1 hvm hw hB hz1 hk1 hS1 => ?_)
  obtain ⟨ha, hB⟩ := hB
  subst ha
  have hb : bO fc kk = kk u.1 u.2 := by rw [hw]; rfl
  rw [hb] at ht hn
  have hP1 := hB.2.1
  rw [ht1] at hP1
  exact k u.1 u.2 ht hn H1 locs1 ls hl hP1 hS1
theorem z_cNa (C : ZC p s m args c cc nL own E L) {y : MethodName} {bytes : ByteArray} {maxL fr lo index : Nat} {ret : Option FieldType} {As rest : List Value} {fc : Option (Nat × XM)} {kk : Nat → XM → Option (α × XM)} (hM : xMa l y bytes maxL ret fr lo E L As M fc) (cw : va_CN R s args own index y "SumBlocks" bytes maxL ret (xws y bytes maxL ret) (xrm fr lo) 0 0 As.length ∧ (Cond.static y).before args s = true ∧ True) (hst : st = As.reverse ++ rest) (hw : (rest.map fun v => v.category).sum ≤ 8) (hcs : cells ≤ R.cells ∧ slots ≤ R.slots) (hdg : decode cc pc = .ok (.invokestatic index, 3)) (k : ∀ (r : Nat) (M' : XM), ZZ p l e R s m args below meth c nL E L cells slots Q ρ (pc + 3) lv (.ref (eA E 0 r) :: rest) M' (kk r M')) : ZZ p l e R s m args below meth c nL E L cells slots Q ρ pc lv st M (bO fc kk) := by
  intro ht hn H locs ls hl hP hS
  have hfn : fc ≠ none := fun z => hn (by rw [z]; rfl)
  subst hst
  refine va_callr (va_runSN (As := As) (rest := rest) C.fix (hM hfn) cw ⟨xWd.blind, fun U hU hW => ⟨rfl, C.wd hP hS hU hW⟩⟩ rfl rfl hl.1 rfl (lv_room hw) hdg ⟨by omega, by omega⟩) hS (fun q _ h => h) (fun q h => h) (fun u a t H1 locs1 ht1 hvm hw hB hz1 hk1 hS1 => ?_)
  obtain ⟨ha, hB⟩ := hB
  subst ha
  have hb : bO fc kk = kk u.1 u.2 := by rw [hw]; rfl
  rw [hb] at ht hn
  have hP1 := hB.2.1
  rw [ht1] at hP1
  exact k u.1 u.2 ht hn H1 locs1 ls hl hP1 hS1
theorem ZC.nest (C : ZC p s m args c cc nL own E L) {a : String} {i : Nat} {y : MethodName} (h : (a, i, y, "SumBlocks") ∈ xNestM) : va_Nw (.methodLinkNest a i y "SumBlocks") s := C.2.2.2.2.2.1.2.2.2.2.2.2.1 _ h
theorem z_iret {ρ : Option (Int32 × XM)} (C : ZC p s m args c cc nL own E L) {v : Int32} (hr : meth.sig.returnType = some .int) (hlk : meth.locks = false) (hdg : decode cc pc = .ok (.ireturn, 1)) : ZZ p l e R s m args below meth c nL E L cells slots (MQ below (va_Qi (fun (r : Int32) (M2 : XM) => ρ = some (r, M2)) (fun M2 t => xWd E L M2 t) (eLo E)) args s cells slots (eLo E)) ρ pc lv [.int v] M (some (v, M)) :=
  fun ht _ H locs ls hl hP hS => W.iret C.1 C.2.1 hr (fun t h1 hW => ⟨⟨v, M, rfl, ht.symm, C.wd hP hS h1 hW⟩, hS.F h1⟩) hS.2.2 hdg hlk
theorem z_zret {ρ : Option (Int32 × XM)} (C : ZC p s m args c cc nL own E L) {v : Int32} (hr : meth.sig.returnType = some .boolean) (hlk : meth.locks = false) (hn : narrow .boolean (.int v) = .int v) (hdg : decode cc pc = .ok (.ireturn, 1)) : ZZ p l e R s m args below meth c nL E L cells slots (MQ below (va_Qi (fun (r : Int32) (M2 : XM) => ρ = some (r, M2)) (fun M2 t => xWd E L M2 t) (eLo E)) args s cells slots (eLo E)) ρ pc lv [.int v] M (some (v, M)) :=
  fun ht _ H locs ls hl hP hS => W.zret C.1 C.2.1 hr hn (fun t h1 hW => ⟨⟨v, M, rfl, ht.symm, C.wd hP hS h1 hW⟩, hS.F h1⟩) hS.2.2 hdg hlk
theorem x_nz {v : Int32} (h : v = 0 ∨ v = 1) : narrow .boolean (.int v) = .int v := by rcases h with rfl | rfl <;> decide +kernel
theorem z_zretg {ρ : Option (Int32 × XM)} (C : ZC p s m args c cc nL own E L) {v : Int32} (hr : meth.sig.returnType = some .boolean) (hlk : meth.locks = false) (hdg : decode cc pc = .ok (.ireturn, 1)) : ZZ p l e R s m args below meth c nL E L cells slots (MQ below (va_Qi (fun (r : Int32) (M2 : XM) => ρ = some (r, M2)) (fun M2 t => xWd E L M2 t) (eLo E)) args s cells slots (eLo E)) ρ pc lv [.int v] M (gd (v = 0 ∨ v = 1) (some (v, M))) :=
  z_gd fun hg => z_zret C hr hlk (x_nz hg) hdg
theorem z_lret {ρ : Option (Int64 × XM)} (C : ZC p s m args c cc nL own E L) {v : Int64} (hr : meth.sig.returnType = some .long) (hlk : meth.locks = false) (hdg : decode cc pc = .ok (.lreturn, 1)) : ZZ p l e R s m args below meth c nL E L cells slots (MQ below (va_Ql (fun (r : Int64) (M2 : XM) => ρ = some (r, M2)) (fun M2 t => xWd E L M2 t) (eLo E)) args s cells slots (eLo E)) ρ pc lv [.long v] M (some (v, M)) :=
  fun ht _ H locs ls hl hP hS => W.lret C.1 C.2.1 hr (fun t h1 hW => ⟨⟨v, M, rfl, ht.symm, C.wd hP hS h1 hW⟩, hS.F h1⟩) hS.2.2 hdg hlk
theorem z_dret {ρ : Option (UInt64 × XM)} (C : ZC p s m args c cc nL own E L) {v : UInt64} (hr : meth.sig.returnType = some .double) (hlk : meth.locks = false) (hdg : decode cc pc = .ok (.dreturn, 1)) : ZZ p l e R s m args below meth c nL E L cells slots (MQ below (va_Qd (fun (r : UInt64) (M2 : XM) => ρ = some (r, M2)) (fun M2 t => xWd E L M2 t) (eLo E)) args s cells slots (eLo E)) ρ pc lv [.double v] M (some (v, M)) :=
  fun ht _ H locs ls hl hP hS => W.dret C.1 C.2.1 hr (fun t h1 hW => ⟨⟨v, M, rfl, ht.symm, C.wd hP hS h1 hW⟩, hS.F h1⟩) hS.2.2 hdg hlk
theorem z_vret {ρ : Option (Unit × XM)} (C : ZC p s m args c cc nL own E L) (hr : meth.sig.returnType = none) (hlk : meth.locks = false) (hdg : decode cc pc = .ok (.return_, 1)) : ZZ p l e R s m args below meth c nL E L cells slots (MQ below (va_Qv (fun (M2 : XM) => ρ = some ((), M2)) (fun M2 t => xWd E L M2 t) (eLo E)) args s cells slots (eLo E)) ρ pc lv [] M (some ((), M)) :=
  fun ht _ H locs ls hl hP hS => W.vret C.1 C.2.1 hr (fun t h1 hW => ⟨⟨M, rfl, ht.symm, C.wd hP hS h1 hW⟩, hS.F h1⟩) hS.2.2 hdg hlk
theorem z_aret {ρ : Option (Nat × XM)} (C : ZC p s m args c cc nL own E L) {v : Nat} (hr : meth.sig.returnType = some (.object "SumBlocks$Memory")) (hlk : meth.locks = false) (hdg : decode cc pc = .ok (.areturn, 1)) : ZZ p l e R s m args below meth c nL E L cells slots (MQ below (va_Qr (fun (u : Nat × XM) => ρ = some u) (fun u a t => a = eA E 0 u.1 ∧ xWd E L u.2 t) (eLo E)) args s cells slots (eLo E)) ρ pc lv [.ref (eA E 0 v)] M (some (v, M)) :=
  fun ht _ H locs ls hl hP hS => W.aret C.1 C.2.1 hr (Or.inl ⟨_, rfl⟩) (Or.inr ⟨_, rfl⟩) (fun t h1 hW => ⟨⟨(v, M), _, rfl, ht.symm, rfl, C.wd hP hS h1 hW⟩, hS.F h1⟩) hS.2.2 hdg hlk
/-- a method's entry -/
theorem z_start {vs : List Value} {n : Nat} (C : ZC p s m vs.toArray c cc n own E L) (hW : xWd E L M s) (hn : ρ ≠ none) (h : (lg_sl vs).length ≤ n) (k : ZZ p l e R s m vs.toArray below meth c n E L 0 0 Q ρ 0 (lv_args 0 vs) [] M ρ) : W p l e R s m vs.toArray below meth c s.heap [] 0 0 Q (entryFrame m vs.toArray n) := by
  have hl := lv_entry vs (n := n) h
  rw [lg_entry_eq]
  exact k rfl hn _ _ _ hl hW.2.1 va_S.rf
theorem ZC.of {S : Spec} {bytes : ByteArray} {maxL : Nat} {ret : Option FieldType} {x : MethodName} {s₁ : State} (B : BodyLoose p l x S bytes maxL ret e s m args below meth c s₁) (hml : c.maxLocals = maxL) (hpre : ∀ w ∈ xT, w.before args s = true) (hW : xWd E L M s) (hn : L.Nodup) (ho : s.vm.findClass own = some m.cls) : ZC p s m args c bytes maxL own E L :=
  ⟨B.exec, B.bytes, hml, ho, hpre, hW.1, fun _ => xD_any E hW.2.2, hn⟩
theorem wl_zz {σ : Type} {pc : Nat} {lvf : σ → List (Nat × Value)} {Mf : σ → XM} {F : (σ → Option (α × XM)) → σ → Option (α × XM)} {wl : Nat → σ → Option (α × XM)} (h0 : ∀ x, wl 0 x = none) (h1 : ∀ n x, wl (n + 1) x = F (wl n) x)
    (h : ∀ self : σ → Option (α × XM), (∀ x, ZZ p l e R s m args below meth c nL E L cells slots Q ρ pc (lvf x) st (Mf x) (self x)) → ∀ x, ZZ p l e R s m args below meth c nL E L cells slots Q ρ pc (lvf x) st (Mf x) (F self x)) : ∀ n x, ZZ p l e R s m args below meth c nL E L cells slots Q ρ pc (lvf x) st (Mf x) (wl n x) := by
  intro n
  induction n with
  | zero => intro x; rw [h0]; exact z_none
  | succ n ih => intro x; rw [h1]; exact h _ ih x
end ZROWS
end
section
theorem zz_1 : True := trivial
end
