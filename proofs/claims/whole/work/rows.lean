section
-- ===== PART A: goes FIRST, ahead of the names: the tables' words, and 'selects' of the private methods out of them =====
/-- a private method of a class that the tables say can be made, by its rows of tables_1 -/
def lw_okq (q : MethodName × Nat) : Prop := (q.1.cls ≠ "java/lang/invoke/MethodHandle" ∧ q.1.cls ≠ "java/lang/invoke/VarHandle") ∧ Cond.instantiable q.1.cls q.2 ∈ tables_1 ∧ Cond.privateMethod q.1 ∈ tables_1 ∧ Cond.instanceMethod q.1 ∈ tables_1
theorem lw_p0 : lw_okq (⟨"BarkNames", "found", "(I)I"⟩, 10) := ⟨⟨by decide +kernel, by decide +kernel⟩, List.mem_of_getElem? (i := 14) (by decide +kernel), List.mem_of_getElem? (i := 220) (by decide +kernel), List.mem_of_getElem? (i := 221) (by decide +kernel)⟩
theorem lw_p1 : lw_okq (⟨"BarkNames", "foundNothing", "(I)I"⟩, 10) := ⟨⟨by decide +kernel, by decide +kernel⟩, List.mem_of_getElem? (i := 14) (by decide +kernel), List.mem_of_getElem? (i := 232) (by decide +kernel), List.mem_of_getElem? (i := 233) (by decide +kernel)⟩
theorem lw_p2 : lw_okq (⟨"BarkNames$Tape", "readsLaw", "(LBarkNames$Wood;)Z"⟩, 5) := ⟨⟨by decide +kernel, by decide +kernel⟩, List.mem_of_getElem? (i := 24) (by decide +kernel), List.mem_of_getElem? (i := 279) (by decide +kernel), List.mem_of_getElem? (i := 280) (by decide +kernel)⟩
theorem lw_p3 : lw_okq (⟨"BarkNames$Tape", "reads", "(I)Z"⟩, 5) := ⟨⟨by decide +kernel, by decide +kernel⟩, List.mem_of_getElem? (i := 24) (by decide +kernel), List.mem_of_getElem? (i := 283) (by decide +kernel), List.mem_of_getElem? (i := 284) (by decide +kernel)⟩
theorem lw_p4 : lw_okq (⟨"BarkNames$Tape", "here", "()I"⟩, 5) := ⟨⟨by decide +kernel, by decide +kernel⟩, List.mem_of_getElem? (i := 24) (by decide +kernel), List.mem_of_getElem? (i := 287) (by decide +kernel), List.mem_of_getElem? (i := 288) (by decide +kernel)⟩
theorem lw_p5 : lw_okq (⟨"BarkNames$Tape", "fails", "(II)Z"⟩, 5) := ⟨⟨by decide +kernel, by decide +kernel⟩, List.mem_of_getElem? (i := 24) (by decide +kernel), List.mem_of_getElem? (i := 291) (by decide +kernel), List.mem_of_getElem? (i := 292) (by decide +kernel)⟩
theorem lw_p6 : lw_okq (⟨"BarkNames$Tape", "numberRead", "(II)I"⟩, 5) := ⟨⟨by decide +kernel, by decide +kernel⟩, List.mem_of_getElem? (i := 24) (by decide +kernel), List.mem_of_getElem? (i := 295) (by decide +kernel), List.mem_of_getElem? (i := 296) (by decide +kernel)⟩
theorem lw_p7 : lw_okq (⟨"BarkNames$Tape", "kindHere", "()I"⟩, 5) := ⟨⟨by decide +kernel, by decide +kernel⟩, List.mem_of_getElem? (i := 24) (by decide +kernel), List.mem_of_getElem? (i := 306) (by decide +kernel), List.mem_of_getElem? (i := 307) (by decide +kernel)⟩
theorem lw_p8 : lw_okq (⟨"BarkNames$Tape", "readsTree", "(LBarkNames$Wood;)Z"⟩, 5) := ⟨⟨by decide +kernel, by decide +kernel⟩, List.mem_of_getElem? (i := 24) (by decide +kernel), List.mem_of_getElem? (i := 310) (by decide +kernel), List.mem_of_getElem? (i := 311) (by decide +kernel)⟩
theorem lw_p9 : lw_okq (⟨"BarkNames$Tape", "readsCut", "(LBarkNames$Wood;)Z"⟩, 5) := ⟨⟨by decide +kernel, by decide +kernel⟩, List.mem_of_getElem? (i := 24) (by decide +kernel), List.mem_of_getElem? (i := 318) (by decide +kernel), List.mem_of_getElem? (i := 319) (by decide +kernel)⟩
theorem lw_p10 : lw_okq (⟨"BarkNames$Wood", "growthByKind", "(I)I"⟩, 12) := ⟨⟨by decide +kernel, by decide +kernel⟩, List.mem_of_getElem? (i := 50) (by decide +kernel), List.mem_of_getElem? (i := 365) (by decide +kernel), List.mem_of_getElem? (i := 366) (by decide +kernel)⟩
theorem lw_p11 : lw_okq (⟨"BarkNames$Wood", "closesBy", "(II)Z"⟩, 12) := ⟨⟨by decide +kernel, by decide +kernel⟩, List.mem_of_getElem? (i := 50) (by decide +kernel), List.mem_of_getElem? (i := 370) (by decide +kernel), List.mem_of_getElem? (i := 371) (by decide +kernel)⟩
theorem lw_p12 : lw_okq (⟨"BarkNames$Wood", "closeCutsOf", "(I)V"⟩, 12) := ⟨⟨by decide +kernel, by decide +kernel⟩, List.mem_of_getElem? (i := 50) (by decide +kernel), List.mem_of_getElem? (i := 374) (by decide +kernel), List.mem_of_getElem? (i := 375) (by decide +kernel)⟩
theorem lw_p13 : lw_okq (⟨"BarkNames$Wood", "placesApart", "(II)I"⟩, 12) := ⟨⟨by decide +kernel, by decide +kernel⟩, List.mem_of_getElem? (i := 50) (by decide +kernel), List.mem_of_getElem? (i := 452) (by decide +kernel), List.mem_of_getElem? (i := 453) (by decide +kernel)⟩
theorem lw_p14 : lw_okq (⟨"BarkNames", "isPair", "(II)Z"⟩, 10) := ⟨⟨by decide +kernel, by decide +kernel⟩, List.mem_of_getElem? (i := 14) (by decide +kernel), List.mem_of_getElem? (i := 464) (by decide +kernel), List.mem_of_getElem? (i := 465) (by decide +kernel)⟩
theorem lw_p15 : lw_okq (⟨"BarkNames", "areTogether", "(LBarkNames$Wood;II)Z"⟩, 10) := ⟨⟨by decide +kernel, by decide +kernel⟩, List.mem_of_getElem? (i := 14) (by decide +kernel), List.mem_of_getElem? (i := 468) (by decide +kernel), List.mem_of_getElem? (i := 469) (by decide +kernel)⟩
def lw_privs_1 : List (MethodName × Nat) := [(⟨"BarkNames", "found", "(I)I"⟩, 10), (⟨"BarkNames", "foundNothing", "(I)I"⟩, 10), (⟨"BarkNames$Tape", "readsLaw", "(LBarkNames$Wood;)Z"⟩, 5), (⟨"BarkNames$Tape", "reads", "(I)Z"⟩, 5), (⟨"BarkNames$Tape", "here", "()I"⟩, 5), (⟨"BarkNames$Tape", "fails", "(II)Z"⟩, 5), (⟨"BarkNames$Tape", "numberRead", "(II)I"⟩, 5), (⟨"BarkNames$Tape", "kindHere", "()I"⟩, 5), (⟨"BarkNames$Tape", "readsTree", "(LBarkNames$Wood;)Z"⟩, 5), (⟨"BarkNames$Tape", "readsCut", "(LBarkNames$Wood;)Z"⟩, 5), (⟨"BarkNames$Wood", "growthByKind", "(I)I"⟩, 12), (⟨"BarkNames$Wood", "closesBy", "(II)Z"⟩, 12), (⟨"BarkNames$Wood", "closeCutsOf", "(I)V"⟩, 12), (⟨"BarkNames$Wood", "placesApart", "(II)I"⟩, 12), (⟨"BarkNames", "isPair", "(II)Z"⟩, 10), (⟨"BarkNames", "areTogether", "(LBarkNames$Wood;II)Z"⟩, 10)]
theorem lw_r1 : ∀ q ∈ lw_privs_1, lw_okq q := List.forall_mem_cons.mpr ⟨lw_p0, List.forall_mem_cons.mpr ⟨lw_p1, List.forall_mem_cons.mpr ⟨lw_p2, List.forall_mem_cons.mpr ⟨lw_p3, List.forall_mem_cons.mpr ⟨lw_p4, List.forall_mem_cons.mpr ⟨lw_p5, List.forall_mem_cons.mpr ⟨lw_p6, List.forall_mem_cons.mpr ⟨lw_p7, List.forall_mem_cons.mpr ⟨lw_p8, List.forall_mem_cons.mpr ⟨lw_p9, List.forall_mem_cons.mpr ⟨lw_p10, List.forall_mem_cons.mpr ⟨lw_p11, List.forall_mem_cons.mpr ⟨lw_p12, List.forall_mem_cons.mpr ⟨lw_p13, List.forall_mem_cons.mpr ⟨lw_p14, List.forall_mem_cons.mpr ⟨lw_p15, fun _ h => absurd h List.not_mem_nil⟩⟩⟩⟩⟩⟩⟩⟩⟩⟩⟩⟩⟩⟩⟩⟩
theorem lw_p16 : lw_okq (⟨"BarkNames$Reading", "nextTo", "(I)I"⟩, 1) := ⟨⟨by decide +kernel, by decide +kernel⟩, List.mem_of_getElem? (i := 131) (by decide +kernel), List.mem_of_getElem? (i := 487) (by decide +kernel), List.mem_of_getElem? (i := 488) (by decide +kernel)⟩
theorem lw_p17 : lw_okq (⟨"BarkNames", "foretell", "(I)V"⟩, 10) := ⟨⟨by decide +kernel, by decide +kernel⟩, List.mem_of_getElem? (i := 14) (by decide +kernel), List.mem_of_getElem? (i := 502) (by decide +kernel), List.mem_of_getElem? (i := 503) (by decide +kernel)⟩
theorem lw_p18 : lw_okq (⟨"BarkNames", "treesOfPairsReadAsOne", "()I"⟩, 10) := ⟨⟨by decide +kernel, by decide +kernel⟩, List.mem_of_getElem? (i := 14) (by decide +kernel), List.mem_of_getElem? (i := 523) (by decide +kernel), List.mem_of_getElem? (i := 524) (by decide +kernel)⟩
theorem lw_p19 : lw_okq (⟨"BarkNames", "goesSo", "([IILBarkNames$Row;II)Z"⟩, 10) := ⟨⟨by decide +kernel, by decide +kernel⟩, List.mem_of_getElem? (i := 14) (by decide +kernel), List.mem_of_getElem? (i := 557) (by decide +kernel), List.mem_of_getElem? (i := 558) (by decide +kernel)⟩
theorem lw_p20 : lw_okq (⟨"BarkNames", "kindsThatGoSo", "(ILBarkNames$Row;II)I"⟩, 10) := ⟨⟨by decide +kernel, by decide +kernel⟩, List.mem_of_getElem? (i := 14) (by decide +kernel), List.mem_of_getElem? (i := 565) (by decide +kernel), List.mem_of_getElem? (i := 566) (by decide +kernel)⟩
theorem lw_p21 : lw_okq (⟨"BarkNames", "sunsThatGoSo", "(ILBarkNames$Row;II)I"⟩, 10) := ⟨⟨by decide +kernel, by decide +kernel⟩, List.mem_of_getElem? (i := 14) (by decide +kernel), List.mem_of_getElem? (i := 569) (by decide +kernel), List.mem_of_getElem? (i := 570) (by decide +kernel)⟩
theorem lw_p22 : lw_okq (⟨"BarkNames", "stormWays", "(III)I"⟩, 10) := ⟨⟨by decide +kernel, by decide +kernel⟩, List.mem_of_getElem? (i := 14) (by decide +kernel), List.mem_of_getElem? (i := 577) (by decide +kernel), List.mem_of_getElem? (i := 578) (by decide +kernel)⟩
theorem lw_p23 : lw_okq (⟨"BarkNames$Asks", "sizeOfBeech", "(LBarkNames$Wood;I)I"⟩, 2) := ⟨⟨by decide +kernel, by decide +kernel⟩, List.mem_of_getElem? (i := 141) (by decide +kernel), List.mem_of_getElem? (i := 618) (by decide +kernel), List.mem_of_getElem? (i := 619) (by decide +kernel)⟩
theorem lw_p24 : lw_okq (⟨"BarkNames$Asks", "note", "(I)V"⟩, 2) := ⟨⟨by decide +kernel, by decide +kernel⟩, List.mem_of_getElem? (i := 141) (by decide +kernel), List.mem_of_getElem? (i := 622) (by decide +kernel), List.mem_of_getElem? (i := 623) (by decide +kernel)⟩
theorem lw_p25 : lw_okq (⟨"BarkNames$Asks", "markOfBeech", "(LBarkNames$Wood;I)I"⟩, 2) := ⟨⟨by decide +kernel, by decide +kernel⟩, List.mem_of_getElem? (i := 141) (by decide +kernel), List.mem_of_getElem? (i := 626) (by decide +kernel), List.mem_of_getElem? (i := 627) (by decide +kernel)⟩
theorem lw_p26 : lw_okq (⟨"BarkNames$Asks", "sizeOfPine", "(LBarkNames$Wood;I)I"⟩, 2) := ⟨⟨by decide +kernel, by decide +kernel⟩, List.mem_of_getElem? (i := 141) (by decide +kernel), List.mem_of_getElem? (i := 630) (by decide +kernel), List.mem_of_getElem? (i := 631) (by decide +kernel)⟩
theorem lw_p27 : lw_okq (⟨"BarkNames", "rowsThere", "()I"⟩, 10) := ⟨⟨by decide +kernel, by decide +kernel⟩, List.mem_of_getElem? (i := 14) (by decide +kernel), List.mem_of_getElem? (i := 646) (by decide +kernel), List.mem_of_getElem? (i := 647) (by decide +kernel)⟩
theorem lw_p28 : lw_okq (⟨"BarkNamesModel", "found", "(I)I"⟩, 22) := ⟨⟨by decide +kernel, by decide +kernel⟩, List.mem_of_getElem? (i := 654) (by decide +kernel), List.mem_of_getElem? (i := 740) (by decide +kernel), List.mem_of_getElem? (i := 741) (by decide +kernel)⟩
theorem lw_p29 : lw_okq (⟨"BarkNamesModel", "well", "(I)I"⟩, 22) := ⟨⟨by decide +kernel, by decide +kernel⟩, List.mem_of_getElem? (i := 654) (by decide +kernel), List.mem_of_getElem? (i := 745) (by decide +kernel), List.mem_of_getElem? (i := 746) (by decide +kernel)⟩
theorem lw_p30 : lw_okq (⟨"BarkNamesModel", "isMissing", "(I)Z"⟩, 22) := ⟨⟨by decide +kernel, by decide +kernel⟩, List.mem_of_getElem? (i := 654) (by decide +kernel), List.mem_of_getElem? (i := 753) (by decide +kernel), List.mem_of_getElem? (i := 754) (by decide +kernel)⟩
theorem lw_p31 : lw_okq (⟨"BarkNamesModel", "isPart", "(III)Z"⟩, 22) := ⟨⟨by decide +kernel, by decide +kernel⟩, List.mem_of_getElem? (i := 654) (by decide +kernel), List.mem_of_getElem? (i := 764) (by decide +kernel), List.mem_of_getElem? (i := 765) (by decide +kernel)⟩
def lw_privs_2 : List (MethodName × Nat) := [(⟨"BarkNames$Reading", "nextTo", "(I)I"⟩, 1), (⟨"BarkNames", "foretell", "(I)V"⟩, 10), (⟨"BarkNames", "treesOfPairsReadAsOne", "()I"⟩, 10), (⟨"BarkNames", "goesSo", "([IILBarkNames$Row;II)Z"⟩, 10), (⟨"BarkNames", "kindsThatGoSo", "(ILBarkNames$Row;II)I"⟩, 10), (⟨"BarkNames", "sunsThatGoSo", "(ILBarkNames$Row;II)I"⟩, 10), (⟨"BarkNames", "stormWays", "(III)I"⟩, 10), (⟨"BarkNames$Asks", "sizeOfBeech", "(LBarkNames$Wood;I)I"⟩, 2), (⟨"BarkNames$Asks", "note", "(I)V"⟩, 2), (⟨"BarkNames$Asks", "markOfBeech", "(LBarkNames$Wood;I)I"⟩, 2), (⟨"BarkNames$Asks", "sizeOfPine", "(LBarkNames$Wood;I)I"⟩, 2), (⟨"BarkNames", "rowsThere", "()I"⟩, 10), (⟨"BarkNamesModel", "found", "(I)I"⟩, 22), (⟨"BarkNamesModel", "well", "(I)I"⟩, 22), (⟨"BarkNamesModel", "isMissing", "(I)Z"⟩, 22), (⟨"BarkNamesModel", "isPart", "(III)Z"⟩, 22)]
theorem lw_r2 : ∀ q ∈ lw_privs_2, lw_okq q := List.forall_mem_cons.mpr ⟨lw_p16, List.forall_mem_cons.mpr ⟨lw_p17, List.forall_mem_cons.mpr ⟨lw_p18, List.forall_mem_cons.mpr ⟨lw_p19, List.forall_mem_cons.mpr ⟨lw_p20, List.forall_mem_cons.mpr ⟨lw_p21, List.forall_mem_cons.mpr ⟨lw_p22, List.forall_mem_cons.mpr ⟨lw_p23, List.forall_mem_cons.mpr ⟨lw_p24, List.forall_mem_cons.mpr ⟨lw_p25, List.forall_mem_cons.mpr ⟨lw_p26, List.forall_mem_cons.mpr ⟨lw_p27, List.forall_mem_cons.mpr ⟨lw_p28, List.forall_mem_cons.mpr ⟨lw_p29, List.forall_mem_cons.mpr ⟨lw_p30, List.forall_mem_cons.mpr ⟨lw_p31, fun _ h => absurd h List.not_mem_nil⟩⟩⟩⟩⟩⟩⟩⟩⟩⟩⟩⟩⟩⟩⟩⟩
theorem lw_p32 : lw_okq (⟨"BarkNamesModel", "advances", "()V"⟩, 22) := ⟨⟨by decide +kernel, by decide +kernel⟩, List.mem_of_getElem? (i := 654) (by decide +kernel), List.mem_of_getElem? (i := 781) (by decide +kernel), List.mem_of_getElem? (i := 782) (by decide +kernel)⟩
theorem lw_p33 : lw_okq (⟨"BarkNamesModel", "byteAt", "(I)I"⟩, 22) := ⟨⟨by decide +kernel, by decide +kernel⟩, List.mem_of_getElem? (i := 654) (by decide +kernel), List.mem_of_getElem? (i := 785) (by decide +kernel), List.mem_of_getElem? (i := 786) (by decide +kernel)⟩
theorem lw_p34 : lw_okq (⟨"BarkNamesModel", "takes", "(ZI)I"⟩, 22) := ⟨⟨by decide +kernel, by decide +kernel⟩, List.mem_of_getElem? (i := 654) (by decide +kernel), List.mem_of_getElem? (i := 789) (by decide +kernel), List.mem_of_getElem? (i := 790) (by decide +kernel)⟩
theorem lw_p35 : lw_okq (⟨"BarkNamesModel", "isWell", "()Z"⟩, 22) := ⟨⟨by decide +kernel, by decide +kernel⟩, List.mem_of_getElem? (i := 654) (by decide +kernel), List.mem_of_getElem? (i := 793) (by decide +kernel), List.mem_of_getElem? (i := 794) (by decide +kernel)⟩
theorem lw_p36 : lw_okq (⟨"BarkNamesModel", "figure", "(II)I"⟩, 22) := ⟨⟨by decide +kernel, by decide +kernel⟩, List.mem_of_getElem? (i := 654) (by decide +kernel), List.mem_of_getElem? (i := 797) (by decide +kernel), List.mem_of_getElem? (i := 798) (by decide +kernel)⟩
theorem lw_p37 : lw_okq (⟨"BarkNamesModel", "readsTree", "()V"⟩, 22) := ⟨⟨by decide +kernel, by decide +kernel⟩, List.mem_of_getElem? (i := 654) (by decide +kernel), List.mem_of_getElem? (i := 804) (by decide +kernel), List.mem_of_getElem? (i := 805) (by decide +kernel)⟩
theorem lw_p38 : lw_okq (⟨"BarkNamesModel", "next", "(II)I"⟩, 22) := ⟨⟨by decide +kernel, by decide +kernel⟩, List.mem_of_getElem? (i := 654) (by decide +kernel), List.mem_of_getElem? (i := 808) (by decide +kernel), List.mem_of_getElem? (i := 809) (by decide +kernel)⟩
theorem lw_p39 : lw_okq (⟨"BarkNamesModel", "readsCut", "()V"⟩, 22) := ⟨⟨by decide +kernel, by decide +kernel⟩, List.mem_of_getElem? (i := 654) (by decide +kernel), List.mem_of_getElem? (i := 812) (by decide +kernel), List.mem_of_getElem? (i := 813) (by decide +kernel)⟩
theorem lw_p40 : lw_okq (⟨"BarkNamesModel", "isWood", "()Z"⟩, 22) := ⟨⟨by decide +kernel, by decide +kernel⟩, List.mem_of_getElem? (i := 654) (by decide +kernel), List.mem_of_getElem? (i := 831) (by decide +kernel), List.mem_of_getElem? (i := 832) (by decide +kernel)⟩
theorem lw_p41 : lw_okq (⟨"BarkNamesModel", "notes", "()V"⟩, 22) := ⟨⟨by decide +kernel, by decide +kernel⟩, List.mem_of_getElem? (i := 654) (by decide +kernel), List.mem_of_getElem? (i := 836) (by decide +kernel), List.mem_of_getElem? (i := 837) (by decide +kernel)⟩
theorem lw_p42 : lw_okq (⟨"BarkNamesModel", "isTree", "(I)Z"⟩, 22) := ⟨⟨by decide +kernel, by decide +kernel⟩, List.mem_of_getElem? (i := 654) (by decide +kernel), List.mem_of_getElem? (i := 862) (by decide +kernel), List.mem_of_getElem? (i := 863) (by decide +kernel)⟩
theorem lw_p43 : lw_okq (⟨"BarkNamesModel", "isCut", "(I)Z"⟩, 22) := ⟨⟨by decide +kernel, by decide +kernel⟩, List.mem_of_getElem? (i := 654) (by decide +kernel), List.mem_of_getElem? (i := 870) (by decide +kernel), List.mem_of_getElem? (i := 871) (by decide +kernel)⟩
theorem lw_p44 : lw_okq (⟨"BarkNamesModel", "areOfOne", "(II)Z"⟩, 22) := ⟨⟨by decide +kernel, by decide +kernel⟩, List.mem_of_getElem? (i := 654) (by decide +kernel), List.mem_of_getElem? (i := 894) (by decide +kernel), List.mem_of_getElem? (i := 895) (by decide +kernel)⟩
theorem lw_p45 : lw_okq (⟨"BarkNamesModel", "tries", "(I)V"⟩, 22) := ⟨⟨by decide +kernel, by decide +kernel⟩, List.mem_of_getElem? (i := 654) (by decide +kernel), List.mem_of_getElem? (i := 924) (by decide +kernel), List.mem_of_getElem? (i := 925) (by decide +kernel)⟩
theorem lw_p46 : lw_okq (⟨"BarkNamesModel", "depthIn", "(III)I"⟩, 22) := ⟨⟨by decide +kernel, by decide +kernel⟩, List.mem_of_getElem? (i := 654) (by decide +kernel), List.mem_of_getElem? (i := 940) (by decide +kernel), List.mem_of_getElem? (i := 941) (by decide +kernel)⟩
theorem lw_p47 : lw_okq (⟨"BarkNamesModel", "growsSo", "(IIIII)Z"⟩, 22) := ⟨⟨by decide +kernel, by decide +kernel⟩, List.mem_of_getElem? (i := 654) (by decide +kernel), List.mem_of_getElem? (i := 964) (by decide +kernel), List.mem_of_getElem? (i := 965) (by decide +kernel)⟩
def lw_privs_3 : List (MethodName × Nat) := [(⟨"BarkNamesModel", "advances", "()V"⟩, 22), (⟨"BarkNamesModel", "byteAt", "(I)I"⟩, 22), (⟨"BarkNamesModel", "takes", "(ZI)I"⟩, 22), (⟨"BarkNamesModel", "isWell", "()Z"⟩, 22), (⟨"BarkNamesModel", "figure", "(II)I"⟩, 22), (⟨"BarkNamesModel", "readsTree", "()V"⟩, 22), (⟨"BarkNamesModel", "next", "(II)I"⟩, 22), (⟨"BarkNamesModel", "readsCut", "()V"⟩, 22), (⟨"BarkNamesModel", "isWood", "()Z"⟩, 22), (⟨"BarkNamesModel", "notes", "()V"⟩, 22), (⟨"BarkNamesModel", "isTree", "(I)Z"⟩, 22), (⟨"BarkNamesModel", "isCut", "(I)Z"⟩, 22), (⟨"BarkNamesModel", "areOfOne", "(II)Z"⟩, 22), (⟨"BarkNamesModel", "tries", "(I)V"⟩, 22), (⟨"BarkNamesModel", "depthIn", "(III)I"⟩, 22), (⟨"BarkNamesModel", "growsSo", "(IIIII)Z"⟩, 22)]
theorem lw_r3 : ∀ q ∈ lw_privs_3, lw_okq q := List.forall_mem_cons.mpr ⟨lw_p32, List.forall_mem_cons.mpr ⟨lw_p33, List.forall_mem_cons.mpr ⟨lw_p34, List.forall_mem_cons.mpr ⟨lw_p35, List.forall_mem_cons.mpr ⟨lw_p36, List.forall_mem_cons.mpr ⟨lw_p37, List.forall_mem_cons.mpr ⟨lw_p38, List.forall_mem_cons.mpr ⟨lw_p39, List.forall_mem_cons.mpr ⟨lw_p40, List.forall_mem_cons.mpr ⟨lw_p41, List.forall_mem_cons.mpr ⟨lw_p42, List.forall_mem_cons.mpr ⟨lw_p43, List.forall_mem_cons.mpr ⟨lw_p44, List.forall_mem_cons.mpr ⟨lw_p45, List.forall_mem_cons.mpr ⟨lw_p46, List.forall_mem_cons.mpr ⟨lw_p47, fun _ h => absurd h List.not_mem_nil⟩⟩⟩⟩⟩⟩⟩⟩⟩⟩⟩⟩⟩⟩⟩⟩
theorem lw_p48 : lw_okq (⟨"BarkNamesModel", "kindIn", "(I)I"⟩, 22) := ⟨⟨by decide +kernel, by decide +kernel⟩, List.mem_of_getElem? (i := 654) (by decide +kernel), List.mem_of_getElem? (i := 984) (by decide +kernel), List.mem_of_getElem? (i := 985) (by decide +kernel)⟩
theorem lw_p49 : lw_okq (⟨"BarkNamesModel", "pineSize", "(I)I"⟩, 22) := ⟨⟨by decide +kernel, by decide +kernel⟩, List.mem_of_getElem? (i := 654) (by decide +kernel), List.mem_of_getElem? (i := 996) (by decide +kernel), List.mem_of_getElem? (i := 997) (by decide +kernel)⟩
theorem lw_p50 : lw_okq (⟨"BarkNamesModel", "begins", "(I)V"⟩, 22) := ⟨⟨by decide +kernel, by decide +kernel⟩, List.mem_of_getElem? (i := 654) (by decide +kernel), List.mem_of_getElem? (i := 1000) (by decide +kernel), List.mem_of_getElem? (i := 1001) (by decide +kernel)⟩
theorem lw_p51 : lw_okq (⟨"BarkNamesModel", "beechSize", "(I)I"⟩, 22) := ⟨⟨by decide +kernel, by decide +kernel⟩, List.mem_of_getElem? (i := 654) (by decide +kernel), List.mem_of_getElem? (i := 1004) (by decide +kernel), List.mem_of_getElem? (i := 1005) (by decide +kernel)⟩
theorem lw_p52 : lw_okq (⟨"BarkNamesModel", "beechMark", "(I)I"⟩, 22) := ⟨⟨by decide +kernel, by decide +kernel⟩, List.mem_of_getElem? (i := 654) (by decide +kernel), List.mem_of_getElem? (i := 1008) (by decide +kernel), List.mem_of_getElem? (i := 1009) (by decide +kernel)⟩
theorem lw_p53 : lw_okq (⟨"BarkNamesModel", "pineMark", "(I)I"⟩, 22) := ⟨⟨by decide +kernel, by decide +kernel⟩, List.mem_of_getElem? (i := 654) (by decide +kernel), List.mem_of_getElem? (i := 1012) (by decide +kernel), List.mem_of_getElem? (i := 1013) (by decide +kernel)⟩
def lw_privs_4 : List (MethodName × Nat) := [(⟨"BarkNamesModel", "kindIn", "(I)I"⟩, 22), (⟨"BarkNamesModel", "pineSize", "(I)I"⟩, 22), (⟨"BarkNamesModel", "begins", "(I)V"⟩, 22), (⟨"BarkNamesModel", "beechSize", "(I)I"⟩, 22), (⟨"BarkNamesModel", "beechMark", "(I)I"⟩, 22), (⟨"BarkNamesModel", "pineMark", "(I)I"⟩, 22)]
theorem lw_r4 : ∀ q ∈ lw_privs_4, lw_okq q := List.forall_mem_cons.mpr ⟨lw_p48, List.forall_mem_cons.mpr ⟨lw_p49, List.forall_mem_cons.mpr ⟨lw_p50, List.forall_mem_cons.mpr ⟨lw_p51, List.forall_mem_cons.mpr ⟨lw_p52, List.forall_mem_cons.mpr ⟨lw_p53, fun _ h => absurd h List.not_mem_nil⟩⟩⟩⟩⟩⟩
def lw_privs : List (MethodName × Nat) := lw_privs_1 ++ (lw_privs_2 ++ (lw_privs_3 ++ (lw_privs_4)))
def lw_tbl : List Cond := k2_sels lw_privs ++ tables_1
theorem lw_privs_ok : ∀ q ∈ lw_privs, lw_okq q := by
  show ∀ q ∈ lw_privs_1 ++ (lw_privs_2 ++ (lw_privs_3 ++ (lw_privs_4))), lw_okq q
  exact List.forall_mem_append.mpr ⟨lw_r1, List.forall_mem_append.mpr ⟨lw_r2, List.forall_mem_append.mpr ⟨lw_r3, lw_r4⟩⟩⟩
-- ===== end of PART A; then your names; then what follows =====
end
section
/-! ===== BEGIN words of one list among another's, by their places ===== -/
theorem goodIn_r {big : List Cond} (ws : List Cond) (ps : List Nat) (hp : ws = ps.filterMap (fun i => big[i]?)) (h : ws.all goodWord = true) : GoodIn big ws := by
  intro w hw
  have h1 := List.all_eq_true.mp h w hw
  rw [hp] at hw
  obtain ⟨i, -, hi⟩ := List.mem_filterMap.mp hw
  have hm : w ∈ big := by first | exact List.mem_of_getElem? hi | exact List.getElem?_mem hi
  exact ⟨hm, good_of_word h1⟩
theorem goodIn_app {big a b : List Cond} (ha : GoodIn big a) (hb : GoodIn big b) : GoodIn big (a ++ b) := fun w h => (List.mem_append.mp h).elim (ha w) (hb w)
theorem goodIn_ca {big a b : List Cond} {c : Cond} (ha : GoodIn big (c :: a)) (hb : GoodIn big b) : GoodIn big (c :: (a ++ b)) := fun w h => (List.mem_cons.mp h).elim (fun e => ha w (List.mem_cons.mpr (Or.inl e))) (fun h => (List.mem_append.mp h).elim (fun h => ha w (List.mem_cons.mpr (Or.inr h))) (hb w))
theorem goodIn_sub {big ws : List Cond} (hm : ∀ w ∈ ws, w ∈ big) (h : ws.all goodWord = true) : GoodIn big ws := fun w hw => ⟨hm w hw, good_of_word (List.all_eq_true.mp h w hw)⟩
/-! ===== END ===== -/

/-! ===== BEGIN printed: names, fields, word lists, decode rows ===== -/
def RX0 : String := "BarkNames$Asks"
def TX0 : u_T := fun k => match k with
  | 0 => ("BarkNames$Asks", "numbers", "[I", true)
  | _ => ("BarkNames$Asks", "traced", "I", false)
def tyX0 : Nat → FieldType := fun k => match k with
  | 0 => .array .int
  | _ => .int
abbrev wsX00 : List Cond := u_ws RX0 TX0 2
theorem nmX0 : ∀ a, a < 2 → ∀ b, b < 2 → a ≠ b → (TX0 a).2.1 ≠ (TX0 b).2.1 := by decide +kernel
theorem tyX0_ok : ∀ k, k < 2 → parseFieldDescriptor (TX0 k).2.2.1 = some (tyX0 k) := by decide +kernel
abbrev cX0_init : ByteArray := prog_2_method_1_code
def yX0_init : MethodName := ⟨RX0, "<init>", "()V"⟩
abbrev cX0_sizeOf : ByteArray := prog_2_method_2_code
def yX0_sizeOf : MethodName := ⟨RX0, "sizeOf", "(LBarkNames$Wood;I)I"⟩
abbrev cX0_markOf : ByteArray := prog_2_method_3_code
def yX0_markOf : MethodName := ⟨RX0, "markOf", "(LBarkNames$Wood;I)I"⟩
abbrev cX0_sizeOfBeech : ByteArray := prog_2_method_4_code
def yX0_sizeOfBeech : MethodName := ⟨RX0, "sizeOfBeech", "(LBarkNames$Wood;I)I"⟩
abbrev cX0_sizeOfPine : ByteArray := prog_2_method_5_code
def yX0_sizeOfPine : MethodName := ⟨RX0, "sizeOfPine", "(LBarkNames$Wood;I)I"⟩
abbrev cX0_markOfBeech : ByteArray := prog_2_method_6_code
def yX0_markOfBeech : MethodName := ⟨RX0, "markOfBeech", "(LBarkNames$Wood;I)I"⟩
abbrev cX0_note : ByteArray := prog_2_method_7_code
def yX0_note : MethodName := ⟨RX0, "note", "(I)V"⟩
def RX1 : String := "BarkNames$Past"
def TX1 : u_T := fun k => match k with
  | 0 => ("BarkNames$Past", "woods", "[LBarkNames$Wood;", true)
  | 1 => ("BarkNames$Past", "next", "I", false)
  | _ => ("BarkNames$Past", "kept", "I", false)
def tyX1 : Nat → FieldType := fun k => match k with
  | 0 => .array (.object "BarkNames$Wood")
  | 1 => .int
  | _ => .int
abbrev wsX10 : List Cond := u_ws RX1 TX1 3
theorem nmX1 : ∀ a, a < 3 → ∀ b, b < 3 → a ≠ b → (TX1 a).2.1 ≠ (TX1 b).2.1 := by decide +kernel
theorem tyX1_ok : ∀ k, k < 3 → parseFieldDescriptor (TX1 k).2.2.1 = some (tyX1 k) := by decide +kernel
abbrev cX1_init : ByteArray := prog_3_method_1_code
def yX1_init : MethodName := ⟨RX1, "<init>", "()V"⟩
abbrev cX1_keep : ByteArray := prog_3_method_2_code
def yX1_keep : MethodName := ⟨RX1, "keep", "(LBarkNames$Wood;)V"⟩
abbrev cX1_bringBack : ByteArray := prog_3_method_3_code
def yX1_bringBack : MethodName := ⟨RX1, "bringBack", "(LBarkNames$Wood;)V"⟩
abbrev cX1_forget : ByteArray := prog_3_method_4_code
def yX1_forget : MethodName := ⟨RX1, "forget", "()V"⟩
def RX2 : String := "BarkNames$Reading"
def TX2 : u_T := fun k => match k with
  | _ => ("BarkNames$Reading", "asOneWith", "[I", true)
def tyX2 : Nat → FieldType := fun k => match k with
  | _ => .array .int
abbrev wsX20 : List Cond := u_ws RX2 TX2 1
theorem nmX2 : ∀ a, a < 1 → ∀ b, b < 1 → a ≠ b → (TX2 a).2.1 ≠ (TX2 b).2.1 := by decide +kernel
theorem tyX2_ok : ∀ k, k < 1 → parseFieldDescriptor (TX2 k).2.2.1 = some (tyX2 k) := by decide +kernel
abbrev cX2_init : ByteArray := prog_4_method_1_code
def yX2_init : MethodName := ⟨RX2, "<init>", "()V"⟩
abbrev cX2_lookAt : ByteArray := prog_4_method_2_code
def yX2_lookAt : MethodName := ⟨RX2, "lookAt", "(LBarkNames$Wood;)V"⟩
abbrev cX2_reached : ByteArray := prog_4_method_3_code
def yX2_reached : MethodName := ⟨RX2, "reached", "(II)I"⟩
abbrev cX2_nextTo : ByteArray := prog_4_method_4_code
def yX2_nextTo : MethodName := ⟨RX2, "nextTo", "(I)I"⟩
def RX3 : String := "BarkNames$Row"
def TX3 : u_T := fun k => match k with
  | 0 => ("BarkNames$Row", "items", "[I", true)
  | 1 => ("BarkNames$Row", "there", "Z", false)
  | 2 => ("BarkNames$Row", "lane", "I", false)
  | _ => ("BarkNames$Row", "size", "I", false)
def tyX3 : Nat → FieldType := fun k => match k with
  | 0 => .array .int
  | 1 => .boolean
  | 2 => .int
  | _ => .int
abbrev wsX30 : List Cond := u_ws RX3 TX3 4
theorem nmX3 : ∀ a, a < 4 → ∀ b, b < 4 → a ≠ b → (TX3 a).2.1 ≠ (TX3 b).2.1 := by decide +kernel
theorem tyX3_ok : ∀ k, k < 4 → parseFieldDescriptor (TX3 k).2.2.1 = some (tyX3 k) := by decide +kernel
abbrev cX3_init : ByteArray := prog_5_method_1_code
def yX3_init : MethodName := ⟨RX3, "<init>", "()V"⟩
abbrev cX3_begin : ByteArray := prog_5_method_2_code
def yX3_begin : MethodName := ⟨RX3, "begin", "(II)V"⟩
abbrev cX3_narrowed : ByteArray := prog_5_method_3_code
def yX3_narrowed : MethodName := ⟨RX3, "narrowed", "(I)I"⟩
abbrev cX3_spans : ByteArray := prog_5_method_4_code
def yX3_spans : MethodName := ⟨RX3, "spans", "(II)Z"⟩
def RX4 : String := "BarkNames$Tape"
def TX4 : u_T := fun k => match k with
  | 0 => ("BarkNames$Tape", "bytes", "[I", true)
  | 1 => ("BarkNames$Tape", "length", "I", false)
  | 2 => ("BarkNames$Tape", "fault", "I", false)
  | 3 => ("BarkNames$Tape", "faultPlace", "I", false)
  | _ => ("BarkNames$Tape", "at", "I", false)
def tyX4 : Nat → FieldType := fun k => match k with
  | 0 => .array .int
  | 1 => .int
  | 2 => .int
  | 3 => .int
  | _ => .int
abbrev wsX40 : List Cond := u_ws RX4 TX4 5
theorem nmX4 : ∀ a, a < 5 → ∀ b, b < 5 → a ≠ b → (TX4 a).2.1 ≠ (TX4 b).2.1 := by decide +kernel
theorem tyX4_ok : ∀ k, k < 5 → parseFieldDescriptor (TX4 k).2.2.1 = some (tyX4 k) := by decide +kernel
abbrev cX4_init : ByteArray := prog_6_method_1_code
def yX4_init : MethodName := ⟨RX4, "<init>", "()V"⟩
abbrev cX4_takes : ByteArray := prog_6_method_2_code
def yX4_takes : MethodName := ⟨RX4, "takes", "(I)Z"⟩
abbrev cX4_tells : ByteArray := prog_6_method_3_code
def yX4_tells : MethodName := ⟨RX4, "tells", "(LBarkNames$Wood;)Z"⟩
abbrev cX4_readsLaw : ByteArray := prog_6_method_4_code
def yX4_readsLaw : MethodName := ⟨RX4, "readsLaw", "(LBarkNames$Wood;)Z"⟩
abbrev cX4_readsTree : ByteArray := prog_6_method_5_code
def yX4_readsTree : MethodName := ⟨RX4, "readsTree", "(LBarkNames$Wood;)Z"⟩
abbrev cX4_readsCut : ByteArray := prog_6_method_6_code
def yX4_readsCut : MethodName := ⟨RX4, "readsCut", "(LBarkNames$Wood;)Z"⟩
abbrev cX4_numberRead : ByteArray := prog_6_method_7_code
def yX4_numberRead : MethodName := ⟨RX4, "numberRead", "(II)I"⟩
abbrev cX4_isFigure : ByteArray := prog_6_method_8_code
def yX4_isFigure : MethodName := ⟨RX4, "isFigure", "(I)Z"⟩
abbrev cX4_reads : ByteArray := prog_6_method_9_code
def yX4_reads : MethodName := ⟨RX4, "reads", "(I)Z"⟩
abbrev cX4_here : ByteArray := prog_6_method_10_code
def yX4_here : MethodName := ⟨RX4, "here", "()I"⟩
abbrev cX4_kindHere : ByteArray := prog_6_method_11_code
def yX4_kindHere : MethodName := ⟨RX4, "kindHere", "()I"⟩
abbrev cX4_fails : ByteArray := prog_6_method_12_code
def yX4_fails : MethodName := ⟨RX4, "fails", "(II)Z"⟩
def RX5 : String := "BarkNames$Wood"
def TX5 : u_T := fun k => match k with
  | 0 => ("BarkNames$Wood", "kindOf", "[I", true)
  | 1 => ("BarkNames$Wood", "girthOf", "[I", true)
  | 2 => ("BarkNames$Wood", "sunOf", "[I", true)
  | 3 => ("BarkNames$Wood", "treeOf", "[I", true)
  | 4 => ("BarkNames$Wood", "letterOf", "[I", true)
  | 5 => ("BarkNames$Wood", "placeOf", "[I", true)
  | 6 => ("BarkNames$Wood", "depthOf", "[I", true)
  | 7 => ("BarkNames$Wood", "told", "Z", false)
  | 8 => ("BarkNames$Wood", "wide", "I", false)
  | 9 => ("BarkNames$Wood", "year", "I", false)
  | 10 => ("BarkNames$Wood", "treeCount", "I", false)
  | _ => ("BarkNames$Wood", "cutCount", "I", false)
def tyX5 : Nat → FieldType := fun k => match k with
  | 0 => .array .int
  | 1 => .array .int
  | 2 => .array .int
  | 3 => .array .int
  | 4 => .array .int
  | 5 => .array .int
  | 6 => .array .int
  | 7 => .boolean
  | 8 => .int
  | 9 => .int
  | 10 => .int
  | _ => .int
abbrev wsX50 : List Cond := u_ws RX5 TX5 12
theorem nmX5 : ∀ a, a < 12 → ∀ b, b < 12 → a ≠ b → (TX5 a).2.1 ≠ (TX5 b).2.1 := by decide +kernel
theorem tyX5_ok : ∀ k, k < 12 → parseFieldDescriptor (TX5 k).2.2.1 = some (tyX5 k) := by decide +kernel
abbrev cX5_init : ByteArray := prog_7_method_1_code
def yX5_init : MethodName := ⟨RX5, "<init>", "()V"⟩
abbrev cX5_begin : ByteArray := prog_7_method_2_code
def yX5_begin : MethodName := ⟨RX5, "begin", "(I)V"⟩
abbrev cX5_become : ByteArray := prog_7_method_3_code
def yX5_become : MethodName := ⟨RX5, "become", "(LBarkNames$Wood;)V"⟩
abbrev cX5_addTree : ByteArray := prog_7_method_4_code
def yX5_addTree : MethodName := ⟨RX5, "addTree", "(III)V"⟩
abbrev cX5_addCut : ByteArray := prog_7_method_5_code
def yX5_addCut : MethodName := ⟨RX5, "addCut", "(IIII)V"⟩
abbrev cX5_removeCut : ByteArray := prog_7_method_6_code
def yX5_removeCut : MethodName := ⟨RX5, "removeCut", "(I)V"⟩
abbrev cX5_hasTree : ByteArray := prog_7_method_7_code
def yX5_hasTree : MethodName := ⟨RX5, "hasTree", "(I)Z"⟩
abbrev cX5_hasCut : ByteArray := prog_7_method_8_code
def yX5_hasCut : MethodName := ⟨RX5, "hasCut", "(I)Z"⟩
abbrev cX5_hasCutAt : ByteArray := prog_7_method_9_code
def yX5_hasCutAt : MethodName := ⟨RX5, "hasCutAt", "(II)Z"⟩
abbrev cX5_growth : ByteArray := prog_7_method_10_code
def yX5_growth : MethodName := ⟨RX5, "growth", "(I)I"⟩
abbrev cX5_growthByKind : ByteArray := prog_7_method_11_code
def yX5_growthByKind : MethodName := ⟨RX5, "growthByKind", "(I)I"⟩
abbrev cX5_closesBy : ByteArray := prog_7_method_12_code
def yX5_closesBy : MethodName := ⟨RX5, "closesBy", "(II)Z"⟩
abbrev cX5_passYear : ByteArray := prog_7_method_13_code
def yX5_passYear : MethodName := ⟨RX5, "passYear", "()V"⟩
abbrev cX5_closeCutsOf : ByteArray := prog_7_method_14_code
def yX5_closeCutsOf : MethodName := ⟨RX5, "closeCutsOf", "(I)V"⟩
abbrev cX5_passYears : ByteArray := prog_7_method_15_code
def yX5_passYears : MethodName := ⟨RX5, "passYears", "(I)V"⟩
abbrev cX5_readable : ByteArray := prog_7_method_16_code
def yX5_readable : MethodName := ⟨RX5, "readable", "()I"⟩
abbrev cX5_readableOn : ByteArray := prog_7_method_17_code
def yX5_readableOn : MethodName := ⟨RX5, "readableOn", "(I)I"⟩
abbrev cX5_bothReadable : ByteArray := prog_7_method_18_code
def yX5_bothReadable : MethodName := ⟨RX5, "bothReadable", "(II)Z"⟩
abbrev cX5_placesApart : ByteArray := prog_7_method_19_code
def yX5_placesApart : MethodName := ⟨RX5, "placesApart", "(II)I"⟩
abbrev cX5_distance : ByteArray := prog_7_method_20_code
def yX5_distance : MethodName := ⟨RX5, "distance", "(II)I"⟩
abbrev cX5_readAsOne : ByteArray := prog_7_method_21_code
def yX5_readAsOne : MethodName := ⟨RX5, "readAsOne", "(II)Z"⟩
abbrev cX5_meetBehind : ByteArray := prog_7_method_22_code
def yX5_meetBehind : MethodName := ⟨RX5, "meetBehind", "(II)Z"⟩
def RX6 : String := "BarkNames"
def TX6 : u_T := fun k => match k with
  | 0 => ("BarkNames", "rows", "[LBarkNames$Row;", true)
  | 1 => ("BarkNames", "tape", "LBarkNames$Tape;", true)
  | 2 => ("BarkNames", "now", "LBarkNames$Wood;", true)
  | 3 => ("BarkNames", "tried", "LBarkNames$Wood;", true)
  | 4 => ("BarkNames", "images", "[LBarkNames$Wood;", true)
  | 5 => ("BarkNames", "past", "LBarkNames$Past;", true)
  | 6 => ("BarkNames", "reading", "LBarkNames$Reading;", true)
  | 7 => ("BarkNames", "asks", "LBarkNames$Asks;", true)
  | 8 => ("BarkNames", "latestFault", "I", false)
  | _ => ("BarkNames", "latestFinding", "I", false)
def tyX6 : Nat → FieldType := fun k => match k with
  | 0 => .array (.object "BarkNames$Row")
  | 1 => .object "BarkNames$Tape"
  | 2 => .object "BarkNames$Wood"
  | 3 => .object "BarkNames$Wood"
  | 4 => .array (.object "BarkNames$Wood")
  | 5 => .object "BarkNames$Past"
  | 6 => .object "BarkNames$Reading"
  | 7 => .object "BarkNames$Asks"
  | 8 => .int
  | _ => .int
abbrev wsX60 : List Cond := u_ws RX6 TX6 10
theorem nmX6 : ∀ a, a < 10 → ∀ b, b < 10 → a ≠ b → (TX6 a).2.1 ≠ (TX6 b).2.1 := by decide +kernel
theorem tyX6_ok : ∀ k, k < 10 → parseFieldDescriptor (TX6 k).2.2.1 = some (tyX6 k) := by decide +kernel
abbrev cX6_init : ByteArray := prog_1_method_1_code
def yX6_init : MethodName := ⟨RX6, "<init>", "()V"⟩
abbrev cX6_row : ByteArray := prog_1_method_2_code
def yX6_row : MethodName := ⟨RX6, "row", "(III)I"⟩
abbrev cX6_set : ByteArray := prog_1_method_3_code
def yX6_set : MethodName := ⟨RX6, "set", "(III)I"⟩
abbrev cX6_copy : ByteArray := prog_1_method_4_code
def yX6_copy : MethodName := ⟨RX6, "copy", "(IIIII)I"⟩
abbrev cX6_drop : ByteArray := prog_1_method_5_code
def yX6_drop : MethodName := ⟨RX6, "drop", "(I)I"⟩
abbrev cX6_feed : ByteArray := prog_1_method_6_code
def yX6_feed : MethodName := ⟨RX6, "feed", "(I)I"⟩
abbrev cX6_wood : ByteArray := prog_1_method_7_code
def yX6_wood : MethodName := ⟨RX6, "wood", "()I"⟩
abbrev cX6_fault : ByteArray := prog_1_method_8_code
def yX6_fault : MethodName := ⟨RX6, "fault", "()I"⟩
abbrev cX6_years : ByteArray := prog_1_method_9_code
def yX6_years : MethodName := ⟨RX6, "years", "(I)I"⟩
abbrev cX6_cut : ByteArray := prog_1_method_10_code
def yX6_cut : MethodName := ⟨RX6, "cut", "(IIII)I"⟩
abbrev cX6_anew : ByteArray := prog_1_method_11_code
def yX6_anew : MethodName := ⟨RX6, "anew", "(II)I"⟩
abbrev cX6_scrape : ByteArray := prog_1_method_12_code
def yX6_scrape : MethodName := ⟨RX6, "scrape", "(I)I"⟩
abbrev cX6_undo : ByteArray := prog_1_method_13_code
def yX6_undo : MethodName := ⟨RX6, "undo", "()I"⟩
abbrev cX6_tree : ByteArray := prog_1_method_14_code
def yX6_tree : MethodName := ⟨RX6, "tree", "(II)I"⟩
abbrev cX6_cutHas : ByteArray := prog_1_method_15_code
def yX6_cutHas : MethodName := ⟨RX6, "cutHas", "(II)I"⟩
abbrev cX6_apart : ByteArray := prog_1_method_16_code
def yX6_apart : MethodName := ⟨RX6, "apart", "(II)I"⟩
abbrev cX6_together : ByteArray := prog_1_method_17_code
def yX6_together : MethodName := ⟨RX6, "together", "(II)I"⟩
abbrev cX6_girth : ByteArray := prog_1_method_18_code
def yX6_girth : MethodName := ⟨RX6, "girth", "(II)I"⟩
abbrev cX6_left : ByteArray := prog_1_method_19_code
def yX6_left : MethodName := ⟨RX6, "left", "(I)I"⟩
abbrev cX6_free : ByteArray := prog_1_method_20_code
def yX6_free : MethodName := ⟨RX6, "free", "(II)I"⟩
abbrev cX6_holds : ByteArray := prog_1_method_21_code
def yX6_holds : MethodName := ⟨RX6, "holds", "(III)I"⟩
abbrev cX6_deep : ByteArray := prog_1_method_22_code
def yX6_deep : MethodName := ⟨RX6, "deep", "(II)I"⟩
abbrev cX6_meet : ByteArray := prog_1_method_23_code
def yX6_meet : MethodName := ⟨RX6, "meet", "(II)I"⟩
abbrev cX6_rings : ByteArray := prog_1_method_24_code
def yX6_rings : MethodName := ⟨RX6, "rings", "(II)I"⟩
abbrev cX6_gaps : ByteArray := prog_1_method_25_code
def yX6_gaps : MethodName := ⟨RX6, "gaps", "(IIII)I"⟩
abbrev cX6_which : ByteArray := prog_1_method_26_code
def yX6_which : MethodName := ⟨RX6, "which", "(IIIII)I"⟩
abbrev cX6_storm : ByteArray := prog_1_method_27_code
def yX6_storm : MethodName := ⟨RX6, "storm", "(IIII)I"⟩
abbrev cX6_image : ByteArray := prog_1_method_28_code
def yX6_image : MethodName := ⟨RX6, "image", "(I)I"⟩
abbrev cX6_restore : ByteArray := prog_1_method_29_code
def yX6_restore : MethodName := ⟨RX6, "restore", "(I)I"⟩
abbrev cX6_kind : ByteArray := prog_1_method_30_code
def yX6_kind : MethodName := ⟨RX6, "kind", "(I)I"⟩
abbrev cX6_as : ByteArray := prog_1_method_31_code
def yX6_as : MethodName := ⟨RX6, "as", "(II)I"⟩
abbrev cX6_ask : ByteArray := prog_1_method_32_code
def yX6_ask : MethodName := ⟨RX6, "ask", "(II)I"⟩
abbrev cX6_trace : ByteArray := prog_1_method_33_code
def yX6_trace : MethodName := ⟨RX6, "trace", "(I)I"⟩
abbrev cX6_count : ByteArray := prog_1_method_34_code
def yX6_count : MethodName := ⟨RX6, "count", "(I)I"⟩
abbrev cX6_status : ByteArray := prog_1_method_35_code
def yX6_status : MethodName := ⟨RX6, "status", "()I"⟩
abbrev cX6_isBelow : ByteArray := prog_1_method_36_code
def yX6_isBelow : MethodName := ⟨RX6, "isBelow", "(II)Z"⟩
abbrev cX6_isRow : ByteArray := prog_1_method_37_code
def yX6_isRow : MethodName := ⟨RX6, "isRow", "(I)Z"⟩
abbrev cX6_isDepth : ByteArray := prog_1_method_38_code
def yX6_isDepth : MethodName := ⟨RX6, "isDepth", "(I)Z"⟩
abbrev cX6_isForetold : ByteArray := prog_1_method_39_code
def yX6_isForetold : MethodName := ⟨RX6, "isForetold", "(I)Z"⟩
abbrev cX6_isTold : ByteArray := prog_1_method_40_code
def yX6_isTold : MethodName := ⟨RX6, "isTold", "(I)Z"⟩
abbrev cX6_isChoice : ByteArray := prog_1_method_41_code
def yX6_isChoice : MethodName := ⟨RX6, "isChoice", "(I)Z"⟩
abbrev cX6_isIn : ByteArray := prog_1_method_42_code
def yX6_isIn : MethodName := ⟨RX6, "isIn", "(II)Z"⟩
abbrev cX6_isPair : ByteArray := prog_1_method_43_code
def yX6_isPair : MethodName := ⟨RX6, "isPair", "(II)Z"⟩
abbrev cX6_isOfKind : ByteArray := prog_1_method_44_code
def yX6_isOfKind : MethodName := ⟨RX6, "isOfKind", "(II)Z"⟩
abbrev cX6_found : ByteArray := prog_1_method_45_code
def yX6_found : MethodName := ⟨RX6, "found", "(I)I"⟩
abbrev cX6_foundNothing : ByteArray := prog_1_method_46_code
def yX6_foundNothing : MethodName := ⟨RX6, "foundNothing", "(I)I"⟩
abbrev cX6_findingIn : ByteArray := prog_1_method_47_code
def yX6_findingIn : MethodName := ⟨RX6, "findingIn", "(LBarkNames$Row;II)I"⟩
abbrev cX6_rowsThere : ByteArray := prog_1_method_48_code
def yX6_rowsThere : MethodName := ⟨RX6, "rowsThere", "()I"⟩
abbrev cX6_foretell : ByteArray := prog_1_method_49_code
def yX6_foretell : MethodName := ⟨RX6, "foretell", "(I)V"⟩
abbrev cX6_areTogether : ByteArray := prog_1_method_50_code
def yX6_areTogether : MethodName := ⟨RX6, "areTogether", "(LBarkNames$Wood;II)Z"⟩
abbrev cX6_treesOfPairsReadAsOne : ByteArray := prog_1_method_51_code
def yX6_treesOfPairsReadAsOne : MethodName := ⟨RX6, "treesOfPairsReadAsOne", "()I"⟩
abbrev cX6_goesSo : ByteArray := prog_1_method_52_code
def yX6_goesSo : MethodName := ⟨RX6, "goesSo", "([IILBarkNames$Row;II)Z"⟩
abbrev cX6_kindsThatGoSo : ByteArray := prog_1_method_53_code
def yX6_kindsThatGoSo : MethodName := ⟨RX6, "kindsThatGoSo", "(ILBarkNames$Row;II)I"⟩
abbrev cX6_sunsThatGoSo : ByteArray := prog_1_method_54_code
def yX6_sunsThatGoSo : MethodName := ⟨RX6, "sunsThatGoSo", "(ILBarkNames$Row;II)I"⟩
abbrev cX6_stormWays : ByteArray := prog_1_method_55_code
def yX6_stormWays : MethodName := ⟨RX6, "stormWays", "(III)I"⟩
abbrev cX6_power : ByteArray := prog_1_method_56_code
def yX6_power : MethodName := ⟨RX6, "power", "(II)I"⟩
abbrev cX6_greatestDivisor : ByteArray := prog_1_method_57_code
def yX6_greatestDivisor : MethodName := ⟨RX6, "greatestDivisor", "(II)I"⟩
def RX7 : String := "BarkNamesModel"
def TX7 : u_T := fun k => match k with
  | 0 => ("BarkNamesModel", "lane", "[I", true)
  | 1 => ("BarkNamesModel", "many", "[I", true)
  | 2 => ("BarkNamesModel", "items", "[I", true)
  | 3 => ("BarkNamesModel", "spare", "[I", true)
  | 4 => ("BarkNamesModel", "status", "I", false)
  | 5 => ("BarkNamesModel", "tape", "[I", true)
  | 6 => ("BarkNamesModel", "taped", "I", false)
  | 7 => ("BarkNamesModel", "faultKind", "I", false)
  | 8 => ("BarkNamesModel", "faultPlace", "I", false)
  | 9 => ("BarkNamesModel", "at", "I", false)
  | 10 => ("BarkNamesModel", "start", "I", false)
  | 11 => ("BarkNamesModel", "token", "I", false)
  | 12 => ("BarkNamesModel", "value", "I", false)
  | 13 => ("BarkNamesModel", "now", "[I", true)
  | 14 => ("BarkNamesModel", "draft", "[I", true)
  | 15 => ("BarkNamesModel", "past", "[I", true)
  | 16 => ("BarkNamesModel", "acts", "I", false)
  | 17 => ("BarkNamesModel", "images", "[I", true)
  | 18 => ("BarkNamesModel", "kept", "[Z", true)
  | 19 => ("BarkNamesModel", "tried", "[I", true)
  | 20 => ("BarkNamesModel", "trace", "[I", true)
  | _ => ("BarkNamesModel", "traced", "I", false)
def tyX7 : Nat → FieldType := fun k => match k with
  | 0 => .array .int
  | 1 => .array .int
  | 2 => .array .int
  | 3 => .array .int
  | 4 => .int
  | 5 => .array .int
  | 6 => .int
  | 7 => .int
  | 8 => .int
  | 9 => .int
  | 10 => .int
  | 11 => .int
  | 12 => .int
  | 13 => .array .int
  | 14 => .array .int
  | 15 => .array .int
  | 16 => .int
  | 17 => .array .int
  | 18 => .array .boolean
  | 19 => .array .int
  | 20 => .array .int
  | _ => .int
abbrev wsX70 : List Cond := u_ws RX7 TX7 22
theorem nmX7 : ∀ a, a < 22 → ∀ b, b < 22 → a ≠ b → (TX7 a).2.1 ≠ (TX7 b).2.1 := by decide +kernel
theorem tyX7_ok : ∀ k, k < 22 → parseFieldDescriptor (TX7 k).2.2.1 = some (tyX7 k) := by decide +kernel
abbrev cX7_init : ByteArray := prog_9_method_1_code
def yX7_init : MethodName := ⟨RX7, "<init>", "()V"⟩
abbrev cX7_in : ByteArray := prog_9_method_3_code
def yX7_in : MethodName := ⟨RX7, "in", "(III)Z"⟩
abbrev cX7_has : ByteArray := prog_9_method_4_code
def yX7_has : MethodName := ⟨RX7, "has", "(II)Z"⟩
abbrev cX7_ones : ByteArray := prog_9_method_5_code
def yX7_ones : MethodName := ⟨RX7, "ones", "(I)I"⟩
abbrev cX7_found : ByteArray := prog_9_method_6_code
def yX7_found : MethodName := ⟨RX7, "found", "(I)I"⟩
abbrev cX7_well : ByteArray := prog_9_method_7_code
def yX7_well : MethodName := ⟨RX7, "well", "(I)I"⟩
abbrev cX7_copies : ByteArray := prog_9_method_8_code
def yX7_copies : MethodName := ⟨RX7, "copies", "([II[II)V"⟩
abbrev cX7_isRow : ByteArray := prog_9_method_9_code
def yX7_isRow : MethodName := ⟨RX7, "isRow", "(I)Z"⟩
abbrev cX7_isMissing : ByteArray := prog_9_method_10_code
def yX7_isMissing : MethodName := ⟨RX7, "isMissing", "(I)Z"⟩
abbrev cX7_cut : ByteArray := prog_9_method_11_code
def yX7_cut : MethodName := ⟨RX7, "cut", "(II)I"⟩
abbrev cX7_row : ByteArray := prog_9_method_12_code
def yX7_row : MethodName := ⟨RX7, "row", "(III)I"⟩
abbrev cX7_set : ByteArray := prog_9_method_13_code
def yX7_set : MethodName := ⟨RX7, "set", "(III)I"⟩
abbrev cX7_isPart : ByteArray := prog_9_method_14_code
def yX7_isPart : MethodName := ⟨RX7, "isPart", "(III)Z"⟩
abbrev cX7_copy : ByteArray := prog_9_method_15_code
def yX7_copy : MethodName := ⟨RX7, "copy", "(IIIII)I"⟩
abbrev cX7_drop : ByteArray := prog_9_method_16_code
def yX7_drop : MethodName := ⟨RX7, "drop", "(I)I"⟩
abbrev cX7_feed : ByteArray := prog_9_method_17_code
def yX7_feed : MethodName := ⟨RX7, "feed", "(I)I"⟩
abbrev cX7_byteAt : ByteArray := prog_9_method_18_code
def yX7_byteAt : MethodName := ⟨RX7, "byteAt", "(I)I"⟩
abbrev cX7_advances : ByteArray := prog_9_method_19_code
def yX7_advances : MethodName := ⟨RX7, "advances", "()V"⟩
abbrev cX7_isWell : ByteArray := prog_9_method_20_code
def yX7_isWell : MethodName := ⟨RX7, "isWell", "()Z"⟩
abbrev cX7_takes : ByteArray := prog_9_method_21_code
def yX7_takes : MethodName := ⟨RX7, "takes", "(ZI)I"⟩
abbrev cX7_figure : ByteArray := prog_9_method_22_code
def yX7_figure : MethodName := ⟨RX7, "figure", "(II)I"⟩
abbrev cX7_kindOf : ByteArray := prog_9_method_23_code
def yX7_kindOf : MethodName := ⟨RX7, "kindOf", "(I)I"⟩
abbrev cX7_next : ByteArray := prog_9_method_24_code
def yX7_next : MethodName := ⟨RX7, "next", "(II)I"⟩
abbrev cX7_readsTree : ByteArray := prog_9_method_25_code
def yX7_readsTree : MethodName := ⟨RX7, "readsTree", "()V"⟩
abbrev cX7_isCutAt : ByteArray := prog_9_method_26_code
def yX7_isCutAt : MethodName := ⟨RX7, "isCutAt", "([III)Z"⟩
abbrev cX7_readsCut : ByteArray := prog_9_method_27_code
def yX7_readsCut : MethodName := ⟨RX7, "readsCut", "()V"⟩
abbrev cX7_wood : ByteArray := prog_9_method_28_code
def yX7_wood : MethodName := ⟨RX7, "wood", "()I"⟩
abbrev cX7_fault : ByteArray := prog_9_method_29_code
def yX7_fault : MethodName := ⟨RX7, "fault", "()I"⟩
abbrev cX7_isWood : ByteArray := prog_9_method_30_code
def yX7_isWood : MethodName := ⟨RX7, "isWood", "()Z"⟩
abbrev cX7_isTree : ByteArray := prog_9_method_31_code
def yX7_isTree : MethodName := ⟨RX7, "isTree", "(I)Z"⟩
abbrev cX7_isCut : ByteArray := prog_9_method_32_code
def yX7_isCut : MethodName := ⟨RX7, "isCut", "(I)Z"⟩
abbrev cX7_isFar : ByteArray := prog_9_method_33_code
def yX7_isFar : MethodName := ⟨RX7, "isFar", "(I)Z"⟩
abbrev cX7_ruled : ByteArray := prog_9_method_34_code
def yX7_ruled : MethodName := ⟨RX7, "ruled", "(III)I"⟩
abbrev cX7_growth : ByteArray := prog_9_method_35_code
def yX7_growth : MethodName := ⟨RX7, "growth", "(IIII)I"⟩
abbrev cX7_heals : ByteArray := prog_9_method_36_code
def yX7_heals : MethodName := ⟨RX7, "heals", "(III)Z"⟩
abbrev cX7_passes : ByteArray := prog_9_method_37_code
def yX7_passes : MethodName := ⟨RX7, "passes", "([I)V"⟩
abbrev cX7_tries : ByteArray := prog_9_method_38_code
def yX7_tries : MethodName := ⟨RX7, "tries", "(I)V"⟩
abbrev cX7_legible : ByteArray := prog_9_method_39_code
def yX7_legible : MethodName := ⟨RX7, "legible", "([II)I"⟩
abbrev cX7_between : ByteArray := prog_9_method_40_code
def yX7_between : MethodName := ⟨RX7, "between", "([III)I"⟩
abbrev cX7_apartIn : ByteArray := prog_9_method_41_code
def yX7_apartIn : MethodName := ⟨RX7, "apartIn", "([III)I"⟩
abbrev cX7_ringOf : ByteArray := prog_9_method_42_code
def yX7_ringOf : MethodName := ⟨RX7, "ringOf", "([III)I"⟩
abbrev cX7_areTogether : ByteArray := prog_9_method_43_code
def yX7_areTogether : MethodName := ⟨RX7, "areTogether", "([IIII)Z"⟩
abbrev cX7_notes : ByteArray := prog_9_method_44_code
def yX7_notes : MethodName := ⟨RX7, "notes", "()V"⟩
abbrev cX7_years : ByteArray := prog_9_method_45_code
def yX7_years : MethodName := ⟨RX7, "years", "(I)I"⟩
abbrev cX7_cut_ : ByteArray := prog_9_method_46_code
def yX7_cut_ : MethodName := ⟨RX7, "cut", "(IIII)I"⟩
abbrev cX7_anew : ByteArray := prog_9_method_47_code
def yX7_anew : MethodName := ⟨RX7, "anew", "(II)I"⟩
abbrev cX7_scrape : ByteArray := prog_9_method_48_code
def yX7_scrape : MethodName := ⟨RX7, "scrape", "(I)I"⟩
abbrev cX7_undo : ByteArray := prog_9_method_49_code
def yX7_undo : MethodName := ⟨RX7, "undo", "()I"⟩
abbrev cX7_tree : ByteArray := prog_9_method_50_code
def yX7_tree : MethodName := ⟨RX7, "tree", "(II)I"⟩
abbrev cX7_cutHas : ByteArray := prog_9_method_51_code
def yX7_cutHas : MethodName := ⟨RX7, "cutHas", "(II)I"⟩
abbrev cX7_areOfOne : ByteArray := prog_9_method_52_code
def yX7_areOfOne : MethodName := ⟨RX7, "areOfOne", "(II)Z"⟩
abbrev cX7_apart : ByteArray := prog_9_method_53_code
def yX7_apart : MethodName := ⟨RX7, "apart", "(II)I"⟩
abbrev cX7_together : ByteArray := prog_9_method_54_code
def yX7_together : MethodName := ⟨RX7, "together", "(II)I"⟩
abbrev cX7_girth : ByteArray := prog_9_method_55_code
def yX7_girth : MethodName := ⟨RX7, "girth", "(II)I"⟩
abbrev cX7_left : ByteArray := prog_9_method_56_code
def yX7_left : MethodName := ⟨RX7, "left", "(I)I"⟩
abbrev cX7_free : ByteArray := prog_9_method_57_code
def yX7_free : MethodName := ⟨RX7, "free", "(II)I"⟩
abbrev cX7_depthIn : ByteArray := prog_9_method_58_code
def yX7_depthIn : MethodName := ⟨RX7, "depthIn", "(III)I"⟩
abbrev cX7_holds : ByteArray := prog_9_method_59_code
def yX7_holds : MethodName := ⟨RX7, "holds", "(III)I"⟩
abbrev cX7_deep : ByteArray := prog_9_method_60_code
def yX7_deep : MethodName := ⟨RX7, "deep", "(II)I"⟩
abbrev cX7_meet : ByteArray := prog_9_method_61_code
def yX7_meet : MethodName := ⟨RX7, "meet", "(II)I"⟩
abbrev cX7_rings : ByteArray := prog_9_method_62_code
def yX7_rings : MethodName := ⟨RX7, "rings", "(II)I"⟩
abbrev cX7_gaps : ByteArray := prog_9_method_63_code
def yX7_gaps : MethodName := ⟨RX7, "gaps", "(IIII)I"⟩
abbrev cX7_growsSo : ByteArray := prog_9_method_64_code
def yX7_growsSo : MethodName := ⟨RX7, "growsSo", "(IIIII)Z"⟩
abbrev cX7_which : ByteArray := prog_9_method_65_code
def yX7_which : MethodName := ⟨RX7, "which", "(IIIII)I"⟩
abbrev cX7_storm : ByteArray := prog_9_method_66_code
def yX7_storm : MethodName := ⟨RX7, "storm", "(IIII)I"⟩
abbrev cX7_image : ByteArray := prog_9_method_67_code
def yX7_image : MethodName := ⟨RX7, "image", "(I)I"⟩
abbrev cX7_restore : ByteArray := prog_9_method_68_code
def yX7_restore : MethodName := ⟨RX7, "restore", "(I)I"⟩
abbrev cX7_kindIn : ByteArray := prog_9_method_69_code
def yX7_kindIn : MethodName := ⟨RX7, "kindIn", "(I)I"⟩
abbrev cX7_kind : ByteArray := prog_9_method_70_code
def yX7_kind : MethodName := ⟨RX7, "kind", "(I)I"⟩
abbrev cX7_as : ByteArray := prog_9_method_71_code
def yX7_as : MethodName := ⟨RX7, "as", "(II)I"⟩
abbrev cX7_begins : ByteArray := prog_9_method_72_code
def yX7_begins : MethodName := ⟨RX7, "begins", "(I)V"⟩
abbrev cX7_beechMark : ByteArray := prog_9_method_73_code
def yX7_beechMark : MethodName := ⟨RX7, "beechMark", "(I)I"⟩
abbrev cX7_pineSize : ByteArray := prog_9_method_74_code
def yX7_pineSize : MethodName := ⟨RX7, "pineSize", "(I)I"⟩
abbrev cX7_beechSize : ByteArray := prog_9_method_75_code
def yX7_beechSize : MethodName := ⟨RX7, "beechSize", "(I)I"⟩
abbrev cX7_pineMark : ByteArray := prog_9_method_76_code
def yX7_pineMark : MethodName := ⟨RX7, "pineMark", "(I)I"⟩
abbrev cX7_ask : ByteArray := prog_9_method_77_code
def yX7_ask : MethodName := ⟨RX7, "ask", "(II)I"⟩
abbrev cX7_trace : ByteArray := prog_9_method_78_code
def yX7_trace : MethodName := ⟨RX7, "trace", "(I)I"⟩
abbrev cX7_count : ByteArray := prog_9_method_79_code
def yX7_count : MethodName := ⟨RX7, "count", "(I)I"⟩
abbrev cX7_status : ByteArray := prog_9_method_80_code
def yX7_status : MethodName := ⟨RX7, "status", "()I"⟩
def RJ6 : String := "java/lang/Integer"
def TJ6 : u_T := fun k => match k with
  | _ => ("", "", "", false)
def tyJ6 : Nat → FieldType := fun k => match k with
  | _ => .int
abbrev wsJ60 : List Cond := u_ws RJ6 TJ6 0
theorem nmJ6 : ∀ a, a < 0 → ∀ b, b < 0 → a ≠ b → (TJ6 a).2.1 ≠ (TJ6 b).2.1 := by decide +kernel
theorem tyJ6_ok : ∀ k, k < 0 → parseFieldDescriptor (TJ6 k).2.2.1 = some (tyJ6 k) := by decide +kernel
abbrev cJ6_bitCount_0f7a4 : ByteArray := prog_10_method_49_code
def yJ6_bitCount_0f7a4 : MethodName := ⟨RJ6, "bitCount", "(I)I"⟩
def RJ9 : String := "java/lang/Math"
def TJ9 : u_T := fun k => match k with
  | _ => ("", "", "", false)
def tyJ9 : Nat → FieldType := fun k => match k with
  | _ => .int
abbrev wsJ90 : List Cond := u_ws RJ9 TJ9 0
theorem nmJ9 : ∀ a, a < 0 → ∀ b, b < 0 → a ≠ b → (TJ9 a).2.1 ≠ (TJ9 b).2.1 := by decide +kernel
theorem tyJ9_ok : ∀ k, k < 0 → parseFieldDescriptor (TJ9 k).2.2.1 = some (tyJ9 k) := by decide +kernel
abbrev cJ9_abs_0f7a4 : ByteArray := prog_11_method_59_code
def yJ9_abs_0f7a4 : MethodName := ⟨RJ9, "abs", "(I)I"⟩
abbrev cJ9_max_7cf53 : ByteArray := prog_11_method_65_code
def yJ9_max_7cf53 : MethodName := ⟨RJ9, "max", "(II)I"⟩
abbrev cJ9_min_7cf53 : ByteArray := prog_11_method_69_code
def yJ9_min_7cf53 : MethodName := ⟨RJ9, "min", "(II)I"⟩
def RJ10 : String := "java/lang/System"
def TJ10 : u_T := fun k => match k with
  | _ => ("", "", "", false)
def tyJ10 : Nat → FieldType := fun k => match k with
  | _ => .int
abbrev wsJ100 : List Cond := u_ws RJ10 TJ10 0
theorem nmJ10 : ∀ a, a < 0 → ∀ b, b < 0 → a ≠ b → (TJ10 a).2.1 ≠ (TJ10 b).2.1 := by decide +kernel
theorem tyJ10_ok : ∀ k, k < 0 → parseFieldDescriptor (TJ10 k).2.2.1 = some (tyJ10 k) := by decide +kernel
def RJ7 : String := "java/util/Arrays"
def TJ7 : u_T := fun k => match k with
  | _ => ("", "", "", false)
def tyJ7 : Nat → FieldType := fun k => match k with
  | _ => .int
abbrev wsJ70 : List Cond := u_ws RJ7 TJ7 0
theorem nmJ7 : ∀ a, a < 0 → ∀ b, b < 0 → a ≠ b → (TJ7 a).2.1 ≠ (TJ7 b).2.1 := by decide +kernel
theorem tyJ7_ok : ∀ k, k < 0 → parseFieldDescriptor (TJ7 k).2.2.1 = some (tyJ7 k) := by decide +kernel
abbrev cJ7_fill_53178 : ByteArray := prog_13_method_103_code
def yJ7_fill_53178 : MethodName := ⟨RJ7, "fill", "([II)V"⟩
def RL : String := "BarkNamesLaw"
abbrev cL_law : ByteArray := code
def yL_law : MethodName := ⟨RL, "law", "([I)Z"⟩
def wsX0_init : List Cond := .code yX0_init cX0_init 1 none :: ([.methodLink RX0 3 objectInit, .instanceMethod objectInit, .code objectInit ⟨#[0xb1]⟩ 1 none, .arrayClass .int, .fieldLink RX0 9 "BarkNames$Asks" "numbers" "[I"] ++ wsX00)
def wsX6_isOfKind : List Cond := .code yX6_isOfKind cX6_isOfKind 4 (some .boolean) :: ([.fieldLink RX6 289 "BarkNames" "IS_TOO" "[I"])
def wsX0_note : List Cond := .code yX0_note cX0_note 2 none :: ([.fieldLink RX0 44 "BarkNames$Asks" "traced" "I", .fieldLink RX0 9 "BarkNames$Asks" "numbers" "[I"] ++ wsX00)
def wsX0_markOfBeech : List Cond := .code yX0_markOfBeech cX0_markOfBeech 5 (some .int) :: ([.fieldLink RX0 15 "BarkNames$Wood" "kindOf" "[I", .fieldLink RX0 41 "BarkNames$Wood" "girthOf" "[I", .methodLink RX0 34 yX0_note, .instanceMethod yX0_note, .selects RX0 yX0_note yX0_note, .initialized RX0, .code yX0_note cX0_note 2 none, .fieldLink RX0 44 "BarkNames$Asks" "traced" "I", .fieldLink RX0 9 "BarkNames$Asks" "numbers" "[I"] ++ wsX50 ++ wsX00)
def wsX0_sizeOfBeech : List Cond := .code yX0_sizeOfBeech cX0_sizeOfBeech 5 (some .int) :: ([.fieldLink RX0 15 "BarkNames$Wood" "kindOf" "[I", .fieldLink RX0 38 "BarkNames$Wood" "sunOf" "[I", .methodLink RX0 34 yX0_note, .instanceMethod yX0_note, .selects RX0 yX0_note yX0_note, .initialized RX0, .code yX0_note cX0_note 2 none, .fieldLink RX0 44 "BarkNames$Asks" "traced" "I", .fieldLink RX0 9 "BarkNames$Asks" "numbers" "[I", .methodLink RX0 31 yX0_markOfBeech, .instanceMethod yX0_markOfBeech, .selects RX0 yX0_markOfBeech yX0_markOfBeech, .code yX0_markOfBeech cX0_markOfBeech 5 (some .int), .fieldLink RX0 41 "BarkNames$Wood" "girthOf" "[I"] ++ wsX50 ++ wsX00)
def wsX0_sizeOfPine : List Cond := .code yX0_sizeOfPine cX0_sizeOfPine 5 (some .int) :: ([.fieldLink RX0 15 "BarkNames$Wood" "kindOf" "[I", .fieldLink RX0 38 "BarkNames$Wood" "sunOf" "[I", .methodLink RX0 34 yX0_note, .instanceMethod yX0_note, .selects RX0 yX0_note yX0_note, .initialized RX0, .code yX0_note cX0_note 2 none, .fieldLink RX0 44 "BarkNames$Asks" "traced" "I", .fieldLink RX0 9 "BarkNames$Asks" "numbers" "[I"] ++ wsX50 ++ wsX00)
def wsX0_sizeOf_r1 : List Cond := [Cond.fieldLink RX0 15 "BarkNames$Wood" "kindOf" "[I", Cond.static yX6_isOfKind, Cond.initialized RX6, Cond.code yX6_isOfKind cX6_isOfKind 4 (some .boolean), Cond.fieldLink RX6 289 "BarkNames" "IS_TOO" "[I", Cond.methodLink RX0 24 yX0_sizeOfBeech, Cond.instanceMethod yX0_sizeOfBeech, Cond.selects RX0 yX0_sizeOfBeech yX0_sizeOfBeech, Cond.initialized RX0, Cond.code yX0_sizeOfBeech cX0_sizeOfBeech 5 (some .int), Cond.fieldLink RX0 38 "BarkNames$Wood" "sunOf" "[I", Cond.methodLink RX0 34 yX0_note, Cond.instanceMethod yX0_note, Cond.selects RX0 yX0_note yX0_note, Cond.code yX0_note cX0_note 2 none, Cond.fieldLink RX0 44 "BarkNames$Asks" "traced" "I", Cond.fieldLink RX0 9 "BarkNames$Asks" "numbers" "[I", Cond.methodLink RX0 31 yX0_markOfBeech, Cond.instanceMethod yX0_markOfBeech, Cond.selects RX0 yX0_markOfBeech yX0_markOfBeech, Cond.code yX0_markOfBeech cX0_markOfBeech 5 (some .int), Cond.fieldLink RX0 41 "BarkNames$Wood" "girthOf" "[I", Cond.methodLink RX0 28 yX0_sizeOfPine, Cond.instanceMethod yX0_sizeOfPine]
def wsX0_sizeOf_r2 : List Cond := [Cond.selects RX0 yX0_sizeOfPine yX0_sizeOfPine, Cond.code yX0_sizeOfPine cX0_sizeOfPine 5 (some .int)]
def wsX0_sizeOf : List Cond := .code yX0_sizeOf cX0_sizeOf 3 (some .int) :: ((wsX0_sizeOf_r1 ++ wsX0_sizeOf_r2) ++ wsX50 ++ wsX00)
def wsX0_markOf : List Cond := .code yX0_markOf cX0_markOf 3 (some .int) :: ([.fieldLink RX0 15 "BarkNames$Wood" "kindOf" "[I", .static yX6_isOfKind, .initialized RX6, .code yX6_isOfKind cX6_isOfKind 4 (some .boolean), .fieldLink RX6 289 "BarkNames" "IS_TOO" "[I", .methodLink RX0 31 yX0_markOfBeech, .instanceMethod yX0_markOfBeech, .selects RX0 yX0_markOfBeech yX0_markOfBeech, .initialized RX0, .code yX0_markOfBeech cX0_markOfBeech 5 (some .int), .fieldLink RX0 41 "BarkNames$Wood" "girthOf" "[I", .methodLink RX0 34 yX0_note, .instanceMethod yX0_note, .selects RX0 yX0_note yX0_note, .code yX0_note cX0_note 2 none, .fieldLink RX0 44 "BarkNames$Asks" "traced" "I", .fieldLink RX0 9 "BarkNames$Asks" "numbers" "[I", .methodLink RX0 28 yX0_sizeOfPine, .instanceMethod yX0_sizeOfPine, .selects RX0 yX0_sizeOfPine yX0_sizeOfPine, .code yX0_sizeOfPine cX0_sizeOfPine 5 (some .int), .fieldLink RX0 38 "BarkNames$Wood" "sunOf" "[I"] ++ wsX50 ++ wsX00)
def wsX5_init : List Cond := .code yX5_init cX5_init 1 none :: ([.methodLink RX5 3 objectInit, .instanceMethod objectInit, .code objectInit ⟨#[0xb1]⟩ 1 none, .arrayClass .int, .fieldLink RX5 9 "BarkNames$Wood" "kindOf" "[I", .fieldLink RX5 15 "BarkNames$Wood" "girthOf" "[I", .fieldLink RX5 18 "BarkNames$Wood" "sunOf" "[I", .fieldLink RX5 21 "BarkNames$Wood" "treeOf" "[I", .fieldLink RX5 24 "BarkNames$Wood" "letterOf" "[I", .fieldLink RX5 27 "BarkNames$Wood" "placeOf" "[I", .fieldLink RX5 30 "BarkNames$Wood" "depthOf" "[I"] ++ wsX50)
def wsX1_init : List Cond := .code yX1_init cX1_init 2 none :: ([.methodLink RX1 3 objectInit, .instanceMethod objectInit, .code objectInit ⟨#[0xb1]⟩ 1 none, .classLink RX1 9 RX5, .fieldLink RX1 11 "BarkNames$Past" "woods" "[LBarkNames$Wood;", .instantiable RX5 12, .initialized RX5, .instanceMethod yX5_init, .code yX5_init cX5_init 1 none, .methodLink RX5 3 objectInit, .arrayClass .int, .fieldLink RX5 9 "BarkNames$Wood" "kindOf" "[I", .fieldLink RX5 15 "BarkNames$Wood" "girthOf" "[I", .fieldLink RX5 18 "BarkNames$Wood" "sunOf" "[I", .fieldLink RX5 21 "BarkNames$Wood" "treeOf" "[I", .fieldLink RX5 24 "BarkNames$Wood" "letterOf" "[I", .fieldLink RX5 27 "BarkNames$Wood" "placeOf" "[I", .fieldLink RX5 30 "BarkNames$Wood" "depthOf" "[I"] ++ wsX10 ++ wsX50)
def wsX5_become : List Cond := .code yX5_become cX5_become 2 none :: ([.fieldLink RX5 33 "BarkNames$Wood" "told" "Z", .fieldLink RX5 37 "BarkNames$Wood" "wide" "I", .fieldLink RX5 41 "BarkNames$Wood" "year" "I", .fieldLink RX5 44 "BarkNames$Wood" "treeCount" "I", .fieldLink RX5 47 "BarkNames$Wood" "cutCount" "I", .fieldLink RX5 9 "BarkNames$Wood" "kindOf" "[I", .methodLink RX5 50 arraycopyName, .native arraycopyName, .static arraycopyName, .initialized "java/lang/System", .fieldLink RX5 15 "BarkNames$Wood" "girthOf" "[I", .fieldLink RX5 18 "BarkNames$Wood" "sunOf" "[I", .fieldLink RX5 21 "BarkNames$Wood" "treeOf" "[I", .fieldLink RX5 24 "BarkNames$Wood" "letterOf" "[I", .fieldLink RX5 27 "BarkNames$Wood" "placeOf" "[I", .fieldLink RX5 30 "BarkNames$Wood" "depthOf" "[I"] ++ wsX50)
def wsX1_keep_r1 : List Cond := [Cond.fieldLink RX1 11 "BarkNames$Past" "woods" "[LBarkNames$Wood;", Cond.fieldLink RX1 18 "BarkNames$Past" "next" "I", Cond.fieldLink RX1 26 "BarkNames$Past" "kept" "I", Cond.methodLink RX1 29 Lib.Math.min.name, Cond.static Lib.Math.min.name, Cond.initialized "java/lang/Math", Cond.code Lib.Math.min.name Lib.Math.min.code 2 (some .int), Cond.methodLink RX1 22 yX5_become, Cond.instanceMethod yX5_become, Cond.selects RX5 yX5_become yX5_become, Cond.initialized RX5, Cond.code yX5_become cX5_become 2 none, Cond.fieldLink RX5 33 "BarkNames$Wood" "told" "Z", Cond.fieldLink RX5 37 "BarkNames$Wood" "wide" "I", Cond.fieldLink RX5 41 "BarkNames$Wood" "year" "I", Cond.fieldLink RX5 44 "BarkNames$Wood" "treeCount" "I", Cond.fieldLink RX5 47 "BarkNames$Wood" "cutCount" "I", Cond.fieldLink RX5 9 "BarkNames$Wood" "kindOf" "[I", Cond.methodLink RX5 50 arraycopyName, Cond.native arraycopyName, Cond.static arraycopyName, Cond.initialized "java/lang/System", Cond.fieldLink RX5 15 "BarkNames$Wood" "girthOf" "[I", Cond.fieldLink RX5 18 "BarkNames$Wood" "sunOf" "[I"]
def wsX1_keep_r2 : List Cond := [Cond.fieldLink RX5 21 "BarkNames$Wood" "treeOf" "[I", Cond.fieldLink RX5 24 "BarkNames$Wood" "letterOf" "[I", Cond.fieldLink RX5 27 "BarkNames$Wood" "placeOf" "[I", Cond.fieldLink RX5 30 "BarkNames$Wood" "depthOf" "[I"]
def wsX1_keep : List Cond := .code yX1_keep cX1_keep 2 none :: ((wsX1_keep_r1 ++ wsX1_keep_r2) ++ wsX10 ++ wsX50)
def wsX1_bringBack : List Cond := .code yX1_bringBack cX1_bringBack 2 none :: ([.fieldLink RX1 26 "BarkNames$Past" "kept" "I", .fieldLink RX1 18 "BarkNames$Past" "next" "I", .fieldLink RX1 11 "BarkNames$Past" "woods" "[LBarkNames$Wood;", .methodLink RX1 22 yX5_become, .instanceMethod yX5_become, .selects RX5 yX5_become yX5_become, .initialized RX5, .code yX5_become cX5_become 2 none, .fieldLink RX5 33 "BarkNames$Wood" "told" "Z", .fieldLink RX5 37 "BarkNames$Wood" "wide" "I", .fieldLink RX5 41 "BarkNames$Wood" "year" "I", .fieldLink RX5 44 "BarkNames$Wood" "treeCount" "I", .fieldLink RX5 47 "BarkNames$Wood" "cutCount" "I", .fieldLink RX5 9 "BarkNames$Wood" "kindOf" "[I", .methodLink RX5 50 arraycopyName, .native arraycopyName, .static arraycopyName, .initialized "java/lang/System", .fieldLink RX5 15 "BarkNames$Wood" "girthOf" "[I", .fieldLink RX5 18 "BarkNames$Wood" "sunOf" "[I", .fieldLink RX5 21 "BarkNames$Wood" "treeOf" "[I", .fieldLink RX5 24 "BarkNames$Wood" "letterOf" "[I", .fieldLink RX5 27 "BarkNames$Wood" "placeOf" "[I", .fieldLink RX5 30 "BarkNames$Wood" "depthOf" "[I"] ++ wsX10 ++ wsX50)
def wsX1_forget : List Cond := .code yX1_forget cX1_forget 1 none :: ([.fieldLink RX1 26 "BarkNames$Past" "kept" "I"] ++ wsX10)
def wsX2_init : List Cond := .code yX2_init cX2_init 1 none :: ([.methodLink RX2 3 objectInit, .instanceMethod objectInit, .code objectInit ⟨#[0xb1]⟩ 1 none, .arrayClass .int, .fieldLink RX2 9 "BarkNames$Reading" "asOneWith" "[I"] ++ wsX20)
def wsJ7_fill_53178 : List Cond := .code yJ7_fill_53178 cJ7_fill_53178 4 none :: ([])
def wsX5_bothReadable : List Cond := .code yX5_bothReadable cX5_bothReadable 3 (some .boolean) :: ([.fieldLink RX5 21 "BarkNames$Wood" "treeOf" "[I", .fieldLink RX5 30 "BarkNames$Wood" "depthOf" "[I"] ++ wsX50)
def wsX5_placesApart : List Cond := .code yX5_placesApart cX5_placesApart 4 (some .int) :: ([.fieldLink RX5 27 "BarkNames$Wood" "placeOf" "[I", .methodLink RX5 87 Lib.Math.abs.name, .static Lib.Math.abs.name, .initialized "java/lang/Math", .code Lib.Math.abs.name Lib.Math.abs.code 1 (some .int), .methodLink RX5 64 Lib.Math.min.name, .static Lib.Math.min.name, .code Lib.Math.min.name Lib.Math.min.code 2 (some .int)] ++ wsX50)
def wsX5_distance : List Cond := .code yX5_distance cX5_distance 3 (some .int) :: ([.fieldLink RX5 15 "BarkNames$Wood" "girthOf" "[I", .fieldLink RX5 21 "BarkNames$Wood" "treeOf" "[I", .methodLink RX5 90 yX5_placesApart, .instanceMethod yX5_placesApart, .selects RX5 yX5_placesApart yX5_placesApart, .initialized RX5, .code yX5_placesApart cX5_placesApart 4 (some .int), .fieldLink RX5 27 "BarkNames$Wood" "placeOf" "[I", .methodLink RX5 87 Lib.Math.abs.name, .static Lib.Math.abs.name, .initialized "java/lang/Math", .code Lib.Math.abs.name Lib.Math.abs.code 1 (some .int), .methodLink RX5 64 Lib.Math.min.name, .static Lib.Math.min.name, .code Lib.Math.min.name Lib.Math.min.code 2 (some .int)] ++ wsX50)
def wsX5_readAsOne_r1 : List Cond := [Cond.fieldLink RX5 37 "BarkNames$Wood" "wide" "I", Cond.methodLink RX5 93 yX5_bothReadable, Cond.instanceMethod yX5_bothReadable, Cond.selects RX5 yX5_bothReadable yX5_bothReadable, Cond.initialized RX5, Cond.code yX5_bothReadable cX5_bothReadable 3 (some .boolean), Cond.fieldLink RX5 21 "BarkNames$Wood" "treeOf" "[I", Cond.fieldLink RX5 30 "BarkNames$Wood" "depthOf" "[I", Cond.methodLink RX5 96 yX5_distance, Cond.instanceMethod yX5_distance, Cond.selects RX5 yX5_distance yX5_distance, Cond.code yX5_distance cX5_distance 3 (some .int), Cond.fieldLink RX5 15 "BarkNames$Wood" "girthOf" "[I", Cond.methodLink RX5 90 yX5_placesApart, Cond.instanceMethod yX5_placesApart, Cond.selects RX5 yX5_placesApart yX5_placesApart, Cond.code yX5_placesApart cX5_placesApart 4 (some .int), Cond.fieldLink RX5 27 "BarkNames$Wood" "placeOf" "[I", Cond.methodLink RX5 87 Lib.Math.abs.name, Cond.static Lib.Math.abs.name, Cond.initialized "java/lang/Math", Cond.code Lib.Math.abs.name Lib.Math.abs.code 1 (some .int), Cond.methodLink RX5 64 Lib.Math.min.name, Cond.static Lib.Math.min.name]
def wsX5_readAsOne_r2 : List Cond := [Cond.code Lib.Math.min.name Lib.Math.min.code 2 (some .int)]
def wsX5_readAsOne : List Cond := .code yX5_readAsOne cX5_readAsOne 3 (some .boolean) :: ((wsX5_readAsOne_r1 ++ wsX5_readAsOne_r2) ++ wsX50)
def wsX2_lookAt_r1 : List Cond := [Cond.fieldLink RX2 9 "BarkNames$Reading" "asOneWith" "[I", Cond.fieldLink RX2 21 "BarkNames$Wood" "cutCount" "I", Cond.methodLink RX2 15 yJ7_fill_53178, Cond.static yJ7_fill_53178, Cond.initialized RJ7, Cond.code yJ7_fill_53178 cJ7_fill_53178 4 none, Cond.methodLink RX2 27 yX5_readAsOne, Cond.instanceMethod yX5_readAsOne, Cond.selects RX5 yX5_readAsOne yX5_readAsOne, Cond.initialized RX5, Cond.code yX5_readAsOne cX5_readAsOne 3 (some .boolean), Cond.fieldLink RX5 37 "BarkNames$Wood" "wide" "I", Cond.methodLink RX5 93 yX5_bothReadable, Cond.instanceMethod yX5_bothReadable, Cond.selects RX5 yX5_bothReadable yX5_bothReadable, Cond.code yX5_bothReadable cX5_bothReadable 3 (some .boolean), Cond.fieldLink RX5 21 "BarkNames$Wood" "treeOf" "[I", Cond.fieldLink RX5 30 "BarkNames$Wood" "depthOf" "[I", Cond.methodLink RX5 96 yX5_distance, Cond.instanceMethod yX5_distance, Cond.selects RX5 yX5_distance yX5_distance, Cond.code yX5_distance cX5_distance 3 (some .int), Cond.fieldLink RX5 15 "BarkNames$Wood" "girthOf" "[I", Cond.methodLink RX5 90 yX5_placesApart]
def wsX2_lookAt_r2 : List Cond := [Cond.instanceMethod yX5_placesApart, Cond.selects RX5 yX5_placesApart yX5_placesApart, Cond.code yX5_placesApart cX5_placesApart 4 (some .int), Cond.fieldLink RX5 27 "BarkNames$Wood" "placeOf" "[I", Cond.methodLink RX5 87 Lib.Math.abs.name, Cond.static Lib.Math.abs.name, Cond.initialized "java/lang/Math", Cond.code Lib.Math.abs.name Lib.Math.abs.code 1 (some .int), Cond.methodLink RX5 64 Lib.Math.min.name, Cond.static Lib.Math.min.name, Cond.code Lib.Math.min.name Lib.Math.min.code 2 (some .int)]
def wsX2_lookAt : List Cond := .code yX2_lookAt cX2_lookAt 4 none :: ((wsX2_lookAt_r1 ++ wsX2_lookAt_r2) ++ wsX20 ++ wsX50)
def wsX6_isIn : List Cond := .code yX6_isIn cX6_isIn 2 (some .boolean) :: ([])
def wsX2_nextTo : List Cond := .code yX2_nextTo cX2_nextTo 4 (some .int) :: ([.fieldLink RX2 9 "BarkNames$Reading" "asOneWith" "[I", .static yX6_isIn, .initialized RX6, .code yX6_isIn cX6_isIn 2 (some .boolean)] ++ wsX20)
def wsX2_reached : List Cond := .code yX2_reached cX2_reached 6 (some .int) :: ([.methodLink RX2 31 yX2_nextTo, .instanceMethod yX2_nextTo, .selects RX2 yX2_nextTo yX2_nextTo, .initialized RX2, .code yX2_nextTo cX2_nextTo 4 (some .int), .fieldLink RX2 9 "BarkNames$Reading" "asOneWith" "[I", .static yX6_isIn, .initialized RX6, .code yX6_isIn cX6_isIn 2 (some .boolean)] ++ wsX20)
def wsX3_init : List Cond := .code yX3_init cX3_init 1 none :: ([.methodLink RX3 3 objectInit, .instanceMethod objectInit, .code objectInit ⟨#[0xb1]⟩ 1 none, .arrayClass .int, .fieldLink RX3 9 "BarkNames$Row" "items" "[I"] ++ wsX30)
def wsX3_begin : List Cond := .code yX3_begin cX3_begin 3 none :: ([.fieldLink RX3 15 "BarkNames$Row" "there" "Z", .fieldLink RX3 19 "BarkNames$Row" "lane" "I", .fieldLink RX3 23 "BarkNames$Row" "size" "I", .fieldLink RX3 9 "BarkNames$Row" "items" "[I", .methodLink RX3 26 yJ7_fill_53178, .static yJ7_fill_53178, .initialized RJ7, .code yJ7_fill_53178 cJ7_fill_53178 4 none] ++ wsX30)
def wsX3_narrowed : List Cond := .code yX3_narrowed cX3_narrowed 2 (some .int) :: ([.fieldLink RX3 19 "BarkNames$Row" "lane" "I"] ++ wsX30)
def wsX3_spans : List Cond := .code yX3_spans cX3_spans 3 (some .boolean) :: ([.fieldLink RX3 23 "BarkNames$Row" "size" "I"] ++ wsX30)
def wsX4_init : List Cond := .code yX4_init cX4_init 1 none :: ([.methodLink RX4 3 objectInit, .instanceMethod objectInit, .code objectInit ⟨#[0xb1]⟩ 1 none, .arrayClass .int, .fieldLink RX4 9 "BarkNames$Tape" "bytes" "[I"] ++ wsX40)
def wsX4_takes : List Cond := .code yX4_takes cX4_takes 2 (some .boolean) :: ([.fieldLink RX4 15 "BarkNames$Tape" "length" "I", .fieldLink RX4 9 "BarkNames$Tape" "bytes" "[I"] ++ wsX40)
def wsX4_here : List Cond := .code yX4_here cX4_here 1 (some .int) :: ([.fieldLink RX4 19 "BarkNames$Tape" "at" "I", .fieldLink RX4 15 "BarkNames$Tape" "length" "I", .fieldLink RX4 9 "BarkNames$Tape" "bytes" "[I"] ++ wsX40)
def wsX4_fails : List Cond := .code yX4_fails cX4_fails 3 (some .boolean) :: ([.fieldLink RX4 77 "BarkNames$Tape" "fault" "I", .fieldLink RX4 80 "BarkNames$Tape" "faultPlace" "I"] ++ wsX40)
def wsX4_reads : List Cond := .code yX4_reads cX4_reads 2 (some .boolean) :: ([.fieldLink RX4 19 "BarkNames$Tape" "at" "I", .methodLink RX4 33 yX4_here, .instanceMethod yX4_here, .selects RX4 yX4_here yX4_here, .initialized RX4, .code yX4_here cX4_here 1 (some .int), .fieldLink RX4 15 "BarkNames$Tape" "length" "I", .fieldLink RX4 9 "BarkNames$Tape" "bytes" "[I", .methodLink RX4 39 yX4_fails, .instanceMethod yX4_fails, .selects RX4 yX4_fails yX4_fails, .code yX4_fails cX4_fails 3 (some .boolean), .fieldLink RX4 77 "BarkNames$Tape" "fault" "I", .fieldLink RX4 80 "BarkNames$Tape" "faultPlace" "I"] ++ wsX40)
def wsX4_isFigure : List Cond := .code yX4_isFigure cX4_isFigure 1 (some .boolean) :: ([])
def wsX4_numberRead : List Cond := .code yX4_numberRead cX4_numberRead 6 (some .int) :: ([.fieldLink RX4 19 "BarkNames$Tape" "at" "I", .fieldLink RX4 15 "BarkNames$Tape" "length" "I", .fieldLink RX4 9 "BarkNames$Tape" "bytes" "[I", .methodLink RX4 74 yX4_isFigure, .static yX4_isFigure, .initialized RX4, .code yX4_isFigure cX4_isFigure 1 (some .boolean), .methodLink RX4 39 yX4_fails, .instanceMethod yX4_fails, .selects RX4 yX4_fails yX4_fails, .code yX4_fails cX4_fails 3 (some .boolean), .fieldLink RX4 77 "BarkNames$Tape" "fault" "I", .fieldLink RX4 80 "BarkNames$Tape" "faultPlace" "I"] ++ wsX40)
def wsX5_begin : List Cond := .code yX5_begin cX5_begin 2 none :: ([.fieldLink RX5 33 "BarkNames$Wood" "told" "Z", .fieldLink RX5 37 "BarkNames$Wood" "wide" "I", .fieldLink RX5 41 "BarkNames$Wood" "year" "I", .fieldLink RX5 44 "BarkNames$Wood" "treeCount" "I", .fieldLink RX5 47 "BarkNames$Wood" "cutCount" "I"] ++ wsX50)
def wsX4_readsLaw_r1 : List Cond := [Cond.methodLink RX4 43 yX4_reads, Cond.instanceMethod yX4_reads, Cond.selects RX4 yX4_reads yX4_reads, Cond.initialized RX4, Cond.code yX4_reads cX4_reads 2 (some .boolean), Cond.fieldLink RX4 19 "BarkNames$Tape" "at" "I", Cond.methodLink RX4 33 yX4_here, Cond.instanceMethod yX4_here, Cond.selects RX4 yX4_here yX4_here, Cond.code yX4_here cX4_here 1 (some .int), Cond.fieldLink RX4 15 "BarkNames$Tape" "length" "I", Cond.fieldLink RX4 9 "BarkNames$Tape" "bytes" "[I", Cond.methodLink RX4 39 yX4_fails, Cond.instanceMethod yX4_fails, Cond.selects RX4 yX4_fails yX4_fails, Cond.code yX4_fails cX4_fails 3 (some .boolean), Cond.fieldLink RX4 77 "BarkNames$Tape" "fault" "I", Cond.fieldLink RX4 80 "BarkNames$Tape" "faultPlace" "I", Cond.methodLink RX4 47 yX4_numberRead, Cond.instanceMethod yX4_numberRead, Cond.selects RX4 yX4_numberRead yX4_numberRead, Cond.code yX4_numberRead cX4_numberRead 6 (some .int), Cond.methodLink RX4 74 yX4_isFigure, Cond.static yX4_isFigure]
def wsX4_readsLaw_r2 : List Cond := [Cond.code yX4_isFigure cX4_isFigure 1 (some .boolean), Cond.methodLink RX4 51 yX5_begin, Cond.instanceMethod yX5_begin, Cond.selects RX5 yX5_begin yX5_begin, Cond.initialized RX5, Cond.code yX5_begin cX5_begin 2 none, Cond.fieldLink RX5 33 "BarkNames$Wood" "told" "Z", Cond.fieldLink RX5 37 "BarkNames$Wood" "wide" "I", Cond.fieldLink RX5 41 "BarkNames$Wood" "year" "I", Cond.fieldLink RX5 44 "BarkNames$Wood" "treeCount" "I", Cond.fieldLink RX5 47 "BarkNames$Wood" "cutCount" "I"]
def wsX4_readsLaw : List Cond := .code yX4_readsLaw cX4_readsLaw 3 (some .boolean) :: ((wsX4_readsLaw_r1 ++ wsX4_readsLaw_r2) ++ wsX40 ++ wsX50)
def wsX4_kindHere : List Cond := .code yX4_kindHere cX4_kindHere 1 (some .int) :: ([.methodLink RX4 33 yX4_here, .instanceMethod yX4_here, .selects RX4 yX4_here yX4_here, .initialized RX4, .code yX4_here cX4_here 1 (some .int), .fieldLink RX4 19 "BarkNames$Tape" "at" "I", .fieldLink RX4 15 "BarkNames$Tape" "length" "I", .fieldLink RX4 9 "BarkNames$Tape" "bytes" "[I"] ++ wsX40)
def wsX5_addTree : List Cond := .code yX5_addTree cX5_addTree 4 none :: ([.fieldLink RX5 44 "BarkNames$Wood" "treeCount" "I", .fieldLink RX5 9 "BarkNames$Wood" "kindOf" "[I", .fieldLink RX5 15 "BarkNames$Wood" "girthOf" "[I", .fieldLink RX5 18 "BarkNames$Wood" "sunOf" "[I"] ++ wsX50)
def wsX4_readsTree_r1 : List Cond := [Cond.fieldLink RX4 57 "BarkNames$Wood" "treeCount" "I", Cond.fieldLink RX4 19 "BarkNames$Tape" "at" "I", Cond.methodLink RX4 39 yX4_fails, Cond.instanceMethod yX4_fails, Cond.selects RX4 yX4_fails yX4_fails, Cond.initialized RX4, Cond.code yX4_fails cX4_fails 3 (some .boolean), Cond.fieldLink RX4 77 "BarkNames$Tape" "fault" "I", Cond.fieldLink RX4 80 "BarkNames$Tape" "faultPlace" "I", Cond.methodLink RX4 26 yX4_kindHere, Cond.instanceMethod yX4_kindHere, Cond.selects RX4 yX4_kindHere yX4_kindHere, Cond.code yX4_kindHere cX4_kindHere 1 (some .int), Cond.methodLink RX4 33 yX4_here, Cond.instanceMethod yX4_here, Cond.selects RX4 yX4_here yX4_here, Cond.code yX4_here cX4_here 1 (some .int), Cond.fieldLink RX4 15 "BarkNames$Tape" "length" "I", Cond.fieldLink RX4 9 "BarkNames$Tape" "bytes" "[I", Cond.methodLink RX4 47 yX4_numberRead, Cond.instanceMethod yX4_numberRead, Cond.selects RX4 yX4_numberRead yX4_numberRead, Cond.code yX4_numberRead cX4_numberRead 6 (some .int), Cond.methodLink RX4 74 yX4_isFigure]
def wsX4_readsTree_r2 : List Cond := [Cond.static yX4_isFigure, Cond.code yX4_isFigure cX4_isFigure 1 (some .boolean), Cond.methodLink RX4 43 yX4_reads, Cond.instanceMethod yX4_reads, Cond.selects RX4 yX4_reads yX4_reads, Cond.code yX4_reads cX4_reads 2 (some .boolean), Cond.methodLink RX4 60 yX5_addTree, Cond.instanceMethod yX5_addTree, Cond.selects RX5 yX5_addTree yX5_addTree, Cond.initialized RX5, Cond.code yX5_addTree cX5_addTree 4 none, Cond.fieldLink RX5 44 "BarkNames$Wood" "treeCount" "I", Cond.fieldLink RX5 9 "BarkNames$Wood" "kindOf" "[I", Cond.fieldLink RX5 15 "BarkNames$Wood" "girthOf" "[I", Cond.fieldLink RX5 18 "BarkNames$Wood" "sunOf" "[I"]
def wsX4_readsTree : List Cond := .code yX4_readsTree cX4_readsTree 5 (some .boolean) :: ((wsX4_readsTree_r1 ++ wsX4_readsTree_r2) ++ wsX50 ++ wsX40)
def wsX5_hasCutAt : List Cond := .code yX5_hasCutAt cX5_hasCutAt 4 (some .boolean) :: ([.fieldLink RX5 47 "BarkNames$Wood" "cutCount" "I", .fieldLink RX5 21 "BarkNames$Wood" "treeOf" "[I", .fieldLink RX5 27 "BarkNames$Wood" "placeOf" "[I"] ++ wsX50)
def wsX5_addCut : List Cond := .code yX5_addCut cX5_addCut 5 none :: ([.fieldLink RX5 47 "BarkNames$Wood" "cutCount" "I", .fieldLink RX5 21 "BarkNames$Wood" "treeOf" "[I", .fieldLink RX5 24 "BarkNames$Wood" "letterOf" "[I", .fieldLink RX5 27 "BarkNames$Wood" "placeOf" "[I", .fieldLink RX5 30 "BarkNames$Wood" "depthOf" "[I"] ++ wsX50)
def wsX4_readsCut_r1 : List Cond := [Cond.fieldLink RX4 64 "BarkNames$Wood" "cutCount" "I", Cond.fieldLink RX4 19 "BarkNames$Tape" "at" "I", Cond.fieldLink RX4 57 "BarkNames$Wood" "treeCount" "I", Cond.methodLink RX4 39 yX4_fails, Cond.instanceMethod yX4_fails, Cond.selects RX4 yX4_fails yX4_fails, Cond.initialized RX4, Cond.code yX4_fails cX4_fails 3 (some .boolean), Cond.fieldLink RX4 77 "BarkNames$Tape" "fault" "I", Cond.fieldLink RX4 80 "BarkNames$Tape" "faultPlace" "I", Cond.methodLink RX4 47 yX4_numberRead, Cond.instanceMethod yX4_numberRead, Cond.selects RX4 yX4_numberRead yX4_numberRead, Cond.code yX4_numberRead cX4_numberRead 6 (some .int), Cond.fieldLink RX4 15 "BarkNames$Tape" "length" "I", Cond.fieldLink RX4 9 "BarkNames$Tape" "bytes" "[I", Cond.methodLink RX4 74 yX4_isFigure, Cond.static yX4_isFigure, Cond.code yX4_isFigure cX4_isFigure 1 (some .boolean), Cond.methodLink RX4 43 yX4_reads, Cond.instanceMethod yX4_reads, Cond.selects RX4 yX4_reads yX4_reads, Cond.code yX4_reads cX4_reads 2 (some .boolean), Cond.methodLink RX4 33 yX4_here]
def wsX4_readsCut_r2 : List Cond := [Cond.instanceMethod yX4_here, Cond.selects RX4 yX4_here yX4_here, Cond.code yX4_here cX4_here 1 (some .int), Cond.methodLink RX4 67 yX5_hasCutAt, Cond.instanceMethod yX5_hasCutAt, Cond.selects RX5 yX5_hasCutAt yX5_hasCutAt, Cond.initialized RX5, Cond.code yX5_hasCutAt cX5_hasCutAt 4 (some .boolean), Cond.fieldLink RX5 47 "BarkNames$Wood" "cutCount" "I", Cond.fieldLink RX5 21 "BarkNames$Wood" "treeOf" "[I", Cond.fieldLink RX5 27 "BarkNames$Wood" "placeOf" "[I", Cond.methodLink RX4 70 yX5_addCut, Cond.instanceMethod yX5_addCut, Cond.selects RX5 yX5_addCut yX5_addCut, Cond.code yX5_addCut cX5_addCut 5 none, Cond.fieldLink RX5 24 "BarkNames$Wood" "letterOf" "[I", Cond.fieldLink RX5 30 "BarkNames$Wood" "depthOf" "[I"]
def wsX4_readsCut : List Cond := .code yX4_readsCut cX4_readsCut 7 (some .boolean) :: ((wsX4_readsCut_r1 ++ wsX4_readsCut_r2) ++ wsX50 ++ wsX40)
def wsX4_tells_r1 : List Cond := [Cond.fieldLink RX4 19 "BarkNames$Tape" "at" "I", Cond.fieldLink RX4 15 "BarkNames$Tape" "length" "I", Cond.methodLink RX4 22 yX4_readsLaw, Cond.instanceMethod yX4_readsLaw, Cond.selects RX4 yX4_readsLaw yX4_readsLaw, Cond.initialized RX4, Cond.code yX4_readsLaw cX4_readsLaw 3 (some .boolean), Cond.methodLink RX4 43 yX4_reads, Cond.instanceMethod yX4_reads, Cond.selects RX4 yX4_reads yX4_reads, Cond.code yX4_reads cX4_reads 2 (some .boolean), Cond.methodLink RX4 33 yX4_here, Cond.instanceMethod yX4_here, Cond.selects RX4 yX4_here yX4_here, Cond.code yX4_here cX4_here 1 (some .int), Cond.fieldLink RX4 9 "BarkNames$Tape" "bytes" "[I", Cond.methodLink RX4 39 yX4_fails, Cond.instanceMethod yX4_fails, Cond.selects RX4 yX4_fails yX4_fails, Cond.code yX4_fails cX4_fails 3 (some .boolean), Cond.fieldLink RX4 77 "BarkNames$Tape" "fault" "I", Cond.fieldLink RX4 80 "BarkNames$Tape" "faultPlace" "I", Cond.methodLink RX4 47 yX4_numberRead, Cond.instanceMethod yX4_numberRead]
def wsX4_tells_r2 : List Cond := [Cond.selects RX4 yX4_numberRead yX4_numberRead, Cond.code yX4_numberRead cX4_numberRead 6 (some .int), Cond.methodLink RX4 74 yX4_isFigure, Cond.static yX4_isFigure, Cond.code yX4_isFigure cX4_isFigure 1 (some .boolean), Cond.methodLink RX4 51 yX5_begin, Cond.instanceMethod yX5_begin, Cond.selects RX5 yX5_begin yX5_begin, Cond.initialized RX5, Cond.code yX5_begin cX5_begin 2 none, Cond.fieldLink RX5 33 "BarkNames$Wood" "told" "Z", Cond.fieldLink RX5 37 "BarkNames$Wood" "wide" "I", Cond.fieldLink RX5 41 "BarkNames$Wood" "year" "I", Cond.fieldLink RX5 44 "BarkNames$Wood" "treeCount" "I", Cond.fieldLink RX5 47 "BarkNames$Wood" "cutCount" "I", Cond.methodLink RX4 26 yX4_kindHere, Cond.instanceMethod yX4_kindHere, Cond.selects RX4 yX4_kindHere yX4_kindHere, Cond.code yX4_kindHere cX4_kindHere 1 (some .int), Cond.methodLink RX4 30 yX4_readsTree, Cond.instanceMethod yX4_readsTree, Cond.selects RX4 yX4_readsTree yX4_readsTree, Cond.code yX4_readsTree cX4_readsTree 5 (some .boolean), Cond.fieldLink RX4 57 "BarkNames$Wood" "treeCount" "I"]
def wsX4_tells_r3 : List Cond := [Cond.methodLink RX4 60 yX5_addTree, Cond.instanceMethod yX5_addTree, Cond.selects RX5 yX5_addTree yX5_addTree, Cond.code yX5_addTree cX5_addTree 4 none, Cond.fieldLink RX5 9 "BarkNames$Wood" "kindOf" "[I", Cond.fieldLink RX5 15 "BarkNames$Wood" "girthOf" "[I", Cond.fieldLink RX5 18 "BarkNames$Wood" "sunOf" "[I", Cond.methodLink RX4 36 yX4_readsCut, Cond.instanceMethod yX4_readsCut, Cond.selects RX4 yX4_readsCut yX4_readsCut, Cond.code yX4_readsCut cX4_readsCut 7 (some .boolean), Cond.fieldLink RX4 64 "BarkNames$Wood" "cutCount" "I", Cond.methodLink RX4 67 yX5_hasCutAt, Cond.instanceMethod yX5_hasCutAt, Cond.selects RX5 yX5_hasCutAt yX5_hasCutAt, Cond.code yX5_hasCutAt cX5_hasCutAt 4 (some .boolean), Cond.fieldLink RX5 21 "BarkNames$Wood" "treeOf" "[I", Cond.fieldLink RX5 27 "BarkNames$Wood" "placeOf" "[I", Cond.methodLink RX4 70 yX5_addCut, Cond.instanceMethod yX5_addCut, Cond.selects RX5 yX5_addCut yX5_addCut, Cond.code yX5_addCut cX5_addCut 5 none, Cond.fieldLink RX5 24 "BarkNames$Wood" "letterOf" "[I", Cond.fieldLink RX5 30 "BarkNames$Wood" "depthOf" "[I"]
def wsX4_tells : List Cond := .code yX4_tells cX4_tells 3 (some .boolean) :: ((wsX4_tells_r1 ++ (wsX4_tells_r2 ++ wsX4_tells_r3)) ++ wsX40 ++ wsX50)
def wsX5_removeCut : List Cond := .code yX5_removeCut cX5_removeCut 3 none :: ([.fieldLink RX5 47 "BarkNames$Wood" "cutCount" "I", .fieldLink RX5 21 "BarkNames$Wood" "treeOf" "[I", .fieldLink RX5 24 "BarkNames$Wood" "letterOf" "[I", .fieldLink RX5 27 "BarkNames$Wood" "placeOf" "[I", .fieldLink RX5 30 "BarkNames$Wood" "depthOf" "[I"] ++ wsX50)
def wsX6_isBelow : List Cond := .code yX6_isBelow cX6_isBelow 2 (some .boolean) :: ([])
def wsX5_hasTree : List Cond := .code yX5_hasTree cX5_hasTree 2 (some .boolean) :: ([.fieldLink RX5 44 "BarkNames$Wood" "treeCount" "I", .static yX6_isBelow, .initialized RX6, .code yX6_isBelow cX6_isBelow 2 (some .boolean)] ++ wsX50)
def wsX5_hasCut : List Cond := .code yX5_hasCut cX5_hasCut 2 (some .boolean) :: ([.fieldLink RX5 47 "BarkNames$Wood" "cutCount" "I", .static yX6_isBelow, .initialized RX6, .code yX6_isBelow cX6_isBelow 2 (some .boolean)] ++ wsX50)
def wsX5_growthByKind : List Cond := .code yX5_growthByKind cX5_growthByKind 4 (some .int) :: ([.fieldLink RX5 18 "BarkNames$Wood" "sunOf" "[I", .fieldLink RX5 9 "BarkNames$Wood" "kindOf" "[I", .fieldLink RX5 41 "BarkNames$Wood" "year" "I"] ++ wsX50)
def wsX5_growth : List Cond := .code yX5_growth cX5_growth 2 (some .int) :: ([.fieldLink RX5 15 "BarkNames$Wood" "girthOf" "[I", .methodLink RX5 64 Lib.Math.min.name, .static Lib.Math.min.name, .initialized "java/lang/Math", .code Lib.Math.min.name Lib.Math.min.code 2 (some .int), .methodLink RX5 60 yX5_growthByKind, .instanceMethod yX5_growthByKind, .selects RX5 yX5_growthByKind yX5_growthByKind, .initialized RX5, .code yX5_growthByKind cX5_growthByKind 4 (some .int), .fieldLink RX5 18 "BarkNames$Wood" "sunOf" "[I", .fieldLink RX5 9 "BarkNames$Wood" "kindOf" "[I", .fieldLink RX5 41 "BarkNames$Wood" "year" "I"] ++ wsX50)
def wsX5_closesBy : List Cond := .code yX5_closesBy cX5_closesBy 3 (some .boolean) :: ([.fieldLink RX5 41 "BarkNames$Wood" "year" "I"] ++ wsX50)
def wsX5_closeCutsOf : List Cond := .code yX5_closeCutsOf cX5_closeCutsOf 3 none :: ([.fieldLink RX5 47 "BarkNames$Wood" "cutCount" "I", .fieldLink RX5 21 "BarkNames$Wood" "treeOf" "[I", .fieldLink RX5 30 "BarkNames$Wood" "depthOf" "[I"] ++ wsX50)
def wsX5_passYear_r1 : List Cond := [Cond.fieldLink RX5 44 "BarkNames$Wood" "treeCount" "I", Cond.fieldLink RX5 15 "BarkNames$Wood" "girthOf" "[I", Cond.fieldLink RX5 9 "BarkNames$Wood" "kindOf" "[I", Cond.fieldLink RX5 41 "BarkNames$Wood" "year" "I", Cond.methodLink RX5 70 yX5_growth, Cond.instanceMethod yX5_growth, Cond.selects RX5 yX5_growth yX5_growth, Cond.initialized RX5, Cond.code yX5_growth cX5_growth 2 (some .int), Cond.methodLink RX5 64 Lib.Math.min.name, Cond.static Lib.Math.min.name, Cond.initialized "java/lang/Math", Cond.code Lib.Math.min.name Lib.Math.min.code 2 (some .int), Cond.methodLink RX5 60 yX5_growthByKind, Cond.instanceMethod yX5_growthByKind, Cond.selects RX5 yX5_growthByKind yX5_growthByKind, Cond.code yX5_growthByKind cX5_growthByKind 4 (some .int), Cond.fieldLink RX5 18 "BarkNames$Wood" "sunOf" "[I", Cond.methodLink RX5 73 yX5_closesBy, Cond.instanceMethod yX5_closesBy, Cond.selects RX5 yX5_closesBy yX5_closesBy, Cond.code yX5_closesBy cX5_closesBy 3 (some .boolean), Cond.methodLink RX5 76 yX5_closeCutsOf, Cond.instanceMethod yX5_closeCutsOf]
def wsX5_passYear_r2 : List Cond := [Cond.selects RX5 yX5_closeCutsOf yX5_closeCutsOf, Cond.code yX5_closeCutsOf cX5_closeCutsOf 3 none, Cond.fieldLink RX5 47 "BarkNames$Wood" "cutCount" "I", Cond.fieldLink RX5 21 "BarkNames$Wood" "treeOf" "[I", Cond.fieldLink RX5 30 "BarkNames$Wood" "depthOf" "[I"]
def wsX5_passYear : List Cond := .code yX5_passYear cX5_passYear 3 none :: ((wsX5_passYear_r1 ++ wsX5_passYear_r2) ++ wsX50)
def wsX5_passYears_r1 : List Cond := [Cond.methodLink RX5 80 yX5_passYear, Cond.instanceMethod yX5_passYear, Cond.selects RX5 yX5_passYear yX5_passYear, Cond.initialized RX5, Cond.code yX5_passYear cX5_passYear 3 none, Cond.fieldLink RX5 44 "BarkNames$Wood" "treeCount" "I", Cond.fieldLink RX5 15 "BarkNames$Wood" "girthOf" "[I", Cond.fieldLink RX5 9 "BarkNames$Wood" "kindOf" "[I", Cond.fieldLink RX5 41 "BarkNames$Wood" "year" "I", Cond.methodLink RX5 70 yX5_growth, Cond.instanceMethod yX5_growth, Cond.selects RX5 yX5_growth yX5_growth, Cond.code yX5_growth cX5_growth 2 (some .int), Cond.methodLink RX5 64 Lib.Math.min.name, Cond.static Lib.Math.min.name, Cond.initialized "java/lang/Math", Cond.code Lib.Math.min.name Lib.Math.min.code 2 (some .int), Cond.methodLink RX5 60 yX5_growthByKind, Cond.instanceMethod yX5_growthByKind, Cond.selects RX5 yX5_growthByKind yX5_growthByKind, Cond.code yX5_growthByKind cX5_growthByKind 4 (some .int), Cond.fieldLink RX5 18 "BarkNames$Wood" "sunOf" "[I", Cond.methodLink RX5 73 yX5_closesBy, Cond.instanceMethod yX5_closesBy]
def wsX5_passYears_r2 : List Cond := [Cond.selects RX5 yX5_closesBy yX5_closesBy, Cond.code yX5_closesBy cX5_closesBy 3 (some .boolean), Cond.methodLink RX5 76 yX5_closeCutsOf, Cond.instanceMethod yX5_closeCutsOf, Cond.selects RX5 yX5_closeCutsOf yX5_closeCutsOf, Cond.code yX5_closeCutsOf cX5_closeCutsOf 3 none, Cond.fieldLink RX5 47 "BarkNames$Wood" "cutCount" "I", Cond.fieldLink RX5 21 "BarkNames$Wood" "treeOf" "[I", Cond.fieldLink RX5 30 "BarkNames$Wood" "depthOf" "[I"]
def wsX5_passYears : List Cond := .code yX5_passYears cX5_passYears 3 none :: ((wsX5_passYears_r1 ++ wsX5_passYears_r2) ++ wsX50)
def wsX5_readable : List Cond := .code yX5_readable cX5_readable 3 (some .int) :: ([.fieldLink RX5 47 "BarkNames$Wood" "cutCount" "I", .fieldLink RX5 30 "BarkNames$Wood" "depthOf" "[I"] ++ wsX50)
def wsX5_readableOn : List Cond := .code yX5_readableOn cX5_readableOn 4 (some .int) :: ([.fieldLink RX5 47 "BarkNames$Wood" "cutCount" "I", .fieldLink RX5 21 "BarkNames$Wood" "treeOf" "[I", .methodLink RX5 83 yX5_readable, .instanceMethod yX5_readable, .selects RX5 yX5_readable yX5_readable, .initialized RX5, .code yX5_readable cX5_readable 3 (some .int), .fieldLink RX5 30 "BarkNames$Wood" "depthOf" "[I"] ++ wsX50)
def wsX5_meetBehind : List Cond := .code yX5_meetBehind cX5_meetBehind 3 (some .boolean) :: ([.methodLink RX5 93 yX5_bothReadable, .instanceMethod yX5_bothReadable, .selects RX5 yX5_bothReadable yX5_bothReadable, .initialized RX5, .code yX5_bothReadable cX5_bothReadable 3 (some .boolean), .fieldLink RX5 21 "BarkNames$Wood" "treeOf" "[I", .fieldLink RX5 30 "BarkNames$Wood" "depthOf" "[I", .methodLink RX5 90 yX5_placesApart, .instanceMethod yX5_placesApart, .selects RX5 yX5_placesApart yX5_placesApart, .code yX5_placesApart cX5_placesApart 4 (some .int), .fieldLink RX5 27 "BarkNames$Wood" "placeOf" "[I", .methodLink RX5 87 Lib.Math.abs.name, .static Lib.Math.abs.name, .initialized "java/lang/Math", .code Lib.Math.abs.name Lib.Math.abs.code 1 (some .int), .methodLink RX5 64 Lib.Math.min.name, .static Lib.Math.min.name, .code Lib.Math.min.name Lib.Math.min.code 2 (some .int)] ++ wsX50)
def wsX6_init_r1 : List Cond := [Cond.methodLink RX6 1 objectInit, Cond.instanceMethod objectInit, Cond.code objectInit ⟨#[0xb1]⟩ 1 none, Cond.classLink RX6 9 RX3, Cond.fieldLink RX6 11 "BarkNames" "rows" "[LBarkNames$Row;", Cond.classLink RX6 15 RX4, Cond.instantiable RX4 5, Cond.initialized RX4, Cond.fieldLink RX6 18 "BarkNames" "tape" "LBarkNames$Tape;", Cond.classLink RX6 22 RX5, Cond.instantiable RX5 12, Cond.initialized RX5, Cond.fieldLink RX6 25 "BarkNames" "now" "LBarkNames$Wood;", Cond.fieldLink RX6 29 "BarkNames" "tried" "LBarkNames$Wood;", Cond.fieldLink RX6 32 "BarkNames" "images" "[LBarkNames$Wood;", Cond.classLink RX6 36 RX1, Cond.instantiable RX1 3, Cond.initialized RX1, Cond.fieldLink RX6 39 "BarkNames" "past" "LBarkNames$Past;", Cond.classLink RX6 43 RX2, Cond.instantiable RX2 1, Cond.initialized RX2, Cond.fieldLink RX6 46 "BarkNames" "reading" "LBarkNames$Reading;", Cond.classLink RX6 50 RX0]
def wsX6_init_r2 : List Cond := [Cond.instantiable RX0 2, Cond.initialized RX0, Cond.fieldLink RX6 53 "BarkNames" "asks" "LBarkNames$Asks;", Cond.instantiable RX3 4, Cond.initialized RX3, Cond.instanceMethod yX4_init, Cond.code yX4_init cX4_init 1 none, Cond.methodLink RX4 3 objectInit, Cond.arrayClass .int, Cond.fieldLink RX4 9 "BarkNames$Tape" "bytes" "[I", Cond.instanceMethod yX5_init, Cond.code yX5_init cX5_init 1 none, Cond.methodLink RX5 3 objectInit, Cond.fieldLink RX5 9 "BarkNames$Wood" "kindOf" "[I", Cond.fieldLink RX5 15 "BarkNames$Wood" "girthOf" "[I", Cond.fieldLink RX5 18 "BarkNames$Wood" "sunOf" "[I", Cond.fieldLink RX5 21 "BarkNames$Wood" "treeOf" "[I", Cond.fieldLink RX5 24 "BarkNames$Wood" "letterOf" "[I", Cond.fieldLink RX5 27 "BarkNames$Wood" "placeOf" "[I", Cond.fieldLink RX5 30 "BarkNames$Wood" "depthOf" "[I", Cond.methodLink RX6 38 yX1_init, Cond.instanceMethod yX1_init, Cond.code yX1_init cX1_init 2 none, Cond.methodLink RX1 3 objectInit]
def wsX6_init_r3 : List Cond := [Cond.classLink RX1 9 RX5, Cond.fieldLink RX1 11 "BarkNames$Past" "woods" "[LBarkNames$Wood;", Cond.instanceMethod yX2_init, Cond.code yX2_init cX2_init 1 none, Cond.methodLink RX2 3 objectInit, Cond.fieldLink RX2 9 "BarkNames$Reading" "asOneWith" "[I", Cond.instanceMethod yX0_init, Cond.code yX0_init cX0_init 1 none, Cond.methodLink RX0 3 objectInit, Cond.fieldLink RX0 9 "BarkNames$Asks" "numbers" "[I", Cond.instanceMethod yX3_init, Cond.code yX3_init cX3_init 1 none, Cond.methodLink RX3 3 objectInit, Cond.fieldLink RX3 9 "BarkNames$Row" "items" "[I"]
def wsX6_init : List Cond := .code yX6_init cX6_init 2 none :: ((wsX6_init_r1 ++ (wsX6_init_r2 ++ wsX6_init_r3)) ++ wsX60 ++ wsX40 ++ wsX50 ++ wsX10 ++ wsX20 ++ wsX00 ++ wsX30)
def wsX6_isRow : List Cond := .code yX6_isRow cX6_isRow 1 (some .boolean) :: ([.methodLink RX6 162 yX6_isBelow, .static yX6_isBelow, .initialized RX6, .code yX6_isBelow cX6_isBelow 2 (some .boolean)])
def wsX6_found : List Cond := .code yX6_found cX6_found 2 (some .int) :: ([.fieldLink RX6 314 "BarkNames" "latestFinding" "I", .constant RX6 317 (-1000010)] ++ wsX60)
def wsX6_foundNothing : List Cond := .code yX6_foundNothing cX6_foundNothing 2 (some .int) :: ([.fieldLink RX6 314 "BarkNames" "latestFinding" "I"] ++ wsX60)
def wsX6_row_r1 : List Cond := [Cond.constant RX6 62 (-1000001), Cond.fieldLink RX6 11 "BarkNames" "rows" "[LBarkNames$Row;", Cond.methodLink RX6 58 yX6_isRow, Cond.static yX6_isRow, Cond.initialized RX6, Cond.code yX6_isRow cX6_isRow 1 (some .boolean), Cond.methodLink RX6 162 yX6_isBelow, Cond.static yX6_isBelow, Cond.code yX6_isBelow cX6_isBelow 2 (some .boolean), Cond.methodLink RX6 63 yX6_found, Cond.instanceMethod yX6_found, Cond.selects RX6 yX6_found yX6_found, Cond.code yX6_found cX6_found 2 (some .int), Cond.fieldLink RX6 314 "BarkNames" "latestFinding" "I", Cond.constant RX6 317 (-1000010), Cond.methodLink RX6 67 yX3_begin, Cond.instanceMethod yX3_begin, Cond.selects RX3 yX3_begin yX3_begin, Cond.initialized RX3, Cond.code yX3_begin cX3_begin 3 none, Cond.fieldLink RX3 15 "BarkNames$Row" "there" "Z", Cond.fieldLink RX3 19 "BarkNames$Row" "lane" "I", Cond.fieldLink RX3 23 "BarkNames$Row" "size" "I", Cond.fieldLink RX3 9 "BarkNames$Row" "items" "[I"]
def wsX6_row_r2 : List Cond := [Cond.methodLink RX3 26 yJ7_fill_53178, Cond.static yJ7_fill_53178, Cond.initialized RJ7, Cond.code yJ7_fill_53178 cJ7_fill_53178 4 none, Cond.methodLink RX6 71 yX6_foundNothing, Cond.instanceMethod yX6_foundNothing, Cond.selects RX6 yX6_foundNothing yX6_foundNothing, Cond.code yX6_foundNothing cX6_foundNothing 2 (some .int)]
def wsX6_row : List Cond := .code yX6_row cX6_row 4 (some .int) :: ((wsX6_row_r1 ++ wsX6_row_r2) ++ wsX60 ++ wsX30)
def wsX6_findingIn : List Cond := .code yX6_findingIn cX6_findingIn 3 (some .int) :: ([.fieldLink RX6 85 "BarkNames$Row" "there" "Z", .methodLink RX6 93 yX3_spans, .instanceMethod yX3_spans, .selects RX3 yX3_spans yX3_spans, .initialized RX3, .code yX3_spans cX3_spans 3 (some .boolean), .fieldLink RX3 23 "BarkNames$Row" "size" "I"] ++ wsX30)
def wsX6_set_r1 : List Cond := [Cond.constant RX6 62 (-1000001), Cond.fieldLink RX6 11 "BarkNames" "rows" "[LBarkNames$Row;", Cond.fieldLink RX6 78 "BarkNames$Row" "items" "[I", Cond.methodLink RX6 58 yX6_isRow, Cond.static yX6_isRow, Cond.initialized RX6, Cond.code yX6_isRow cX6_isRow 1 (some .boolean), Cond.methodLink RX6 162 yX6_isBelow, Cond.static yX6_isBelow, Cond.code yX6_isBelow cX6_isBelow 2 (some .boolean), Cond.methodLink RX6 74 yX6_findingIn, Cond.static yX6_findingIn, Cond.code yX6_findingIn cX6_findingIn 3 (some .int), Cond.fieldLink RX6 85 "BarkNames$Row" "there" "Z", Cond.methodLink RX6 93 yX3_spans, Cond.instanceMethod yX3_spans, Cond.selects RX3 yX3_spans yX3_spans, Cond.initialized RX3, Cond.code yX3_spans cX3_spans 3 (some .boolean), Cond.fieldLink RX3 23 "BarkNames$Row" "size" "I", Cond.methodLink RX6 63 yX6_found, Cond.instanceMethod yX6_found, Cond.selects RX6 yX6_found yX6_found, Cond.code yX6_found cX6_found 2 (some .int)]
def wsX6_set_r2 : List Cond := [Cond.fieldLink RX6 314 "BarkNames" "latestFinding" "I", Cond.constant RX6 317 (-1000010), Cond.methodLink RX6 82 yX3_narrowed, Cond.instanceMethod yX3_narrowed, Cond.selects RX3 yX3_narrowed yX3_narrowed, Cond.code yX3_narrowed cX3_narrowed 2 (some .int), Cond.fieldLink RX3 19 "BarkNames$Row" "lane" "I", Cond.methodLink RX6 71 yX6_foundNothing, Cond.instanceMethod yX6_foundNothing, Cond.selects RX6 yX6_foundNothing yX6_foundNothing, Cond.code yX6_foundNothing cX6_foundNothing 2 (some .int)]
def wsX6_set : List Cond := .code yX6_set cX6_set 5 (some .int) :: ((wsX6_set_r1 ++ wsX6_set_r2) ++ wsX60 ++ wsX30)
def wsX6_copy_r1 : List Cond := [Cond.constant RX6 62 (-1000001), Cond.fieldLink RX6 11 "BarkNames" "rows" "[LBarkNames$Row;", Cond.fieldLink RX6 85 "BarkNames$Row" "there" "Z", Cond.fieldLink RX6 89 "BarkNames$Row" "lane" "I", Cond.fieldLink RX6 78 "BarkNames$Row" "items" "[I", Cond.methodLink RX6 97 arraycopyName, Cond.native arraycopyName, Cond.static arraycopyName, Cond.initialized "java/lang/System", Cond.methodLink RX6 58 yX6_isRow, Cond.static yX6_isRow, Cond.initialized RX6, Cond.code yX6_isRow cX6_isRow 1 (some .boolean), Cond.methodLink RX6 162 yX6_isBelow, Cond.static yX6_isBelow, Cond.code yX6_isBelow cX6_isBelow 2 (some .boolean), Cond.methodLink RX6 63 yX6_found, Cond.instanceMethod yX6_found, Cond.selects RX6 yX6_found yX6_found, Cond.code yX6_found cX6_found 2 (some .int), Cond.fieldLink RX6 314 "BarkNames" "latestFinding" "I", Cond.constant RX6 317 (-1000010), Cond.methodLink RX6 93 yX3_spans, Cond.instanceMethod yX3_spans]
def wsX6_copy_r2 : List Cond := [Cond.selects RX3 yX3_spans yX3_spans, Cond.initialized RX3, Cond.code yX3_spans cX3_spans 3 (some .boolean), Cond.fieldLink RX3 23 "BarkNames$Row" "size" "I", Cond.methodLink RX6 71 yX6_foundNothing, Cond.instanceMethod yX6_foundNothing, Cond.selects RX6 yX6_foundNothing yX6_foundNothing, Cond.code yX6_foundNothing cX6_foundNothing 2 (some .int)]
def wsX6_copy : List Cond := .code yX6_copy cX6_copy 8 (some .int) :: ((wsX6_copy_r1 ++ wsX6_copy_r2) ++ wsX60 ++ wsX30)
def wsX6_drop : List Cond := .code yX6_drop cX6_drop 2 (some .int) :: ([.constant RX6 62 (-1000001), .fieldLink RX6 11 "BarkNames" "rows" "[LBarkNames$Row;", .fieldLink RX6 85 "BarkNames$Row" "there" "Z", .fieldLink RX6 103 "BarkNames$Row" "size" "I", .methodLink RX6 58 yX6_isRow, .static yX6_isRow, .initialized RX6, .code yX6_isRow cX6_isRow 1 (some .boolean), .methodLink RX6 162 yX6_isBelow, .static yX6_isBelow, .code yX6_isBelow cX6_isBelow 2 (some .boolean), .methodLink RX6 63 yX6_found, .instanceMethod yX6_found, .selects RX6 yX6_found yX6_found, .code yX6_found cX6_found 2 (some .int), .fieldLink RX6 314 "BarkNames" "latestFinding" "I", .constant RX6 317 (-1000010), .methodLink RX6 71 yX6_foundNothing, .instanceMethod yX6_foundNothing, .selects RX6 yX6_foundNothing yX6_foundNothing, .code yX6_foundNothing cX6_foundNothing 2 (some .int)] ++ wsX60 ++ wsX30)
def wsX6_feed : List Cond := .code yX6_feed cX6_feed 2 (some .int) :: ([.constant RX6 62 (-1000001), .fieldLink RX6 18 "BarkNames" "tape" "LBarkNames$Tape;", .fieldLink RX6 109 "BarkNames$Tape" "length" "I", .constant RX6 112 (-1000003), .methodLink RX6 106 yX4_takes, .instanceMethod yX4_takes, .selects RX4 yX4_takes yX4_takes, .initialized RX4, .code yX4_takes cX4_takes 2 (some .boolean), .fieldLink RX4 15 "BarkNames$Tape" "length" "I", .fieldLink RX4 9 "BarkNames$Tape" "bytes" "[I"] ++ wsX60 ++ wsX40)
def wsX6_wood_r1 : List Cond := [Cond.fieldLink RX6 18 "BarkNames" "tape" "LBarkNames$Tape;", Cond.fieldLink RX6 29 "BarkNames" "tried" "LBarkNames$Wood;", Cond.fieldLink RX6 109 "BarkNames$Tape" "length" "I", Cond.fieldLink RX6 117 "BarkNames$Tape" "fault" "I", Cond.fieldLink RX6 120 "BarkNames" "latestFault" "I", Cond.constant RX6 123 (-1000100), Cond.fieldLink RX6 124 "BarkNames$Tape" "faultPlace" "I", Cond.fieldLink RX6 25 "BarkNames" "now" "LBarkNames$Wood;", Cond.fieldLink RX6 39 "BarkNames" "past" "LBarkNames$Past;", Cond.fieldLink RX6 134 "BarkNames$Wood" "cutCount" "I", Cond.methodLink RX6 113 yX4_tells, Cond.instanceMethod yX4_tells, Cond.selects RX4 yX4_tells yX4_tells, Cond.initialized RX4, Cond.code yX4_tells cX4_tells 3 (some .boolean), Cond.fieldLink RX4 19 "BarkNames$Tape" "at" "I", Cond.fieldLink RX4 15 "BarkNames$Tape" "length" "I", Cond.methodLink RX4 22 yX4_readsLaw, Cond.instanceMethod yX4_readsLaw, Cond.selects RX4 yX4_readsLaw yX4_readsLaw, Cond.code yX4_readsLaw cX4_readsLaw 3 (some .boolean), Cond.methodLink RX4 43 yX4_reads, Cond.instanceMethod yX4_reads, Cond.selects RX4 yX4_reads yX4_reads]
def wsX6_wood_r2 : List Cond := [Cond.code yX4_reads cX4_reads 2 (some .boolean), Cond.methodLink RX4 33 yX4_here, Cond.instanceMethod yX4_here, Cond.selects RX4 yX4_here yX4_here, Cond.code yX4_here cX4_here 1 (some .int), Cond.fieldLink RX4 9 "BarkNames$Tape" "bytes" "[I", Cond.methodLink RX4 39 yX4_fails, Cond.instanceMethod yX4_fails, Cond.selects RX4 yX4_fails yX4_fails, Cond.code yX4_fails cX4_fails 3 (some .boolean), Cond.fieldLink RX4 77 "BarkNames$Tape" "fault" "I", Cond.fieldLink RX4 80 "BarkNames$Tape" "faultPlace" "I", Cond.methodLink RX4 47 yX4_numberRead, Cond.instanceMethod yX4_numberRead, Cond.selects RX4 yX4_numberRead yX4_numberRead, Cond.code yX4_numberRead cX4_numberRead 6 (some .int), Cond.methodLink RX4 74 yX4_isFigure, Cond.static yX4_isFigure, Cond.code yX4_isFigure cX4_isFigure 1 (some .boolean), Cond.methodLink RX4 51 yX5_begin, Cond.instanceMethod yX5_begin, Cond.selects RX5 yX5_begin yX5_begin, Cond.initialized RX5, Cond.code yX5_begin cX5_begin 2 none]
def wsX6_wood_r3 : List Cond := [Cond.fieldLink RX5 33 "BarkNames$Wood" "told" "Z", Cond.fieldLink RX5 37 "BarkNames$Wood" "wide" "I", Cond.fieldLink RX5 41 "BarkNames$Wood" "year" "I", Cond.fieldLink RX5 44 "BarkNames$Wood" "treeCount" "I", Cond.fieldLink RX5 47 "BarkNames$Wood" "cutCount" "I", Cond.methodLink RX4 26 yX4_kindHere, Cond.instanceMethod yX4_kindHere, Cond.selects RX4 yX4_kindHere yX4_kindHere, Cond.code yX4_kindHere cX4_kindHere 1 (some .int), Cond.methodLink RX4 30 yX4_readsTree, Cond.instanceMethod yX4_readsTree, Cond.selects RX4 yX4_readsTree yX4_readsTree, Cond.code yX4_readsTree cX4_readsTree 5 (some .boolean), Cond.fieldLink RX4 57 "BarkNames$Wood" "treeCount" "I", Cond.methodLink RX4 60 yX5_addTree, Cond.instanceMethod yX5_addTree, Cond.selects RX5 yX5_addTree yX5_addTree, Cond.code yX5_addTree cX5_addTree 4 none, Cond.fieldLink RX5 9 "BarkNames$Wood" "kindOf" "[I", Cond.fieldLink RX5 15 "BarkNames$Wood" "girthOf" "[I", Cond.fieldLink RX5 18 "BarkNames$Wood" "sunOf" "[I", Cond.methodLink RX4 36 yX4_readsCut, Cond.instanceMethod yX4_readsCut, Cond.selects RX4 yX4_readsCut yX4_readsCut]
def wsX6_wood_r4 : List Cond := [Cond.code yX4_readsCut cX4_readsCut 7 (some .boolean), Cond.fieldLink RX4 64 "BarkNames$Wood" "cutCount" "I", Cond.methodLink RX4 67 yX5_hasCutAt, Cond.instanceMethod yX5_hasCutAt, Cond.selects RX5 yX5_hasCutAt yX5_hasCutAt, Cond.code yX5_hasCutAt cX5_hasCutAt 4 (some .boolean), Cond.fieldLink RX5 21 "BarkNames$Wood" "treeOf" "[I", Cond.fieldLink RX5 27 "BarkNames$Wood" "placeOf" "[I", Cond.methodLink RX4 70 yX5_addCut, Cond.instanceMethod yX5_addCut, Cond.selects RX5 yX5_addCut yX5_addCut, Cond.code yX5_addCut cX5_addCut 5 none, Cond.fieldLink RX5 24 "BarkNames$Wood" "letterOf" "[I", Cond.fieldLink RX5 30 "BarkNames$Wood" "depthOf" "[I", Cond.methodLink RX6 127 yX5_become, Cond.instanceMethod yX5_become, Cond.selects RX5 yX5_become yX5_become, Cond.code yX5_become cX5_become 2 none, Cond.methodLink RX5 50 arraycopyName, Cond.native arraycopyName, Cond.static arraycopyName, Cond.initialized "java/lang/System", Cond.methodLink RX6 131 yX1_forget, Cond.instanceMethod yX1_forget]
def wsX6_wood_r5 : List Cond := [Cond.selects RX1 yX1_forget yX1_forget, Cond.initialized RX1, Cond.code yX1_forget cX1_forget 1 none, Cond.fieldLink RX1 26 "BarkNames$Past" "kept" "I"]
def wsX6_wood : List Cond := .code yX6_wood cX6_wood 2 (some .int) :: ((wsX6_wood_r1 ++ (wsX6_wood_r2 ++ (wsX6_wood_r3 ++ (wsX6_wood_r4 ++ wsX6_wood_r5)))) ++ wsX60 ++ wsX40 ++ wsX50 ++ wsX10)
def wsX6_fault : List Cond := .code yX6_fault cX6_fault 1 (some .int) :: ([.fieldLink RX6 120 "BarkNames" "latestFault" "I"] ++ wsX60)
def wsJ6_bitCount_0f7a4 : List Cond := .code yJ6_bitCount_0f7a4 cJ6_bitCount_0f7a4 1 (some .int) :: ([.constant RJ6 265 (1431655765), .constant RJ6 266 (858993459), .constant RJ6 267 (252645135)])
def wsX6_years_r1 : List Cond := [Cond.fieldLink RX6 25 "BarkNames" "now" "LBarkNames$Wood;", Cond.fieldLink RX6 137 "BarkNames$Wood" "told" "Z", Cond.constant RX6 140 (-1000002), Cond.constant RX6 62 (-1000001), Cond.fieldLink RX6 141 "BarkNames$Wood" "year" "I", Cond.constant RX6 112 (-1000003), Cond.fieldLink RX6 39 "BarkNames" "past" "LBarkNames$Past;", Cond.methodLink RX6 144 yX1_keep, Cond.instanceMethod yX1_keep, Cond.selects RX1 yX1_keep yX1_keep, Cond.initialized RX1, Cond.code yX1_keep cX1_keep 2 none, Cond.fieldLink RX1 11 "BarkNames$Past" "woods" "[LBarkNames$Wood;", Cond.fieldLink RX1 18 "BarkNames$Past" "next" "I", Cond.fieldLink RX1 26 "BarkNames$Past" "kept" "I", Cond.methodLink RX1 29 Lib.Math.min.name, Cond.static Lib.Math.min.name, Cond.initialized "java/lang/Math", Cond.code Lib.Math.min.name Lib.Math.min.code 2 (some .int), Cond.methodLink RX1 22 yX5_become, Cond.instanceMethod yX5_become, Cond.selects RX5 yX5_become yX5_become, Cond.initialized RX5, Cond.code yX5_become cX5_become 2 none]
def wsX6_years_r2 : List Cond := [Cond.fieldLink RX5 33 "BarkNames$Wood" "told" "Z", Cond.fieldLink RX5 37 "BarkNames$Wood" "wide" "I", Cond.fieldLink RX5 41 "BarkNames$Wood" "year" "I", Cond.fieldLink RX5 44 "BarkNames$Wood" "treeCount" "I", Cond.fieldLink RX5 47 "BarkNames$Wood" "cutCount" "I", Cond.fieldLink RX5 9 "BarkNames$Wood" "kindOf" "[I", Cond.methodLink RX5 50 arraycopyName, Cond.native arraycopyName, Cond.static arraycopyName, Cond.initialized "java/lang/System", Cond.fieldLink RX5 15 "BarkNames$Wood" "girthOf" "[I", Cond.fieldLink RX5 18 "BarkNames$Wood" "sunOf" "[I", Cond.fieldLink RX5 21 "BarkNames$Wood" "treeOf" "[I", Cond.fieldLink RX5 24 "BarkNames$Wood" "letterOf" "[I", Cond.fieldLink RX5 27 "BarkNames$Wood" "placeOf" "[I", Cond.fieldLink RX5 30 "BarkNames$Wood" "depthOf" "[I", Cond.methodLink RX6 147 yX5_passYear, Cond.instanceMethod yX5_passYear, Cond.selects RX5 yX5_passYear yX5_passYear, Cond.code yX5_passYear cX5_passYear 3 none, Cond.methodLink RX5 70 yX5_growth, Cond.instanceMethod yX5_growth, Cond.selects RX5 yX5_growth yX5_growth, Cond.code yX5_growth cX5_growth 2 (some .int)]
def wsX6_years_r3 : List Cond := [Cond.methodLink RX5 64 Lib.Math.min.name, Cond.methodLink RX5 60 yX5_growthByKind, Cond.instanceMethod yX5_growthByKind, Cond.selects RX5 yX5_growthByKind yX5_growthByKind, Cond.code yX5_growthByKind cX5_growthByKind 4 (some .int), Cond.methodLink RX5 73 yX5_closesBy, Cond.instanceMethod yX5_closesBy, Cond.selects RX5 yX5_closesBy yX5_closesBy, Cond.code yX5_closesBy cX5_closesBy 3 (some .boolean), Cond.methodLink RX5 76 yX5_closeCutsOf, Cond.instanceMethod yX5_closeCutsOf, Cond.selects RX5 yX5_closeCutsOf yX5_closeCutsOf, Cond.code yX5_closeCutsOf cX5_closeCutsOf 3 none, Cond.methodLink RX6 150 yX5_readable, Cond.instanceMethod yX5_readable, Cond.selects RX5 yX5_readable yX5_readable, Cond.code yX5_readable cX5_readable 3 (some .int), Cond.methodLink RX6 154 yJ6_bitCount_0f7a4, Cond.static yJ6_bitCount_0f7a4, Cond.initialized RJ6, Cond.code yJ6_bitCount_0f7a4 cJ6_bitCount_0f7a4 1 (some .int), Cond.constant RJ6 265 (1431655765), Cond.constant RJ6 266 (858993459), Cond.constant RJ6 267 (252645135)]
def wsX6_years : List Cond := .code yX6_years cX6_years 3 (some .int) :: ((wsX6_years_r1 ++ (wsX6_years_r2 ++ wsX6_years_r3)) ++ wsX60 ++ wsX50 ++ wsX10)
def wsX6_isDepth : List Cond := .code yX6_isDepth cX6_isDepth 1 (some .boolean) :: ([])
def wsX6_cut_r1 : List Cond := [Cond.fieldLink RX6 25 "BarkNames" "now" "LBarkNames$Wood;", Cond.constant RX6 62 (-1000001), Cond.constant RX6 140 (-1000002), Cond.fieldLink RX6 134 "BarkNames$Wood" "cutCount" "I", Cond.constant RX6 112 (-1000003), Cond.fieldLink RX6 39 "BarkNames" "past" "LBarkNames$Past;", Cond.methodLink RX6 159 yX5_hasTree, Cond.instanceMethod yX5_hasTree, Cond.selects RX5 yX5_hasTree yX5_hasTree, Cond.initialized RX5, Cond.code yX5_hasTree cX5_hasTree 2 (some .boolean), Cond.fieldLink RX5 44 "BarkNames$Wood" "treeCount" "I", Cond.static yX6_isBelow, Cond.initialized RX6, Cond.code yX6_isBelow cX6_isBelow 2 (some .boolean), Cond.methodLink RX6 162 yX6_isBelow, Cond.methodLink RX6 165 yX6_isDepth, Cond.static yX6_isDepth, Cond.code yX6_isDepth cX6_isDepth 1 (some .boolean), Cond.methodLink RX6 168 yX5_hasCutAt, Cond.instanceMethod yX5_hasCutAt, Cond.selects RX5 yX5_hasCutAt yX5_hasCutAt, Cond.code yX5_hasCutAt cX5_hasCutAt 4 (some .boolean), Cond.fieldLink RX5 47 "BarkNames$Wood" "cutCount" "I"]
def wsX6_cut_r2 : List Cond := [Cond.fieldLink RX5 21 "BarkNames$Wood" "treeOf" "[I", Cond.fieldLink RX5 27 "BarkNames$Wood" "placeOf" "[I", Cond.methodLink RX6 144 yX1_keep, Cond.instanceMethod yX1_keep, Cond.selects RX1 yX1_keep yX1_keep, Cond.initialized RX1, Cond.code yX1_keep cX1_keep 2 none, Cond.fieldLink RX1 11 "BarkNames$Past" "woods" "[LBarkNames$Wood;", Cond.fieldLink RX1 18 "BarkNames$Past" "next" "I", Cond.fieldLink RX1 26 "BarkNames$Past" "kept" "I", Cond.methodLink RX1 29 Lib.Math.min.name, Cond.static Lib.Math.min.name, Cond.initialized "java/lang/Math", Cond.code Lib.Math.min.name Lib.Math.min.code 2 (some .int), Cond.methodLink RX1 22 yX5_become, Cond.instanceMethod yX5_become, Cond.selects RX5 yX5_become yX5_become, Cond.code yX5_become cX5_become 2 none, Cond.fieldLink RX5 33 "BarkNames$Wood" "told" "Z", Cond.fieldLink RX5 37 "BarkNames$Wood" "wide" "I", Cond.fieldLink RX5 41 "BarkNames$Wood" "year" "I", Cond.fieldLink RX5 9 "BarkNames$Wood" "kindOf" "[I", Cond.methodLink RX5 50 arraycopyName, Cond.native arraycopyName]
def wsX6_cut_r3 : List Cond := [Cond.static arraycopyName, Cond.initialized "java/lang/System", Cond.fieldLink RX5 15 "BarkNames$Wood" "girthOf" "[I", Cond.fieldLink RX5 18 "BarkNames$Wood" "sunOf" "[I", Cond.fieldLink RX5 24 "BarkNames$Wood" "letterOf" "[I", Cond.fieldLink RX5 30 "BarkNames$Wood" "depthOf" "[I", Cond.methodLink RX6 171 yX5_addCut, Cond.instanceMethod yX5_addCut, Cond.selects RX5 yX5_addCut yX5_addCut, Cond.code yX5_addCut cX5_addCut 5 none]
def wsX6_cut : List Cond := .code yX6_cut cX6_cut 5 (some .int) :: ((wsX6_cut_r1 ++ (wsX6_cut_r2 ++ wsX6_cut_r3)) ++ wsX60 ++ wsX50 ++ wsX10)
def wsX6_anew_r1 : List Cond := [Cond.fieldLink RX6 25 "BarkNames" "now" "LBarkNames$Wood;", Cond.constant RX6 62 (-1000001), Cond.fieldLink RX6 178 "BarkNames$Wood" "depthOf" "[I", Cond.constant RX6 140 (-1000002), Cond.fieldLink RX6 39 "BarkNames" "past" "LBarkNames$Past;", Cond.methodLink RX6 175 yX5_hasCut, Cond.instanceMethod yX5_hasCut, Cond.selects RX5 yX5_hasCut yX5_hasCut, Cond.initialized RX5, Cond.code yX5_hasCut cX5_hasCut 2 (some .boolean), Cond.fieldLink RX5 47 "BarkNames$Wood" "cutCount" "I", Cond.static yX6_isBelow, Cond.initialized RX6, Cond.code yX6_isBelow cX6_isBelow 2 (some .boolean), Cond.methodLink RX6 165 yX6_isDepth, Cond.static yX6_isDepth, Cond.code yX6_isDepth cX6_isDepth 1 (some .boolean), Cond.methodLink RX6 144 yX1_keep, Cond.instanceMethod yX1_keep, Cond.selects RX1 yX1_keep yX1_keep, Cond.initialized RX1, Cond.code yX1_keep cX1_keep 2 none, Cond.fieldLink RX1 11 "BarkNames$Past" "woods" "[LBarkNames$Wood;", Cond.fieldLink RX1 18 "BarkNames$Past" "next" "I"]
def wsX6_anew_r2 : List Cond := [Cond.fieldLink RX1 26 "BarkNames$Past" "kept" "I", Cond.methodLink RX1 29 Lib.Math.min.name, Cond.static Lib.Math.min.name, Cond.initialized "java/lang/Math", Cond.code Lib.Math.min.name Lib.Math.min.code 2 (some .int), Cond.methodLink RX1 22 yX5_become, Cond.instanceMethod yX5_become, Cond.selects RX5 yX5_become yX5_become, Cond.code yX5_become cX5_become 2 none, Cond.fieldLink RX5 33 "BarkNames$Wood" "told" "Z", Cond.fieldLink RX5 37 "BarkNames$Wood" "wide" "I", Cond.fieldLink RX5 41 "BarkNames$Wood" "year" "I", Cond.fieldLink RX5 44 "BarkNames$Wood" "treeCount" "I", Cond.fieldLink RX5 9 "BarkNames$Wood" "kindOf" "[I", Cond.methodLink RX5 50 arraycopyName, Cond.native arraycopyName, Cond.static arraycopyName, Cond.initialized "java/lang/System", Cond.fieldLink RX5 15 "BarkNames$Wood" "girthOf" "[I", Cond.fieldLink RX5 18 "BarkNames$Wood" "sunOf" "[I", Cond.fieldLink RX5 21 "BarkNames$Wood" "treeOf" "[I", Cond.fieldLink RX5 24 "BarkNames$Wood" "letterOf" "[I", Cond.fieldLink RX5 27 "BarkNames$Wood" "placeOf" "[I", Cond.fieldLink RX5 30 "BarkNames$Wood" "depthOf" "[I"]
def wsX6_anew : List Cond := .code yX6_anew cX6_anew 4 (some .int) :: ((wsX6_anew_r1 ++ wsX6_anew_r2) ++ wsX60 ++ wsX50 ++ wsX10)
def wsX6_scrape_r1 : List Cond := [Cond.fieldLink RX6 25 "BarkNames" "now" "LBarkNames$Wood;", Cond.constant RX6 62 (-1000001), Cond.fieldLink RX6 39 "BarkNames" "past" "LBarkNames$Past;", Cond.fieldLink RX6 134 "BarkNames$Wood" "cutCount" "I", Cond.methodLink RX6 175 yX5_hasCut, Cond.instanceMethod yX5_hasCut, Cond.selects RX5 yX5_hasCut yX5_hasCut, Cond.initialized RX5, Cond.code yX5_hasCut cX5_hasCut 2 (some .boolean), Cond.fieldLink RX5 47 "BarkNames$Wood" "cutCount" "I", Cond.static yX6_isBelow, Cond.initialized RX6, Cond.code yX6_isBelow cX6_isBelow 2 (some .boolean), Cond.methodLink RX6 144 yX1_keep, Cond.instanceMethod yX1_keep, Cond.selects RX1 yX1_keep yX1_keep, Cond.initialized RX1, Cond.code yX1_keep cX1_keep 2 none, Cond.fieldLink RX1 11 "BarkNames$Past" "woods" "[LBarkNames$Wood;", Cond.fieldLink RX1 18 "BarkNames$Past" "next" "I", Cond.fieldLink RX1 26 "BarkNames$Past" "kept" "I", Cond.methodLink RX1 29 Lib.Math.min.name, Cond.static Lib.Math.min.name, Cond.initialized "java/lang/Math"]
def wsX6_scrape_r2 : List Cond := [Cond.code Lib.Math.min.name Lib.Math.min.code 2 (some .int), Cond.methodLink RX1 22 yX5_become, Cond.instanceMethod yX5_become, Cond.selects RX5 yX5_become yX5_become, Cond.code yX5_become cX5_become 2 none, Cond.fieldLink RX5 33 "BarkNames$Wood" "told" "Z", Cond.fieldLink RX5 37 "BarkNames$Wood" "wide" "I", Cond.fieldLink RX5 41 "BarkNames$Wood" "year" "I", Cond.fieldLink RX5 44 "BarkNames$Wood" "treeCount" "I", Cond.fieldLink RX5 9 "BarkNames$Wood" "kindOf" "[I", Cond.methodLink RX5 50 arraycopyName, Cond.native arraycopyName, Cond.static arraycopyName, Cond.initialized "java/lang/System", Cond.fieldLink RX5 15 "BarkNames$Wood" "girthOf" "[I", Cond.fieldLink RX5 18 "BarkNames$Wood" "sunOf" "[I", Cond.fieldLink RX5 21 "BarkNames$Wood" "treeOf" "[I", Cond.fieldLink RX5 24 "BarkNames$Wood" "letterOf" "[I", Cond.fieldLink RX5 27 "BarkNames$Wood" "placeOf" "[I", Cond.fieldLink RX5 30 "BarkNames$Wood" "depthOf" "[I", Cond.methodLink RX6 181 yX5_removeCut, Cond.instanceMethod yX5_removeCut, Cond.selects RX5 yX5_removeCut yX5_removeCut, Cond.code yX5_removeCut cX5_removeCut 3 none]
def wsX6_scrape : List Cond := .code yX6_scrape cX6_scrape 2 (some .int) :: ((wsX6_scrape_r1 ++ wsX6_scrape_r2) ++ wsX60 ++ wsX50 ++ wsX10)
def wsX6_undo_r1 : List Cond := [Cond.fieldLink RX6 39 "BarkNames" "past" "LBarkNames$Past;", Cond.fieldLink RX6 185 "BarkNames$Past" "kept" "I", Cond.constant RX6 140 (-1000002), Cond.fieldLink RX6 25 "BarkNames" "now" "LBarkNames$Wood;", Cond.methodLink RX6 188 yX1_bringBack, Cond.instanceMethod yX1_bringBack, Cond.selects RX1 yX1_bringBack yX1_bringBack, Cond.initialized RX1, Cond.code yX1_bringBack cX1_bringBack 2 none, Cond.fieldLink RX1 26 "BarkNames$Past" "kept" "I", Cond.fieldLink RX1 18 "BarkNames$Past" "next" "I", Cond.fieldLink RX1 11 "BarkNames$Past" "woods" "[LBarkNames$Wood;", Cond.methodLink RX1 22 yX5_become, Cond.instanceMethod yX5_become, Cond.selects RX5 yX5_become yX5_become, Cond.initialized RX5, Cond.code yX5_become cX5_become 2 none, Cond.fieldLink RX5 33 "BarkNames$Wood" "told" "Z", Cond.fieldLink RX5 37 "BarkNames$Wood" "wide" "I", Cond.fieldLink RX5 41 "BarkNames$Wood" "year" "I", Cond.fieldLink RX5 44 "BarkNames$Wood" "treeCount" "I", Cond.fieldLink RX5 47 "BarkNames$Wood" "cutCount" "I", Cond.fieldLink RX5 9 "BarkNames$Wood" "kindOf" "[I", Cond.methodLink RX5 50 arraycopyName]
def wsX6_undo_r2 : List Cond := [Cond.native arraycopyName, Cond.static arraycopyName, Cond.initialized "java/lang/System", Cond.fieldLink RX5 15 "BarkNames$Wood" "girthOf" "[I", Cond.fieldLink RX5 18 "BarkNames$Wood" "sunOf" "[I", Cond.fieldLink RX5 21 "BarkNames$Wood" "treeOf" "[I", Cond.fieldLink RX5 24 "BarkNames$Wood" "letterOf" "[I", Cond.fieldLink RX5 27 "BarkNames$Wood" "placeOf" "[I", Cond.fieldLink RX5 30 "BarkNames$Wood" "depthOf" "[I"]
def wsX6_undo : List Cond := .code yX6_undo cX6_undo 1 (some .int) :: ((wsX6_undo_r1 ++ wsX6_undo_r2) ++ wsX60 ++ wsX10 ++ wsX50)
def wsX6_tree_r1 : List Cond := [Cond.fieldLink RX6 25 "BarkNames" "now" "LBarkNames$Wood;", Cond.constant RX6 62 (-1000001), Cond.fieldLink RX6 191 "BarkNames$Wood" "girthOf" "[I", Cond.fieldLink RX6 194 "BarkNames$Wood" "sunOf" "[I", Cond.methodLink RX6 159 yX5_hasTree, Cond.instanceMethod yX5_hasTree, Cond.selects RX5 yX5_hasTree yX5_hasTree, Cond.initialized RX5, Cond.code yX5_hasTree cX5_hasTree 2 (some .boolean), Cond.fieldLink RX5 44 "BarkNames$Wood" "treeCount" "I", Cond.static yX6_isBelow, Cond.initialized RX6, Cond.code yX6_isBelow cX6_isBelow 2 (some .boolean), Cond.methodLink RX6 197 yX5_readableOn, Cond.instanceMethod yX5_readableOn, Cond.selects RX5 yX5_readableOn yX5_readableOn, Cond.code yX5_readableOn cX5_readableOn 4 (some .int), Cond.fieldLink RX5 47 "BarkNames$Wood" "cutCount" "I", Cond.fieldLink RX5 21 "BarkNames$Wood" "treeOf" "[I", Cond.methodLink RX5 83 yX5_readable, Cond.instanceMethod yX5_readable, Cond.selects RX5 yX5_readable yX5_readable, Cond.code yX5_readable cX5_readable 3 (some .int), Cond.fieldLink RX5 30 "BarkNames$Wood" "depthOf" "[I"]
def wsX6_tree_r2 : List Cond := [Cond.methodLink RX6 200 yX5_growth, Cond.instanceMethod yX5_growth, Cond.selects RX5 yX5_growth yX5_growth, Cond.code yX5_growth cX5_growth 2 (some .int), Cond.fieldLink RX5 15 "BarkNames$Wood" "girthOf" "[I", Cond.methodLink RX5 64 Lib.Math.min.name, Cond.static Lib.Math.min.name, Cond.initialized "java/lang/Math", Cond.code Lib.Math.min.name Lib.Math.min.code 2 (some .int), Cond.methodLink RX5 60 yX5_growthByKind, Cond.instanceMethod yX5_growthByKind, Cond.selects RX5 yX5_growthByKind yX5_growthByKind, Cond.code yX5_growthByKind cX5_growthByKind 4 (some .int), Cond.fieldLink RX5 18 "BarkNames$Wood" "sunOf" "[I", Cond.fieldLink RX5 9 "BarkNames$Wood" "kindOf" "[I", Cond.fieldLink RX5 41 "BarkNames$Wood" "year" "I"]
def wsX6_tree : List Cond := .code yX6_tree cX6_tree 3 (some .int) :: ((wsX6_tree_r1 ++ wsX6_tree_r2) ++ wsX60 ++ wsX50)
def wsX6_cutHas : List Cond := .code yX6_cutHas cX6_cutHas 3 (some .int) :: ([.fieldLink RX6 25 "BarkNames" "now" "LBarkNames$Wood;", .constant RX6 62 (-1000001), .fieldLink RX6 203 "BarkNames$Wood" "treeOf" "[I", .fieldLink RX6 206 "BarkNames$Wood" "letterOf" "[I", .fieldLink RX6 209 "BarkNames$Wood" "placeOf" "[I", .fieldLink RX6 178 "BarkNames$Wood" "depthOf" "[I", .methodLink RX6 175 yX5_hasCut, .instanceMethod yX5_hasCut, .selects RX5 yX5_hasCut yX5_hasCut, .initialized RX5, .code yX5_hasCut cX5_hasCut 2 (some .boolean), .fieldLink RX5 47 "BarkNames$Wood" "cutCount" "I", .static yX6_isBelow, .initialized RX6, .code yX6_isBelow cX6_isBelow 2 (some .boolean)] ++ wsX60 ++ wsX50)
def wsX6_apart_r1 : List Cond := [Cond.fieldLink RX6 25 "BarkNames" "now" "LBarkNames$Wood;", Cond.constant RX6 62 (-1000001), Cond.constant RX6 219 (-1000000), Cond.methodLink RX6 175 yX5_hasCut, Cond.instanceMethod yX5_hasCut, Cond.selects RX5 yX5_hasCut yX5_hasCut, Cond.initialized RX5, Cond.code yX5_hasCut cX5_hasCut 2 (some .boolean), Cond.fieldLink RX5 47 "BarkNames$Wood" "cutCount" "I", Cond.static yX6_isBelow, Cond.initialized RX6, Cond.code yX6_isBelow cX6_isBelow 2 (some .boolean), Cond.methodLink RX6 212 yX5_bothReadable, Cond.instanceMethod yX5_bothReadable, Cond.selects RX5 yX5_bothReadable yX5_bothReadable, Cond.code yX5_bothReadable cX5_bothReadable 3 (some .boolean), Cond.fieldLink RX5 21 "BarkNames$Wood" "treeOf" "[I", Cond.fieldLink RX5 30 "BarkNames$Wood" "depthOf" "[I", Cond.methodLink RX6 215 yX5_distance, Cond.instanceMethod yX5_distance, Cond.selects RX5 yX5_distance yX5_distance, Cond.code yX5_distance cX5_distance 3 (some .int), Cond.fieldLink RX5 15 "BarkNames$Wood" "girthOf" "[I", Cond.methodLink RX5 90 yX5_placesApart]
def wsX6_apart_r2 : List Cond := [Cond.instanceMethod yX5_placesApart, Cond.selects RX5 yX5_placesApart yX5_placesApart, Cond.code yX5_placesApart cX5_placesApart 4 (some .int), Cond.fieldLink RX5 27 "BarkNames$Wood" "placeOf" "[I", Cond.methodLink RX5 87 Lib.Math.abs.name, Cond.static Lib.Math.abs.name, Cond.initialized "java/lang/Math", Cond.code Lib.Math.abs.name Lib.Math.abs.code 1 (some .int), Cond.methodLink RX5 64 Lib.Math.min.name, Cond.static Lib.Math.min.name, Cond.code Lib.Math.min.name Lib.Math.min.code 2 (some .int)]
def wsX6_apart : List Cond := .code yX6_apart cX6_apart 3 (some .int) :: ((wsX6_apart_r1 ++ wsX6_apart_r2) ++ wsX60 ++ wsX50)
def wsX6_isPair : List Cond := .code yX6_isPair cX6_isPair 3 (some .boolean) :: ([.fieldLink RX6 25 "BarkNames" "now" "LBarkNames$Wood;", .fieldLink RX6 203 "BarkNames$Wood" "treeOf" "[I", .methodLink RX6 175 yX5_hasCut, .instanceMethod yX5_hasCut, .selects RX5 yX5_hasCut yX5_hasCut, .initialized RX5, .code yX5_hasCut cX5_hasCut 2 (some .boolean), .fieldLink RX5 47 "BarkNames$Wood" "cutCount" "I", .static yX6_isBelow, .initialized RX6, .code yX6_isBelow cX6_isBelow 2 (some .boolean)] ++ wsX60 ++ wsX50)
def wsX6_areTogether_r1 : List Cond := [Cond.fieldLink RX6 46 "BarkNames" "reading" "LBarkNames$Reading;", Cond.methodLink RX6 248 yX2_lookAt, Cond.instanceMethod yX2_lookAt, Cond.selects RX2 yX2_lookAt yX2_lookAt, Cond.initialized RX2, Cond.code yX2_lookAt cX2_lookAt 4 none, Cond.fieldLink RX2 9 "BarkNames$Reading" "asOneWith" "[I", Cond.fieldLink RX2 21 "BarkNames$Wood" "cutCount" "I", Cond.methodLink RX2 15 yJ7_fill_53178, Cond.static yJ7_fill_53178, Cond.initialized RJ7, Cond.code yJ7_fill_53178 cJ7_fill_53178 4 none, Cond.methodLink RX2 27 yX5_readAsOne, Cond.instanceMethod yX5_readAsOne, Cond.selects RX5 yX5_readAsOne yX5_readAsOne, Cond.initialized RX5, Cond.code yX5_readAsOne cX5_readAsOne 3 (some .boolean), Cond.fieldLink RX5 37 "BarkNames$Wood" "wide" "I", Cond.methodLink RX5 93 yX5_bothReadable, Cond.instanceMethod yX5_bothReadable, Cond.selects RX5 yX5_bothReadable yX5_bothReadable, Cond.code yX5_bothReadable cX5_bothReadable 3 (some .boolean), Cond.fieldLink RX5 21 "BarkNames$Wood" "treeOf" "[I", Cond.fieldLink RX5 30 "BarkNames$Wood" "depthOf" "[I"]
def wsX6_areTogether_r2 : List Cond := [Cond.methodLink RX5 96 yX5_distance, Cond.instanceMethod yX5_distance, Cond.selects RX5 yX5_distance yX5_distance, Cond.code yX5_distance cX5_distance 3 (some .int), Cond.fieldLink RX5 15 "BarkNames$Wood" "girthOf" "[I", Cond.methodLink RX5 90 yX5_placesApart, Cond.instanceMethod yX5_placesApart, Cond.selects RX5 yX5_placesApart yX5_placesApart, Cond.code yX5_placesApart cX5_placesApart 4 (some .int), Cond.fieldLink RX5 27 "BarkNames$Wood" "placeOf" "[I", Cond.methodLink RX5 87 Lib.Math.abs.name, Cond.static Lib.Math.abs.name, Cond.initialized "java/lang/Math", Cond.code Lib.Math.abs.name Lib.Math.abs.code 1 (some .int), Cond.methodLink RX5 64 Lib.Math.min.name, Cond.static Lib.Math.min.name, Cond.code Lib.Math.min.name Lib.Math.min.code 2 (some .int), Cond.methodLink RX6 254 yX2_reached, Cond.instanceMethod yX2_reached, Cond.selects RX2 yX2_reached yX2_reached, Cond.code yX2_reached cX2_reached 6 (some .int), Cond.methodLink RX2 31 yX2_nextTo, Cond.instanceMethod yX2_nextTo, Cond.selects RX2 yX2_nextTo yX2_nextTo]
def wsX6_areTogether_r3 : List Cond := [Cond.code yX2_nextTo cX2_nextTo 4 (some .int), Cond.static yX6_isIn, Cond.initialized RX6, Cond.code yX6_isIn cX6_isIn 2 (some .boolean), Cond.methodLink RX6 251 yX6_isIn]
def wsX6_areTogether : List Cond := .code yX6_areTogether cX6_areTogether 4 (some .boolean) :: ((wsX6_areTogether_r1 ++ (wsX6_areTogether_r2 ++ wsX6_areTogether_r3)) ++ wsX60 ++ wsX20 ++ wsX50)
def wsX6_together_r1 : List Cond := [Cond.constant RX6 62 (-1000001), Cond.fieldLink RX6 25 "BarkNames" "now" "LBarkNames$Wood;", Cond.methodLink RX6 220 yX6_isPair, Cond.instanceMethod yX6_isPair, Cond.selects RX6 yX6_isPair yX6_isPair, Cond.initialized RX6, Cond.code yX6_isPair cX6_isPair 3 (some .boolean), Cond.fieldLink RX6 203 "BarkNames$Wood" "treeOf" "[I", Cond.methodLink RX6 175 yX5_hasCut, Cond.instanceMethod yX5_hasCut, Cond.selects RX5 yX5_hasCut yX5_hasCut, Cond.initialized RX5, Cond.code yX5_hasCut cX5_hasCut 2 (some .boolean), Cond.fieldLink RX5 47 "BarkNames$Wood" "cutCount" "I", Cond.static yX6_isBelow, Cond.code yX6_isBelow cX6_isBelow 2 (some .boolean), Cond.methodLink RX6 223 yX6_areTogether, Cond.instanceMethod yX6_areTogether, Cond.selects RX6 yX6_areTogether yX6_areTogether, Cond.code yX6_areTogether cX6_areTogether 4 (some .boolean), Cond.fieldLink RX6 46 "BarkNames" "reading" "LBarkNames$Reading;", Cond.methodLink RX6 248 yX2_lookAt, Cond.instanceMethod yX2_lookAt, Cond.selects RX2 yX2_lookAt yX2_lookAt]
def wsX6_together_r2 : List Cond := [Cond.initialized RX2, Cond.code yX2_lookAt cX2_lookAt 4 none, Cond.fieldLink RX2 9 "BarkNames$Reading" "asOneWith" "[I", Cond.fieldLink RX2 21 "BarkNames$Wood" "cutCount" "I", Cond.methodLink RX2 15 yJ7_fill_53178, Cond.static yJ7_fill_53178, Cond.initialized RJ7, Cond.code yJ7_fill_53178 cJ7_fill_53178 4 none, Cond.methodLink RX2 27 yX5_readAsOne, Cond.instanceMethod yX5_readAsOne, Cond.selects RX5 yX5_readAsOne yX5_readAsOne, Cond.code yX5_readAsOne cX5_readAsOne 3 (some .boolean), Cond.fieldLink RX5 37 "BarkNames$Wood" "wide" "I", Cond.methodLink RX5 93 yX5_bothReadable, Cond.instanceMethod yX5_bothReadable, Cond.selects RX5 yX5_bothReadable yX5_bothReadable, Cond.code yX5_bothReadable cX5_bothReadable 3 (some .boolean), Cond.fieldLink RX5 21 "BarkNames$Wood" "treeOf" "[I", Cond.fieldLink RX5 30 "BarkNames$Wood" "depthOf" "[I", Cond.methodLink RX5 96 yX5_distance, Cond.instanceMethod yX5_distance, Cond.selects RX5 yX5_distance yX5_distance, Cond.code yX5_distance cX5_distance 3 (some .int), Cond.fieldLink RX5 15 "BarkNames$Wood" "girthOf" "[I"]
def wsX6_together_r3 : List Cond := [Cond.methodLink RX5 90 yX5_placesApart, Cond.instanceMethod yX5_placesApart, Cond.selects RX5 yX5_placesApart yX5_placesApart, Cond.code yX5_placesApart cX5_placesApart 4 (some .int), Cond.fieldLink RX5 27 "BarkNames$Wood" "placeOf" "[I", Cond.methodLink RX5 87 Lib.Math.abs.name, Cond.static Lib.Math.abs.name, Cond.initialized "java/lang/Math", Cond.code Lib.Math.abs.name Lib.Math.abs.code 1 (some .int), Cond.methodLink RX5 64 Lib.Math.min.name, Cond.static Lib.Math.min.name, Cond.code Lib.Math.min.name Lib.Math.min.code 2 (some .int), Cond.methodLink RX6 254 yX2_reached, Cond.instanceMethod yX2_reached, Cond.selects RX2 yX2_reached yX2_reached, Cond.code yX2_reached cX2_reached 6 (some .int), Cond.methodLink RX2 31 yX2_nextTo, Cond.instanceMethod yX2_nextTo, Cond.selects RX2 yX2_nextTo yX2_nextTo, Cond.code yX2_nextTo cX2_nextTo 4 (some .int), Cond.static yX6_isIn, Cond.code yX6_isIn cX6_isIn 2 (some .boolean), Cond.methodLink RX6 251 yX6_isIn]
def wsX6_together : List Cond := .code yX6_together cX6_together 3 (some .int) :: ((wsX6_together_r1 ++ (wsX6_together_r2 ++ wsX6_together_r3)) ++ wsX60 ++ wsX50 ++ wsX20)
def wsX6_isForetold : List Cond := .code yX6_isForetold cX6_isForetold 1 (some .boolean) :: ([.methodLink RX6 162 yX6_isBelow, .static yX6_isBelow, .initialized RX6, .code yX6_isBelow cX6_isBelow 2 (some .boolean)])
def wsX6_foretell_r1 : List Cond := [Cond.fieldLink RX6 29 "BarkNames" "tried" "LBarkNames$Wood;", Cond.fieldLink RX6 25 "BarkNames" "now" "LBarkNames$Wood;", Cond.methodLink RX6 127 yX5_become, Cond.instanceMethod yX5_become, Cond.selects RX5 yX5_become yX5_become, Cond.initialized RX5, Cond.code yX5_become cX5_become 2 none, Cond.fieldLink RX5 33 "BarkNames$Wood" "told" "Z", Cond.fieldLink RX5 37 "BarkNames$Wood" "wide" "I", Cond.fieldLink RX5 41 "BarkNames$Wood" "year" "I", Cond.fieldLink RX5 44 "BarkNames$Wood" "treeCount" "I", Cond.fieldLink RX5 47 "BarkNames$Wood" "cutCount" "I", Cond.fieldLink RX5 9 "BarkNames$Wood" "kindOf" "[I", Cond.methodLink RX5 50 arraycopyName, Cond.native arraycopyName, Cond.static arraycopyName, Cond.initialized "java/lang/System", Cond.fieldLink RX5 15 "BarkNames$Wood" "girthOf" "[I", Cond.fieldLink RX5 18 "BarkNames$Wood" "sunOf" "[I", Cond.fieldLink RX5 21 "BarkNames$Wood" "treeOf" "[I", Cond.fieldLink RX5 24 "BarkNames$Wood" "letterOf" "[I", Cond.fieldLink RX5 27 "BarkNames$Wood" "placeOf" "[I", Cond.fieldLink RX5 30 "BarkNames$Wood" "depthOf" "[I", Cond.methodLink RX6 239 yX5_passYears]
def wsX6_foretell_r2 : List Cond := [Cond.instanceMethod yX5_passYears, Cond.selects RX5 yX5_passYears yX5_passYears, Cond.code yX5_passYears cX5_passYears 3 none, Cond.methodLink RX5 80 yX5_passYear, Cond.instanceMethod yX5_passYear, Cond.selects RX5 yX5_passYear yX5_passYear, Cond.code yX5_passYear cX5_passYear 3 none, Cond.methodLink RX5 70 yX5_growth, Cond.instanceMethod yX5_growth, Cond.selects RX5 yX5_growth yX5_growth, Cond.code yX5_growth cX5_growth 2 (some .int), Cond.methodLink RX5 64 Lib.Math.min.name, Cond.static Lib.Math.min.name, Cond.initialized "java/lang/Math", Cond.code Lib.Math.min.name Lib.Math.min.code 2 (some .int), Cond.methodLink RX5 60 yX5_growthByKind, Cond.instanceMethod yX5_growthByKind, Cond.selects RX5 yX5_growthByKind yX5_growthByKind, Cond.code yX5_growthByKind cX5_growthByKind 4 (some .int), Cond.methodLink RX5 73 yX5_closesBy, Cond.instanceMethod yX5_closesBy, Cond.selects RX5 yX5_closesBy yX5_closesBy, Cond.code yX5_closesBy cX5_closesBy 3 (some .boolean), Cond.methodLink RX5 76 yX5_closeCutsOf]
def wsX6_foretell_r3 : List Cond := [Cond.instanceMethod yX5_closeCutsOf, Cond.selects RX5 yX5_closeCutsOf yX5_closeCutsOf, Cond.code yX5_closeCutsOf cX5_closeCutsOf 3 none]
def wsX6_foretell : List Cond := .code yX6_foretell cX6_foretell 2 none :: ((wsX6_foretell_r1 ++ (wsX6_foretell_r2 ++ wsX6_foretell_r3)) ++ wsX60 ++ wsX50)
def wsX6_girth_r1 : List Cond := [Cond.fieldLink RX6 25 "BarkNames" "now" "LBarkNames$Wood;", Cond.constant RX6 62 (-1000001), Cond.fieldLink RX6 29 "BarkNames" "tried" "LBarkNames$Wood;", Cond.fieldLink RX6 191 "BarkNames$Wood" "girthOf" "[I", Cond.methodLink RX6 159 yX5_hasTree, Cond.instanceMethod yX5_hasTree, Cond.selects RX5 yX5_hasTree yX5_hasTree, Cond.initialized RX5, Cond.code yX5_hasTree cX5_hasTree 2 (some .boolean), Cond.fieldLink RX5 44 "BarkNames$Wood" "treeCount" "I", Cond.static yX6_isBelow, Cond.initialized RX6, Cond.code yX6_isBelow cX6_isBelow 2 (some .boolean), Cond.methodLink RX6 227 yX6_isForetold, Cond.static yX6_isForetold, Cond.code yX6_isForetold cX6_isForetold 1 (some .boolean), Cond.methodLink RX6 162 yX6_isBelow, Cond.methodLink RX6 230 yX6_foretell, Cond.instanceMethod yX6_foretell, Cond.selects RX6 yX6_foretell yX6_foretell, Cond.code yX6_foretell cX6_foretell 2 none, Cond.methodLink RX6 127 yX5_become, Cond.instanceMethod yX5_become, Cond.selects RX5 yX5_become yX5_become]
def wsX6_girth_r2 : List Cond := [Cond.code yX5_become cX5_become 2 none, Cond.fieldLink RX5 33 "BarkNames$Wood" "told" "Z", Cond.fieldLink RX5 37 "BarkNames$Wood" "wide" "I", Cond.fieldLink RX5 41 "BarkNames$Wood" "year" "I", Cond.fieldLink RX5 47 "BarkNames$Wood" "cutCount" "I", Cond.fieldLink RX5 9 "BarkNames$Wood" "kindOf" "[I", Cond.methodLink RX5 50 arraycopyName, Cond.native arraycopyName, Cond.static arraycopyName, Cond.initialized "java/lang/System", Cond.fieldLink RX5 15 "BarkNames$Wood" "girthOf" "[I", Cond.fieldLink RX5 18 "BarkNames$Wood" "sunOf" "[I", Cond.fieldLink RX5 21 "BarkNames$Wood" "treeOf" "[I", Cond.fieldLink RX5 24 "BarkNames$Wood" "letterOf" "[I", Cond.fieldLink RX5 27 "BarkNames$Wood" "placeOf" "[I", Cond.fieldLink RX5 30 "BarkNames$Wood" "depthOf" "[I", Cond.methodLink RX6 239 yX5_passYears, Cond.instanceMethod yX5_passYears, Cond.selects RX5 yX5_passYears yX5_passYears, Cond.code yX5_passYears cX5_passYears 3 none, Cond.methodLink RX5 80 yX5_passYear, Cond.instanceMethod yX5_passYear, Cond.selects RX5 yX5_passYear yX5_passYear, Cond.code yX5_passYear cX5_passYear 3 none]
def wsX6_girth_r3 : List Cond := [Cond.methodLink RX5 70 yX5_growth, Cond.instanceMethod yX5_growth, Cond.selects RX5 yX5_growth yX5_growth, Cond.code yX5_growth cX5_growth 2 (some .int), Cond.methodLink RX5 64 Lib.Math.min.name, Cond.static Lib.Math.min.name, Cond.initialized "java/lang/Math", Cond.code Lib.Math.min.name Lib.Math.min.code 2 (some .int), Cond.methodLink RX5 60 yX5_growthByKind, Cond.instanceMethod yX5_growthByKind, Cond.selects RX5 yX5_growthByKind yX5_growthByKind, Cond.code yX5_growthByKind cX5_growthByKind 4 (some .int), Cond.methodLink RX5 73 yX5_closesBy, Cond.instanceMethod yX5_closesBy, Cond.selects RX5 yX5_closesBy yX5_closesBy, Cond.code yX5_closesBy cX5_closesBy 3 (some .boolean), Cond.methodLink RX5 76 yX5_closeCutsOf, Cond.instanceMethod yX5_closeCutsOf, Cond.selects RX5 yX5_closeCutsOf yX5_closeCutsOf, Cond.code yX5_closeCutsOf cX5_closeCutsOf 3 none]
def wsX6_girth : List Cond := .code yX6_girth cX6_girth 3 (some .int) :: ((wsX6_girth_r1 ++ (wsX6_girth_r2 ++ wsX6_girth_r3)) ++ wsX60 ++ wsX50)
def wsX6_left_r1 : List Cond := [Cond.fieldLink RX6 25 "BarkNames" "now" "LBarkNames$Wood;", Cond.fieldLink RX6 137 "BarkNames$Wood" "told" "Z", Cond.constant RX6 140 (-1000002), Cond.constant RX6 62 (-1000001), Cond.fieldLink RX6 29 "BarkNames" "tried" "LBarkNames$Wood;", Cond.methodLink RX6 227 yX6_isForetold, Cond.static yX6_isForetold, Cond.initialized RX6, Cond.code yX6_isForetold cX6_isForetold 1 (some .boolean), Cond.methodLink RX6 162 yX6_isBelow, Cond.static yX6_isBelow, Cond.code yX6_isBelow cX6_isBelow 2 (some .boolean), Cond.methodLink RX6 230 yX6_foretell, Cond.instanceMethod yX6_foretell, Cond.selects RX6 yX6_foretell yX6_foretell, Cond.code yX6_foretell cX6_foretell 2 none, Cond.methodLink RX6 127 yX5_become, Cond.instanceMethod yX5_become, Cond.selects RX5 yX5_become yX5_become, Cond.initialized RX5, Cond.code yX5_become cX5_become 2 none, Cond.fieldLink RX5 33 "BarkNames$Wood" "told" "Z", Cond.fieldLink RX5 37 "BarkNames$Wood" "wide" "I", Cond.fieldLink RX5 41 "BarkNames$Wood" "year" "I"]
def wsX6_left_r2 : List Cond := [Cond.fieldLink RX5 44 "BarkNames$Wood" "treeCount" "I", Cond.fieldLink RX5 47 "BarkNames$Wood" "cutCount" "I", Cond.fieldLink RX5 9 "BarkNames$Wood" "kindOf" "[I", Cond.methodLink RX5 50 arraycopyName, Cond.native arraycopyName, Cond.static arraycopyName, Cond.initialized "java/lang/System", Cond.fieldLink RX5 15 "BarkNames$Wood" "girthOf" "[I", Cond.fieldLink RX5 18 "BarkNames$Wood" "sunOf" "[I", Cond.fieldLink RX5 21 "BarkNames$Wood" "treeOf" "[I", Cond.fieldLink RX5 24 "BarkNames$Wood" "letterOf" "[I", Cond.fieldLink RX5 27 "BarkNames$Wood" "placeOf" "[I", Cond.fieldLink RX5 30 "BarkNames$Wood" "depthOf" "[I", Cond.methodLink RX6 239 yX5_passYears, Cond.instanceMethod yX5_passYears, Cond.selects RX5 yX5_passYears yX5_passYears, Cond.code yX5_passYears cX5_passYears 3 none, Cond.methodLink RX5 80 yX5_passYear, Cond.instanceMethod yX5_passYear, Cond.selects RX5 yX5_passYear yX5_passYear, Cond.code yX5_passYear cX5_passYear 3 none, Cond.methodLink RX5 70 yX5_growth, Cond.instanceMethod yX5_growth, Cond.selects RX5 yX5_growth yX5_growth]
def wsX6_left_r3 : List Cond := [Cond.code yX5_growth cX5_growth 2 (some .int), Cond.methodLink RX5 64 Lib.Math.min.name, Cond.static Lib.Math.min.name, Cond.initialized "java/lang/Math", Cond.code Lib.Math.min.name Lib.Math.min.code 2 (some .int), Cond.methodLink RX5 60 yX5_growthByKind, Cond.instanceMethod yX5_growthByKind, Cond.selects RX5 yX5_growthByKind yX5_growthByKind, Cond.code yX5_growthByKind cX5_growthByKind 4 (some .int), Cond.methodLink RX5 73 yX5_closesBy, Cond.instanceMethod yX5_closesBy, Cond.selects RX5 yX5_closesBy yX5_closesBy, Cond.code yX5_closesBy cX5_closesBy 3 (some .boolean), Cond.methodLink RX5 76 yX5_closeCutsOf, Cond.instanceMethod yX5_closeCutsOf, Cond.selects RX5 yX5_closeCutsOf yX5_closeCutsOf, Cond.code yX5_closeCutsOf cX5_closeCutsOf 3 none, Cond.methodLink RX6 150 yX5_readable, Cond.instanceMethod yX5_readable, Cond.selects RX5 yX5_readable yX5_readable, Cond.code yX5_readable cX5_readable 3 (some .int)]
def wsX6_left : List Cond := .code yX6_left cX6_left 2 (some .int) :: ((wsX6_left_r1 ++ (wsX6_left_r2 ++ wsX6_left_r3)) ++ wsX60 ++ wsX50)
def wsX6_free_r1 : List Cond := [Cond.constant RX6 62 (-1000001), Cond.fieldLink RX6 29 "BarkNames" "tried" "LBarkNames$Wood;", Cond.fieldLink RX6 25 "BarkNames" "now" "LBarkNames$Wood;", Cond.constant RX6 219 (-1000000), Cond.methodLink RX6 220 yX6_isPair, Cond.instanceMethod yX6_isPair, Cond.selects RX6 yX6_isPair yX6_isPair, Cond.initialized RX6, Cond.code yX6_isPair cX6_isPair 3 (some .boolean), Cond.fieldLink RX6 203 "BarkNames$Wood" "treeOf" "[I", Cond.methodLink RX6 175 yX5_hasCut, Cond.instanceMethod yX5_hasCut, Cond.selects RX5 yX5_hasCut yX5_hasCut, Cond.initialized RX5, Cond.code yX5_hasCut cX5_hasCut 2 (some .boolean), Cond.fieldLink RX5 47 "BarkNames$Wood" "cutCount" "I", Cond.static yX6_isBelow, Cond.code yX6_isBelow cX6_isBelow 2 (some .boolean), Cond.methodLink RX6 127 yX5_become, Cond.instanceMethod yX5_become, Cond.selects RX5 yX5_become yX5_become, Cond.code yX5_become cX5_become 2 none, Cond.fieldLink RX5 33 "BarkNames$Wood" "told" "Z", Cond.fieldLink RX5 37 "BarkNames$Wood" "wide" "I"]
def wsX6_free_r2 : List Cond := [Cond.fieldLink RX5 41 "BarkNames$Wood" "year" "I", Cond.fieldLink RX5 44 "BarkNames$Wood" "treeCount" "I", Cond.fieldLink RX5 9 "BarkNames$Wood" "kindOf" "[I", Cond.methodLink RX5 50 arraycopyName, Cond.native arraycopyName, Cond.static arraycopyName, Cond.initialized "java/lang/System", Cond.fieldLink RX5 15 "BarkNames$Wood" "girthOf" "[I", Cond.fieldLink RX5 18 "BarkNames$Wood" "sunOf" "[I", Cond.fieldLink RX5 21 "BarkNames$Wood" "treeOf" "[I", Cond.fieldLink RX5 24 "BarkNames$Wood" "letterOf" "[I", Cond.fieldLink RX5 27 "BarkNames$Wood" "placeOf" "[I", Cond.fieldLink RX5 30 "BarkNames$Wood" "depthOf" "[I", Cond.methodLink RX6 223 yX6_areTogether, Cond.instanceMethod yX6_areTogether, Cond.selects RX6 yX6_areTogether yX6_areTogether, Cond.code yX6_areTogether cX6_areTogether 4 (some .boolean), Cond.fieldLink RX6 46 "BarkNames" "reading" "LBarkNames$Reading;", Cond.methodLink RX6 248 yX2_lookAt, Cond.instanceMethod yX2_lookAt, Cond.selects RX2 yX2_lookAt yX2_lookAt, Cond.initialized RX2, Cond.code yX2_lookAt cX2_lookAt 4 none, Cond.fieldLink RX2 9 "BarkNames$Reading" "asOneWith" "[I"]
def wsX6_free_r3 : List Cond := [Cond.fieldLink RX2 21 "BarkNames$Wood" "cutCount" "I", Cond.methodLink RX2 15 yJ7_fill_53178, Cond.static yJ7_fill_53178, Cond.initialized RJ7, Cond.code yJ7_fill_53178 cJ7_fill_53178 4 none, Cond.methodLink RX2 27 yX5_readAsOne, Cond.instanceMethod yX5_readAsOne, Cond.selects RX5 yX5_readAsOne yX5_readAsOne, Cond.code yX5_readAsOne cX5_readAsOne 3 (some .boolean), Cond.methodLink RX5 93 yX5_bothReadable, Cond.instanceMethod yX5_bothReadable, Cond.selects RX5 yX5_bothReadable yX5_bothReadable, Cond.code yX5_bothReadable cX5_bothReadable 3 (some .boolean), Cond.methodLink RX5 96 yX5_distance, Cond.instanceMethod yX5_distance, Cond.selects RX5 yX5_distance yX5_distance, Cond.code yX5_distance cX5_distance 3 (some .int), Cond.methodLink RX5 90 yX5_placesApart, Cond.instanceMethod yX5_placesApart, Cond.selects RX5 yX5_placesApart yX5_placesApart, Cond.code yX5_placesApart cX5_placesApart 4 (some .int), Cond.methodLink RX5 87 Lib.Math.abs.name, Cond.static Lib.Math.abs.name, Cond.initialized "java/lang/Math"]
def wsX6_free_r4 : List Cond := [Cond.code Lib.Math.abs.name Lib.Math.abs.code 1 (some .int), Cond.methodLink RX5 64 Lib.Math.min.name, Cond.static Lib.Math.min.name, Cond.code Lib.Math.min.name Lib.Math.min.code 2 (some .int), Cond.methodLink RX6 254 yX2_reached, Cond.instanceMethod yX2_reached, Cond.selects RX2 yX2_reached yX2_reached, Cond.code yX2_reached cX2_reached 6 (some .int), Cond.methodLink RX2 31 yX2_nextTo, Cond.instanceMethod yX2_nextTo, Cond.selects RX2 yX2_nextTo yX2_nextTo, Cond.code yX2_nextTo cX2_nextTo 4 (some .int), Cond.static yX6_isIn, Cond.code yX6_isIn cX6_isIn 2 (some .boolean), Cond.methodLink RX6 251 yX6_isIn, Cond.methodLink RX6 147 yX5_passYear, Cond.instanceMethod yX5_passYear, Cond.selects RX5 yX5_passYear yX5_passYear, Cond.code yX5_passYear cX5_passYear 3 none, Cond.methodLink RX5 70 yX5_growth, Cond.instanceMethod yX5_growth, Cond.selects RX5 yX5_growth yX5_growth, Cond.code yX5_growth cX5_growth 2 (some .int), Cond.methodLink RX5 60 yX5_growthByKind]
def wsX6_free_r5 : List Cond := [Cond.instanceMethod yX5_growthByKind, Cond.selects RX5 yX5_growthByKind yX5_growthByKind, Cond.code yX5_growthByKind cX5_growthByKind 4 (some .int), Cond.methodLink RX5 73 yX5_closesBy, Cond.instanceMethod yX5_closesBy, Cond.selects RX5 yX5_closesBy yX5_closesBy, Cond.code yX5_closesBy cX5_closesBy 3 (some .boolean), Cond.methodLink RX5 76 yX5_closeCutsOf, Cond.instanceMethod yX5_closeCutsOf, Cond.selects RX5 yX5_closeCutsOf yX5_closeCutsOf, Cond.code yX5_closeCutsOf cX5_closeCutsOf 3 none]
def wsX6_free : List Cond := .code yX6_free cX6_free 4 (some .int) :: ((wsX6_free_r1 ++ (wsX6_free_r2 ++ (wsX6_free_r3 ++ (wsX6_free_r4 ++ wsX6_free_r5)))) ++ wsX60 ++ wsX50 ++ wsX20)
def wsX6_treesOfPairsReadAsOne_r1 : List Cond := [Cond.fieldLink RX6 29 "BarkNames" "tried" "LBarkNames$Wood;", Cond.fieldLink RX6 233 "BarkNames$Wood" "treeCount" "I", Cond.methodLink RX6 318 yX5_readAsOne, Cond.instanceMethod yX5_readAsOne, Cond.selects RX5 yX5_readAsOne yX5_readAsOne, Cond.initialized RX5, Cond.code yX5_readAsOne cX5_readAsOne 3 (some .boolean), Cond.fieldLink RX5 37 "BarkNames$Wood" "wide" "I", Cond.methodLink RX5 93 yX5_bothReadable, Cond.instanceMethod yX5_bothReadable, Cond.selects RX5 yX5_bothReadable yX5_bothReadable, Cond.code yX5_bothReadable cX5_bothReadable 3 (some .boolean), Cond.fieldLink RX5 21 "BarkNames$Wood" "treeOf" "[I", Cond.fieldLink RX5 30 "BarkNames$Wood" "depthOf" "[I", Cond.methodLink RX5 96 yX5_distance, Cond.instanceMethod yX5_distance, Cond.selects RX5 yX5_distance yX5_distance, Cond.code yX5_distance cX5_distance 3 (some .int), Cond.fieldLink RX5 15 "BarkNames$Wood" "girthOf" "[I", Cond.methodLink RX5 90 yX5_placesApart, Cond.instanceMethod yX5_placesApart, Cond.selects RX5 yX5_placesApart yX5_placesApart, Cond.code yX5_placesApart cX5_placesApart 4 (some .int), Cond.fieldLink RX5 27 "BarkNames$Wood" "placeOf" "[I"]
def wsX6_treesOfPairsReadAsOne_r2 : List Cond := [Cond.methodLink RX5 87 Lib.Math.abs.name, Cond.static Lib.Math.abs.name, Cond.initialized "java/lang/Math", Cond.code Lib.Math.abs.name Lib.Math.abs.code 1 (some .int), Cond.methodLink RX5 64 Lib.Math.min.name, Cond.static Lib.Math.min.name, Cond.code Lib.Math.min.name Lib.Math.min.code 2 (some .int)]
def wsX6_treesOfPairsReadAsOne : List Cond := .code yX6_treesOfPairsReadAsOne cX6_treesOfPairsReadAsOne 3 (some .int) :: ((wsX6_treesOfPairsReadAsOne_r1 ++ wsX6_treesOfPairsReadAsOne_r2) ++ wsX60 ++ wsX50)
def wsX6_holds_r1 : List Cond := [Cond.fieldLink RX6 25 "BarkNames" "now" "LBarkNames$Wood;", Cond.fieldLink RX6 137 "BarkNames$Wood" "told" "Z", Cond.constant RX6 140 (-1000002), Cond.constant RX6 62 (-1000001), Cond.fieldLink RX6 29 "BarkNames" "tried" "LBarkNames$Wood;", Cond.fieldLink RX6 134 "BarkNames$Wood" "cutCount" "I", Cond.fieldLink RX6 233 "BarkNames$Wood" "treeCount" "I", Cond.methodLink RX6 165 yX6_isDepth, Cond.static yX6_isDepth, Cond.initialized RX6, Cond.code yX6_isDepth cX6_isDepth 1 (some .boolean), Cond.methodLink RX6 227 yX6_isForetold, Cond.static yX6_isForetold, Cond.code yX6_isForetold cX6_isForetold 1 (some .boolean), Cond.methodLink RX6 162 yX6_isBelow, Cond.static yX6_isBelow, Cond.code yX6_isBelow cX6_isBelow 2 (some .boolean), Cond.methodLink RX6 127 yX5_become, Cond.instanceMethod yX5_become, Cond.selects RX5 yX5_become yX5_become, Cond.initialized RX5, Cond.code yX5_become cX5_become 2 none, Cond.fieldLink RX5 33 "BarkNames$Wood" "told" "Z", Cond.fieldLink RX5 37 "BarkNames$Wood" "wide" "I"]
def wsX6_holds_r2 : List Cond := [Cond.fieldLink RX5 41 "BarkNames$Wood" "year" "I", Cond.fieldLink RX5 44 "BarkNames$Wood" "treeCount" "I", Cond.fieldLink RX5 47 "BarkNames$Wood" "cutCount" "I", Cond.fieldLink RX5 9 "BarkNames$Wood" "kindOf" "[I", Cond.methodLink RX5 50 arraycopyName, Cond.native arraycopyName, Cond.static arraycopyName, Cond.initialized "java/lang/System", Cond.fieldLink RX5 15 "BarkNames$Wood" "girthOf" "[I", Cond.fieldLink RX5 18 "BarkNames$Wood" "sunOf" "[I", Cond.fieldLink RX5 21 "BarkNames$Wood" "treeOf" "[I", Cond.fieldLink RX5 24 "BarkNames$Wood" "letterOf" "[I", Cond.fieldLink RX5 27 "BarkNames$Wood" "placeOf" "[I", Cond.fieldLink RX5 30 "BarkNames$Wood" "depthOf" "[I", Cond.methodLink RX6 171 yX5_addCut, Cond.instanceMethod yX5_addCut, Cond.selects RX5 yX5_addCut yX5_addCut, Cond.code yX5_addCut cX5_addCut 5 none, Cond.methodLink RX6 236 yX6_treesOfPairsReadAsOne, Cond.instanceMethod yX6_treesOfPairsReadAsOne, Cond.selects RX6 yX6_treesOfPairsReadAsOne yX6_treesOfPairsReadAsOne, Cond.code yX6_treesOfPairsReadAsOne cX6_treesOfPairsReadAsOne 3 (some .int), Cond.methodLink RX6 318 yX5_readAsOne, Cond.instanceMethod yX5_readAsOne]
def wsX6_holds_r3 : List Cond := [Cond.selects RX5 yX5_readAsOne yX5_readAsOne, Cond.code yX5_readAsOne cX5_readAsOne 3 (some .boolean), Cond.methodLink RX5 93 yX5_bothReadable, Cond.instanceMethod yX5_bothReadable, Cond.selects RX5 yX5_bothReadable yX5_bothReadable, Cond.code yX5_bothReadable cX5_bothReadable 3 (some .boolean), Cond.methodLink RX5 96 yX5_distance, Cond.instanceMethod yX5_distance, Cond.selects RX5 yX5_distance yX5_distance, Cond.code yX5_distance cX5_distance 3 (some .int), Cond.methodLink RX5 90 yX5_placesApart, Cond.instanceMethod yX5_placesApart, Cond.selects RX5 yX5_placesApart yX5_placesApart, Cond.code yX5_placesApart cX5_placesApart 4 (some .int), Cond.methodLink RX5 87 Lib.Math.abs.name, Cond.static Lib.Math.abs.name, Cond.initialized "java/lang/Math", Cond.code Lib.Math.abs.name Lib.Math.abs.code 1 (some .int), Cond.methodLink RX5 64 Lib.Math.min.name, Cond.static Lib.Math.min.name, Cond.code Lib.Math.min.name Lib.Math.min.code 2 (some .int), Cond.methodLink RX6 147 yX5_passYear, Cond.instanceMethod yX5_passYear, Cond.selects RX5 yX5_passYear yX5_passYear]
def wsX6_holds_r4 : List Cond := [Cond.code yX5_passYear cX5_passYear 3 none, Cond.methodLink RX5 70 yX5_growth, Cond.instanceMethod yX5_growth, Cond.selects RX5 yX5_growth yX5_growth, Cond.code yX5_growth cX5_growth 2 (some .int), Cond.methodLink RX5 60 yX5_growthByKind, Cond.instanceMethod yX5_growthByKind, Cond.selects RX5 yX5_growthByKind yX5_growthByKind, Cond.code yX5_growthByKind cX5_growthByKind 4 (some .int), Cond.methodLink RX5 73 yX5_closesBy, Cond.instanceMethod yX5_closesBy, Cond.selects RX5 yX5_closesBy yX5_closesBy, Cond.code yX5_closesBy cX5_closesBy 3 (some .boolean), Cond.methodLink RX5 76 yX5_closeCutsOf, Cond.instanceMethod yX5_closeCutsOf, Cond.selects RX5 yX5_closeCutsOf yX5_closeCutsOf, Cond.code yX5_closeCutsOf cX5_closeCutsOf 3 none]
def wsX6_holds : List Cond := .code yX6_holds cX6_holds 6 (some .int) :: ((wsX6_holds_r1 ++ (wsX6_holds_r2 ++ (wsX6_holds_r3 ++ wsX6_holds_r4))) ++ wsX60 ++ wsX50)
def wsX6_deep_r1 : List Cond := [Cond.fieldLink RX6 25 "BarkNames" "now" "LBarkNames$Wood;", Cond.constant RX6 62 (-1000001), Cond.fieldLink RX6 29 "BarkNames" "tried" "LBarkNames$Wood;", Cond.fieldLink RX6 134 "BarkNames$Wood" "cutCount" "I", Cond.fieldLink RX6 178 "BarkNames$Wood" "depthOf" "[I", Cond.constant RX6 219 (-1000000), Cond.methodLink RX6 159 yX5_hasTree, Cond.instanceMethod yX5_hasTree, Cond.selects RX5 yX5_hasTree yX5_hasTree, Cond.initialized RX5, Cond.code yX5_hasTree cX5_hasTree 2 (some .boolean), Cond.fieldLink RX5 44 "BarkNames$Wood" "treeCount" "I", Cond.static yX6_isBelow, Cond.initialized RX6, Cond.code yX6_isBelow cX6_isBelow 2 (some .boolean), Cond.methodLink RX6 227 yX6_isForetold, Cond.static yX6_isForetold, Cond.code yX6_isForetold cX6_isForetold 1 (some .boolean), Cond.methodLink RX6 162 yX6_isBelow, Cond.methodLink RX6 127 yX5_become, Cond.instanceMethod yX5_become, Cond.selects RX5 yX5_become yX5_become, Cond.code yX5_become cX5_become 2 none, Cond.fieldLink RX5 33 "BarkNames$Wood" "told" "Z"]
def wsX6_deep_r2 : List Cond := [Cond.fieldLink RX5 37 "BarkNames$Wood" "wide" "I", Cond.fieldLink RX5 41 "BarkNames$Wood" "year" "I", Cond.fieldLink RX5 47 "BarkNames$Wood" "cutCount" "I", Cond.fieldLink RX5 9 "BarkNames$Wood" "kindOf" "[I", Cond.methodLink RX5 50 arraycopyName, Cond.native arraycopyName, Cond.static arraycopyName, Cond.initialized "java/lang/System", Cond.fieldLink RX5 15 "BarkNames$Wood" "girthOf" "[I", Cond.fieldLink RX5 18 "BarkNames$Wood" "sunOf" "[I", Cond.fieldLink RX5 21 "BarkNames$Wood" "treeOf" "[I", Cond.fieldLink RX5 24 "BarkNames$Wood" "letterOf" "[I", Cond.fieldLink RX5 27 "BarkNames$Wood" "placeOf" "[I", Cond.fieldLink RX5 30 "BarkNames$Wood" "depthOf" "[I", Cond.methodLink RX6 171 yX5_addCut, Cond.instanceMethod yX5_addCut, Cond.selects RX5 yX5_addCut yX5_addCut, Cond.code yX5_addCut cX5_addCut 5 none, Cond.methodLink RX6 239 yX5_passYears, Cond.instanceMethod yX5_passYears, Cond.selects RX5 yX5_passYears yX5_passYears, Cond.code yX5_passYears cX5_passYears 3 none, Cond.methodLink RX5 80 yX5_passYear, Cond.instanceMethod yX5_passYear]
def wsX6_deep_r3 : List Cond := [Cond.selects RX5 yX5_passYear yX5_passYear, Cond.code yX5_passYear cX5_passYear 3 none, Cond.methodLink RX5 70 yX5_growth, Cond.instanceMethod yX5_growth, Cond.selects RX5 yX5_growth yX5_growth, Cond.code yX5_growth cX5_growth 2 (some .int), Cond.methodLink RX5 64 Lib.Math.min.name, Cond.static Lib.Math.min.name, Cond.initialized "java/lang/Math", Cond.code Lib.Math.min.name Lib.Math.min.code 2 (some .int), Cond.methodLink RX5 60 yX5_growthByKind, Cond.instanceMethod yX5_growthByKind, Cond.selects RX5 yX5_growthByKind yX5_growthByKind, Cond.code yX5_growthByKind cX5_growthByKind 4 (some .int), Cond.methodLink RX5 73 yX5_closesBy, Cond.instanceMethod yX5_closesBy, Cond.selects RX5 yX5_closesBy yX5_closesBy, Cond.code yX5_closesBy cX5_closesBy 3 (some .boolean), Cond.methodLink RX5 76 yX5_closeCutsOf, Cond.instanceMethod yX5_closeCutsOf, Cond.selects RX5 yX5_closeCutsOf yX5_closeCutsOf, Cond.code yX5_closeCutsOf cX5_closeCutsOf 3 none]
def wsX6_deep : List Cond := .code yX6_deep cX6_deep 4 (some .int) :: ((wsX6_deep_r1 ++ (wsX6_deep_r2 ++ wsX6_deep_r3)) ++ wsX60 ++ wsX50)
def wsX6_isChoice : List Cond := .code yX6_isChoice cX6_isChoice 1 (some .boolean) :: ([.methodLink RX6 162 yX6_isBelow, .static yX6_isBelow, .initialized RX6, .code yX6_isBelow cX6_isBelow 2 (some .boolean)])
def wsX6_meet_r1 : List Cond := [Cond.fieldLink RX6 25 "BarkNames" "now" "LBarkNames$Wood;", Cond.constant RX6 62 (-1000001), Cond.constant RX6 219 (-1000000), Cond.fieldLink RX6 134 "BarkNames$Wood" "cutCount" "I", Cond.fieldLink RX6 203 "BarkNames$Wood" "treeOf" "[I", Cond.methodLink RX6 159 yX5_hasTree, Cond.instanceMethod yX5_hasTree, Cond.selects RX5 yX5_hasTree yX5_hasTree, Cond.initialized RX5, Cond.code yX5_hasTree cX5_hasTree 2 (some .boolean), Cond.fieldLink RX5 44 "BarkNames$Wood" "treeCount" "I", Cond.static yX6_isBelow, Cond.initialized RX6, Cond.code yX6_isBelow cX6_isBelow 2 (some .boolean), Cond.methodLink RX6 242 yX6_isChoice, Cond.static yX6_isChoice, Cond.code yX6_isChoice cX6_isChoice 1 (some .boolean), Cond.methodLink RX6 162 yX6_isBelow, Cond.methodLink RX6 245 yX5_meetBehind, Cond.instanceMethod yX5_meetBehind, Cond.selects RX5 yX5_meetBehind yX5_meetBehind, Cond.code yX5_meetBehind cX5_meetBehind 3 (some .boolean), Cond.methodLink RX5 93 yX5_bothReadable, Cond.instanceMethod yX5_bothReadable]
def wsX6_meet_r2 : List Cond := [Cond.selects RX5 yX5_bothReadable yX5_bothReadable, Cond.code yX5_bothReadable cX5_bothReadable 3 (some .boolean), Cond.fieldLink RX5 21 "BarkNames$Wood" "treeOf" "[I", Cond.fieldLink RX5 30 "BarkNames$Wood" "depthOf" "[I", Cond.methodLink RX5 90 yX5_placesApart, Cond.instanceMethod yX5_placesApart, Cond.selects RX5 yX5_placesApart yX5_placesApart, Cond.code yX5_placesApart cX5_placesApart 4 (some .int), Cond.fieldLink RX5 27 "BarkNames$Wood" "placeOf" "[I", Cond.methodLink RX5 87 Lib.Math.abs.name, Cond.static Lib.Math.abs.name, Cond.initialized "java/lang/Math", Cond.code Lib.Math.abs.name Lib.Math.abs.code 1 (some .int), Cond.methodLink RX5 64 Lib.Math.min.name, Cond.static Lib.Math.min.name, Cond.code Lib.Math.min.name Lib.Math.min.code 2 (some .int)]
def wsX6_meet : List Cond := .code yX6_meet cX6_meet 7 (some .int) :: ((wsX6_meet_r1 ++ wsX6_meet_r2) ++ wsX60 ++ wsX50)
def wsX6_rings_r1 : List Cond := [Cond.fieldLink RX6 25 "BarkNames" "now" "LBarkNames$Wood;", Cond.constant RX6 62 (-1000001), Cond.fieldLink RX6 46 "BarkNames" "reading" "LBarkNames$Reading;", Cond.fieldLink RX6 134 "BarkNames$Wood" "cutCount" "I", Cond.methodLink RX6 257 Lib.Math.max.name, Cond.static Lib.Math.max.name, Cond.initialized "java/lang/Math", Cond.code Lib.Math.max.name Lib.Math.max.code 2 (some .int), Cond.methodLink RX6 159 yX5_hasTree, Cond.instanceMethod yX5_hasTree, Cond.selects RX5 yX5_hasTree yX5_hasTree, Cond.initialized RX5, Cond.code yX5_hasTree cX5_hasTree 2 (some .boolean), Cond.fieldLink RX5 44 "BarkNames$Wood" "treeCount" "I", Cond.static yX6_isBelow, Cond.initialized RX6, Cond.code yX6_isBelow cX6_isBelow 2 (some .boolean), Cond.methodLink RX6 242 yX6_isChoice, Cond.static yX6_isChoice, Cond.code yX6_isChoice cX6_isChoice 1 (some .boolean), Cond.methodLink RX6 162 yX6_isBelow, Cond.methodLink RX6 248 yX2_lookAt, Cond.instanceMethod yX2_lookAt, Cond.selects RX2 yX2_lookAt yX2_lookAt]
def wsX6_rings_r2 : List Cond := [Cond.initialized RX2, Cond.code yX2_lookAt cX2_lookAt 4 none, Cond.fieldLink RX2 9 "BarkNames$Reading" "asOneWith" "[I", Cond.fieldLink RX2 21 "BarkNames$Wood" "cutCount" "I", Cond.methodLink RX2 15 yJ7_fill_53178, Cond.static yJ7_fill_53178, Cond.initialized RJ7, Cond.code yJ7_fill_53178 cJ7_fill_53178 4 none, Cond.methodLink RX2 27 yX5_readAsOne, Cond.instanceMethod yX5_readAsOne, Cond.selects RX5 yX5_readAsOne yX5_readAsOne, Cond.code yX5_readAsOne cX5_readAsOne 3 (some .boolean), Cond.fieldLink RX5 37 "BarkNames$Wood" "wide" "I", Cond.methodLink RX5 93 yX5_bothReadable, Cond.instanceMethod yX5_bothReadable, Cond.selects RX5 yX5_bothReadable yX5_bothReadable, Cond.code yX5_bothReadable cX5_bothReadable 3 (some .boolean), Cond.fieldLink RX5 21 "BarkNames$Wood" "treeOf" "[I", Cond.fieldLink RX5 30 "BarkNames$Wood" "depthOf" "[I", Cond.methodLink RX5 96 yX5_distance, Cond.instanceMethod yX5_distance, Cond.selects RX5 yX5_distance yX5_distance, Cond.code yX5_distance cX5_distance 3 (some .int), Cond.fieldLink RX5 15 "BarkNames$Wood" "girthOf" "[I"]
def wsX6_rings_r3 : List Cond := [Cond.methodLink RX5 90 yX5_placesApart, Cond.instanceMethod yX5_placesApart, Cond.selects RX5 yX5_placesApart yX5_placesApart, Cond.code yX5_placesApart cX5_placesApart 4 (some .int), Cond.fieldLink RX5 27 "BarkNames$Wood" "placeOf" "[I", Cond.methodLink RX5 87 Lib.Math.abs.name, Cond.static Lib.Math.abs.name, Cond.code Lib.Math.abs.name Lib.Math.abs.code 1 (some .int), Cond.methodLink RX5 64 Lib.Math.min.name, Cond.static Lib.Math.min.name, Cond.code Lib.Math.min.name Lib.Math.min.code 2 (some .int), Cond.methodLink RX6 197 yX5_readableOn, Cond.instanceMethod yX5_readableOn, Cond.selects RX5 yX5_readableOn yX5_readableOn, Cond.code yX5_readableOn cX5_readableOn 4 (some .int), Cond.fieldLink RX5 47 "BarkNames$Wood" "cutCount" "I", Cond.methodLink RX5 83 yX5_readable, Cond.instanceMethod yX5_readable, Cond.selects RX5 yX5_readable yX5_readable, Cond.code yX5_readable cX5_readable 3 (some .int), Cond.methodLink RX6 251 yX6_isIn, Cond.static yX6_isIn, Cond.code yX6_isIn cX6_isIn 2 (some .boolean), Cond.methodLink RX6 254 yX2_reached]
def wsX6_rings_r4 : List Cond := [Cond.instanceMethod yX2_reached, Cond.selects RX2 yX2_reached yX2_reached, Cond.code yX2_reached cX2_reached 6 (some .int), Cond.methodLink RX2 31 yX2_nextTo, Cond.instanceMethod yX2_nextTo, Cond.selects RX2 yX2_nextTo yX2_nextTo, Cond.code yX2_nextTo cX2_nextTo 4 (some .int), Cond.methodLink RX6 154 yJ6_bitCount_0f7a4, Cond.static yJ6_bitCount_0f7a4, Cond.initialized RJ6, Cond.code yJ6_bitCount_0f7a4 cJ6_bitCount_0f7a4 1 (some .int), Cond.constant RJ6 265 (1431655765), Cond.constant RJ6 266 (858993459), Cond.constant RJ6 267 (252645135)]
def wsX6_rings : List Cond := .code yX6_rings cX6_rings 8 (some .int) :: ((wsX6_rings_r1 ++ (wsX6_rings_r2 ++ (wsX6_rings_r3 ++ wsX6_rings_r4))) ++ wsX60 ++ wsX50 ++ wsX20)
def wsX6_isTold : List Cond := .code yX6_isTold cX6_isTold 1 (some .boolean) :: ([])
def wsX6_goesSo_r1 : List Cond := [Cond.fieldLink RX6 29 "BarkNames" "tried" "LBarkNames$Wood;", Cond.fieldLink RX6 78 "BarkNames$Row" "items" "[I", Cond.methodLink RX6 147 yX5_passYear, Cond.instanceMethod yX5_passYear, Cond.selects RX5 yX5_passYear yX5_passYear, Cond.initialized RX5, Cond.code yX5_passYear cX5_passYear 3 none, Cond.fieldLink RX5 44 "BarkNames$Wood" "treeCount" "I", Cond.fieldLink RX5 15 "BarkNames$Wood" "girthOf" "[I", Cond.fieldLink RX5 9 "BarkNames$Wood" "kindOf" "[I", Cond.fieldLink RX5 41 "BarkNames$Wood" "year" "I", Cond.methodLink RX5 70 yX5_growth, Cond.instanceMethod yX5_growth, Cond.selects RX5 yX5_growth yX5_growth, Cond.code yX5_growth cX5_growth 2 (some .int), Cond.methodLink RX5 64 Lib.Math.min.name, Cond.static Lib.Math.min.name, Cond.initialized "java/lang/Math", Cond.code Lib.Math.min.name Lib.Math.min.code 2 (some .int), Cond.methodLink RX5 60 yX5_growthByKind, Cond.instanceMethod yX5_growthByKind, Cond.selects RX5 yX5_growthByKind yX5_growthByKind, Cond.code yX5_growthByKind cX5_growthByKind 4 (some .int), Cond.fieldLink RX5 18 "BarkNames$Wood" "sunOf" "[I"]
def wsX6_goesSo_r2 : List Cond := [Cond.methodLink RX5 73 yX5_closesBy, Cond.instanceMethod yX5_closesBy, Cond.selects RX5 yX5_closesBy yX5_closesBy, Cond.code yX5_closesBy cX5_closesBy 3 (some .boolean), Cond.methodLink RX5 76 yX5_closeCutsOf, Cond.instanceMethod yX5_closeCutsOf, Cond.selects RX5 yX5_closeCutsOf yX5_closeCutsOf, Cond.code yX5_closeCutsOf cX5_closeCutsOf 3 none, Cond.fieldLink RX5 47 "BarkNames$Wood" "cutCount" "I", Cond.fieldLink RX5 21 "BarkNames$Wood" "treeOf" "[I", Cond.fieldLink RX5 30 "BarkNames$Wood" "depthOf" "[I"]
def wsX6_goesSo : List Cond := .code yX6_goesSo cX6_goesSo 7 (some .boolean) :: ((wsX6_goesSo_r1 ++ wsX6_goesSo_r2) ++ wsX60 ++ wsX30 ++ wsX50)
def wsX6_gaps_r1 : List Cond := [Cond.fieldLink RX6 25 "BarkNames" "now" "LBarkNames$Wood;", Cond.constant RX6 62 (-1000001), Cond.fieldLink RX6 11 "BarkNames" "rows" "[LBarkNames$Row;", Cond.fieldLink RX6 29 "BarkNames" "tried" "LBarkNames$Wood;", Cond.fieldLink RX6 178 "BarkNames$Wood" "depthOf" "[I", Cond.methodLink RX6 175 yX5_hasCut, Cond.instanceMethod yX5_hasCut, Cond.selects RX5 yX5_hasCut yX5_hasCut, Cond.initialized RX5, Cond.code yX5_hasCut cX5_hasCut 2 (some .boolean), Cond.fieldLink RX5 47 "BarkNames$Wood" "cutCount" "I", Cond.static yX6_isBelow, Cond.initialized RX6, Cond.code yX6_isBelow cX6_isBelow 2 (some .boolean), Cond.methodLink RX6 58 yX6_isRow, Cond.static yX6_isRow, Cond.code yX6_isRow cX6_isRow 1 (some .boolean), Cond.methodLink RX6 162 yX6_isBelow, Cond.methodLink RX6 262 yX6_isTold, Cond.static yX6_isTold, Cond.code yX6_isTold cX6_isTold 1 (some .boolean), Cond.methodLink RX6 74 yX6_findingIn, Cond.static yX6_findingIn, Cond.code yX6_findingIn cX6_findingIn 3 (some .int)]
def wsX6_gaps_r2 : List Cond := [Cond.fieldLink RX6 85 "BarkNames$Row" "there" "Z", Cond.methodLink RX6 93 yX3_spans, Cond.instanceMethod yX3_spans, Cond.selects RX3 yX3_spans yX3_spans, Cond.initialized RX3, Cond.code yX3_spans cX3_spans 3 (some .boolean), Cond.fieldLink RX3 23 "BarkNames$Row" "size" "I", Cond.methodLink RX6 63 yX6_found, Cond.instanceMethod yX6_found, Cond.selects RX6 yX6_found yX6_found, Cond.code yX6_found cX6_found 2 (some .int), Cond.fieldLink RX6 314 "BarkNames" "latestFinding" "I", Cond.constant RX6 317 (-1000010), Cond.methodLink RX6 127 yX5_become, Cond.instanceMethod yX5_become, Cond.selects RX5 yX5_become yX5_become, Cond.code yX5_become cX5_become 2 none, Cond.fieldLink RX5 33 "BarkNames$Wood" "told" "Z", Cond.fieldLink RX5 37 "BarkNames$Wood" "wide" "I", Cond.fieldLink RX5 41 "BarkNames$Wood" "year" "I", Cond.fieldLink RX5 44 "BarkNames$Wood" "treeCount" "I", Cond.fieldLink RX5 9 "BarkNames$Wood" "kindOf" "[I", Cond.methodLink RX5 50 arraycopyName, Cond.native arraycopyName]
def wsX6_gaps_r3 : List Cond := [Cond.static arraycopyName, Cond.initialized "java/lang/System", Cond.fieldLink RX5 15 "BarkNames$Wood" "girthOf" "[I", Cond.fieldLink RX5 18 "BarkNames$Wood" "sunOf" "[I", Cond.fieldLink RX5 21 "BarkNames$Wood" "treeOf" "[I", Cond.fieldLink RX5 24 "BarkNames$Wood" "letterOf" "[I", Cond.fieldLink RX5 27 "BarkNames$Wood" "placeOf" "[I", Cond.fieldLink RX5 30 "BarkNames$Wood" "depthOf" "[I", Cond.methodLink RX6 265 yX6_goesSo, Cond.instanceMethod yX6_goesSo, Cond.selects RX6 yX6_goesSo yX6_goesSo, Cond.code yX6_goesSo cX6_goesSo 7 (some .boolean), Cond.fieldLink RX6 78 "BarkNames$Row" "items" "[I", Cond.methodLink RX6 147 yX5_passYear, Cond.instanceMethod yX5_passYear, Cond.selects RX5 yX5_passYear yX5_passYear, Cond.code yX5_passYear cX5_passYear 3 none, Cond.methodLink RX5 70 yX5_growth, Cond.instanceMethod yX5_growth, Cond.selects RX5 yX5_growth yX5_growth, Cond.code yX5_growth cX5_growth 2 (some .int), Cond.methodLink RX5 64 Lib.Math.min.name, Cond.static Lib.Math.min.name, Cond.initialized "java/lang/Math"]
def wsX6_gaps_r4 : List Cond := [Cond.code Lib.Math.min.name Lib.Math.min.code 2 (some .int), Cond.methodLink RX5 60 yX5_growthByKind, Cond.instanceMethod yX5_growthByKind, Cond.selects RX5 yX5_growthByKind yX5_growthByKind, Cond.code yX5_growthByKind cX5_growthByKind 4 (some .int), Cond.methodLink RX5 73 yX5_closesBy, Cond.instanceMethod yX5_closesBy, Cond.selects RX5 yX5_closesBy yX5_closesBy, Cond.code yX5_closesBy cX5_closesBy 3 (some .boolean), Cond.methodLink RX5 76 yX5_closeCutsOf, Cond.instanceMethod yX5_closeCutsOf, Cond.selects RX5 yX5_closeCutsOf yX5_closeCutsOf, Cond.code yX5_closeCutsOf cX5_closeCutsOf 3 none, Cond.methodLink RX6 71 yX6_foundNothing, Cond.instanceMethod yX6_foundNothing, Cond.selects RX6 yX6_foundNothing yX6_foundNothing, Cond.code yX6_foundNothing cX6_foundNothing 2 (some .int)]
def wsX6_gaps : List Cond := .code yX6_gaps cX6_gaps 8 (some .int) :: ((wsX6_gaps_r1 ++ (wsX6_gaps_r2 ++ (wsX6_gaps_r3 ++ wsX6_gaps_r4))) ++ wsX60 ++ wsX50 ++ wsX30)
def wsX6_kindsThatGoSo_r1 : List Cond := [Cond.fieldLink RX6 29 "BarkNames" "tried" "LBarkNames$Wood;", Cond.fieldLink RX6 25 "BarkNames" "now" "LBarkNames$Wood;", Cond.fieldLink RX6 286 "BarkNames$Wood" "kindOf" "[I", Cond.fieldLink RX6 191 "BarkNames$Wood" "girthOf" "[I", Cond.methodLink RX6 127 yX5_become, Cond.instanceMethod yX5_become, Cond.selects RX5 yX5_become yX5_become, Cond.initialized RX5, Cond.code yX5_become cX5_become 2 none, Cond.fieldLink RX5 33 "BarkNames$Wood" "told" "Z", Cond.fieldLink RX5 37 "BarkNames$Wood" "wide" "I", Cond.fieldLink RX5 41 "BarkNames$Wood" "year" "I", Cond.fieldLink RX5 44 "BarkNames$Wood" "treeCount" "I", Cond.fieldLink RX5 47 "BarkNames$Wood" "cutCount" "I", Cond.fieldLink RX5 9 "BarkNames$Wood" "kindOf" "[I", Cond.methodLink RX5 50 arraycopyName, Cond.native arraycopyName, Cond.static arraycopyName, Cond.initialized "java/lang/System", Cond.fieldLink RX5 15 "BarkNames$Wood" "girthOf" "[I", Cond.fieldLink RX5 18 "BarkNames$Wood" "sunOf" "[I", Cond.fieldLink RX5 21 "BarkNames$Wood" "treeOf" "[I", Cond.fieldLink RX5 24 "BarkNames$Wood" "letterOf" "[I", Cond.fieldLink RX5 27 "BarkNames$Wood" "placeOf" "[I"]
def wsX6_kindsThatGoSo_r2 : List Cond := [Cond.fieldLink RX5 30 "BarkNames$Wood" "depthOf" "[I", Cond.methodLink RX6 265 yX6_goesSo, Cond.instanceMethod yX6_goesSo, Cond.selects RX6 yX6_goesSo yX6_goesSo, Cond.initialized RX6, Cond.code yX6_goesSo cX6_goesSo 7 (some .boolean), Cond.fieldLink RX6 78 "BarkNames$Row" "items" "[I", Cond.methodLink RX6 147 yX5_passYear, Cond.instanceMethod yX5_passYear, Cond.selects RX5 yX5_passYear yX5_passYear, Cond.code yX5_passYear cX5_passYear 3 none, Cond.methodLink RX5 70 yX5_growth, Cond.instanceMethod yX5_growth, Cond.selects RX5 yX5_growth yX5_growth, Cond.code yX5_growth cX5_growth 2 (some .int), Cond.methodLink RX5 64 Lib.Math.min.name, Cond.static Lib.Math.min.name, Cond.initialized "java/lang/Math", Cond.code Lib.Math.min.name Lib.Math.min.code 2 (some .int), Cond.methodLink RX5 60 yX5_growthByKind, Cond.instanceMethod yX5_growthByKind, Cond.selects RX5 yX5_growthByKind yX5_growthByKind, Cond.code yX5_growthByKind cX5_growthByKind 4 (some .int), Cond.methodLink RX5 73 yX5_closesBy]
def wsX6_kindsThatGoSo_r3 : List Cond := [Cond.instanceMethod yX5_closesBy, Cond.selects RX5 yX5_closesBy yX5_closesBy, Cond.code yX5_closesBy cX5_closesBy 3 (some .boolean), Cond.methodLink RX5 76 yX5_closeCutsOf, Cond.instanceMethod yX5_closeCutsOf, Cond.selects RX5 yX5_closeCutsOf yX5_closeCutsOf, Cond.code yX5_closeCutsOf cX5_closeCutsOf 3 none]
def wsX6_kindsThatGoSo : List Cond := .code yX6_kindsThatGoSo cX6_kindsThatGoSo 7 (some .int) :: ((wsX6_kindsThatGoSo_r1 ++ (wsX6_kindsThatGoSo_r2 ++ wsX6_kindsThatGoSo_r3)) ++ wsX60 ++ wsX50 ++ wsX30)
def wsX6_sunsThatGoSo_r1 : List Cond := [Cond.fieldLink RX6 29 "BarkNames" "tried" "LBarkNames$Wood;", Cond.fieldLink RX6 25 "BarkNames" "now" "LBarkNames$Wood;", Cond.fieldLink RX6 194 "BarkNames$Wood" "sunOf" "[I", Cond.fieldLink RX6 191 "BarkNames$Wood" "girthOf" "[I", Cond.methodLink RX6 127 yX5_become, Cond.instanceMethod yX5_become, Cond.selects RX5 yX5_become yX5_become, Cond.initialized RX5, Cond.code yX5_become cX5_become 2 none, Cond.fieldLink RX5 33 "BarkNames$Wood" "told" "Z", Cond.fieldLink RX5 37 "BarkNames$Wood" "wide" "I", Cond.fieldLink RX5 41 "BarkNames$Wood" "year" "I", Cond.fieldLink RX5 44 "BarkNames$Wood" "treeCount" "I", Cond.fieldLink RX5 47 "BarkNames$Wood" "cutCount" "I", Cond.fieldLink RX5 9 "BarkNames$Wood" "kindOf" "[I", Cond.methodLink RX5 50 arraycopyName, Cond.native arraycopyName, Cond.static arraycopyName, Cond.initialized "java/lang/System", Cond.fieldLink RX5 15 "BarkNames$Wood" "girthOf" "[I", Cond.fieldLink RX5 18 "BarkNames$Wood" "sunOf" "[I", Cond.fieldLink RX5 21 "BarkNames$Wood" "treeOf" "[I", Cond.fieldLink RX5 24 "BarkNames$Wood" "letterOf" "[I", Cond.fieldLink RX5 27 "BarkNames$Wood" "placeOf" "[I"]
def wsX6_sunsThatGoSo_r2 : List Cond := [Cond.fieldLink RX5 30 "BarkNames$Wood" "depthOf" "[I", Cond.methodLink RX6 265 yX6_goesSo, Cond.instanceMethod yX6_goesSo, Cond.selects RX6 yX6_goesSo yX6_goesSo, Cond.initialized RX6, Cond.code yX6_goesSo cX6_goesSo 7 (some .boolean), Cond.fieldLink RX6 78 "BarkNames$Row" "items" "[I", Cond.methodLink RX6 147 yX5_passYear, Cond.instanceMethod yX5_passYear, Cond.selects RX5 yX5_passYear yX5_passYear, Cond.code yX5_passYear cX5_passYear 3 none, Cond.methodLink RX5 70 yX5_growth, Cond.instanceMethod yX5_growth, Cond.selects RX5 yX5_growth yX5_growth, Cond.code yX5_growth cX5_growth 2 (some .int), Cond.methodLink RX5 64 Lib.Math.min.name, Cond.static Lib.Math.min.name, Cond.initialized "java/lang/Math", Cond.code Lib.Math.min.name Lib.Math.min.code 2 (some .int), Cond.methodLink RX5 60 yX5_growthByKind, Cond.instanceMethod yX5_growthByKind, Cond.selects RX5 yX5_growthByKind yX5_growthByKind, Cond.code yX5_growthByKind cX5_growthByKind 4 (some .int), Cond.methodLink RX5 73 yX5_closesBy]
def wsX6_sunsThatGoSo_r3 : List Cond := [Cond.instanceMethod yX5_closesBy, Cond.selects RX5 yX5_closesBy yX5_closesBy, Cond.code yX5_closesBy cX5_closesBy 3 (some .boolean), Cond.methodLink RX5 76 yX5_closeCutsOf, Cond.instanceMethod yX5_closeCutsOf, Cond.selects RX5 yX5_closeCutsOf yX5_closeCutsOf, Cond.code yX5_closeCutsOf cX5_closeCutsOf 3 none]
def wsX6_sunsThatGoSo : List Cond := .code yX6_sunsThatGoSo cX6_sunsThatGoSo 7 (some .int) :: ((wsX6_sunsThatGoSo_r1 ++ (wsX6_sunsThatGoSo_r2 ++ wsX6_sunsThatGoSo_r3)) ++ wsX60 ++ wsX50 ++ wsX30)
def wsX6_which_r1 : List Cond := [Cond.fieldLink RX6 25 "BarkNames" "now" "LBarkNames$Wood;", Cond.constant RX6 62 (-1000001), Cond.fieldLink RX6 11 "BarkNames" "rows" "[LBarkNames$Row;", Cond.methodLink RX6 159 yX5_hasTree, Cond.instanceMethod yX5_hasTree, Cond.selects RX5 yX5_hasTree yX5_hasTree, Cond.initialized RX5, Cond.code yX5_hasTree cX5_hasTree 2 (some .boolean), Cond.fieldLink RX5 44 "BarkNames$Wood" "treeCount" "I", Cond.static yX6_isBelow, Cond.initialized RX6, Cond.code yX6_isBelow cX6_isBelow 2 (some .boolean), Cond.methodLink RX6 58 yX6_isRow, Cond.static yX6_isRow, Cond.code yX6_isRow cX6_isRow 1 (some .boolean), Cond.methodLink RX6 162 yX6_isBelow, Cond.methodLink RX6 262 yX6_isTold, Cond.static yX6_isTold, Cond.code yX6_isTold cX6_isTold 1 (some .boolean), Cond.methodLink RX6 242 yX6_isChoice, Cond.static yX6_isChoice, Cond.code yX6_isChoice cX6_isChoice 1 (some .boolean), Cond.methodLink RX6 74 yX6_findingIn, Cond.static yX6_findingIn]
def wsX6_which_r2 : List Cond := [Cond.code yX6_findingIn cX6_findingIn 3 (some .int), Cond.fieldLink RX6 85 "BarkNames$Row" "there" "Z", Cond.methodLink RX6 93 yX3_spans, Cond.instanceMethod yX3_spans, Cond.selects RX3 yX3_spans yX3_spans, Cond.initialized RX3, Cond.code yX3_spans cX3_spans 3 (some .boolean), Cond.fieldLink RX3 23 "BarkNames$Row" "size" "I", Cond.methodLink RX6 63 yX6_found, Cond.instanceMethod yX6_found, Cond.selects RX6 yX6_found yX6_found, Cond.code yX6_found cX6_found 2 (some .int), Cond.fieldLink RX6 314 "BarkNames" "latestFinding" "I", Cond.constant RX6 317 (-1000010), Cond.methodLink RX6 269 yX6_kindsThatGoSo, Cond.instanceMethod yX6_kindsThatGoSo, Cond.selects RX6 yX6_kindsThatGoSo yX6_kindsThatGoSo, Cond.code yX6_kindsThatGoSo cX6_kindsThatGoSo 7 (some .int), Cond.fieldLink RX6 29 "BarkNames" "tried" "LBarkNames$Wood;", Cond.fieldLink RX6 286 "BarkNames$Wood" "kindOf" "[I", Cond.fieldLink RX6 191 "BarkNames$Wood" "girthOf" "[I", Cond.methodLink RX6 127 yX5_become, Cond.instanceMethod yX5_become, Cond.selects RX5 yX5_become yX5_become]
def wsX6_which_r3 : List Cond := [Cond.code yX5_become cX5_become 2 none, Cond.fieldLink RX5 33 "BarkNames$Wood" "told" "Z", Cond.fieldLink RX5 37 "BarkNames$Wood" "wide" "I", Cond.fieldLink RX5 41 "BarkNames$Wood" "year" "I", Cond.fieldLink RX5 47 "BarkNames$Wood" "cutCount" "I", Cond.fieldLink RX5 9 "BarkNames$Wood" "kindOf" "[I", Cond.methodLink RX5 50 arraycopyName, Cond.native arraycopyName, Cond.static arraycopyName, Cond.initialized "java/lang/System", Cond.fieldLink RX5 15 "BarkNames$Wood" "girthOf" "[I", Cond.fieldLink RX5 18 "BarkNames$Wood" "sunOf" "[I", Cond.fieldLink RX5 21 "BarkNames$Wood" "treeOf" "[I", Cond.fieldLink RX5 24 "BarkNames$Wood" "letterOf" "[I", Cond.fieldLink RX5 27 "BarkNames$Wood" "placeOf" "[I", Cond.fieldLink RX5 30 "BarkNames$Wood" "depthOf" "[I", Cond.methodLink RX6 265 yX6_goesSo, Cond.instanceMethod yX6_goesSo, Cond.selects RX6 yX6_goesSo yX6_goesSo, Cond.code yX6_goesSo cX6_goesSo 7 (some .boolean), Cond.fieldLink RX6 78 "BarkNames$Row" "items" "[I", Cond.methodLink RX6 147 yX5_passYear, Cond.instanceMethod yX5_passYear, Cond.selects RX5 yX5_passYear yX5_passYear]
def wsX6_which_r4 : List Cond := [Cond.code yX5_passYear cX5_passYear 3 none, Cond.methodLink RX5 70 yX5_growth, Cond.instanceMethod yX5_growth, Cond.selects RX5 yX5_growth yX5_growth, Cond.code yX5_growth cX5_growth 2 (some .int), Cond.methodLink RX5 64 Lib.Math.min.name, Cond.static Lib.Math.min.name, Cond.initialized "java/lang/Math", Cond.code Lib.Math.min.name Lib.Math.min.code 2 (some .int), Cond.methodLink RX5 60 yX5_growthByKind, Cond.instanceMethod yX5_growthByKind, Cond.selects RX5 yX5_growthByKind yX5_growthByKind, Cond.code yX5_growthByKind cX5_growthByKind 4 (some .int), Cond.methodLink RX5 73 yX5_closesBy, Cond.instanceMethod yX5_closesBy, Cond.selects RX5 yX5_closesBy yX5_closesBy, Cond.code yX5_closesBy cX5_closesBy 3 (some .boolean), Cond.methodLink RX5 76 yX5_closeCutsOf, Cond.instanceMethod yX5_closeCutsOf, Cond.selects RX5 yX5_closeCutsOf yX5_closeCutsOf, Cond.code yX5_closeCutsOf cX5_closeCutsOf 3 none, Cond.methodLink RX6 273 yX6_sunsThatGoSo, Cond.instanceMethod yX6_sunsThatGoSo, Cond.selects RX6 yX6_sunsThatGoSo yX6_sunsThatGoSo]
def wsX6_which_r5 : List Cond := [Cond.code yX6_sunsThatGoSo cX6_sunsThatGoSo 7 (some .int), Cond.fieldLink RX6 194 "BarkNames$Wood" "sunOf" "[I", Cond.methodLink RX6 71 yX6_foundNothing, Cond.instanceMethod yX6_foundNothing, Cond.selects RX6 yX6_foundNothing yX6_foundNothing, Cond.code yX6_foundNothing cX6_foundNothing 2 (some .int)]
def wsX6_which : List Cond := .code yX6_which cX6_which 7 (some .int) :: ((wsX6_which_r1 ++ (wsX6_which_r2 ++ (wsX6_which_r3 ++ (wsX6_which_r4 ++ wsX6_which_r5)))) ++ wsX60 ++ wsX50 ++ wsX30)
def wsX6_power : List Cond := .code yX6_power cX6_power 4 (some .int) :: ([])
def wsX6_stormWays_r1 : List Cond := [Cond.fieldLink RX6 46 "BarkNames" "reading" "LBarkNames$Reading;", Cond.fieldLink RX6 25 "BarkNames" "now" "LBarkNames$Wood;", Cond.fieldLink RX6 203 "BarkNames$Wood" "treeOf" "[I", Cond.methodLink RX6 248 yX2_lookAt, Cond.instanceMethod yX2_lookAt, Cond.selects RX2 yX2_lookAt yX2_lookAt, Cond.initialized RX2, Cond.code yX2_lookAt cX2_lookAt 4 none, Cond.fieldLink RX2 9 "BarkNames$Reading" "asOneWith" "[I", Cond.fieldLink RX2 21 "BarkNames$Wood" "cutCount" "I", Cond.methodLink RX2 15 yJ7_fill_53178, Cond.static yJ7_fill_53178, Cond.initialized RJ7, Cond.code yJ7_fill_53178 cJ7_fill_53178 4 none, Cond.methodLink RX2 27 yX5_readAsOne, Cond.instanceMethod yX5_readAsOne, Cond.selects RX5 yX5_readAsOne yX5_readAsOne, Cond.initialized RX5, Cond.code yX5_readAsOne cX5_readAsOne 3 (some .boolean), Cond.fieldLink RX5 37 "BarkNames$Wood" "wide" "I", Cond.methodLink RX5 93 yX5_bothReadable, Cond.instanceMethod yX5_bothReadable, Cond.selects RX5 yX5_bothReadable yX5_bothReadable, Cond.code yX5_bothReadable cX5_bothReadable 3 (some .boolean)]
def wsX6_stormWays_r2 : List Cond := [Cond.fieldLink RX5 21 "BarkNames$Wood" "treeOf" "[I", Cond.fieldLink RX5 30 "BarkNames$Wood" "depthOf" "[I", Cond.methodLink RX5 96 yX5_distance, Cond.instanceMethod yX5_distance, Cond.selects RX5 yX5_distance yX5_distance, Cond.code yX5_distance cX5_distance 3 (some .int), Cond.fieldLink RX5 15 "BarkNames$Wood" "girthOf" "[I", Cond.methodLink RX5 90 yX5_placesApart, Cond.instanceMethod yX5_placesApart, Cond.selects RX5 yX5_placesApart yX5_placesApart, Cond.code yX5_placesApart cX5_placesApart 4 (some .int), Cond.fieldLink RX5 27 "BarkNames$Wood" "placeOf" "[I", Cond.methodLink RX5 87 Lib.Math.abs.name, Cond.static Lib.Math.abs.name, Cond.initialized "java/lang/Math", Cond.code Lib.Math.abs.name Lib.Math.abs.code 1 (some .int), Cond.methodLink RX5 64 Lib.Math.min.name, Cond.static Lib.Math.min.name, Cond.code Lib.Math.min.name Lib.Math.min.code 2 (some .int), Cond.methodLink RX6 197 yX5_readableOn, Cond.instanceMethod yX5_readableOn, Cond.selects RX5 yX5_readableOn yX5_readableOn, Cond.code yX5_readableOn cX5_readableOn 4 (some .int), Cond.fieldLink RX5 47 "BarkNames$Wood" "cutCount" "I"]
def wsX6_stormWays_r3 : List Cond := [Cond.methodLink RX5 83 yX5_readable, Cond.instanceMethod yX5_readable, Cond.selects RX5 yX5_readable yX5_readable, Cond.code yX5_readable cX5_readable 3 (some .int), Cond.methodLink RX6 251 yX6_isIn, Cond.static yX6_isIn, Cond.initialized RX6, Cond.code yX6_isIn cX6_isIn 2 (some .boolean), Cond.methodLink RX6 254 yX2_reached, Cond.instanceMethod yX2_reached, Cond.selects RX2 yX2_reached yX2_reached, Cond.code yX2_reached cX2_reached 6 (some .int), Cond.methodLink RX2 31 yX2_nextTo, Cond.instanceMethod yX2_nextTo, Cond.selects RX2 yX2_nextTo yX2_nextTo, Cond.code yX2_nextTo cX2_nextTo 4 (some .int), Cond.methodLink RX6 154 yJ6_bitCount_0f7a4, Cond.static yJ6_bitCount_0f7a4, Cond.initialized RJ6, Cond.code yJ6_bitCount_0f7a4 cJ6_bitCount_0f7a4 1 (some .int), Cond.constant RJ6 265 (1431655765), Cond.constant RJ6 266 (858993459), Cond.constant RJ6 267 (252645135), Cond.methodLink RX6 280 yX6_power]
def wsX6_stormWays_r4 : List Cond := [Cond.static yX6_power, Cond.code yX6_power cX6_power 4 (some .int)]
def wsX6_stormWays : List Cond := .code yX6_stormWays cX6_stormWays 8 (some .int) :: ((wsX6_stormWays_r1 ++ (wsX6_stormWays_r2 ++ (wsX6_stormWays_r3 ++ wsX6_stormWays_r4))) ++ wsX60 ++ wsX50 ++ wsX20)
def wsX6_greatestDivisor : List Cond := .code yX6_greatestDivisor cX6_greatestDivisor 6 (some .int) :: ([.methodLink RX6 257 Lib.Math.max.name, .static Lib.Math.max.name, .initialized "java/lang/Math", .code Lib.Math.max.name Lib.Math.max.code 2 (some .int), .methodLink RX6 321 Lib.Math.min.name, .static Lib.Math.min.name, .code Lib.Math.min.name Lib.Math.min.code 2 (some .int)])
def wsX6_storm_r1 : List Cond := [Cond.constant RX6 62 (-1000001), Cond.fieldLink RX6 25 "BarkNames" "now" "LBarkNames$Wood;", Cond.fieldLink RX6 203 "BarkNames$Wood" "treeOf" "[I", Cond.methodLink RX6 220 yX6_isPair, Cond.instanceMethod yX6_isPair, Cond.selects RX6 yX6_isPair yX6_isPair, Cond.initialized RX6, Cond.code yX6_isPair cX6_isPair 3 (some .boolean), Cond.methodLink RX6 175 yX5_hasCut, Cond.instanceMethod yX5_hasCut, Cond.selects RX5 yX5_hasCut yX5_hasCut, Cond.initialized RX5, Cond.code yX5_hasCut cX5_hasCut 2 (some .boolean), Cond.fieldLink RX5 47 "BarkNames$Wood" "cutCount" "I", Cond.static yX6_isBelow, Cond.code yX6_isBelow cX6_isBelow 2 (some .boolean), Cond.methodLink RX6 242 yX6_isChoice, Cond.static yX6_isChoice, Cond.code yX6_isChoice cX6_isChoice 1 (some .boolean), Cond.methodLink RX6 162 yX6_isBelow, Cond.methodLink RX6 276 yX6_stormWays, Cond.instanceMethod yX6_stormWays, Cond.selects RX6 yX6_stormWays yX6_stormWays, Cond.code yX6_stormWays cX6_stormWays 8 (some .int)]
def wsX6_storm_r2 : List Cond := [Cond.fieldLink RX6 46 "BarkNames" "reading" "LBarkNames$Reading;", Cond.methodLink RX6 248 yX2_lookAt, Cond.instanceMethod yX2_lookAt, Cond.selects RX2 yX2_lookAt yX2_lookAt, Cond.initialized RX2, Cond.code yX2_lookAt cX2_lookAt 4 none, Cond.fieldLink RX2 9 "BarkNames$Reading" "asOneWith" "[I", Cond.fieldLink RX2 21 "BarkNames$Wood" "cutCount" "I", Cond.methodLink RX2 15 yJ7_fill_53178, Cond.static yJ7_fill_53178, Cond.initialized RJ7, Cond.code yJ7_fill_53178 cJ7_fill_53178 4 none, Cond.methodLink RX2 27 yX5_readAsOne, Cond.instanceMethod yX5_readAsOne, Cond.selects RX5 yX5_readAsOne yX5_readAsOne, Cond.code yX5_readAsOne cX5_readAsOne 3 (some .boolean), Cond.fieldLink RX5 37 "BarkNames$Wood" "wide" "I", Cond.methodLink RX5 93 yX5_bothReadable, Cond.instanceMethod yX5_bothReadable, Cond.selects RX5 yX5_bothReadable yX5_bothReadable, Cond.code yX5_bothReadable cX5_bothReadable 3 (some .boolean), Cond.fieldLink RX5 21 "BarkNames$Wood" "treeOf" "[I", Cond.fieldLink RX5 30 "BarkNames$Wood" "depthOf" "[I", Cond.methodLink RX5 96 yX5_distance]
def wsX6_storm_r3 : List Cond := [Cond.instanceMethod yX5_distance, Cond.selects RX5 yX5_distance yX5_distance, Cond.code yX5_distance cX5_distance 3 (some .int), Cond.fieldLink RX5 15 "BarkNames$Wood" "girthOf" "[I", Cond.methodLink RX5 90 yX5_placesApart, Cond.instanceMethod yX5_placesApart, Cond.selects RX5 yX5_placesApart yX5_placesApart, Cond.code yX5_placesApart cX5_placesApart 4 (some .int), Cond.fieldLink RX5 27 "BarkNames$Wood" "placeOf" "[I", Cond.methodLink RX5 87 Lib.Math.abs.name, Cond.static Lib.Math.abs.name, Cond.initialized "java/lang/Math", Cond.code Lib.Math.abs.name Lib.Math.abs.code 1 (some .int), Cond.methodLink RX5 64 Lib.Math.min.name, Cond.static Lib.Math.min.name, Cond.code Lib.Math.min.name Lib.Math.min.code 2 (some .int), Cond.methodLink RX6 197 yX5_readableOn, Cond.instanceMethod yX5_readableOn, Cond.selects RX5 yX5_readableOn yX5_readableOn, Cond.code yX5_readableOn cX5_readableOn 4 (some .int), Cond.methodLink RX5 83 yX5_readable, Cond.instanceMethod yX5_readable, Cond.selects RX5 yX5_readable yX5_readable, Cond.code yX5_readable cX5_readable 3 (some .int)]
def wsX6_storm_r4 : List Cond := [Cond.methodLink RX6 251 yX6_isIn, Cond.static yX6_isIn, Cond.code yX6_isIn cX6_isIn 2 (some .boolean), Cond.methodLink RX6 254 yX2_reached, Cond.instanceMethod yX2_reached, Cond.selects RX2 yX2_reached yX2_reached, Cond.code yX2_reached cX2_reached 6 (some .int), Cond.methodLink RX2 31 yX2_nextTo, Cond.instanceMethod yX2_nextTo, Cond.selects RX2 yX2_nextTo yX2_nextTo, Cond.code yX2_nextTo cX2_nextTo 4 (some .int), Cond.methodLink RX6 154 yJ6_bitCount_0f7a4, Cond.static yJ6_bitCount_0f7a4, Cond.initialized RJ6, Cond.code yJ6_bitCount_0f7a4 cJ6_bitCount_0f7a4 1 (some .int), Cond.constant RJ6 265 (1431655765), Cond.constant RJ6 266 (858993459), Cond.constant RJ6 267 (252645135), Cond.methodLink RX6 280 yX6_power, Cond.static yX6_power, Cond.code yX6_power cX6_power 4 (some .int), Cond.methodLink RX6 283 yX6_greatestDivisor, Cond.static yX6_greatestDivisor, Cond.code yX6_greatestDivisor cX6_greatestDivisor 6 (some .int)]
def wsX6_storm_r5 : List Cond := [Cond.methodLink RX6 257 Lib.Math.max.name, Cond.static Lib.Math.max.name, Cond.code Lib.Math.max.name Lib.Math.max.code 2 (some .int), Cond.methodLink RX6 321 Lib.Math.min.name]
def wsX6_storm : List Cond := .code yX6_storm cX6_storm 8 (some .int) :: ((wsX6_storm_r1 ++ (wsX6_storm_r2 ++ (wsX6_storm_r3 ++ (wsX6_storm_r4 ++ wsX6_storm_r5)))) ++ wsX60 ++ wsX50 ++ wsX20)
def wsX6_image_r1 : List Cond := [Cond.constant RX6 62 (-1000001), Cond.fieldLink RX6 25 "BarkNames" "now" "LBarkNames$Wood;", Cond.fieldLink RX6 137 "BarkNames$Wood" "told" "Z", Cond.constant RX6 140 (-1000002), Cond.fieldLink RX6 32 "BarkNames" "images" "[LBarkNames$Wood;", Cond.methodLink RX6 162 yX6_isBelow, Cond.static yX6_isBelow, Cond.initialized RX6, Cond.code yX6_isBelow cX6_isBelow 2 (some .boolean), Cond.methodLink RX6 127 yX5_become, Cond.instanceMethod yX5_become, Cond.selects RX5 yX5_become yX5_become, Cond.initialized RX5, Cond.code yX5_become cX5_become 2 none, Cond.fieldLink RX5 33 "BarkNames$Wood" "told" "Z", Cond.fieldLink RX5 37 "BarkNames$Wood" "wide" "I", Cond.fieldLink RX5 41 "BarkNames$Wood" "year" "I", Cond.fieldLink RX5 44 "BarkNames$Wood" "treeCount" "I", Cond.fieldLink RX5 47 "BarkNames$Wood" "cutCount" "I", Cond.fieldLink RX5 9 "BarkNames$Wood" "kindOf" "[I", Cond.methodLink RX5 50 arraycopyName, Cond.native arraycopyName, Cond.static arraycopyName, Cond.initialized "java/lang/System"]
def wsX6_image_r2 : List Cond := [Cond.fieldLink RX5 15 "BarkNames$Wood" "girthOf" "[I", Cond.fieldLink RX5 18 "BarkNames$Wood" "sunOf" "[I", Cond.fieldLink RX5 21 "BarkNames$Wood" "treeOf" "[I", Cond.fieldLink RX5 24 "BarkNames$Wood" "letterOf" "[I", Cond.fieldLink RX5 27 "BarkNames$Wood" "placeOf" "[I", Cond.fieldLink RX5 30 "BarkNames$Wood" "depthOf" "[I"]
def wsX6_image : List Cond := .code yX6_image cX6_image 2 (some .int) :: ((wsX6_image_r1 ++ wsX6_image_r2) ++ wsX60 ++ wsX50)
def wsX6_restore_r1 : List Cond := [Cond.constant RX6 62 (-1000001), Cond.fieldLink RX6 32 "BarkNames" "images" "[LBarkNames$Wood;", Cond.fieldLink RX6 137 "BarkNames$Wood" "told" "Z", Cond.constant RX6 140 (-1000002), Cond.fieldLink RX6 25 "BarkNames" "now" "LBarkNames$Wood;", Cond.fieldLink RX6 39 "BarkNames" "past" "LBarkNames$Past;", Cond.methodLink RX6 162 yX6_isBelow, Cond.static yX6_isBelow, Cond.initialized RX6, Cond.code yX6_isBelow cX6_isBelow 2 (some .boolean), Cond.methodLink RX6 127 yX5_become, Cond.instanceMethod yX5_become, Cond.selects RX5 yX5_become yX5_become, Cond.initialized RX5, Cond.code yX5_become cX5_become 2 none, Cond.fieldLink RX5 33 "BarkNames$Wood" "told" "Z", Cond.fieldLink RX5 37 "BarkNames$Wood" "wide" "I", Cond.fieldLink RX5 41 "BarkNames$Wood" "year" "I", Cond.fieldLink RX5 44 "BarkNames$Wood" "treeCount" "I", Cond.fieldLink RX5 47 "BarkNames$Wood" "cutCount" "I", Cond.fieldLink RX5 9 "BarkNames$Wood" "kindOf" "[I", Cond.methodLink RX5 50 arraycopyName, Cond.native arraycopyName, Cond.static arraycopyName]
def wsX6_restore_r2 : List Cond := [Cond.initialized "java/lang/System", Cond.fieldLink RX5 15 "BarkNames$Wood" "girthOf" "[I", Cond.fieldLink RX5 18 "BarkNames$Wood" "sunOf" "[I", Cond.fieldLink RX5 21 "BarkNames$Wood" "treeOf" "[I", Cond.fieldLink RX5 24 "BarkNames$Wood" "letterOf" "[I", Cond.fieldLink RX5 27 "BarkNames$Wood" "placeOf" "[I", Cond.fieldLink RX5 30 "BarkNames$Wood" "depthOf" "[I", Cond.methodLink RX6 131 yX1_forget, Cond.instanceMethod yX1_forget, Cond.selects RX1 yX1_forget yX1_forget, Cond.initialized RX1, Cond.code yX1_forget cX1_forget 1 none, Cond.fieldLink RX1 26 "BarkNames$Past" "kept" "I"]
def wsX6_restore : List Cond := .code yX6_restore cX6_restore 2 (some .int) :: ((wsX6_restore_r1 ++ wsX6_restore_r2) ++ wsX60 ++ wsX50 ++ wsX10)
def wsX6_kind : List Cond := .code yX6_kind cX6_kind 2 (some .int) :: ([.fieldLink RX6 25 "BarkNames" "now" "LBarkNames$Wood;", .fieldLink RX6 286 "BarkNames$Wood" "kindOf" "[I", .constant RX6 62 (-1000001), .methodLink RX6 159 yX5_hasTree, .instanceMethod yX5_hasTree, .selects RX5 yX5_hasTree yX5_hasTree, .initialized RX5, .code yX5_hasTree cX5_hasTree 2 (some .boolean), .fieldLink RX5 44 "BarkNames$Wood" "treeCount" "I", .static yX6_isBelow, .initialized RX6, .code yX6_isBelow cX6_isBelow 2 (some .boolean)] ++ wsX60 ++ wsX50)
def wsX6_as_r1 : List Cond := [Cond.fieldLink RX6 25 "BarkNames" "now" "LBarkNames$Wood;", Cond.fieldLink RX6 289 "BarkNames" "IS_TOO" "[I", Cond.constant RX6 62 (-1000001), Cond.fieldLink RX6 286 "BarkNames$Wood" "kindOf" "[I", Cond.methodLink RX6 159 yX5_hasTree, Cond.instanceMethod yX5_hasTree, Cond.selects RX5 yX5_hasTree yX5_hasTree, Cond.initialized RX5, Cond.code yX5_hasTree cX5_hasTree 2 (some .boolean), Cond.fieldLink RX5 44 "BarkNames$Wood" "treeCount" "I", Cond.static yX6_isBelow, Cond.initialized RX6, Cond.code yX6_isBelow cX6_isBelow 2 (some .boolean), Cond.methodLink RX6 162 yX6_isBelow, Cond.methodLink RX6 292 yX6_isOfKind, Cond.static yX6_isOfKind, Cond.code yX6_isOfKind cX6_isOfKind 4 (some .boolean), Cond.methodLink RX6 71 yX6_foundNothing, Cond.instanceMethod yX6_foundNothing, Cond.selects RX6 yX6_foundNothing yX6_foundNothing, Cond.code yX6_foundNothing cX6_foundNothing 2 (some .int), Cond.fieldLink RX6 314 "BarkNames" "latestFinding" "I", Cond.methodLink RX6 63 yX6_found, Cond.instanceMethod yX6_found]
def wsX6_as_r2 : List Cond := [Cond.selects RX6 yX6_found yX6_found, Cond.code yX6_found cX6_found 2 (some .int), Cond.constant RX6 317 (-1000010)]
def wsX6_as : List Cond := .code yX6_as cX6_as 3 (some .int) :: ((wsX6_as_r1 ++ wsX6_as_r2) ++ wsX60 ++ wsX50)
def wsX6_ask_r1 : List Cond := [Cond.fieldLink RX6 25 "BarkNames" "now" "LBarkNames$Wood;", Cond.constant RX6 62 (-1000001), Cond.fieldLink RX6 53 "BarkNames" "asks" "LBarkNames$Asks;", Cond.fieldLink RX6 295 "BarkNames$Asks" "traced" "I", Cond.methodLink RX6 159 yX5_hasTree, Cond.instanceMethod yX5_hasTree, Cond.selects RX5 yX5_hasTree yX5_hasTree, Cond.initialized RX5, Cond.code yX5_hasTree cX5_hasTree 2 (some .boolean), Cond.fieldLink RX5 44 "BarkNames$Wood" "treeCount" "I", Cond.static yX6_isBelow, Cond.initialized RX6, Cond.code yX6_isBelow cX6_isBelow 2 (some .boolean), Cond.methodLink RX6 242 yX6_isChoice, Cond.static yX6_isChoice, Cond.code yX6_isChoice cX6_isChoice 1 (some .boolean), Cond.methodLink RX6 162 yX6_isBelow, Cond.methodLink RX6 298 yX0_sizeOf, Cond.instanceMethod yX0_sizeOf, Cond.selects RX0 yX0_sizeOf yX0_sizeOf, Cond.initialized RX0, Cond.code yX0_sizeOf cX0_sizeOf 3 (some .int), Cond.fieldLink RX0 15 "BarkNames$Wood" "kindOf" "[I", Cond.static yX6_isOfKind]
def wsX6_ask_r2 : List Cond := [Cond.code yX6_isOfKind cX6_isOfKind 4 (some .boolean), Cond.fieldLink RX6 289 "BarkNames" "IS_TOO" "[I", Cond.methodLink RX0 24 yX0_sizeOfBeech, Cond.instanceMethod yX0_sizeOfBeech, Cond.selects RX0 yX0_sizeOfBeech yX0_sizeOfBeech, Cond.code yX0_sizeOfBeech cX0_sizeOfBeech 5 (some .int), Cond.fieldLink RX0 38 "BarkNames$Wood" "sunOf" "[I", Cond.methodLink RX0 34 yX0_note, Cond.instanceMethod yX0_note, Cond.selects RX0 yX0_note yX0_note, Cond.code yX0_note cX0_note 2 none, Cond.fieldLink RX0 44 "BarkNames$Asks" "traced" "I", Cond.fieldLink RX0 9 "BarkNames$Asks" "numbers" "[I", Cond.methodLink RX0 31 yX0_markOfBeech, Cond.instanceMethod yX0_markOfBeech, Cond.selects RX0 yX0_markOfBeech yX0_markOfBeech, Cond.code yX0_markOfBeech cX0_markOfBeech 5 (some .int), Cond.fieldLink RX0 41 "BarkNames$Wood" "girthOf" "[I", Cond.methodLink RX0 28 yX0_sizeOfPine, Cond.instanceMethod yX0_sizeOfPine, Cond.selects RX0 yX0_sizeOfPine yX0_sizeOfPine, Cond.code yX0_sizeOfPine cX0_sizeOfPine 5 (some .int), Cond.methodLink RX6 302 yX0_markOf, Cond.instanceMethod yX0_markOf]
def wsX6_ask_r3 : List Cond := [Cond.selects RX0 yX0_markOf yX0_markOf, Cond.code yX0_markOf cX0_markOf 3 (some .int)]
def wsX6_ask : List Cond := .code yX6_ask cX6_ask 3 (some .int) :: ((wsX6_ask_r1 ++ (wsX6_ask_r2 ++ wsX6_ask_r3)) ++ wsX60 ++ wsX00 ++ wsX50)
def wsX6_trace : List Cond := .code yX6_trace cX6_trace 2 (some .int) :: ([.fieldLink RX6 53 "BarkNames" "asks" "LBarkNames$Asks;", .fieldLink RX6 295 "BarkNames$Asks" "traced" "I", .fieldLink RX6 305 "BarkNames$Asks" "numbers" "[I", .constant RX6 219 (-1000000), .methodLink RX6 162 yX6_isBelow, .static yX6_isBelow, .initialized RX6, .code yX6_isBelow cX6_isBelow 2 (some .boolean)] ++ wsX60 ++ wsX00)
def wsX6_rowsThere : List Cond := .code yX6_rowsThere cX6_rowsThere 3 (some .int) :: ([.fieldLink RX6 11 "BarkNames" "rows" "[LBarkNames$Row;", .fieldLink RX6 85 "BarkNames$Row" "there" "Z"] ++ wsX60 ++ wsX30)
def wsX6_count_r1 : List Cond := [Cond.fieldLink RX6 25 "BarkNames" "now" "LBarkNames$Wood;", Cond.fieldLink RX6 233 "BarkNames$Wood" "treeCount" "I", Cond.fieldLink RX6 134 "BarkNames$Wood" "cutCount" "I", Cond.fieldLink RX6 141 "BarkNames$Wood" "year" "I", Cond.fieldLink RX6 311 "BarkNames$Wood" "wide" "I", Cond.fieldLink RX6 39 "BarkNames" "past" "LBarkNames$Past;", Cond.fieldLink RX6 185 "BarkNames$Past" "kept" "I", Cond.fieldLink RX6 18 "BarkNames" "tape" "LBarkNames$Tape;", Cond.fieldLink RX6 109 "BarkNames$Tape" "length" "I", Cond.constant RX6 62 (-1000001), Cond.methodLink RX6 308 yX6_rowsThere, Cond.instanceMethod yX6_rowsThere, Cond.selects RX6 yX6_rowsThere yX6_rowsThere, Cond.initialized RX6, Cond.code yX6_rowsThere cX6_rowsThere 3 (some .int), Cond.fieldLink RX6 11 "BarkNames" "rows" "[LBarkNames$Row;", Cond.fieldLink RX6 85 "BarkNames$Row" "there" "Z", Cond.methodLink RX6 150 yX5_readable, Cond.instanceMethod yX5_readable, Cond.selects RX5 yX5_readable yX5_readable, Cond.initialized RX5, Cond.code yX5_readable cX5_readable 3 (some .int), Cond.fieldLink RX5 47 "BarkNames$Wood" "cutCount" "I", Cond.fieldLink RX5 30 "BarkNames$Wood" "depthOf" "[I"]
def wsX6_count_r2 : List Cond := [Cond.methodLink RX6 154 yJ6_bitCount_0f7a4, Cond.static yJ6_bitCount_0f7a4, Cond.initialized RJ6, Cond.code yJ6_bitCount_0f7a4 cJ6_bitCount_0f7a4 1 (some .int), Cond.constant RJ6 265 (1431655765), Cond.constant RJ6 266 (858993459), Cond.constant RJ6 267 (252645135)]
def wsX6_count : List Cond := .code yX6_count cX6_count 2 (some .int) :: ((wsX6_count_r1 ++ wsX6_count_r2) ++ wsX60 ++ wsX50 ++ wsX10 ++ wsX40 ++ wsX30)
def wsX6_status : List Cond := .code yX6_status cX6_status 1 (some .int) :: ([.fieldLink RX6 314 "BarkNames" "latestFinding" "I"] ++ wsX60)
def wsX7_init : List Cond := .code yX7_init cX7_init 2 none :: ([.methodLink RX7 1 objectInit, .instanceMethod objectInit, .code objectInit ⟨#[0xb1]⟩ 1 none, .arrayClass .int, .fieldLink RX7 7 "BarkNamesModel" "lane" "[I", .fieldLink RX7 13 "BarkNamesModel" "many" "[I", .fieldLink RX7 16 "BarkNamesModel" "items" "[I", .fieldLink RX7 19 "BarkNamesModel" "spare" "[I", .fieldLink RX7 22 "BarkNamesModel" "tape" "[I", .fieldLink RX7 25 "BarkNamesModel" "now" "[I", .fieldLink RX7 28 "BarkNamesModel" "draft" "[I", .fieldLink RX7 31 "BarkNamesModel" "past" "[I", .fieldLink RX7 34 "BarkNamesModel" "images" "[I", .arrayClass .boolean, .fieldLink RX7 37 "BarkNamesModel" "kept" "[Z", .fieldLink RX7 41 "BarkNamesModel" "tried" "[I", .fieldLink RX7 44 "BarkNamesModel" "trace" "[I", .constant RX7 47 (-1000000)] ++ wsX70)
def wsX7_in : List Cond := .code yX7_in cX7_in 3 (some .boolean) :: ([])
def wsX7_has : List Cond := .code yX7_has cX7_has 2 (some .boolean) :: ([])
def wsX7_ones : List Cond := .code yX7_ones cX7_ones 3 (some .int) :: ([])
def wsX7_found : List Cond := .code yX7_found cX7_found 2 (some .int) :: ([.fieldLink RX7 48 "BarkNamesModel" "status" "I", .constant RX7 52 (-1000010)] ++ wsX70)
def wsX7_well : List Cond := .code yX7_well cX7_well 2 (some .int) :: ([.fieldLink RX7 48 "BarkNamesModel" "status" "I"] ++ wsX70)
def wsX7_copies : List Cond := .code yX7_copies cX7_copies 5 none :: ([])
def wsX7_isRow : List Cond := .code yX7_isRow cX7_isRow 1 (some .boolean) :: ([.methodLink RX7 53 yX7_in, .static yX7_in, .initialized RX7, .code yX7_in cX7_in 3 (some .boolean)])
def wsX7_isMissing : List Cond := .code yX7_isMissing cX7_isMissing 2 (some .boolean) :: ([.fieldLink RX7 7 "BarkNamesModel" "lane" "[I", .constant RX7 47 (-1000000)] ++ wsX70)
def wsX7_cut : List Cond := .code yX7_cut cX7_cut 2 (some .int) :: ([])
def wsX7_row : List Cond := .code yX7_row cX7_row 5 (some .int) :: ([.constant RX7 61 (-1000001), .fieldLink RX7 7 "BarkNamesModel" "lane" "[I", .fieldLink RX7 13 "BarkNamesModel" "many" "[I", .fieldLink RX7 16 "BarkNamesModel" "items" "[I", .methodLink RX7 57 yX7_isRow, .static yX7_isRow, .initialized RX7, .code yX7_isRow cX7_isRow 1 (some .boolean), .methodLink RX7 53 yX7_in, .static yX7_in, .code yX7_in cX7_in 3 (some .boolean), .methodLink RX7 62 yX7_found, .instanceMethod yX7_found, .selects RX7 yX7_found yX7_found, .code yX7_found cX7_found 2 (some .int), .fieldLink RX7 48 "BarkNamesModel" "status" "I", .constant RX7 52 (-1000010), .methodLink RX7 66 yX7_well, .instanceMethod yX7_well, .selects RX7 yX7_well yX7_well, .code yX7_well cX7_well 2 (some .int)] ++ wsX70)
def wsX7_set_r1 : List Cond := [Cond.constant RX7 61 (-1000001), Cond.fieldLink RX7 13 "BarkNamesModel" "many" "[I", Cond.fieldLink RX7 16 "BarkNamesModel" "items" "[I", Cond.fieldLink RX7 7 "BarkNamesModel" "lane" "[I", Cond.methodLink RX7 57 yX7_isRow, Cond.static yX7_isRow, Cond.initialized RX7, Cond.code yX7_isRow cX7_isRow 1 (some .boolean), Cond.methodLink RX7 53 yX7_in, Cond.static yX7_in, Cond.code yX7_in cX7_in 3 (some .boolean), Cond.methodLink RX7 69 yX7_isMissing, Cond.instanceMethod yX7_isMissing, Cond.selects RX7 yX7_isMissing yX7_isMissing, Cond.code yX7_isMissing cX7_isMissing 2 (some .boolean), Cond.constant RX7 47 (-1000000), Cond.methodLink RX7 62 yX7_found, Cond.instanceMethod yX7_found, Cond.selects RX7 yX7_found yX7_found, Cond.code yX7_found cX7_found 2 (some .int), Cond.fieldLink RX7 48 "BarkNamesModel" "status" "I", Cond.constant RX7 52 (-1000010), Cond.methodLink RX7 72 yX7_cut, Cond.static yX7_cut]
def wsX7_set_r2 : List Cond := [Cond.code yX7_cut cX7_cut 2 (some .int), Cond.methodLink RX7 66 yX7_well, Cond.instanceMethod yX7_well, Cond.selects RX7 yX7_well yX7_well, Cond.code yX7_well cX7_well 2 (some .int)]
def wsX7_set : List Cond := .code yX7_set cX7_set 4 (some .int) :: ((wsX7_set_r1 ++ wsX7_set_r2) ++ wsX70)
def wsX7_isPart : List Cond := .code yX7_isPart cX7_isPart 4 (some .boolean) :: ([.fieldLink RX7 13 "BarkNamesModel" "many" "[I"] ++ wsX70)
def wsX7_copy_r1 : List Cond := [Cond.constant RX7 61 (-1000001), Cond.fieldLink RX7 7 "BarkNamesModel" "lane" "[I", Cond.fieldLink RX7 19 "BarkNamesModel" "spare" "[I", Cond.fieldLink RX7 16 "BarkNamesModel" "items" "[I", Cond.methodLink RX7 57 yX7_isRow, Cond.static yX7_isRow, Cond.initialized RX7, Cond.code yX7_isRow cX7_isRow 1 (some .boolean), Cond.methodLink RX7 53 yX7_in, Cond.static yX7_in, Cond.code yX7_in cX7_in 3 (some .boolean), Cond.methodLink RX7 69 yX7_isMissing, Cond.instanceMethod yX7_isMissing, Cond.selects RX7 yX7_isMissing yX7_isMissing, Cond.code yX7_isMissing cX7_isMissing 2 (some .boolean), Cond.constant RX7 47 (-1000000), Cond.methodLink RX7 62 yX7_found, Cond.instanceMethod yX7_found, Cond.selects RX7 yX7_found yX7_found, Cond.code yX7_found cX7_found 2 (some .int), Cond.fieldLink RX7 48 "BarkNamesModel" "status" "I", Cond.constant RX7 52 (-1000010), Cond.methodLink RX7 76 yX7_isPart, Cond.instanceMethod yX7_isPart]
def wsX7_copy_r2 : List Cond := [Cond.selects RX7 yX7_isPart yX7_isPart, Cond.code yX7_isPart cX7_isPart 4 (some .boolean), Cond.fieldLink RX7 13 "BarkNamesModel" "many" "[I", Cond.methodLink RX7 66 yX7_well, Cond.instanceMethod yX7_well, Cond.selects RX7 yX7_well yX7_well, Cond.code yX7_well cX7_well 2 (some .int)]
def wsX7_copy : List Cond := .code yX7_copy cX7_copy 7 (some .int) :: ((wsX7_copy_r1 ++ wsX7_copy_r2) ++ wsX70)
def wsX7_drop_r1 : List Cond := [Cond.constant RX7 61 (-1000001), Cond.fieldLink RX7 7 "BarkNamesModel" "lane" "[I", Cond.constant RX7 47 (-1000000), Cond.fieldLink RX7 13 "BarkNamesModel" "many" "[I", Cond.methodLink RX7 57 yX7_isRow, Cond.static yX7_isRow, Cond.initialized RX7, Cond.code yX7_isRow cX7_isRow 1 (some .boolean), Cond.methodLink RX7 53 yX7_in, Cond.static yX7_in, Cond.code yX7_in cX7_in 3 (some .boolean), Cond.methodLink RX7 69 yX7_isMissing, Cond.instanceMethod yX7_isMissing, Cond.selects RX7 yX7_isMissing yX7_isMissing, Cond.code yX7_isMissing cX7_isMissing 2 (some .boolean), Cond.methodLink RX7 62 yX7_found, Cond.instanceMethod yX7_found, Cond.selects RX7 yX7_found yX7_found, Cond.code yX7_found cX7_found 2 (some .int), Cond.fieldLink RX7 48 "BarkNamesModel" "status" "I", Cond.constant RX7 52 (-1000010), Cond.methodLink RX7 66 yX7_well, Cond.instanceMethod yX7_well, Cond.selects RX7 yX7_well yX7_well]
def wsX7_drop_r2 : List Cond := [Cond.code yX7_well cX7_well 2 (some .int)]
def wsX7_drop : List Cond := .code yX7_drop cX7_drop 2 (some .int) :: ((wsX7_drop_r1 ++ wsX7_drop_r2) ++ wsX70)
def wsX7_feed : List Cond := .code yX7_feed cX7_feed 2 (some .int) :: ([.constant RX7 61 (-1000001), .fieldLink RX7 79 "BarkNamesModel" "taped" "I", .constant RX7 82 (-1000003), .fieldLink RX7 22 "BarkNamesModel" "tape" "[I", .methodLink RX7 53 yX7_in, .static yX7_in, .initialized RX7, .code yX7_in cX7_in 3 (some .boolean)] ++ wsX70)
def wsX7_byteAt : List Cond := .code yX7_byteAt cX7_byteAt 2 (some .int) :: ([.fieldLink RX7 79 "BarkNamesModel" "taped" "I", .fieldLink RX7 22 "BarkNamesModel" "tape" "[I"] ++ wsX70)
def wsX7_advances : List Cond := .code yX7_advances cX7_advances 2 none :: ([.fieldLink RX7 83 "BarkNamesModel" "at" "I", .fieldLink RX7 86 "BarkNamesModel" "start" "I", .fieldLink RX7 92 "BarkNamesModel" "value" "I", .fieldLink RX7 95 "BarkNamesModel" "token" "I", .methodLink RX7 89 yX7_byteAt, .instanceMethod yX7_byteAt, .selects RX7 yX7_byteAt yX7_byteAt, .initialized RX7, .code yX7_byteAt cX7_byteAt 2 (some .int), .fieldLink RX7 79 "BarkNamesModel" "taped" "I", .fieldLink RX7 22 "BarkNamesModel" "tape" "[I", .methodLink RX7 53 yX7_in, .static yX7_in, .code yX7_in cX7_in 3 (some .boolean)] ++ wsX70)
def wsX7_isWell : List Cond := .code yX7_isWell cX7_isWell 1 (some .boolean) :: ([.fieldLink RX7 98 "BarkNamesModel" "faultPlace" "I"] ++ wsX70)
def wsX7_takes : List Cond := .code yX7_takes cX7_takes 4 (some .int) :: ([.fieldLink RX7 86 "BarkNamesModel" "start" "I", .fieldLink RX7 98 "BarkNamesModel" "faultPlace" "I", .fieldLink RX7 105 "BarkNamesModel" "faultKind" "I", .fieldLink RX7 92 "BarkNamesModel" "value" "I", .methodLink RX7 101 yX7_isWell, .instanceMethod yX7_isWell, .selects RX7 yX7_isWell yX7_isWell, .initialized RX7, .code yX7_isWell cX7_isWell 1 (some .boolean), .methodLink RX7 108 yX7_advances, .instanceMethod yX7_advances, .selects RX7 yX7_advances yX7_advances, .code yX7_advances cX7_advances 2 none, .fieldLink RX7 83 "BarkNamesModel" "at" "I", .fieldLink RX7 95 "BarkNamesModel" "token" "I", .methodLink RX7 89 yX7_byteAt, .instanceMethod yX7_byteAt, .selects RX7 yX7_byteAt yX7_byteAt, .code yX7_byteAt cX7_byteAt 2 (some .int), .fieldLink RX7 79 "BarkNamesModel" "taped" "I", .fieldLink RX7 22 "BarkNamesModel" "tape" "[I", .methodLink RX7 53 yX7_in, .static yX7_in, .code yX7_in cX7_in 3 (some .boolean)] ++ wsX70)
def wsX7_figure_r1 : List Cond := [Cond.fieldLink RX7 95 "BarkNamesModel" "token" "I", Cond.fieldLink RX7 92 "BarkNamesModel" "value" "I", Cond.methodLink RX7 101 yX7_isWell, Cond.instanceMethod yX7_isWell, Cond.selects RX7 yX7_isWell yX7_isWell, Cond.initialized RX7, Cond.code yX7_isWell cX7_isWell 1 (some .boolean), Cond.fieldLink RX7 98 "BarkNamesModel" "faultPlace" "I", Cond.methodLink RX7 111 yX7_takes, Cond.instanceMethod yX7_takes, Cond.selects RX7 yX7_takes yX7_takes, Cond.code yX7_takes cX7_takes 4 (some .int), Cond.fieldLink RX7 86 "BarkNamesModel" "start" "I", Cond.fieldLink RX7 105 "BarkNamesModel" "faultKind" "I", Cond.methodLink RX7 108 yX7_advances, Cond.instanceMethod yX7_advances, Cond.selects RX7 yX7_advances yX7_advances, Cond.code yX7_advances cX7_advances 2 none, Cond.fieldLink RX7 83 "BarkNamesModel" "at" "I", Cond.methodLink RX7 89 yX7_byteAt, Cond.instanceMethod yX7_byteAt, Cond.selects RX7 yX7_byteAt yX7_byteAt, Cond.code yX7_byteAt cX7_byteAt 2 (some .int), Cond.fieldLink RX7 79 "BarkNamesModel" "taped" "I"]
def wsX7_figure_r2 : List Cond := [Cond.fieldLink RX7 22 "BarkNamesModel" "tape" "[I", Cond.methodLink RX7 53 yX7_in, Cond.static yX7_in, Cond.code yX7_in cX7_in 3 (some .boolean)]
def wsX7_figure : List Cond := .code yX7_figure cX7_figure 3 (some .int) :: ((wsX7_figure_r1 ++ wsX7_figure_r2) ++ wsX70)
def wsX7_kindOf : List Cond := .code yX7_kindOf cX7_kindOf 1 (some .int) :: ([])
def wsX7_next_r1 : List Cond := [Cond.fieldLink RX7 95 "BarkNamesModel" "token" "I", Cond.methodLink RX7 111 yX7_takes, Cond.instanceMethod yX7_takes, Cond.selects RX7 yX7_takes yX7_takes, Cond.initialized RX7, Cond.code yX7_takes cX7_takes 4 (some .int), Cond.fieldLink RX7 86 "BarkNamesModel" "start" "I", Cond.fieldLink RX7 98 "BarkNamesModel" "faultPlace" "I", Cond.fieldLink RX7 105 "BarkNamesModel" "faultKind" "I", Cond.fieldLink RX7 92 "BarkNamesModel" "value" "I", Cond.methodLink RX7 101 yX7_isWell, Cond.instanceMethod yX7_isWell, Cond.selects RX7 yX7_isWell yX7_isWell, Cond.code yX7_isWell cX7_isWell 1 (some .boolean), Cond.methodLink RX7 108 yX7_advances, Cond.instanceMethod yX7_advances, Cond.selects RX7 yX7_advances yX7_advances, Cond.code yX7_advances cX7_advances 2 none, Cond.fieldLink RX7 83 "BarkNamesModel" "at" "I", Cond.methodLink RX7 89 yX7_byteAt, Cond.instanceMethod yX7_byteAt, Cond.selects RX7 yX7_byteAt yX7_byteAt, Cond.code yX7_byteAt cX7_byteAt 2 (some .int), Cond.fieldLink RX7 79 "BarkNamesModel" "taped" "I"]
def wsX7_next_r2 : List Cond := [Cond.fieldLink RX7 22 "BarkNamesModel" "tape" "[I", Cond.methodLink RX7 53 yX7_in, Cond.static yX7_in, Cond.code yX7_in cX7_in 3 (some .boolean), Cond.methodLink RX7 115 yX7_figure, Cond.instanceMethod yX7_figure, Cond.selects RX7 yX7_figure yX7_figure, Cond.code yX7_figure cX7_figure 3 (some .int)]
def wsX7_next : List Cond := .code yX7_next cX7_next 3 (some .int) :: ((wsX7_next_r1 ++ wsX7_next_r2) ++ wsX70)
def wsX7_readsTree_r1 : List Cond := [Cond.fieldLink RX7 92 "BarkNamesModel" "value" "I", Cond.fieldLink RX7 28 "BarkNamesModel" "draft" "[I", Cond.fieldLink RX7 95 "BarkNamesModel" "token" "I", Cond.methodLink RX7 118 yX7_kindOf, Cond.static yX7_kindOf, Cond.initialized RX7, Cond.code yX7_kindOf cX7_kindOf 1 (some .int), Cond.methodLink RX7 111 yX7_takes, Cond.instanceMethod yX7_takes, Cond.selects RX7 yX7_takes yX7_takes, Cond.code yX7_takes cX7_takes 4 (some .int), Cond.fieldLink RX7 86 "BarkNamesModel" "start" "I", Cond.fieldLink RX7 98 "BarkNamesModel" "faultPlace" "I", Cond.fieldLink RX7 105 "BarkNamesModel" "faultKind" "I", Cond.methodLink RX7 101 yX7_isWell, Cond.instanceMethod yX7_isWell, Cond.selects RX7 yX7_isWell yX7_isWell, Cond.code yX7_isWell cX7_isWell 1 (some .boolean), Cond.methodLink RX7 108 yX7_advances, Cond.instanceMethod yX7_advances, Cond.selects RX7 yX7_advances yX7_advances, Cond.code yX7_advances cX7_advances 2 none, Cond.fieldLink RX7 83 "BarkNamesModel" "at" "I", Cond.methodLink RX7 89 yX7_byteAt]
def wsX7_readsTree_r2 : List Cond := [Cond.instanceMethod yX7_byteAt, Cond.selects RX7 yX7_byteAt yX7_byteAt, Cond.code yX7_byteAt cX7_byteAt 2 (some .int), Cond.fieldLink RX7 79 "BarkNamesModel" "taped" "I", Cond.fieldLink RX7 22 "BarkNamesModel" "tape" "[I", Cond.methodLink RX7 53 yX7_in, Cond.static yX7_in, Cond.code yX7_in cX7_in 3 (some .boolean), Cond.methodLink RX7 115 yX7_figure, Cond.instanceMethod yX7_figure, Cond.selects RX7 yX7_figure yX7_figure, Cond.code yX7_figure cX7_figure 3 (some .int), Cond.methodLink RX7 121 yX7_next, Cond.instanceMethod yX7_next, Cond.selects RX7 yX7_next yX7_next, Cond.code yX7_next cX7_next 3 (some .int)]
def wsX7_readsTree : List Cond := .code yX7_readsTree cX7_readsTree 5 none :: ((wsX7_readsTree_r1 ++ wsX7_readsTree_r2) ++ wsX70)
def wsX7_isCutAt : List Cond := .code yX7_isCutAt cX7_isCutAt 5 (some .boolean) :: ([])
def wsX7_readsCut_r1 : List Cond := [Cond.fieldLink RX7 28 "BarkNamesModel" "draft" "[I", Cond.fieldLink RX7 95 "BarkNamesModel" "token" "I", Cond.fieldLink RX7 92 "BarkNamesModel" "value" "I", Cond.methodLink RX7 111 yX7_takes, Cond.instanceMethod yX7_takes, Cond.selects RX7 yX7_takes yX7_takes, Cond.initialized RX7, Cond.code yX7_takes cX7_takes 4 (some .int), Cond.fieldLink RX7 86 "BarkNamesModel" "start" "I", Cond.fieldLink RX7 98 "BarkNamesModel" "faultPlace" "I", Cond.fieldLink RX7 105 "BarkNamesModel" "faultKind" "I", Cond.methodLink RX7 101 yX7_isWell, Cond.instanceMethod yX7_isWell, Cond.selects RX7 yX7_isWell yX7_isWell, Cond.code yX7_isWell cX7_isWell 1 (some .boolean), Cond.methodLink RX7 108 yX7_advances, Cond.instanceMethod yX7_advances, Cond.selects RX7 yX7_advances yX7_advances, Cond.code yX7_advances cX7_advances 2 none, Cond.fieldLink RX7 83 "BarkNamesModel" "at" "I", Cond.methodLink RX7 89 yX7_byteAt, Cond.instanceMethod yX7_byteAt, Cond.selects RX7 yX7_byteAt yX7_byteAt, Cond.code yX7_byteAt cX7_byteAt 2 (some .int)]
def wsX7_readsCut_r2 : List Cond := [Cond.fieldLink RX7 79 "BarkNamesModel" "taped" "I", Cond.fieldLink RX7 22 "BarkNamesModel" "tape" "[I", Cond.methodLink RX7 53 yX7_in, Cond.static yX7_in, Cond.code yX7_in cX7_in 3 (some .boolean), Cond.methodLink RX7 115 yX7_figure, Cond.instanceMethod yX7_figure, Cond.selects RX7 yX7_figure yX7_figure, Cond.code yX7_figure cX7_figure 3 (some .int), Cond.methodLink RX7 121 yX7_next, Cond.instanceMethod yX7_next, Cond.selects RX7 yX7_next yX7_next, Cond.code yX7_next cX7_next 3 (some .int), Cond.methodLink RX7 124 yX7_isCutAt, Cond.static yX7_isCutAt, Cond.code yX7_isCutAt cX7_isCutAt 5 (some .boolean)]
def wsX7_readsCut : List Cond := .code yX7_readsCut cX7_readsCut 6 none :: ((wsX7_readsCut_r1 ++ wsX7_readsCut_r2) ++ wsX70)
def wsX7_wood_r1 : List Cond := [Cond.fieldLink RX7 28 "BarkNamesModel" "draft" "[I", Cond.fieldLink RX7 83 "BarkNamesModel" "at" "I", Cond.fieldLink RX7 98 "BarkNamesModel" "faultPlace" "I", Cond.fieldLink RX7 95 "BarkNamesModel" "token" "I", Cond.fieldLink RX7 92 "BarkNamesModel" "value" "I", Cond.fieldLink RX7 79 "BarkNamesModel" "taped" "I", Cond.constant RX7 134 (-1000100), Cond.fieldLink RX7 25 "BarkNamesModel" "now" "[I", Cond.fieldLink RX7 139 "BarkNamesModel" "acts" "I", Cond.methodLink RX7 108 yX7_advances, Cond.instanceMethod yX7_advances, Cond.selects RX7 yX7_advances yX7_advances, Cond.initialized RX7, Cond.code yX7_advances cX7_advances 2 none, Cond.fieldLink RX7 86 "BarkNamesModel" "start" "I", Cond.methodLink RX7 89 yX7_byteAt, Cond.instanceMethod yX7_byteAt, Cond.selects RX7 yX7_byteAt yX7_byteAt, Cond.code yX7_byteAt cX7_byteAt 2 (some .int), Cond.fieldLink RX7 22 "BarkNamesModel" "tape" "[I", Cond.methodLink RX7 53 yX7_in, Cond.static yX7_in, Cond.code yX7_in cX7_in 3 (some .boolean), Cond.methodLink RX7 111 yX7_takes]
def wsX7_wood_r2 : List Cond := [Cond.instanceMethod yX7_takes, Cond.selects RX7 yX7_takes yX7_takes, Cond.code yX7_takes cX7_takes 4 (some .int), Cond.fieldLink RX7 105 "BarkNamesModel" "faultKind" "I", Cond.methodLink RX7 101 yX7_isWell, Cond.instanceMethod yX7_isWell, Cond.selects RX7 yX7_isWell yX7_isWell, Cond.code yX7_isWell cX7_isWell 1 (some .boolean), Cond.methodLink RX7 115 yX7_figure, Cond.instanceMethod yX7_figure, Cond.selects RX7 yX7_figure yX7_figure, Cond.code yX7_figure cX7_figure 3 (some .int), Cond.methodLink RX7 118 yX7_kindOf, Cond.static yX7_kindOf, Cond.code yX7_kindOf cX7_kindOf 1 (some .int), Cond.methodLink RX7 128 yX7_readsTree, Cond.instanceMethod yX7_readsTree, Cond.selects RX7 yX7_readsTree yX7_readsTree, Cond.code yX7_readsTree cX7_readsTree 5 none, Cond.methodLink RX7 121 yX7_next, Cond.instanceMethod yX7_next, Cond.selects RX7 yX7_next yX7_next, Cond.code yX7_next cX7_next 3 (some .int), Cond.methodLink RX7 131 yX7_readsCut]
def wsX7_wood_r3 : List Cond := [Cond.instanceMethod yX7_readsCut, Cond.selects RX7 yX7_readsCut yX7_readsCut, Cond.code yX7_readsCut cX7_readsCut 6 none, Cond.methodLink RX7 124 yX7_isCutAt, Cond.static yX7_isCutAt, Cond.code yX7_isCutAt cX7_isCutAt 5 (some .boolean), Cond.methodLink RX7 135 yX7_copies, Cond.static yX7_copies, Cond.code yX7_copies cX7_copies 5 none]
def wsX7_wood : List Cond := .code yX7_wood cX7_wood 2 (some .int) :: ((wsX7_wood_r1 ++ (wsX7_wood_r2 ++ wsX7_wood_r3)) ++ wsX70)
def wsX7_fault : List Cond := .code yX7_fault cX7_fault 1 (some .int) :: ([.fieldLink RX7 105 "BarkNamesModel" "faultKind" "I"] ++ wsX70)
def wsX7_isWood : List Cond := .code yX7_isWood cX7_isWood 1 (some .boolean) :: ([.fieldLink RX7 25 "BarkNamesModel" "now" "[I"] ++ wsX70)
def wsX7_isTree : List Cond := .code yX7_isTree cX7_isTree 2 (some .boolean) :: ([.fieldLink RX7 25 "BarkNamesModel" "now" "[I", .methodLink RX7 53 yX7_in, .static yX7_in, .initialized RX7, .code yX7_in cX7_in 3 (some .boolean)] ++ wsX70)
def wsX7_isCut : List Cond := .code yX7_isCut cX7_isCut 2 (some .boolean) :: ([.fieldLink RX7 25 "BarkNamesModel" "now" "[I", .methodLink RX7 53 yX7_in, .static yX7_in, .initialized RX7, .code yX7_in cX7_in 3 (some .boolean)] ++ wsX70)
def wsX7_isFar : List Cond := .code yX7_isFar cX7_isFar 1 (some .boolean) :: ([.methodLink RX7 53 yX7_in, .static yX7_in, .initialized RX7, .code yX7_in cX7_in 3 (some .boolean)])
def wsX7_ruled : List Cond := .code yX7_ruled cX7_ruled 3 (some .int) :: ([])
def wsX7_growth : List Cond := .code yX7_growth cX7_growth 5 (some .int) :: ([.methodLink RX7 142 yX7_ruled, .static yX7_ruled, .initialized RX7, .code yX7_ruled cX7_ruled 3 (some .int)])
def wsX7_heals : List Cond := .code yX7_heals cX7_heals 3 (some .boolean) :: ([])
def wsX7_passes : List Cond := .code yX7_passes cX7_passes 7 none :: ([.methodLink RX7 146 yX7_growth, .static yX7_growth, .initialized RX7, .code yX7_growth cX7_growth 5 (some .int), .methodLink RX7 142 yX7_ruled, .static yX7_ruled, .code yX7_ruled cX7_ruled 3 (some .int), .methodLink RX7 150 yX7_heals, .static yX7_heals, .code yX7_heals cX7_heals 3 (some .boolean)])
def wsX7_tries : List Cond := .code yX7_tries cX7_tries 3 none :: ([.fieldLink RX7 25 "BarkNamesModel" "now" "[I", .fieldLink RX7 41 "BarkNamesModel" "tried" "[I", .methodLink RX7 135 yX7_copies, .static yX7_copies, .initialized RX7, .code yX7_copies cX7_copies 5 none, .methodLink RX7 153 yX7_passes, .static yX7_passes, .code yX7_passes cX7_passes 7 none, .methodLink RX7 146 yX7_growth, .static yX7_growth, .code yX7_growth cX7_growth 5 (some .int), .methodLink RX7 142 yX7_ruled, .static yX7_ruled, .code yX7_ruled cX7_ruled 3 (some .int), .methodLink RX7 150 yX7_heals, .static yX7_heals, .code yX7_heals cX7_heals 3 (some .boolean)] ++ wsX70)
def wsX7_legible : List Cond := .code yX7_legible cX7_legible 5 (some .int) :: ([.constant RX7 47 (-1000000)])
def wsX7_between : List Cond := .code yX7_between cX7_between 4 (some .int) :: ([])
def wsX7_apartIn : List Cond := .code yX7_apartIn cX7_apartIn 3 (some .int) :: ([.methodLink RX7 157 yX7_between, .static yX7_between, .initialized RX7, .code yX7_between cX7_between 4 (some .int)])
def wsX7_ringOf : List Cond := .code yX7_ringOf cX7_ringOf 7 (some .int) :: ([.methodLink RX7 161 yX7_has, .static yX7_has, .initialized RX7, .code yX7_has cX7_has 2 (some .boolean), .methodLink RX7 165 yX7_apartIn, .static yX7_apartIn, .code yX7_apartIn cX7_apartIn 3 (some .int), .methodLink RX7 157 yX7_between, .static yX7_between, .code yX7_between cX7_between 4 (some .int)])
def wsX7_areTogether : List Cond := .code yX7_areTogether cX7_areTogether 4 (some .boolean) :: ([.methodLink RX7 168 yX7_legible, .static yX7_legible, .initialized RX7, .code yX7_legible cX7_legible 5 (some .int), .constant RX7 47 (-1000000), .methodLink RX7 172 yX7_ringOf, .static yX7_ringOf, .code yX7_ringOf cX7_ringOf 7 (some .int), .methodLink RX7 161 yX7_has, .static yX7_has, .code yX7_has cX7_has 2 (some .boolean), .methodLink RX7 165 yX7_apartIn, .static yX7_apartIn, .code yX7_apartIn cX7_apartIn 3 (some .int), .methodLink RX7 157 yX7_between, .static yX7_between, .code yX7_between cX7_between 4 (some .int)])
def wsX7_notes : List Cond := .code yX7_notes cX7_notes 2 none :: ([.fieldLink RX7 139 "BarkNamesModel" "acts" "I", .fieldLink RX7 31 "BarkNamesModel" "past" "[I", .fieldLink RX7 25 "BarkNamesModel" "now" "[I", .methodLink RX7 135 yX7_copies, .static yX7_copies, .initialized RX7, .code yX7_copies cX7_copies 5 none] ++ wsX70)
def wsX7_years_r1 : List Cond := [Cond.constant RX7 178 (-1000002), Cond.constant RX7 61 (-1000001), Cond.fieldLink RX7 25 "BarkNamesModel" "now" "[I", Cond.constant RX7 82 (-1000003), Cond.constant RX7 47 (-1000000), Cond.methodLink RX7 175 yX7_isWood, Cond.instanceMethod yX7_isWood, Cond.selects RX7 yX7_isWood yX7_isWood, Cond.initialized RX7, Cond.code yX7_isWood cX7_isWood 1 (some .boolean), Cond.methodLink RX7 53 yX7_in, Cond.static yX7_in, Cond.code yX7_in cX7_in 3 (some .boolean), Cond.methodLink RX7 179 yX7_notes, Cond.instanceMethod yX7_notes, Cond.selects RX7 yX7_notes yX7_notes, Cond.code yX7_notes cX7_notes 2 none, Cond.fieldLink RX7 139 "BarkNamesModel" "acts" "I", Cond.fieldLink RX7 31 "BarkNamesModel" "past" "[I", Cond.methodLink RX7 135 yX7_copies, Cond.static yX7_copies, Cond.code yX7_copies cX7_copies 5 none, Cond.methodLink RX7 153 yX7_passes, Cond.static yX7_passes]
def wsX7_years_r2 : List Cond := [Cond.code yX7_passes cX7_passes 7 none, Cond.methodLink RX7 146 yX7_growth, Cond.static yX7_growth, Cond.code yX7_growth cX7_growth 5 (some .int), Cond.methodLink RX7 142 yX7_ruled, Cond.static yX7_ruled, Cond.code yX7_ruled cX7_ruled 3 (some .int), Cond.methodLink RX7 150 yX7_heals, Cond.static yX7_heals, Cond.code yX7_heals cX7_heals 3 (some .boolean), Cond.methodLink RX7 168 yX7_legible, Cond.static yX7_legible, Cond.code yX7_legible cX7_legible 5 (some .int), Cond.methodLink RX7 182 yX7_ones, Cond.static yX7_ones, Cond.code yX7_ones cX7_ones 3 (some .int)]
def wsX7_years : List Cond := .code yX7_years cX7_years 3 (some .int) :: ((wsX7_years_r1 ++ wsX7_years_r2) ++ wsX70)
def wsX7_cut_ : List Cond := .code yX7_cut_ cX7_cut_ 6 (some .int) :: ([.constant RX7 61 (-1000001), .fieldLink RX7 25 "BarkNamesModel" "now" "[I", .constant RX7 178 (-1000002), .constant RX7 82 (-1000003), .methodLink RX7 185 yX7_isTree, .instanceMethod yX7_isTree, .selects RX7 yX7_isTree yX7_isTree, .initialized RX7, .code yX7_isTree cX7_isTree 2 (some .boolean), .methodLink RX7 53 yX7_in, .static yX7_in, .code yX7_in cX7_in 3 (some .boolean), .methodLink RX7 124 yX7_isCutAt, .static yX7_isCutAt, .code yX7_isCutAt cX7_isCutAt 5 (some .boolean), .methodLink RX7 179 yX7_notes, .instanceMethod yX7_notes, .selects RX7 yX7_notes yX7_notes, .code yX7_notes cX7_notes 2 none, .fieldLink RX7 139 "BarkNamesModel" "acts" "I", .fieldLink RX7 31 "BarkNamesModel" "past" "[I", .methodLink RX7 135 yX7_copies, .static yX7_copies, .code yX7_copies cX7_copies 5 none] ++ wsX70)
def wsX7_anew : List Cond := .code yX7_anew cX7_anew 4 (some .int) :: ([.constant RX7 61 (-1000001), .fieldLink RX7 25 "BarkNamesModel" "now" "[I", .constant RX7 178 (-1000002), .methodLink RX7 188 yX7_isCut, .instanceMethod yX7_isCut, .selects RX7 yX7_isCut yX7_isCut, .initialized RX7, .code yX7_isCut cX7_isCut 2 (some .boolean), .methodLink RX7 53 yX7_in, .static yX7_in, .code yX7_in cX7_in 3 (some .boolean), .methodLink RX7 179 yX7_notes, .instanceMethod yX7_notes, .selects RX7 yX7_notes yX7_notes, .code yX7_notes cX7_notes 2 none, .fieldLink RX7 139 "BarkNamesModel" "acts" "I", .fieldLink RX7 31 "BarkNamesModel" "past" "[I", .methodLink RX7 135 yX7_copies, .static yX7_copies, .code yX7_copies cX7_copies 5 none] ++ wsX70)
def wsX7_scrape : List Cond := .code yX7_scrape cX7_scrape 3 (some .int) :: ([.constant RX7 61 (-1000001), .fieldLink RX7 25 "BarkNamesModel" "now" "[I", .methodLink RX7 188 yX7_isCut, .instanceMethod yX7_isCut, .selects RX7 yX7_isCut yX7_isCut, .initialized RX7, .code yX7_isCut cX7_isCut 2 (some .boolean), .methodLink RX7 53 yX7_in, .static yX7_in, .code yX7_in cX7_in 3 (some .boolean), .methodLink RX7 179 yX7_notes, .instanceMethod yX7_notes, .selects RX7 yX7_notes yX7_notes, .code yX7_notes cX7_notes 2 none, .fieldLink RX7 139 "BarkNamesModel" "acts" "I", .fieldLink RX7 31 "BarkNamesModel" "past" "[I", .methodLink RX7 135 yX7_copies, .static yX7_copies, .code yX7_copies cX7_copies 5 none] ++ wsX70)
def wsX7_undo : List Cond := .code yX7_undo cX7_undo 1 (some .int) :: ([.fieldLink RX7 139 "BarkNamesModel" "acts" "I", .constant RX7 178 (-1000002), .fieldLink RX7 31 "BarkNamesModel" "past" "[I", .fieldLink RX7 25 "BarkNamesModel" "now" "[I", .methodLink RX7 135 yX7_copies, .static yX7_copies, .initialized RX7, .code yX7_copies cX7_copies 5 none] ++ wsX70)
def wsX7_tree : List Cond := .code yX7_tree cX7_tree 4 (some .int) :: ([.constant RX7 61 (-1000001), .fieldLink RX7 25 "BarkNamesModel" "now" "[I", .methodLink RX7 185 yX7_isTree, .instanceMethod yX7_isTree, .selects RX7 yX7_isTree yX7_isTree, .initialized RX7, .code yX7_isTree cX7_isTree 2 (some .boolean), .methodLink RX7 53 yX7_in, .static yX7_in, .code yX7_in cX7_in 3 (some .boolean), .methodLink RX7 168 yX7_legible, .static yX7_legible, .code yX7_legible cX7_legible 5 (some .int), .constant RX7 47 (-1000000), .methodLink RX7 146 yX7_growth, .static yX7_growth, .code yX7_growth cX7_growth 5 (some .int), .methodLink RX7 142 yX7_ruled, .static yX7_ruled, .code yX7_ruled cX7_ruled 3 (some .int)] ++ wsX70)
def wsX7_cutHas : List Cond := .code yX7_cutHas cX7_cutHas 3 (some .int) :: ([.fieldLink RX7 25 "BarkNamesModel" "now" "[I", .constant RX7 61 (-1000001), .methodLink RX7 188 yX7_isCut, .instanceMethod yX7_isCut, .selects RX7 yX7_isCut yX7_isCut, .initialized RX7, .code yX7_isCut cX7_isCut 2 (some .boolean), .methodLink RX7 53 yX7_in, .static yX7_in, .code yX7_in cX7_in 3 (some .boolean)] ++ wsX70)
def wsX7_areOfOne : List Cond := .code yX7_areOfOne cX7_areOfOne 3 (some .boolean) :: ([.fieldLink RX7 25 "BarkNamesModel" "now" "[I", .methodLink RX7 188 yX7_isCut, .instanceMethod yX7_isCut, .selects RX7 yX7_isCut yX7_isCut, .initialized RX7, .code yX7_isCut cX7_isCut 2 (some .boolean), .methodLink RX7 53 yX7_in, .static yX7_in, .code yX7_in cX7_in 3 (some .boolean)] ++ wsX70)
def wsX7_apart : List Cond := .code yX7_apart cX7_apart 4 (some .int) :: ([.constant RX7 61 (-1000001), .fieldLink RX7 25 "BarkNamesModel" "now" "[I", .constant RX7 47 (-1000000), .methodLink RX7 188 yX7_isCut, .instanceMethod yX7_isCut, .selects RX7 yX7_isCut yX7_isCut, .initialized RX7, .code yX7_isCut cX7_isCut 2 (some .boolean), .methodLink RX7 53 yX7_in, .static yX7_in, .code yX7_in cX7_in 3 (some .boolean), .methodLink RX7 191 yX7_areOfOne, .instanceMethod yX7_areOfOne, .selects RX7 yX7_areOfOne yX7_areOfOne, .code yX7_areOfOne cX7_areOfOne 3 (some .boolean), .methodLink RX7 165 yX7_apartIn, .static yX7_apartIn, .code yX7_apartIn cX7_apartIn 3 (some .int), .methodLink RX7 157 yX7_between, .static yX7_between, .code yX7_between cX7_between 4 (some .int)] ++ wsX70)
def wsX7_together_r1 : List Cond := [Cond.constant RX7 61 (-1000001), Cond.fieldLink RX7 25 "BarkNamesModel" "now" "[I", Cond.methodLink RX7 191 yX7_areOfOne, Cond.instanceMethod yX7_areOfOne, Cond.selects RX7 yX7_areOfOne yX7_areOfOne, Cond.initialized RX7, Cond.code yX7_areOfOne cX7_areOfOne 3 (some .boolean), Cond.methodLink RX7 188 yX7_isCut, Cond.instanceMethod yX7_isCut, Cond.selects RX7 yX7_isCut yX7_isCut, Cond.code yX7_isCut cX7_isCut 2 (some .boolean), Cond.methodLink RX7 53 yX7_in, Cond.static yX7_in, Cond.code yX7_in cX7_in 3 (some .boolean), Cond.methodLink RX7 194 yX7_areTogether, Cond.static yX7_areTogether, Cond.code yX7_areTogether cX7_areTogether 4 (some .boolean), Cond.methodLink RX7 168 yX7_legible, Cond.static yX7_legible, Cond.code yX7_legible cX7_legible 5 (some .int), Cond.constant RX7 47 (-1000000), Cond.methodLink RX7 172 yX7_ringOf, Cond.static yX7_ringOf, Cond.code yX7_ringOf cX7_ringOf 7 (some .int)]
def wsX7_together_r2 : List Cond := [Cond.methodLink RX7 161 yX7_has, Cond.static yX7_has, Cond.code yX7_has cX7_has 2 (some .boolean), Cond.methodLink RX7 165 yX7_apartIn, Cond.static yX7_apartIn, Cond.code yX7_apartIn cX7_apartIn 3 (some .int), Cond.methodLink RX7 157 yX7_between, Cond.static yX7_between, Cond.code yX7_between cX7_between 4 (some .int)]
def wsX7_together : List Cond := .code yX7_together cX7_together 3 (some .int) :: ((wsX7_together_r1 ++ wsX7_together_r2) ++ wsX70)
def wsX7_girth_r1 : List Cond := [Cond.constant RX7 61 (-1000001), Cond.fieldLink RX7 41 "BarkNamesModel" "tried" "[I", Cond.methodLink RX7 185 yX7_isTree, Cond.instanceMethod yX7_isTree, Cond.selects RX7 yX7_isTree yX7_isTree, Cond.initialized RX7, Cond.code yX7_isTree cX7_isTree 2 (some .boolean), Cond.fieldLink RX7 25 "BarkNamesModel" "now" "[I", Cond.methodLink RX7 53 yX7_in, Cond.static yX7_in, Cond.code yX7_in cX7_in 3 (some .boolean), Cond.methodLink RX7 198 yX7_isFar, Cond.static yX7_isFar, Cond.code yX7_isFar cX7_isFar 1 (some .boolean), Cond.methodLink RX7 201 yX7_tries, Cond.instanceMethod yX7_tries, Cond.selects RX7 yX7_tries yX7_tries, Cond.code yX7_tries cX7_tries 3 none, Cond.methodLink RX7 135 yX7_copies, Cond.static yX7_copies, Cond.code yX7_copies cX7_copies 5 none, Cond.methodLink RX7 153 yX7_passes, Cond.static yX7_passes, Cond.code yX7_passes cX7_passes 7 none]
def wsX7_girth_r2 : List Cond := [Cond.methodLink RX7 146 yX7_growth, Cond.static yX7_growth, Cond.code yX7_growth cX7_growth 5 (some .int), Cond.methodLink RX7 142 yX7_ruled, Cond.static yX7_ruled, Cond.code yX7_ruled cX7_ruled 3 (some .int), Cond.methodLink RX7 150 yX7_heals, Cond.static yX7_heals, Cond.code yX7_heals cX7_heals 3 (some .boolean)]
def wsX7_girth : List Cond := .code yX7_girth cX7_girth 3 (some .int) :: ((wsX7_girth_r1 ++ wsX7_girth_r2) ++ wsX70)
def wsX7_left_r1 : List Cond := [Cond.constant RX7 178 (-1000002), Cond.constant RX7 61 (-1000001), Cond.fieldLink RX7 41 "BarkNamesModel" "tried" "[I", Cond.constant RX7 47 (-1000000), Cond.methodLink RX7 175 yX7_isWood, Cond.instanceMethod yX7_isWood, Cond.selects RX7 yX7_isWood yX7_isWood, Cond.initialized RX7, Cond.code yX7_isWood cX7_isWood 1 (some .boolean), Cond.fieldLink RX7 25 "BarkNamesModel" "now" "[I", Cond.methodLink RX7 198 yX7_isFar, Cond.static yX7_isFar, Cond.code yX7_isFar cX7_isFar 1 (some .boolean), Cond.methodLink RX7 53 yX7_in, Cond.static yX7_in, Cond.code yX7_in cX7_in 3 (some .boolean), Cond.methodLink RX7 201 yX7_tries, Cond.instanceMethod yX7_tries, Cond.selects RX7 yX7_tries yX7_tries, Cond.code yX7_tries cX7_tries 3 none, Cond.methodLink RX7 135 yX7_copies, Cond.static yX7_copies, Cond.code yX7_copies cX7_copies 5 none, Cond.methodLink RX7 153 yX7_passes]
def wsX7_left_r2 : List Cond := [Cond.static yX7_passes, Cond.code yX7_passes cX7_passes 7 none, Cond.methodLink RX7 146 yX7_growth, Cond.static yX7_growth, Cond.code yX7_growth cX7_growth 5 (some .int), Cond.methodLink RX7 142 yX7_ruled, Cond.static yX7_ruled, Cond.code yX7_ruled cX7_ruled 3 (some .int), Cond.methodLink RX7 150 yX7_heals, Cond.static yX7_heals, Cond.code yX7_heals cX7_heals 3 (some .boolean), Cond.methodLink RX7 168 yX7_legible, Cond.static yX7_legible, Cond.code yX7_legible cX7_legible 5 (some .int)]
def wsX7_left : List Cond := .code yX7_left cX7_left 2 (some .int) :: ((wsX7_left_r1 ++ wsX7_left_r2) ++ wsX70)
def wsX7_free_r1 : List Cond := [Cond.constant RX7 61 (-1000001), Cond.fieldLink RX7 41 "BarkNamesModel" "tried" "[I", Cond.constant RX7 47 (-1000000), Cond.methodLink RX7 191 yX7_areOfOne, Cond.instanceMethod yX7_areOfOne, Cond.selects RX7 yX7_areOfOne yX7_areOfOne, Cond.initialized RX7, Cond.code yX7_areOfOne cX7_areOfOne 3 (some .boolean), Cond.fieldLink RX7 25 "BarkNamesModel" "now" "[I", Cond.methodLink RX7 188 yX7_isCut, Cond.instanceMethod yX7_isCut, Cond.selects RX7 yX7_isCut yX7_isCut, Cond.code yX7_isCut cX7_isCut 2 (some .boolean), Cond.methodLink RX7 53 yX7_in, Cond.static yX7_in, Cond.code yX7_in cX7_in 3 (some .boolean), Cond.methodLink RX7 201 yX7_tries, Cond.instanceMethod yX7_tries, Cond.selects RX7 yX7_tries yX7_tries, Cond.code yX7_tries cX7_tries 3 none, Cond.methodLink RX7 135 yX7_copies, Cond.static yX7_copies, Cond.code yX7_copies cX7_copies 5 none, Cond.methodLink RX7 153 yX7_passes]
def wsX7_free_r2 : List Cond := [Cond.static yX7_passes, Cond.code yX7_passes cX7_passes 7 none, Cond.methodLink RX7 146 yX7_growth, Cond.static yX7_growth, Cond.code yX7_growth cX7_growth 5 (some .int), Cond.methodLink RX7 142 yX7_ruled, Cond.static yX7_ruled, Cond.code yX7_ruled cX7_ruled 3 (some .int), Cond.methodLink RX7 150 yX7_heals, Cond.static yX7_heals, Cond.code yX7_heals cX7_heals 3 (some .boolean), Cond.methodLink RX7 194 yX7_areTogether, Cond.static yX7_areTogether, Cond.code yX7_areTogether cX7_areTogether 4 (some .boolean), Cond.methodLink RX7 168 yX7_legible, Cond.static yX7_legible, Cond.code yX7_legible cX7_legible 5 (some .int), Cond.methodLink RX7 172 yX7_ringOf, Cond.static yX7_ringOf, Cond.code yX7_ringOf cX7_ringOf 7 (some .int), Cond.methodLink RX7 161 yX7_has, Cond.static yX7_has, Cond.code yX7_has cX7_has 2 (some .boolean), Cond.methodLink RX7 165 yX7_apartIn]
def wsX7_free_r3 : List Cond := [Cond.static yX7_apartIn, Cond.code yX7_apartIn cX7_apartIn 3 (some .int), Cond.methodLink RX7 157 yX7_between, Cond.static yX7_between, Cond.code yX7_between cX7_between 4 (some .int)]
def wsX7_free : List Cond := .code yX7_free cX7_free 4 (some .int) :: ((wsX7_free_r1 ++ (wsX7_free_r2 ++ wsX7_free_r3)) ++ wsX70)
def wsX7_depthIn : List Cond := .code yX7_depthIn cX7_depthIn 9 (some .int) :: ([.fieldLink RX7 25 "BarkNamesModel" "now" "[I", .methodLink RX7 146 yX7_growth, .static yX7_growth, .initialized RX7, .code yX7_growth cX7_growth 5 (some .int), .methodLink RX7 142 yX7_ruled, .static yX7_ruled, .code yX7_ruled cX7_ruled 3 (some .int), .methodLink RX7 150 yX7_heals, .static yX7_heals, .code yX7_heals cX7_heals 3 (some .boolean)] ++ wsX70)
def wsX7_holds_r1 : List Cond := [Cond.constant RX7 178 (-1000002), Cond.constant RX7 61 (-1000001), Cond.fieldLink RX7 25 "BarkNamesModel" "now" "[I", Cond.fieldLink RX7 41 "BarkNamesModel" "tried" "[I", Cond.methodLink RX7 175 yX7_isWood, Cond.instanceMethod yX7_isWood, Cond.selects RX7 yX7_isWood yX7_isWood, Cond.initialized RX7, Cond.code yX7_isWood cX7_isWood 1 (some .boolean), Cond.methodLink RX7 53 yX7_in, Cond.static yX7_in, Cond.code yX7_in cX7_in 3 (some .boolean), Cond.methodLink RX7 198 yX7_isFar, Cond.static yX7_isFar, Cond.code yX7_isFar cX7_isFar 1 (some .boolean), Cond.methodLink RX7 201 yX7_tries, Cond.instanceMethod yX7_tries, Cond.selects RX7 yX7_tries yX7_tries, Cond.code yX7_tries cX7_tries 3 none, Cond.methodLink RX7 135 yX7_copies, Cond.static yX7_copies, Cond.code yX7_copies cX7_copies 5 none, Cond.methodLink RX7 153 yX7_passes, Cond.static yX7_passes]
def wsX7_holds_r2 : List Cond := [Cond.code yX7_passes cX7_passes 7 none, Cond.methodLink RX7 146 yX7_growth, Cond.static yX7_growth, Cond.code yX7_growth cX7_growth 5 (some .int), Cond.methodLink RX7 142 yX7_ruled, Cond.static yX7_ruled, Cond.code yX7_ruled cX7_ruled 3 (some .int), Cond.methodLink RX7 150 yX7_heals, Cond.static yX7_heals, Cond.code yX7_heals cX7_heals 3 (some .boolean), Cond.methodLink RX7 205 yX7_depthIn, Cond.instanceMethod yX7_depthIn, Cond.selects RX7 yX7_depthIn yX7_depthIn, Cond.code yX7_depthIn cX7_depthIn 9 (some .int)]
def wsX7_holds : List Cond := .code yX7_holds cX7_holds 7 (some .int) :: ((wsX7_holds_r1 ++ wsX7_holds_r2) ++ wsX70)
def wsX7_deep_r1 : List Cond := [Cond.constant RX7 61 (-1000001), Cond.constant RX7 47 (-1000000), Cond.methodLink RX7 185 yX7_isTree, Cond.instanceMethod yX7_isTree, Cond.selects RX7 yX7_isTree yX7_isTree, Cond.initialized RX7, Cond.code yX7_isTree cX7_isTree 2 (some .boolean), Cond.fieldLink RX7 25 "BarkNamesModel" "now" "[I", Cond.methodLink RX7 53 yX7_in, Cond.static yX7_in, Cond.code yX7_in cX7_in 3 (some .boolean), Cond.methodLink RX7 198 yX7_isFar, Cond.static yX7_isFar, Cond.code yX7_isFar cX7_isFar 1 (some .boolean), Cond.methodLink RX7 205 yX7_depthIn, Cond.instanceMethod yX7_depthIn, Cond.selects RX7 yX7_depthIn yX7_depthIn, Cond.code yX7_depthIn cX7_depthIn 9 (some .int), Cond.methodLink RX7 146 yX7_growth, Cond.static yX7_growth, Cond.code yX7_growth cX7_growth 5 (some .int), Cond.methodLink RX7 142 yX7_ruled, Cond.static yX7_ruled, Cond.code yX7_ruled cX7_ruled 3 (some .int)]
def wsX7_deep_r2 : List Cond := [Cond.methodLink RX7 150 yX7_heals, Cond.static yX7_heals, Cond.code yX7_heals cX7_heals 3 (some .boolean)]
def wsX7_deep : List Cond := .code yX7_deep cX7_deep 4 (some .int) :: ((wsX7_deep_r1 ++ wsX7_deep_r2) ++ wsX70)
def wsX7_meet : List Cond := .code yX7_meet cX7_meet 9 (some .int) :: ([.constant RX7 61 (-1000001), .fieldLink RX7 25 "BarkNamesModel" "now" "[I", .constant RX7 47 (-1000000), .methodLink RX7 185 yX7_isTree, .instanceMethod yX7_isTree, .selects RX7 yX7_isTree yX7_isTree, .initialized RX7, .code yX7_isTree cX7_isTree 2 (some .boolean), .methodLink RX7 53 yX7_in, .static yX7_in, .code yX7_in cX7_in 3 (some .boolean), .methodLink RX7 168 yX7_legible, .static yX7_legible, .code yX7_legible cX7_legible 5 (some .int), .methodLink RX7 161 yX7_has, .static yX7_has, .code yX7_has cX7_has 2 (some .boolean), .methodLink RX7 157 yX7_between, .static yX7_between, .code yX7_between cX7_between 4 (some .int)] ++ wsX70)
def wsX7_rings_r1 : List Cond := [Cond.constant RX7 61 (-1000001), Cond.fieldLink RX7 25 "BarkNamesModel" "now" "[I", Cond.methodLink RX7 185 yX7_isTree, Cond.instanceMethod yX7_isTree, Cond.selects RX7 yX7_isTree yX7_isTree, Cond.initialized RX7, Cond.code yX7_isTree cX7_isTree 2 (some .boolean), Cond.methodLink RX7 53 yX7_in, Cond.static yX7_in, Cond.code yX7_in cX7_in 3 (some .boolean), Cond.methodLink RX7 168 yX7_legible, Cond.static yX7_legible, Cond.code yX7_legible cX7_legible 5 (some .int), Cond.constant RX7 47 (-1000000), Cond.methodLink RX7 161 yX7_has, Cond.static yX7_has, Cond.code yX7_has cX7_has 2 (some .boolean), Cond.methodLink RX7 172 yX7_ringOf, Cond.static yX7_ringOf, Cond.code yX7_ringOf cX7_ringOf 7 (some .int), Cond.methodLink RX7 165 yX7_apartIn, Cond.static yX7_apartIn, Cond.code yX7_apartIn cX7_apartIn 3 (some .int), Cond.methodLink RX7 157 yX7_between]
def wsX7_rings_r2 : List Cond := [Cond.static yX7_between, Cond.code yX7_between cX7_between 4 (some .int), Cond.methodLink RX7 182 yX7_ones, Cond.static yX7_ones, Cond.code yX7_ones cX7_ones 3 (some .int)]
def wsX7_rings : List Cond := .code yX7_rings cX7_rings 8 (some .int) :: ((wsX7_rings_r1 ++ wsX7_rings_r2) ++ wsX70)
def wsX7_gaps_r1 : List Cond := [Cond.constant RX7 61 (-1000001), Cond.fieldLink RX7 25 "BarkNamesModel" "now" "[I", Cond.fieldLink RX7 16 "BarkNamesModel" "items" "[I", Cond.methodLink RX7 188 yX7_isCut, Cond.instanceMethod yX7_isCut, Cond.selects RX7 yX7_isCut yX7_isCut, Cond.initialized RX7, Cond.code yX7_isCut cX7_isCut 2 (some .boolean), Cond.methodLink RX7 53 yX7_in, Cond.static yX7_in, Cond.code yX7_in cX7_in 3 (some .boolean), Cond.methodLink RX7 57 yX7_isRow, Cond.static yX7_isRow, Cond.code yX7_isRow cX7_isRow 1 (some .boolean), Cond.methodLink RX7 69 yX7_isMissing, Cond.instanceMethod yX7_isMissing, Cond.selects RX7 yX7_isMissing yX7_isMissing, Cond.code yX7_isMissing cX7_isMissing 2 (some .boolean), Cond.fieldLink RX7 7 "BarkNamesModel" "lane" "[I", Cond.constant RX7 47 (-1000000), Cond.methodLink RX7 62 yX7_found, Cond.instanceMethod yX7_found, Cond.selects RX7 yX7_found yX7_found, Cond.code yX7_found cX7_found 2 (some .int)]
def wsX7_gaps_r2 : List Cond := [Cond.fieldLink RX7 48 "BarkNamesModel" "status" "I", Cond.constant RX7 52 (-1000010), Cond.methodLink RX7 76 yX7_isPart, Cond.instanceMethod yX7_isPart, Cond.selects RX7 yX7_isPart yX7_isPart, Cond.code yX7_isPart cX7_isPart 4 (some .boolean), Cond.fieldLink RX7 13 "BarkNamesModel" "many" "[I", Cond.methodLink RX7 205 yX7_depthIn, Cond.instanceMethod yX7_depthIn, Cond.selects RX7 yX7_depthIn yX7_depthIn, Cond.code yX7_depthIn cX7_depthIn 9 (some .int), Cond.methodLink RX7 146 yX7_growth, Cond.static yX7_growth, Cond.code yX7_growth cX7_growth 5 (some .int), Cond.methodLink RX7 142 yX7_ruled, Cond.static yX7_ruled, Cond.code yX7_ruled cX7_ruled 3 (some .int), Cond.methodLink RX7 150 yX7_heals, Cond.static yX7_heals, Cond.code yX7_heals cX7_heals 3 (some .boolean), Cond.methodLink RX7 66 yX7_well, Cond.instanceMethod yX7_well, Cond.selects RX7 yX7_well yX7_well, Cond.code yX7_well cX7_well 2 (some .int)]
def wsX7_gaps : List Cond := .code yX7_gaps cX7_gaps 9 (some .int) :: ((wsX7_gaps_r1 ++ wsX7_gaps_r2) ++ wsX70)
def wsX7_growsSo : List Cond := .code yX7_growsSo cX7_growsSo 9 (some .boolean) :: ([.fieldLink RX7 25 "BarkNamesModel" "now" "[I", .fieldLink RX7 16 "BarkNamesModel" "items" "[I", .methodLink RX7 146 yX7_growth, .static yX7_growth, .initialized RX7, .code yX7_growth cX7_growth 5 (some .int), .methodLink RX7 142 yX7_ruled, .static yX7_ruled, .code yX7_ruled cX7_ruled 3 (some .int)] ++ wsX70)
def wsX7_which_r1 : List Cond := [Cond.constant RX7 61 (-1000001), Cond.fieldLink RX7 25 "BarkNamesModel" "now" "[I", Cond.methodLink RX7 185 yX7_isTree, Cond.instanceMethod yX7_isTree, Cond.selects RX7 yX7_isTree yX7_isTree, Cond.initialized RX7, Cond.code yX7_isTree cX7_isTree 2 (some .boolean), Cond.methodLink RX7 53 yX7_in, Cond.static yX7_in, Cond.code yX7_in cX7_in 3 (some .boolean), Cond.methodLink RX7 57 yX7_isRow, Cond.static yX7_isRow, Cond.code yX7_isRow cX7_isRow 1 (some .boolean), Cond.methodLink RX7 69 yX7_isMissing, Cond.instanceMethod yX7_isMissing, Cond.selects RX7 yX7_isMissing yX7_isMissing, Cond.code yX7_isMissing cX7_isMissing 2 (some .boolean), Cond.fieldLink RX7 7 "BarkNamesModel" "lane" "[I", Cond.constant RX7 47 (-1000000), Cond.methodLink RX7 62 yX7_found, Cond.instanceMethod yX7_found, Cond.selects RX7 yX7_found yX7_found, Cond.code yX7_found cX7_found 2 (some .int), Cond.fieldLink RX7 48 "BarkNamesModel" "status" "I"]
def wsX7_which_r2 : List Cond := [Cond.constant RX7 52 (-1000010), Cond.methodLink RX7 76 yX7_isPart, Cond.instanceMethod yX7_isPart, Cond.selects RX7 yX7_isPart yX7_isPart, Cond.code yX7_isPart cX7_isPart 4 (some .boolean), Cond.fieldLink RX7 13 "BarkNamesModel" "many" "[I", Cond.methodLink RX7 208 yX7_growsSo, Cond.instanceMethod yX7_growsSo, Cond.selects RX7 yX7_growsSo yX7_growsSo, Cond.code yX7_growsSo cX7_growsSo 9 (some .boolean), Cond.fieldLink RX7 16 "BarkNamesModel" "items" "[I", Cond.methodLink RX7 146 yX7_growth, Cond.static yX7_growth, Cond.code yX7_growth cX7_growth 5 (some .int), Cond.methodLink RX7 142 yX7_ruled, Cond.static yX7_ruled, Cond.code yX7_ruled cX7_ruled 3 (some .int), Cond.methodLink RX7 66 yX7_well, Cond.instanceMethod yX7_well, Cond.selects RX7 yX7_well yX7_well, Cond.code yX7_well cX7_well 2 (some .int)]
def wsX7_which : List Cond := .code yX7_which cX7_which 11 (some .int) :: ((wsX7_which_r1 ++ wsX7_which_r2) ++ wsX70)
def wsX7_storm_r1 : List Cond := [Cond.constant RX7 61 (-1000001), Cond.fieldLink RX7 25 "BarkNamesModel" "now" "[I", Cond.methodLink RX7 191 yX7_areOfOne, Cond.instanceMethod yX7_areOfOne, Cond.selects RX7 yX7_areOfOne yX7_areOfOne, Cond.initialized RX7, Cond.code yX7_areOfOne cX7_areOfOne 3 (some .boolean), Cond.methodLink RX7 188 yX7_isCut, Cond.instanceMethod yX7_isCut, Cond.selects RX7 yX7_isCut yX7_isCut, Cond.code yX7_isCut cX7_isCut 2 (some .boolean), Cond.methodLink RX7 53 yX7_in, Cond.static yX7_in, Cond.code yX7_in cX7_in 3 (some .boolean), Cond.methodLink RX7 168 yX7_legible, Cond.static yX7_legible, Cond.code yX7_legible cX7_legible 5 (some .int), Cond.constant RX7 47 (-1000000), Cond.methodLink RX7 161 yX7_has, Cond.static yX7_has, Cond.code yX7_has cX7_has 2 (some .boolean), Cond.methodLink RX7 194 yX7_areTogether, Cond.static yX7_areTogether, Cond.code yX7_areTogether cX7_areTogether 4 (some .boolean)]
def wsX7_storm_r2 : List Cond := [Cond.methodLink RX7 172 yX7_ringOf, Cond.static yX7_ringOf, Cond.code yX7_ringOf cX7_ringOf 7 (some .int), Cond.methodLink RX7 165 yX7_apartIn, Cond.static yX7_apartIn, Cond.code yX7_apartIn cX7_apartIn 3 (some .int), Cond.methodLink RX7 157 yX7_between, Cond.static yX7_between, Cond.code yX7_between cX7_between 4 (some .int)]
def wsX7_storm : List Cond := .code yX7_storm cX7_storm 11 (some .int) :: ((wsX7_storm_r1 ++ wsX7_storm_r2) ++ wsX70)
def wsX7_image : List Cond := .code yX7_image cX7_image 2 (some .int) :: ([.constant RX7 61 (-1000001), .constant RX7 178 (-1000002), .fieldLink RX7 25 "BarkNamesModel" "now" "[I", .fieldLink RX7 34 "BarkNamesModel" "images" "[I", .fieldLink RX7 37 "BarkNamesModel" "kept" "[Z", .methodLink RX7 53 yX7_in, .static yX7_in, .initialized RX7, .code yX7_in cX7_in 3 (some .boolean), .methodLink RX7 175 yX7_isWood, .instanceMethod yX7_isWood, .selects RX7 yX7_isWood yX7_isWood, .code yX7_isWood cX7_isWood 1 (some .boolean), .methodLink RX7 135 yX7_copies, .static yX7_copies, .code yX7_copies cX7_copies 5 none] ++ wsX70)
def wsX7_restore : List Cond := .code yX7_restore cX7_restore 2 (some .int) :: ([.constant RX7 61 (-1000001), .fieldLink RX7 37 "BarkNamesModel" "kept" "[Z", .constant RX7 178 (-1000002), .fieldLink RX7 34 "BarkNamesModel" "images" "[I", .fieldLink RX7 25 "BarkNamesModel" "now" "[I", .fieldLink RX7 139 "BarkNamesModel" "acts" "I", .methodLink RX7 53 yX7_in, .static yX7_in, .initialized RX7, .code yX7_in cX7_in 3 (some .boolean), .methodLink RX7 135 yX7_copies, .static yX7_copies, .code yX7_copies cX7_copies 5 none] ++ wsX70)
def wsX7_kindIn : List Cond := .code yX7_kindIn cX7_kindIn 2 (some .int) :: ([.fieldLink RX7 25 "BarkNamesModel" "now" "[I"] ++ wsX70)
def wsX7_kind : List Cond := .code yX7_kind cX7_kind 2 (some .int) :: ([.constant RX7 61 (-1000001), .methodLink RX7 185 yX7_isTree, .instanceMethod yX7_isTree, .selects RX7 yX7_isTree yX7_isTree, .initialized RX7, .code yX7_isTree cX7_isTree 2 (some .boolean), .fieldLink RX7 25 "BarkNamesModel" "now" "[I", .methodLink RX7 53 yX7_in, .static yX7_in, .code yX7_in cX7_in 3 (some .boolean), .methodLink RX7 212 yX7_kindIn, .instanceMethod yX7_kindIn, .selects RX7 yX7_kindIn yX7_kindIn, .code yX7_kindIn cX7_kindIn 2 (some .int)] ++ wsX70)
def wsX7_as : List Cond := .code yX7_as cX7_as 5 (some .int) :: ([.constant RX7 61 (-1000001), .methodLink RX7 185 yX7_isTree, .instanceMethod yX7_isTree, .selects RX7 yX7_isTree yX7_isTree, .initialized RX7, .code yX7_isTree cX7_isTree 2 (some .boolean), .fieldLink RX7 25 "BarkNamesModel" "now" "[I", .methodLink RX7 53 yX7_in, .static yX7_in, .code yX7_in cX7_in 3 (some .boolean), .methodLink RX7 212 yX7_kindIn, .instanceMethod yX7_kindIn, .selects RX7 yX7_kindIn yX7_kindIn, .code yX7_kindIn cX7_kindIn 2 (some .int), .methodLink RX7 66 yX7_well, .instanceMethod yX7_well, .selects RX7 yX7_well yX7_well, .code yX7_well cX7_well 2 (some .int), .fieldLink RX7 48 "BarkNamesModel" "status" "I", .methodLink RX7 62 yX7_found, .instanceMethod yX7_found, .selects RX7 yX7_found yX7_found, .code yX7_found cX7_found 2 (some .int), .constant RX7 52 (-1000010)] ++ wsX70)
def wsX7_begins : List Cond := .code yX7_begins cX7_begins 2 none :: ([.fieldLink RX7 215 "BarkNamesModel" "traced" "I", .fieldLink RX7 44 "BarkNamesModel" "trace" "[I"] ++ wsX70)
def wsX7_beechMark : List Cond := .code yX7_beechMark cX7_beechMark 4 (some .int) :: ([.fieldLink RX7 25 "BarkNamesModel" "now" "[I", .methodLink RX7 212 yX7_kindIn, .instanceMethod yX7_kindIn, .selects RX7 yX7_kindIn yX7_kindIn, .initialized RX7, .code yX7_kindIn cX7_kindIn 2 (some .int), .methodLink RX7 218 yX7_begins, .instanceMethod yX7_begins, .selects RX7 yX7_begins yX7_begins, .code yX7_begins cX7_begins 2 none, .fieldLink RX7 215 "BarkNamesModel" "traced" "I", .fieldLink RX7 44 "BarkNamesModel" "trace" "[I"] ++ wsX70)
def wsX7_pineSize : List Cond := .code yX7_pineSize cX7_pineSize 4 (some .int) :: ([.fieldLink RX7 25 "BarkNamesModel" "now" "[I", .methodLink RX7 212 yX7_kindIn, .instanceMethod yX7_kindIn, .selects RX7 yX7_kindIn yX7_kindIn, .initialized RX7, .code yX7_kindIn cX7_kindIn 2 (some .int), .methodLink RX7 218 yX7_begins, .instanceMethod yX7_begins, .selects RX7 yX7_begins yX7_begins, .code yX7_begins cX7_begins 2 none, .fieldLink RX7 215 "BarkNamesModel" "traced" "I", .fieldLink RX7 44 "BarkNamesModel" "trace" "[I"] ++ wsX70)
def wsX7_beechSize : List Cond := .code yX7_beechSize cX7_beechSize 4 (some .int) :: ([.fieldLink RX7 25 "BarkNamesModel" "now" "[I", .methodLink RX7 212 yX7_kindIn, .instanceMethod yX7_kindIn, .selects RX7 yX7_kindIn yX7_kindIn, .initialized RX7, .code yX7_kindIn cX7_kindIn 2 (some .int), .methodLink RX7 218 yX7_begins, .instanceMethod yX7_begins, .selects RX7 yX7_begins yX7_begins, .code yX7_begins cX7_begins 2 none, .fieldLink RX7 215 "BarkNamesModel" "traced" "I", .fieldLink RX7 44 "BarkNamesModel" "trace" "[I", .methodLink RX7 221 yX7_beechMark, .instanceMethod yX7_beechMark, .selects RX7 yX7_beechMark yX7_beechMark, .code yX7_beechMark cX7_beechMark 4 (some .int)] ++ wsX70)
def wsX7_pineMark : List Cond := .code yX7_pineMark cX7_pineMark 2 (some .int) :: ([.methodLink RX7 218 yX7_begins, .instanceMethod yX7_begins, .selects RX7 yX7_begins yX7_begins, .initialized RX7, .code yX7_begins cX7_begins 2 none, .fieldLink RX7 215 "BarkNamesModel" "traced" "I", .fieldLink RX7 44 "BarkNamesModel" "trace" "[I", .methodLink RX7 224 yX7_pineSize, .instanceMethod yX7_pineSize, .selects RX7 yX7_pineSize yX7_pineSize, .code yX7_pineSize cX7_pineSize 4 (some .int), .fieldLink RX7 25 "BarkNamesModel" "now" "[I", .methodLink RX7 212 yX7_kindIn, .instanceMethod yX7_kindIn, .selects RX7 yX7_kindIn yX7_kindIn, .code yX7_kindIn cX7_kindIn 2 (some .int)] ++ wsX70)
def wsX7_ask_r1 : List Cond := [Cond.constant RX7 61 (-1000001), Cond.fieldLink RX7 215 "BarkNamesModel" "traced" "I", Cond.methodLink RX7 185 yX7_isTree, Cond.instanceMethod yX7_isTree, Cond.selects RX7 yX7_isTree yX7_isTree, Cond.initialized RX7, Cond.code yX7_isTree cX7_isTree 2 (some .boolean), Cond.fieldLink RX7 25 "BarkNamesModel" "now" "[I", Cond.methodLink RX7 53 yX7_in, Cond.static yX7_in, Cond.code yX7_in cX7_in 3 (some .boolean), Cond.methodLink RX7 212 yX7_kindIn, Cond.instanceMethod yX7_kindIn, Cond.selects RX7 yX7_kindIn yX7_kindIn, Cond.code yX7_kindIn cX7_kindIn 2 (some .int), Cond.methodLink RX7 224 yX7_pineSize, Cond.instanceMethod yX7_pineSize, Cond.selects RX7 yX7_pineSize yX7_pineSize, Cond.code yX7_pineSize cX7_pineSize 4 (some .int), Cond.methodLink RX7 218 yX7_begins, Cond.instanceMethod yX7_begins, Cond.selects RX7 yX7_begins yX7_begins, Cond.code yX7_begins cX7_begins 2 none, Cond.fieldLink RX7 44 "BarkNamesModel" "trace" "[I"]
def wsX7_ask_r2 : List Cond := [Cond.methodLink RX7 227 yX7_beechSize, Cond.instanceMethod yX7_beechSize, Cond.selects RX7 yX7_beechSize yX7_beechSize, Cond.code yX7_beechSize cX7_beechSize 4 (some .int), Cond.methodLink RX7 221 yX7_beechMark, Cond.instanceMethod yX7_beechMark, Cond.selects RX7 yX7_beechMark yX7_beechMark, Cond.code yX7_beechMark cX7_beechMark 4 (some .int), Cond.methodLink RX7 230 yX7_pineMark, Cond.instanceMethod yX7_pineMark, Cond.selects RX7 yX7_pineMark yX7_pineMark, Cond.code yX7_pineMark cX7_pineMark 2 (some .int)]
def wsX7_ask : List Cond := .code yX7_ask cX7_ask 4 (some .int) :: ((wsX7_ask_r1 ++ wsX7_ask_r2) ++ wsX70)
def wsX7_trace : List Cond := .code yX7_trace cX7_trace 2 (some .int) :: ([.fieldLink RX7 215 "BarkNamesModel" "traced" "I", .fieldLink RX7 44 "BarkNamesModel" "trace" "[I", .constant RX7 47 (-1000000), .methodLink RX7 53 yX7_in, .static yX7_in, .initialized RX7, .code yX7_in cX7_in 3 (some .boolean)] ++ wsX70)
def wsX7_count : List Cond := .code yX7_count cX7_count 4 (some .int) :: ([.fieldLink RX7 25 "BarkNamesModel" "now" "[I", .constant RX7 47 (-1000000), .fieldLink RX7 139 "BarkNamesModel" "acts" "I", .fieldLink RX7 79 "BarkNamesModel" "taped" "I", .constant RX7 61 (-1000001), .methodLink RX7 69 yX7_isMissing, .instanceMethod yX7_isMissing, .selects RX7 yX7_isMissing yX7_isMissing, .initialized RX7, .code yX7_isMissing cX7_isMissing 2 (some .boolean), .fieldLink RX7 7 "BarkNamesModel" "lane" "[I", .methodLink RX7 168 yX7_legible, .static yX7_legible, .code yX7_legible cX7_legible 5 (some .int), .methodLink RX7 182 yX7_ones, .static yX7_ones, .code yX7_ones cX7_ones 3 (some .int)] ++ wsX70)
def wsX7_status : List Cond := .code yX7_status cX7_status 1 (some .int) :: ([.fieldLink RX7 48 "BarkNamesModel" "status" "I"] ++ wsX70)
def wsJ9_abs_0f7a4 : List Cond := .code yJ9_abs_0f7a4 cJ9_abs_0f7a4 1 (some .int) :: ([])
def wsJ9_max_7cf53 : List Cond := .code yJ9_max_7cf53 cJ9_max_7cf53 2 (some .int) :: ([])
def wsJ9_min_7cf53 : List Cond := .code yJ9_min_7cf53 cJ9_min_7cf53 2 (some .int) :: ([])
abbrev vwCl : List vw_C := [(RX0, TX0, 2), (RX1, TX1, 3), (RX2, TX2, 1), (RX3, TX3, 4), (RX4, TX4, 5), (RX5, TX5, 12), (RX6, TX6, 10), (RX7, TX7, 22)]
end
section
/-! numbers: an int of the machine as an Int; iv is its Value, Rg its range -/
def Rg (x : Int) : Prop := -2147483648 ≤ x ∧ x < 2147483648
def wr (x : Int) : Int := (Int32.ofInt x).toInt
def iv (x : Int) : Value := .int (Int32.ofInt x)
theorem Rg_ti (x : Int32) : Rg x.toInt := ⟨Int32.le_toInt x, Int32.toInt_lt x⟩
theorem Rg_wr (x : Int) : Rg (wr x) := Rg_ti _
theorem oi_ti {x : Int} (h : Rg x) : (Int32.ofInt x).toInt = x := Int32.toInt_ofInt_of_le h.1 h.2
theorem wr_of {x : Int} (h1 : -2147483648 ≤ x) (h2 : x < 2147483648) : wr x = x := oi_ti ⟨h1, h2⟩
theorem oi_wr (x : Int) : Int32.ofInt (wr x) = Int32.ofInt x := Int32.ofInt_toInt _
theorem iv_wr (x : Int) : iv (wr x) = iv x := congrArg Value.int (oi_wr x)
theorem iv_ti (x : Int32) : iv x.toInt = .int x := congrArg Value.int (Int32.ofInt_toInt x)
theorem iv_oi (x : Int32) {y : Int} (h : x.toInt = y) : Value.int x = iv y := by rw [← h, iv_ti]
theorem oi_lt {x y : Int} (hx : Rg x) (hy : Rg y) : Int32.ofInt x < Int32.ofInt y ↔ x < y := by rw [Int32.lt_iff_toInt_lt, oi_ti hx, oi_ti hy]
theorem oi_le {x y : Int} (hx : Rg x) (hy : Rg y) : Int32.ofInt x ≤ Int32.ofInt y ↔ x ≤ y := by rw [Int32.le_iff_toInt_le, oi_ti hx, oi_ti hy]
theorem oi_eq {x y : Int} (hx : Rg x) (hy : Rg y) : Int32.ofInt x = Int32.ofInt y ↔ x = y := by rw [← Int32.toInt_inj, oi_ti hx, oi_ti hy]
theorem Rg_0 : Rg 0 := ⟨by decide, by decide⟩
theorem Rg_c {n : Int} (h : (decide (-2147483648 ≤ n) && decide (n < 2147483648)) = true) : Rg n := by
  rw [Bool.and_eq_true, decide_eq_true_eq, decide_eq_true_eq] at h
  exact h
theorem oi_0 : Int32.ofInt 0 = 0 := by decide
theorem oi_nat {x : Int} (h0 : 0 ≤ x) (hx : Rg x) : (Int32.ofInt x).toNatClampNeg = x.toNat := by
  have h : (Int32.ofInt x).toInt.toNat = x.toNat := by rw [oi_ti hx]
  exact h
theorem oi_in {x : Int} {n : Nat} (hx : Rg x) (h : 0 ≤ x ∧ x < (n : Int)) : vp_in (Int32.ofInt x) n := vp_in_iff.mpr (by rw [oi_ti hx]; exact h)
/-- the operations, as the machine has them, said of Ints -/
def qdiv (x y : Int) : Int := wr (Int.tdiv x y)
def qrem (x y : Int) : Int := wr (x - Int.tdiv x y * y)
def qand (x y : Int) : Int := (Int32.ofInt x &&& Int32.ofInt y).toInt
def qor (x y : Int) : Int := (Int32.ofInt x ||| Int32.ofInt y).toInt
def qxor (x y : Int) : Int := (Int32.ofInt x ^^^ Int32.ofInt y).toInt
def qshl (x y : Int) : Int := (Int32.ofInt x <<< (Int32.ofInt y &&& 31)).toInt
def qshr (x y : Int) : Int := (Int32.ofInt x >>> (Int32.ofInt y &&& 31)).toInt
def qushr (x y : Int) : Int := ((Int32.ofInt x).toUInt32 >>> ((Int32.ofInt y).toUInt32 &&& Int32.toUInt32 31)).toInt32.toInt
def qi8 (x : Int) : Int := (Int32.ofInt x).toInt8.toInt32.toInt
def qi16 (x : Int) : Int := (Int32.ofInt x).toInt16.toInt32.toInt
def qmax (x y : Int) : Int := if x < y then y else x
def qmin (x y : Int) : Int := if y < x then y else x
def qabs (x : Int) : Int := wr (if 0 ≤ x then x else 0 - x)
theorem Rg_qdiv (x y : Int) : Rg (qdiv x y) := Rg_wr _
theorem Rg_qrem (x y : Int) : Rg (qrem x y) := Rg_wr _
theorem Rg_qand (x y : Int) : Rg (qand x y) := Rg_ti _
theorem Rg_qor (x y : Int) : Rg (qor x y) := Rg_ti _
theorem Rg_qxor (x y : Int) : Rg (qxor x y) := Rg_ti _
theorem Rg_qshl (x y : Int) : Rg (qshl x y) := Rg_ti _
theorem Rg_qshr (x y : Int) : Rg (qshr x y) := Rg_ti _
theorem Rg_qushr (x y : Int) : Rg (qushr x y) := Rg_ti _
theorem Rg_qi8 (x : Int) : Rg (qi8 x) := Rg_ti _
theorem Rg_qi16 (x : Int) : Rg (qi16 x) := Rg_ti _
theorem Rg_qabs (x : Int) : Rg (qabs x) := Rg_wr _
theorem Rg_qmax {x y : Int} (hx : Rg x) (hy : Rg y) : Rg (qmax x y) := by unfold qmax; split <;> assumption
theorem Rg_qmin {x y : Int} (hx : Rg x) (hy : Rg y) : Rg (qmin x y) := by unfold qmin; split <;> assumption
theorem oi_add (x y : Int) : Int32.ofInt x + Int32.ofInt y = Int32.ofInt (wr (x + y)) := by rw [oi_wr, Int32.ofInt_add]
theorem oi_sub (x y : Int) : Int32.ofInt x - Int32.ofInt y = Int32.ofInt (wr (x - y)) := by rw [oi_wr, Int32.ofInt_sub]
theorem oi_mul (x y : Int) : Int32.ofInt x * Int32.ofInt y = Int32.ofInt (wr (x * y)) := by rw [oi_wr, Int32.ofInt_mul]
theorem oi_neg (x : Int) : -Int32.ofInt x = Int32.ofInt (wr (-x)) := by rw [oi_wr, Int32.ofInt_neg]
theorem oi_div {x y : Int} (hx : Rg x) (hy : Rg y) : Int32.ofInt x / Int32.ofInt y = Int32.ofInt (qdiv x y) := by
  rw [qdiv, oi_wr]
  apply Int32.toInt_inj.mp
  rw [Int32.toInt_div, oi_ti hx, oi_ti hy, Int32.toInt_ofInt]
theorem oi_rem {x y : Int} (hx : Rg x) (hy : Rg y) : Int32.ofInt x - Int32.ofInt x / Int32.ofInt y * Int32.ofInt y = Int32.ofInt (qrem x y) := by
  rw [oi_div hx hy, qdiv, oi_wr, qrem, oi_wr, Int32.ofInt_sub, Int32.ofInt_mul]
theorem oi_abs {x : Int} (hx : Rg x) : Int32.ofInt (qabs x) = if 0 ≤ Int32.ofInt x then Int32.ofInt x else 0 - Int32.ofInt x := by
  have h := oi_le Rg_0 hx
  rw [oi_0] at h
  unfold qabs
  rw [oi_wr]
  simp only [h]
  split
  · rfl
  · rw [Int32.ofInt_sub, oi_0]
theorem oi_max {x y : Int} (hx : Rg x) (hy : Rg y) : Int32.ofInt (qmax x y) = if Int32.ofInt x < Int32.ofInt y then Int32.ofInt y else Int32.ofInt x := by
  unfold qmax
  simp only [oi_lt hx hy]
  split <;> rfl
theorem oi_min {x y : Int} (hx : Rg x) (hy : Rg y) : Int32.ofInt (qmin x y) = if Int32.ofInt y < Int32.ofInt x then Int32.ofInt y else Int32.ofInt x := by
  unfold qmin
  simp only [oi_lt hy hx]
  split <;> rfl
/-! the heap of ints: sort, number, place -/
abbrev Hp : Type := Nat → Nat → Nat → Int
def RgS (σ : Hp) : Prop := ∀ s j k, Rg (σ s j k)
def hup (σ : Hp) (s j k : Nat) (v : Int) : Hp := fun s' j' k' => if s' = s ∧ j' = j ∧ k' = k then v else σ s' j' k'
def hcp (σ : Hp) (s j sp s2 j2 dp n : Nat) : Hp := fun s' j' k' => if (s' = s2 ∧ j' = j2) ∧ dp ≤ k' ∧ k' < dp + n then σ s j (sp + (k' - dp)) else σ s' j' k'
theorem RgS_hup {σ : Hp} (h : RgS σ) {s j k : Nat} {v : Int} (hv : Rg v) : RgS (hup σ s j k v) := by
  intro a b c
  unfold hup
  split
  · exact hv
  · exact h a b c
theorem RgS_hcp {σ : Hp} (h : RgS σ) {s j sp s2 j2 dp n : Nat} : RgS (hcp σ s j sp s2 j2 dp n) := by
  intro a b c
  unfold hcp
  split
  · exact h _ _ _
  · exact h a b c
/-! partial programs: a guard, a call -/
def gd {α : Type} (c : Prop) [Decidable c] (k : Option α) : Option α := if c then k else none
def cl (o : Option (Int × Hp)) (k : Int → Hp → Option (Int × Hp)) : Option (Int × Hp) := match o with
  | none => none
  | some x => k x.1 x.2
/-- a value by name -/
def sq {α β : Type} (a : α) (k : α → β) : β := k a
theorem sq_ex {α β : Type} {a : α} {k : α → β} {r : β} (h : sq a k = r) : ∃ b, b = a ∧ k b = r := ⟨a, rfl, h⟩
def FU : Nat := 100000
theorem FU_eq : FU = 100000 := rfl
theorem gd_some {α : Type} {c : Prop} [Decidable c] {k : Option α} {r : α} (h : gd c k = some r) : c ∧ k = some r := by
  unfold gd at h
  split at h
  · exact ⟨by assumption, h⟩
  · cases h
theorem gd_pos {α : Type} {c : Prop} [Decidable c] {k : Option α} (h : c) : gd c k = k := if_pos h
theorem cl_some {o : Option (Int × Hp)} {k : Int → Hp → Option (Int × Hp)} {res : Int × Hp} (h : cl o k = some res) : ∃ (r : Int) (σ' : Hp), o = some (r, σ') ∧ k r σ' = some res := by
  unfold cl at h
  split at h
  · cases h
  · exact ⟨_, _, rfl, h⟩
theorem cl_pos (r : Int) (σ : Hp) (k : Int → Hp → Option (Int × Hp)) : cl (some (r, σ)) k = k r σ := rfl
/-! the world -/
abbrev GT : Type := va_G × (Nat → Nat → Nat) × ClassId × ClassId × ClassId × ClassId × Nat
def rf (G : GT) (s j : Nat) : Value := .ref (G.2.1 s j)
def ai (G : GT) (σ : Hp) (s j n : Nat) : va_E := .inl (G.2.2.1, n, .inl (fun k => Int32.ofInt (σ s j k)))
def ent (G : GT) (σ : Hp) : Nat → Nat → va_E
  | 0, j => .inr (0, [rf G 8 0, iv (σ 0 j 1)])
  | 1, j => .inr (1, [rf G 9 0, iv (σ 1 j 1), iv (σ 1 j 2)])
  | 2, _ => .inr (2, [rf G 10 0])
  | 3, j => .inr (3, [rf G 11 j, iv (σ 3 j 1), iv (σ 3 j 2), iv (σ 3 j 3)])
  | 4, j => .inr (4, [rf G 12 0, iv (σ 4 j 1), iv (σ 4 j 2), iv (σ 4 j 3), iv (σ 4 j 4)])
  | 5, j => .inr (5, [rf G 13 j, rf G 14 j, rf G 15 j, rf G 16 j, rf G 17 j, rf G 18 j, rf G 19 j, iv (σ 5 j 7), iv (σ 5 j 8), iv (σ 5 j 9), iv (σ 5 j 10), iv (σ 5 j 11)])
  | 6, j => .inr (6, [rf G 20 0, rf G 4 0, rf G 5 0, rf G 5 1, rf G 21 0, rf G 1 0, rf G 2 0, rf G 0 0, iv (σ 6 j 8), iv (σ 6 j 9)])
  | 7, j => .inr (7, [rf G 22 0, rf G 23 0, rf G 24 0, rf G 25 0, iv (σ 7 j 4), rf G 26 0, iv (σ 7 j 6), iv (σ 7 j 7), iv (σ 7 j 8), iv (σ 7 j 9), iv (σ 7 j 10), iv (σ 7 j 11), iv (σ 7 j 12), rf G 27 0, rf G 28 0, rf G 29 0, iv (σ 7 j 16), rf G 30 0, rf G 31 0, rf G 32 0, rf G 33 0, iv (σ 7 j 21)])
  | 8, j => ai G σ 8 j 16
  | 9, _ => .inl (G.2.2.2.2.2.1, 24, .inr (.inr (.inr (.inr (fun i => some (G.2.1 5 (4 + i)))))))
  | 10, j => ai G σ 10 j 8
  | 11, j => ai G σ 11 j 40
  | 12, j => ai G σ 12 j 140
  | 13, j => ai G σ 13 j 4
  | 14, j => ai G σ 14 j 4
  | 15, j => ai G σ 15 j 4
  | 16, j => ai G σ 16 j 8
  | 17, j => ai G σ 17 j 8
  | 18, j => ai G σ 18 j 8
  | 19, j => ai G σ 19 j 8
  | 20, _ => .inl (G.2.2.2.2.1, 8, .inr (.inr (.inr (.inr (fun i => some (G.2.1 3 i))))))
  | 21, _ => .inl (G.2.2.2.2.2.1, 2, .inr (.inr (.inr (.inr (fun i => some (G.2.1 5 (2 + i)))))))
  | 22, j => ai G σ 22 j 8
  | 23, j => ai G σ 23 j 8
  | 24, j => ai G σ 24 j 320
  | 25, j => ai G σ 25 j 40
  | 26, j => ai G σ 26 j 140
  | 27, j => ai G σ 27 j 48
  | 28, j => ai G σ 28 j 48
  | 29, j => ai G σ 29 j 1152
  | 30, j => ai G σ 30 j 96
  | 31, j => .inl (G.2.2.2.1, 2, .inl (fun k => Int32.ofInt (σ 31 j k)))
  | 32, j => ai G σ 32 j 48
  | 33, j => ai G σ 33 j 16
  | _, _ => .inr (0, [])
/-- int arrays: how long, by sort -/
def alen : Nat → Nat
  | 8 => 16 | 10 => 8 | 11 => 40 | 12 => 140 | 13 => 4 | 14 => 4 | 15 => 4 | 16 => 8 | 17 => 8 | 18 => 8 | 19 => 8
  | 22 => 8 | 23 => 8 | 24 => 320 | 25 => 40 | 26 => 140 | 27 => 48 | 28 => 48 | 29 => 1152 | 30 => 96 | 32 => 48 | 33 => 16
  | _ => 0
def cnt : Nat → Nat
  | 3 => 8 | 11 => 8 | 5 => 28 | 13 => 28 | 14 => 28 | 15 => 28 | 16 => 28 | 17 => 28 | 18 => 28 | 19 => 28
  | s => if s < 34 then 1 else 0
def InD (s j : Nat) : Prop := s < 34 ∧ j < cnt s
theorem ent_ai {G : GT} {σ : Hp} {s j : Nat} (h : 0 < alen s) : ent G σ s j = ai G σ s j (alen s) := by
  unfold alen at h ⊢
  split at h <;> first | rfl | (exact absurd h (Nat.lt_irrefl 0))
def dom : List (Nat × Nat) := (List.range 34).flatMap (fun s => (List.range (cnt s)).map (fun j => (s, j)))
def wld (G : GT) (σ : Hp) : va_W := dom.map (fun a => (G.2.1 a.1 a.2, ent G σ a.1 a.2))
theorem dom_in {s j : Nat} (h : InD s j) : (s, j) ∈ dom := List.mem_flatMap.mpr ⟨s, List.mem_range.mpr h.1, List.mem_map.mpr ⟨j, List.mem_range.mpr h.2, rfl⟩⟩
theorem dom_of {a : Nat × Nat} (h : a ∈ dom) : InD a.1 a.2 := by
  obtain ⟨s, hs, h2⟩ := List.mem_flatMap.mp h
  obtain ⟨j, hj, rfl⟩ := List.mem_map.mp h2
  exact ⟨List.mem_range.mp hs, List.mem_range.mp hj⟩
theorem wld_k {G : GT} {σ : Hp} {k : Nat} {s j : Nat} (h : dom[k]? = some (s, j)) : (wld G σ)[k]? = some (G.2.1 s j, ent G σ s j) := by
  unfold wld
  rw [List.getElem?_map, h]
  rfl
theorem wld_at {s j : Nat} (h : InD s j) : ∃ k : Nat, dom[k]? = some (s, j) := List.getElem?_of_mem (dom_in h)
theorem wld_of {G : GT} {σ : Hp} {k : Nat} {q : Nat × va_E} (h : (wld G σ)[k]? = some q) : ∃ s j, InD s j ∧ dom[k]? = some (s, j) ∧ q = (G.2.1 s j, ent G σ s j) := by
  unfold wld at h
  rw [List.getElem?_map] at h
  cases hd : dom[k]? with
  | none => rw [hd] at h; cases h
  | some a =>
    rw [hd] at h
    obtain ⟨s, j⟩ := a
    exact ⟨s, j, dom_of (List.mem_of_getElem? hd), rfl, (Option.some.inj h).symm⟩
def AA (G : GT) : Nat → Prop := fun q => ∃ s j, InD s j ∧ q = G.2.1 s j
/-- the addresses are apart -/
def GI (G : GT) : Prop := ∀ s j s' j', InD s j → InD s' j' → G.2.1 s j = G.2.1 s' j' → s = s' ∧ j = j'
theorem dom_nd : dom.Nodup := by decide +kernel
theorem wld_D {G : GT} {σ : Hp} {A : Nat → Prop} (hG : GI G) (hA : ∀ q, AA G q → A q) : va_D A (wld G σ) := by
  refine ⟨fun i j p q hi hj hpq => ?_, fun k q hk => ?_⟩
  · obtain ⟨s, a, h1, h2, rfl⟩ := wld_of hi
    obtain ⟨s', a', h3, h4, rfl⟩ := wld_of hj
    obtain ⟨rfl, rfl⟩ := hG _ _ _ _ h1 h3 hpq
    have hi' := (List.getElem?_eq_some_iff.mp h2).1
    exact (List.getElem?_inj hi' dom_nd).mp (h2.trans h4.symm)
  · obtain ⟨s, a, h1, h2, rfl⟩ := wld_of hk
    exact hA _ ⟨s, a, h1, rfl⟩
theorem ent_cg {G : GT} {σ σ' : Hp} {s j : Nat} (h : σ s j = σ' s j) : ent G σ s j = ent G σ' s j := by
  unfold ent
  split <;> first | rfl | (simp only [ai, h])
theorem wld_set {G : GT} {σ σ' : Hp} {k s j : Nat} {e : va_E} (hk : dom[k]? = some (s, j)) (he : e = ent G σ' s j) (hσ : ∀ s' j', ¬ (s' = s ∧ j' = j) → σ s' j' = σ' s' j') : (wld G σ).set k (G.2.1 s j, e) = wld G σ' := by
  subst he
  apply List.ext_getElem?
  intro i
  by_cases hi : i = k
  · subst hi
    rw [List.getElem?_set_self (List.getElem?_eq_some_iff.mp (wld_k (G := G) (σ := σ) hk)).1, wld_k hk]
  · rw [List.getElem?_set_ne (Ne.symm hi)]
    unfold wld
    rw [List.getElem?_map, List.getElem?_map]
    cases hd : dom[i]? with
    | none => rfl
    | some a =>
      obtain ⟨s', j'⟩ := a
      show some (G.2.1 s' j', ent G σ s' j') = some (G.2.1 s' j', ent G σ' s' j')
      rw [ent_cg (hσ s' j' (fun h => ?_))]
      obtain ⟨rfl, rfl⟩ := h
      have hi' := (List.getElem?_eq_some_iff.mp hd).1
      exact hi ((List.getElem?_inj hi' dom_nd).mp (hd.trans hk.symm))
theorem Rg_alen (s : Nat) : Rg (alen s : Int) := by
  unfold alen
  split <;> exact Rg_c rfl
theorem nz_b {x : Int} (h : x = 0 ∨ x = 1) : narrow .boolean (iv x) = iv x := by rcases h with rfl | rfl <;> decide
theorem fz_b {x : Int} (h : x = 0 ∨ x = 1) : fits .boolean (iv x) = true := by rcases h with rfl | rfl <;> decide
theorem lk_out {off : Int} {ps : List (Int × Int)} {d x : Int} (h : Op.lookupswitch.offset ps d x = off) : Op.lookupswitch.offset ps d x = off := h
theorem iD0 : InD 0 0 := ⟨by decide, by decide⟩
theorem iD1 : InD 1 0 := ⟨by decide, by decide⟩
theorem iD2 : InD 2 0 := ⟨by decide, by decide⟩
theorem iM3 {j : Nat} (h : j < 8) : InD 3 j := ⟨by decide, h⟩
theorem iD4 : InD 4 0 := ⟨by decide, by decide⟩
theorem iM5 {j : Nat} (h : j < 28) : InD 5 j := ⟨by decide, h⟩
theorem iD6 : InD 6 0 := ⟨by decide, by decide⟩
theorem iD7 : InD 7 0 := ⟨by decide, by decide⟩
theorem iD8 : InD 8 0 := ⟨by decide, by decide⟩
theorem iD9 : InD 9 0 := ⟨by decide, by decide⟩
theorem iD10 : InD 10 0 := ⟨by decide, by decide⟩
theorem iM11 {j : Nat} (h : j < 8) : InD 11 j := ⟨by decide, h⟩
theorem iD12 : InD 12 0 := ⟨by decide, by decide⟩
theorem iM13 {j : Nat} (h : j < 28) : InD 13 j := ⟨by decide, h⟩
theorem iM14 {j : Nat} (h : j < 28) : InD 14 j := ⟨by decide, h⟩
theorem iM15 {j : Nat} (h : j < 28) : InD 15 j := ⟨by decide, h⟩
theorem iM16 {j : Nat} (h : j < 28) : InD 16 j := ⟨by decide, h⟩
theorem iM17 {j : Nat} (h : j < 28) : InD 17 j := ⟨by decide, h⟩
theorem iM18 {j : Nat} (h : j < 28) : InD 18 j := ⟨by decide, h⟩
theorem iM19 {j : Nat} (h : j < 28) : InD 19 j := ⟨by decide, h⟩
theorem iD20 : InD 20 0 := ⟨by decide, by decide⟩
theorem iD21 : InD 21 0 := ⟨by decide, by decide⟩
theorem iD22 : InD 22 0 := ⟨by decide, by decide⟩
theorem iD23 : InD 23 0 := ⟨by decide, by decide⟩
theorem iD24 : InD 24 0 := ⟨by decide, by decide⟩
theorem iD25 : InD 25 0 := ⟨by decide, by decide⟩
theorem iD26 : InD 26 0 := ⟨by decide, by decide⟩
theorem iD27 : InD 27 0 := ⟨by decide, by decide⟩
theorem iD28 : InD 28 0 := ⟨by decide, by decide⟩
theorem iD29 : InD 29 0 := ⟨by decide, by decide⟩
theorem iD30 : InD 30 0 := ⟨by decide, by decide⟩
theorem iD31 : InD 31 0 := ⟨by decide, by decide⟩
theorem iD32 : InD 32 0 := ⟨by decide, by decide⟩
theorem iD33 : InD 33 0 := ⟨by decide, by decide⟩
/-! the judgement: from any heap that holds the world of σ, at pc with these locals and this stack, the machine comes to Q -/
def nsts : List (String × Nat × MethodName) := [("BarkNames", 17, yX4_init), ("BarkNames", 24, yX5_init), ("BarkNames$Past", 17, yX5_init), ("BarkNames", 45, yX2_init), ("BarkNames", 52, yX0_init), ("BarkNames", 57, yX3_init), ("BarkNames$Wood", 56, yX6_isBelow), ("BarkNames$Reading", 35, yX6_isIn), ("BarkNames$Asks", 20, yX6_isOfKind)]
def isToo : Nat → Int := fun k => ([-1, 0, 1, 1, 0, 4] : List Int).getD k 0
theorem Rg_isToo (k : Nat) : Rg (isToo k) := by
  match k with
  | 0 => exact Rg_c rfl
  | 1 => exact Rg_c rfl
  | 2 => exact Rg_c rfl
  | 3 => exact Rg_c rfl
  | 4 => exact Rg_c rfl
  | 5 => exact Rg_c rfl
  | k + 6 => exact Rg_c rfl
def tysG (G : GT) : List (ClassId × FieldType) := [(G.2.2.1, .int), (G.2.2.2.1, .boolean), (G.2.2.2.2.1, .object "BarkNames$Row"), (G.2.2.2.2.2.1, .object "BarkNames$Wood")]
def tblA (G : GT) : Nat := G.2.2.2.2.2.2
def GW (G : GT) (A : Nat → Prop) (U : State) : Prop := va_K G.1 vwCl (tysG G) U ∧ (∀ q ∈ nsts, va_Nw (.methodLinkNest q.1 q.2.1 q.2.2 "BarkNames") U) ∧ va_Z "BarkNames" "IS_TOO" "[I" (.ref (tblA G)) A U U.heap ∧ va_T .int (tblA G) 6 (fun k => iv (isToo k)) A U U.heap
def CX (p : Program) (s : State) (m : MethodId) (args : Array Value) (c : Code) (cc : ByteArray) (nL : Nat) (own : String) (Ts : List Cond) (G : GT) (A : Nat → Prop) : Prop :=
  p.tables.exec = Jvm.exec ∧ c.code = cc ∧ c.maxLocals = nL ∧ s.vm.findClass own = some m.cls ∧ (∀ w ∈ Ts, w.before args s = true) ∧ GW G A s ∧ GI G ∧ (∀ q, AA G q → A q)
def VV (p : Program) (l : Launch) (e : Env) (R : Room) (s : State) (m : MethodId) (args : Array Value) (below : List Frame) (meth : Method) (c : Code) (Q : State → Prop) (G : GT) (A : Nat → Prop) (cells slots nL : Nat) (σ : Hp) (pc : Nat) (lv : List (Nat × Value)) (st : List Value) : Prop :=
  ∀ (H : Heap) (locs : List Loc) (ls : Array Slot), lv_has ls nL lv → va_P G.1 vwCl (wld G σ) H → va_S A s.heap H locs → W p l e R s m args below meth c H locs cells slots Q (F0 m pc ls st)
theorem GW.moved {G : GT} {A B : Nat → Prop} {u U : State} {H : Heap} (hW : u.WarmedH U.vm) (h : GW G A u) (hU : U.heap = H) (hq : ∀ a : Nat, a < u.heap.size → ¬ A a → H[a]? = u.heap[a]?) (hAB : ∀ q, B q → A q) : GW G B U := by
  obtain ⟨h1, h2, h3, h4⟩ := h
  subst hU
  exact ⟨va_K.moved hW.alike h1, fun q hq => va_Nw.warmM hW (h2 q hq), (((h3.moved hW.alike).kept hq).narrow hAB), (((h4.moved hW.alike).kept hq).narrow hAB)⟩
theorem GW.calling {G : GT} {A : Nat → Prop} {U : State} {g : JFrame} {mk : MethodId} {a : Array Value} (h : GW G A U) : GW G A (U.calling g mk a) := by
  obtain ⟨h1, h2, h3, h4⟩ := h
  have hv : U.vm.Alike (U.calling g mk a).vm := Vm.Alike.refl U.vm
  exact ⟨va_K.moved (u := U) hv h1, fun q hq => va_Nw.same rfl rfl (h2 q hq), h3.moved (u := U) hv, h4.moved (u := U) hv⟩
/-- a contract of a method that answers an int: from the world of σ it answers x0, and leaves the world of σ0 -/
def Wd (G : GT) (σ : Hp) (U : State) : Prop := va_P G.1 vwCl (wld G σ) U.heap ∧ GW G (AA G) U
def Cti (l : Launch) (G : GT) (y : MethodName) (ws : List Cond) (rm : Room) (av : List Value) (σ : Hp) (x0 : Int) (σ0 : Hp) : Prop :=
  Met l y ws rm (va_Pc av (Wd G σ)) (va_Qi (fun (r : Int32) (u : Hp) => (r = Int32.ofInt x0 ∧ Rg x0 ∧ RgS σ0) ∧ u = σ0) (fun u t => va_P G.1 vwCl (wld G u) t.heap) (AA G)) 0 0 (AA G)
def Ctv (l : Launch) (G : GT) (y : MethodName) (ws : List Cond) (rm : Room) (av : List Value) (σ : Hp) (σ0 : Hp) : Prop :=
  Met l y ws rm (va_Pc av (Wd G σ)) (va_Qv (fun (u : Hp) => RgS σ0 ∧ u = σ0) (fun u t => va_P G.1 vwCl (wld G u) t.heap) (AA G)) 0 0 (AA G)
def Ctz (l : Launch) (G : GT) (y : MethodName) (ws : List Cond) (rm : Room) (av : List Value) (σ : Hp) (x0 : Int) (σ0 : Hp) : Prop := Cti l G y ws rm av σ x0 σ0 ∧ (x0 = 0 ∨ x0 = 1)
theorem Wd.blind {G : GT} {σ : Hp} {av : List Value} : FrameBlind (va_Pc av (Wd G σ)) := fun a U g mk q => ⟨q.1, q.2.1, q.2.2.calling⟩
theorem vwd {s U : State} {G : GT} {A : Nat → Prop} {σ : Hp} {H : Heap} {locs : List Loc} (hGW : GW G A s) (hAA : ∀ q, AA G q → A q) (hP : va_P G.1 vwCl (wld G σ) H) (hS : va_S A s.heap H locs) (hU : U.heap = H) (hW : s.WarmedH U.vm) : Wd G σ U := ⟨by rw [hU]; exact hP, hGW.moved hW hU hS.2.1 hAA⟩
section ROWS
variable {p : Program} {l : Launch} {e : Env} {R : Room} {s : State} {m : MethodId} {args : Array Value} {below : List Frame} {meth : Method} {c : Code} {Q : State → Prop} {G : GT} {A : Nat → Prop} {cells slots nL : Nat} {σ : Hp} {pc q : Nat} {lv : List (Nat × Value)} {st : List Value} {cc : ByteArray} {own : String} {Ts : List Cond}
theorem V_lsub {lv' : List (Nat × Value)} (ks : List Nat) (hp : lv_pick lv ks = lv') (kk : VV p l e R s m args below meth c Q G A cells slots nL σ pc lv' st) : VV p l e R s m args below meth c Q G A cells slots nL σ pc lv st := fun H locs ls hl hP hS => kk H locs ls (lv_sub hl ks hp) hP hS
theorem V_iconst (hC : CX p s m args c cc nL own Ts G A) {n : Int} (hd : decode cc pc = .ok (.iconst n, 1)) (hq : pc + 1 = q) (kk : VV p l e R s m args below meth c Q G A cells slots nL σ q lv (iv n :: st)) : VV p l e R s m args below meth c Q G A cells slots nL σ pc lv st := by
  subst hq
  intro H locs ls hl hP hS
  exact lv_iconst (v := Int32.ofInt n) hC.1 hC.2.1 hd rfl (kk H locs ls hl hP hS)
theorem V_bipush (hC : CX p s m args c cc nL own Ts G A) {n : Int} (hv : (Int8.ofInt n).toInt32 = Int32.ofInt n) (hd : decode cc pc = .ok (.bipush n, 2)) (hq : pc + 2 = q) (kk : VV p l e R s m args below meth c Q G A cells slots nL σ q lv (iv n :: st)) : VV p l e R s m args below meth c Q G A cells slots nL σ pc lv st := by
  subst hq
  intro H locs ls hl hP hS
  exact lv_bipush (v := Int32.ofInt n) hC.1 hC.2.1 hd hv (kk H locs ls hl hP hS)
theorem V_sipush (hC : CX p s m args c cc nL own Ts G A) {n : Int} (hv : (Int16.ofInt n).toInt32 = Int32.ofInt n) (hd : decode cc pc = .ok (.sipush n, 3)) (hq : pc + 3 = q) (kk : VV p l e R s m args below meth c Q G A cells slots nL σ q lv (iv n :: st)) : VV p l e R s m args below meth c Q G A cells slots nL σ pc lv st := by
  subst hq
  intro H locs ls hl hP hS
  exact lv_sipush (v := Int32.ofInt n) hC.1 hC.2.1 hd hv (kk H locs ls hl hP hS)
theorem V_ldc (hC : CX p s m args c cc nL own Ts G A) {n : Int} {ix : Nat} {v : Int32} (hv : v = Int32.ofInt n) (hk : Cond.constant own ix v ∈ Ts) (hd : decode cc pc = .ok (.ldc ix, 2)) (hq : pc + 2 = q) (kk : VV p l e R s m args below meth c Q G A cells slots nL σ q lv (iv n :: st)) : VV p l e R s m args below meth c Q G A cells slots nL σ pc lv st := by
  subst hq
  intro H locs ls hl hP hS
  subst hv
  exact lv_ldc hC.1 hC.2.1 hC.2.2.2.1 (hC.2.2.2.2.1 _ hk) hd (kk H locs ls hl hP hS)
theorem V_ldcw (hC : CX p s m args c cc nL own Ts G A) {n : Int} {ix : Nat} {v : Int32} (hv : v = Int32.ofInt n) (hk : Cond.constant own ix v ∈ Ts) (hd : decode cc pc = .ok (.ldc_w ix, 3)) (hq : pc + 3 = q) (kk : VV p l e R s m args below meth c Q G A cells slots nL σ q lv (iv n :: st)) : VV p l e R s m args below meth c Q G A cells slots nL σ pc lv st := by
  subst hq
  intro H locs ls hl hP hS
  subst hv
  exact lv_ldcw hC.1 hC.2.1 hC.2.2.2.1 (hC.2.2.2.2.1 _ hk) hd (kk H locs ls hl hP hS)
theorem V_iload_n (hC : CX p s m args c cc nL own Ts G A) {k : Fin 4} {x : Int} (i : Nat) (hl9 : lv[i]? = some ((k : Nat), iv x)) (hd : decode cc pc = .ok (.iload_n k, 1)) (hq : pc + 1 = q) (kk : VV p l e R s m args below meth c Q G A cells slots nL σ q lv (iv x :: st)) : VV p l e R s m args below meth c Q G A cells slots nL σ pc lv st := by
  subst hq
  intro H locs ls hl hP hS
  exact lv_iload_n hC.1 hC.2.1 hd rfl (lv_at hl i hl9) (kk H locs ls hl hP hS)
theorem V_iload (hC : CX p s m args c cc nL own Ts G A) {k : Nat} {x : Int} (i : Nat) (hl9 : lv[i]? = some (k, iv x)) (hd : decode cc pc = .ok (.iload k, 2)) (hq : pc + 2 = q) (kk : VV p l e R s m args below meth c Q G A cells slots nL σ q lv (iv x :: st)) : VV p l e R s m args below meth c Q G A cells slots nL σ pc lv st := by
  subst hq
  intro H locs ls hl hP hS
  exact lv_iload hC.1 hC.2.1 hd (lv_at hl i hl9) (kk H locs ls hl hP hS)
theorem V_aload_n (hC : CX p s m args c cc nL own Ts G A) {k : Fin 4} {x : Nat} (i : Nat) (hl9 : lv[i]? = some ((k : Nat), .ref x)) (hd : decode cc pc = .ok (.aload_n k, 1)) (hq : pc + 1 = q) (kk : VV p l e R s m args below meth c Q G A cells slots nL σ q lv (.ref x :: st)) : VV p l e R s m args below meth c Q G A cells slots nL σ pc lv st := by
  subst hq
  intro H locs ls hl hP hS
  exact lv_aload_n hC.1 hC.2.1 hd rfl (lv_at hl i hl9) (kk H locs ls hl hP hS)
theorem V_aload (hC : CX p s m args c cc nL own Ts G A) {k : Nat} {x : Nat} (i : Nat) (hl9 : lv[i]? = some (k, .ref x)) (hd : decode cc pc = .ok (.aload k, 2)) (hq : pc + 2 = q) (kk : VV p l e R s m args below meth c Q G A cells slots nL σ q lv (.ref x :: st)) : VV p l e R s m args below meth c Q G A cells slots nL σ pc lv st := by
  subst hq
  intro H locs ls hl hP hS
  exact lv_aload hC.1 hC.2.1 hd (lv_at hl i hl9) (kk H locs ls hl hP hS)
theorem V_istore_n (hC : CX p s m args c cc nL own Ts G A) {k : Fin 4} {i : Nat} {x : Int} {lv' : List (Nat × Value)} (ks : List Nat) (hi : (k : Nat) = i) (hn : i < nL) (hp : lv_pick ((i, iv x) :: lv.filter (fun q => !(q.1 == i) && !(q.1 + 1 == i && q.2.category == 2))) ks = lv') (hd : decode cc pc = .ok (.istore_n k, 1)) (hq : pc + 1 = q) (kk : VV p l e R s m args below meth c Q G A cells slots nL σ q lv' st) : VV p l e R s m args below meth c Q G A cells slots nL σ pc lv (iv x :: st) := by
  subst hq
  intro H locs ls hl hP hS
  exact lv_istore_n hC.1 hC.2.1 hd hi hl hn rfl (fun ls' hl' => kk H locs ls' (lv_sub hl' ks hp) hP hS)
theorem V_istore (hC : CX p s m args c cc nL own Ts G A)  {i : Nat} {x : Int} {lv' : List (Nat × Value)} (ks : List Nat) (hn : i < nL) (hp : lv_pick ((i, iv x) :: lv.filter (fun q => !(q.1 == i) && !(q.1 + 1 == i && q.2.category == 2))) ks = lv') (hd : decode cc pc = .ok (.istore i, 2)) (hq : pc + 2 = q) (kk : VV p l e R s m args below meth c Q G A cells slots nL σ q lv' st) : VV p l e R s m args below meth c Q G A cells slots nL σ pc lv (iv x :: st) := by
  subst hq
  intro H locs ls hl hP hS
  exact lv_istore hC.1 hC.2.1 hd hl hn rfl (fun ls' hl' => kk H locs ls' (lv_sub hl' ks hp) hP hS)
theorem V_astore_n (hC : CX p s m args c cc nL own Ts G A) {k : Fin 4} {i : Nat} {x : Nat} {lv' : List (Nat × Value)} (ks : List Nat) (hi : (k : Nat) = i) (hn : i < nL) (hp : lv_pick ((i, .ref x) :: lv.filter (fun q => !(q.1 == i) && !(q.1 + 1 == i && q.2.category == 2))) ks = lv') (hd : decode cc pc = .ok (.astore_n k, 1)) (hq : pc + 1 = q) (kk : VV p l e R s m args below meth c Q G A cells slots nL σ q lv' st) : VV p l e R s m args below meth c Q G A cells slots nL σ pc lv (.ref x :: st) := by
  subst hq
  intro H locs ls hl hP hS
  exact lv_astore_n hC.1 hC.2.1 hd hi hl hn rfl (fun ls' hl' => kk H locs ls' (lv_sub hl' ks hp) hP hS)
theorem V_astore (hC : CX p s m args c cc nL own Ts G A)  {i : Nat} {x : Nat} {lv' : List (Nat × Value)} (ks : List Nat) (hn : i < nL) (hp : lv_pick ((i, .ref x) :: lv.filter (fun q => !(q.1 == i) && !(q.1 + 1 == i && q.2.category == 2))) ks = lv') (hd : decode cc pc = .ok (.astore i, 2)) (hq : pc + 2 = q) (kk : VV p l e R s m args below meth c Q G A cells slots nL σ q lv' st) : VV p l e R s m args below meth c Q G A cells slots nL σ pc lv (.ref x :: st) := by
  subst hq
  intro H locs ls hl hP hS
  exact lv_astore hC.1 hC.2.1 hd hl hn rfl (fun ls' hl' => kk H locs ls' (lv_sub hl' ks hp) hP hS)
theorem V_iinc (hC : CX p s m args c cc nL own Ts G A) {i : Nat} {n x : Int} {lv' : List (Nat × Value)} (k : Nat) (hk : lv[k]? = some (i, iv x)) (ks : List Nat) (hn : i < nL) (hp : lv_pick ((i, iv (wr (x + n))) :: lv.filter (fun q => !(q.1 == i) && !(q.1 + 1 == i && q.2.category == 2))) ks = lv') (hd : decode cc pc = .ok (.iinc i n, 3)) (hq : pc + 3 = q) (kk : VV p l e R s m args below meth c Q G A cells slots nL σ q lv' st) : VV p l e R s m args below meth c Q G A cells slots nL σ pc lv st := by
  subst hq
  intro H locs ls hl hP hS
  exact lv_iinc hC.1 hC.2.1 hd hl hk (v := Int32.ofInt (wr (x + n))) (oi_add x n) hn rfl (fun ls' hl' => kk H locs ls' (lv_sub hl' ks hp) hP hS)
theorem V_iadd (hC : CX p s m args c cc nL own Ts G A) {x y : Int} (hd : decode cc pc = .ok (.iadd, 1)) (hq : pc + 1 = q) (kk : VV p l e R s m args below meth c Q G A cells slots nL σ q lv (iv (wr (x + y)) :: st)) : VV p l e R s m args below meth c Q G A cells slots nL σ pc lv (iv y :: iv x :: st) := by
  subst hq
  intro H locs ls hl hP hS
  exact lv_iadd hC.1 hC.2.1 hd (by rw [oi_add]; exact (kk H locs ls hl hP hS))
theorem V_isub (hC : CX p s m args c cc nL own Ts G A) {x y : Int} (hd : decode cc pc = .ok (.isub, 1)) (hq : pc + 1 = q) (kk : VV p l e R s m args below meth c Q G A cells slots nL σ q lv (iv (wr (x - y)) :: st)) : VV p l e R s m args below meth c Q G A cells slots nL σ pc lv (iv y :: iv x :: st) := by
  subst hq
  intro H locs ls hl hP hS
  exact lv_isub hC.1 hC.2.1 hd (by rw [oi_sub]; exact (kk H locs ls hl hP hS))
theorem V_imul (hC : CX p s m args c cc nL own Ts G A) {x y : Int} (hd : decode cc pc = .ok (.imul, 1)) (hq : pc + 1 = q) (kk : VV p l e R s m args below meth c Q G A cells slots nL σ q lv (iv (wr (x * y)) :: st)) : VV p l e R s m args below meth c Q G A cells slots nL σ pc lv (iv y :: iv x :: st) := by
  subst hq
  intro H locs ls hl hP hS
  exact lv_imul hC.1 hC.2.1 hd (by rw [oi_mul]; exact (kk H locs ls hl hP hS))
theorem V_ineg (hC : CX p s m args c cc nL own Ts G A) {x : Int} (hd : decode cc pc = .ok (.ineg, 1)) (hq : pc + 1 = q) (kk : VV p l e R s m args below meth c Q G A cells slots nL σ q lv (iv (wr (-x)) :: st)) : VV p l e R s m args below meth c Q G A cells slots nL σ pc lv (iv x :: st) := by
  subst hq
  intro H locs ls hl hP hS
  exact lv_ineg hC.1 hC.2.1 hd (by rw [oi_neg]; exact (kk H locs ls hl hP hS))
theorem V_iand (hC : CX p s m args c cc nL own Ts G A) {x y : Int} (hd : decode cc pc = .ok (.iand, 1)) (hq : pc + 1 = q) (kk : VV p l e R s m args below meth c Q G A cells slots nL σ q lv (iv (qand x y) :: st)) : VV p l e R s m args below meth c Q G A cells slots nL σ pc lv (iv y :: iv x :: st) := by
  subst hq
  intro H locs ls hl hP hS
  have kk := (kk H locs ls hl hP hS)
  rw [qand, iv_ti] at kk
  exact lv_iand hC.1 hC.2.1 hd kk
theorem V_ior (hC : CX p s m args c cc nL own Ts G A) {x y : Int} (hd : decode cc pc = .ok (.ior, 1)) (hq : pc + 1 = q) (kk : VV p l e R s m args below meth c Q G A cells slots nL σ q lv (iv (qor x y) :: st)) : VV p l e R s m args below meth c Q G A cells slots nL σ pc lv (iv y :: iv x :: st) := by
  subst hq
  intro H locs ls hl hP hS
  have kk := (kk H locs ls hl hP hS)
  rw [qor, iv_ti] at kk
  exact lv_ior hC.1 hC.2.1 hd kk
theorem V_ixor (hC : CX p s m args c cc nL own Ts G A) {x y : Int} (hd : decode cc pc = .ok (.ixor, 1)) (hq : pc + 1 = q) (kk : VV p l e R s m args below meth c Q G A cells slots nL σ q lv (iv (qxor x y) :: st)) : VV p l e R s m args below meth c Q G A cells slots nL σ pc lv (iv y :: iv x :: st) := by
  subst hq
  intro H locs ls hl hP hS
  have kk := (kk H locs ls hl hP hS)
  rw [qxor, iv_ti] at kk
  exact lv_ixor hC.1 hC.2.1 hd kk
theorem V_ishl (hC : CX p s m args c cc nL own Ts G A) {x y : Int} (hd : decode cc pc = .ok (.ishl, 1)) (hq : pc + 1 = q) (kk : VV p l e R s m args below meth c Q G A cells slots nL σ q lv (iv (qshl x y) :: st)) : VV p l e R s m args below meth c Q G A cells slots nL σ pc lv (iv y :: iv x :: st) := by
  subst hq
  intro H locs ls hl hP hS
  have kk := (kk H locs ls hl hP hS)
  rw [qshl, iv_ti] at kk
  exact lv_ishl hC.1 hC.2.1 hd kk
theorem V_ishr (hC : CX p s m args c cc nL own Ts G A) {x y : Int} (hd : decode cc pc = .ok (.ishr, 1)) (hq : pc + 1 = q) (kk : VV p l e R s m args below meth c Q G A cells slots nL σ q lv (iv (qshr x y) :: st)) : VV p l e R s m args below meth c Q G A cells slots nL σ pc lv (iv y :: iv x :: st) := by
  subst hq
  intro H locs ls hl hP hS
  have kk := (kk H locs ls hl hP hS)
  rw [qshr, iv_ti] at kk
  exact lv_ishr hC.1 hC.2.1 hd kk
theorem V_iushr (hC : CX p s m args c cc nL own Ts G A) {x y : Int} (hd : decode cc pc = .ok (.iushr, 1)) (hq : pc + 1 = q) (kk : VV p l e R s m args below meth c Q G A cells slots nL σ q lv (iv (qushr x y) :: st)) : VV p l e R s m args below meth c Q G A cells slots nL σ pc lv (iv y :: iv x :: st) := by
  subst hq
  intro H locs ls hl hP hS
  have kk := (kk H locs ls hl hP hS)
  rw [qushr, iv_ti] at kk
  exact lv_iushr hC.1 hC.2.1 hd rfl kk
theorem V_i2b (hC : CX p s m args c cc nL own Ts G A) {x : Int} (hd : decode cc pc = .ok (.i2b, 1)) (hq : pc + 1 = q) (kk : VV p l e R s m args below meth c Q G A cells slots nL σ q lv (iv (qi8 x) :: st)) : VV p l e R s m args below meth c Q G A cells slots nL σ pc lv (iv x :: st) := by
  subst hq
  intro H locs ls hl hP hS
  have kk := (kk H locs ls hl hP hS)
  rw [qi8, iv_ti] at kk
  exact lv_i2b hC.1 hC.2.1 hd rfl kk
theorem V_i2s (hC : CX p s m args c cc nL own Ts G A) {x : Int} (hd : decode cc pc = .ok (.i2s, 1)) (hq : pc + 1 = q) (kk : VV p l e R s m args below meth c Q G A cells slots nL σ q lv (iv (qi16 x) :: st)) : VV p l e R s m args below meth c Q G A cells slots nL σ pc lv (iv x :: st) := by
  subst hq
  intro H locs ls hl hP hS
  have kk := (kk H locs ls hl hP hS)
  rw [qi16, iv_ti] at kk
  exact lv_i2s hC.1 hC.2.1 hd rfl kk
theorem V_idiv (hC : CX p s m args c cc nL own Ts G A) {x y : Int} (hx : Rg x) (hy : Rg y) (hne : y ≠ 0) (hd : decode cc pc = .ok (.idiv, 1)) (hq : pc + 1 = q) (kk : VV p l e R s m args below meth c Q G A cells slots nL σ q lv (iv (qdiv x y) :: st)) : VV p l e R s m args below meth c Q G A cells slots nL σ pc lv (iv y :: iv x :: st) := by
  subst hq
  intro H locs ls hl hP hS
  exact lv_idiv hC.1 hC.2.1 hd (fun h => hne ((oi_eq hy Rg_0).mp h)) (by rw [oi_div hx hy]; exact (kk H locs ls hl hP hS))
theorem V_irem (hC : CX p s m args c cc nL own Ts G A) {x y : Int} (hx : Rg x) (hy : Rg y) (hne : y ≠ 0) (hd : decode cc pc = .ok (.irem, 1)) (hq : pc + 1 = q) (kk : VV p l e R s m args below meth c Q G A cells slots nL σ q lv (iv (qrem x y) :: st)) : VV p l e R s m args below meth c Q G A cells slots nL σ pc lv (iv y :: iv x :: st) := by
  subst hq
  intro H locs ls hl hP hS
  exact lv_irem hC.1 hC.2.1 hd (fun h => hne ((oi_eq hy Rg_0).mp h)) (by rw [oi_rem hx hy]; exact (kk H locs ls hl hP hS))
theorem V_dup (hC : CX p s m args c cc nL own Ts G A) {v : Value} (hv : v.category = 1) (hd : decode cc pc = .ok (.dup, 1)) (hq : pc + 1 = q) (kk : VV p l e R s m args below meth c Q G A cells slots nL σ q lv (v :: v :: st)) : VV p l e R s m args below meth c Q G A cells slots nL σ pc lv (v :: st) := by
  subst hq
  intro H locs ls hl hP hS
  exact lv_dup hC.1 hC.2.1 hd hv (kk H locs ls hl hP hS)
theorem V_dup2 (hC : CX p s m args c cc nL own Ts G A) {v u : Value} (hv : v.category = 1) (hu : u.category = 1) (hd : decode cc pc = .ok (.dup2, 1)) (hq : pc + 1 = q) (kk : VV p l e R s m args below meth c Q G A cells slots nL σ q lv (v :: u :: v :: u :: st)) : VV p l e R s m args below meth c Q G A cells slots nL σ pc lv (v :: u :: st) := by
  subst hq
  intro H locs ls hl hP hS
  exact lv_dup2_11 hC.1 hC.2.1 hd hv hu (kk H locs ls hl hP hS)
theorem V_pop (hC : CX p s m args c cc nL own Ts G A) {v : Value} (hv : v.category = 1) (hd : decode cc pc = .ok (.pop, 1)) (hq : pc + 1 = q) (kk : VV p l e R s m args below meth c Q G A cells slots nL σ q lv st) : VV p l e R s m args below meth c Q G A cells slots nL σ pc lv (v :: st) := by
  subst hq
  intro H locs ls hl hP hS
  exact lv_pop hC.1 hC.2.1 hd hv (kk H locs ls hl hP hS)
theorem V_if_eq (hC : CX p s m args c cc nL own Ts G A) {x : Int} {off : Int} {tgt : Nat} (hx : Rg x) (hd : decode cc pc = .ok (.ifCond .eq off, 3)) (ht : (pc : Int) + off = (tgt : Int)) (hq : pc + 3 = q) (kt : x = 0 → VV p l e R s m args below meth c Q G A cells slots nL σ tgt lv st) (kf : ¬ (x = 0) → VV p l e R s m args below meth c Q G A cells slots nL σ q lv st) : VV p l e R s m args below meth c Q G A cells slots nL σ pc lv (iv x :: st) := by
  subst hq
  intro H locs ls hl hP hS
  exact lv_if_eq hC.1 hC.2.1 hd ht (fun h => kt ((oi_eq hx Rg_0).mp h) H locs ls hl hP hS) (fun h => kf (fun h2 => h ((oi_eq hx Rg_0).mpr h2)) H locs ls hl hP hS)
theorem V_icmp_eq (hC : CX p s m args c cc nL own Ts G A) {x y : Int} {off : Int} {tgt : Nat} (hx : Rg x) (hy : Rg y) (hd : decode cc pc = .ok (.if_icmp .eq off, 3)) (ht : (pc : Int) + off = (tgt : Int)) (hq : pc + 3 = q) (kt : x = y → VV p l e R s m args below meth c Q G A cells slots nL σ tgt lv st) (kf : ¬ (x = y) → VV p l e R s m args below meth c Q G A cells slots nL σ q lv st) : VV p l e R s m args below meth c Q G A cells slots nL σ pc lv (iv y :: iv x :: st) := by
  subst hq
  intro H locs ls hl hP hS
  exact lv_icmp_eq hC.1 hC.2.1 hd ht (fun h => kt ((oi_eq hx hy).mp h) H locs ls hl hP hS) (fun h => kf (fun h2 => h ((oi_eq hx hy).mpr h2)) H locs ls hl hP hS)
theorem V_if_ne (hC : CX p s m args c cc nL own Ts G A) {x : Int} {off : Int} {tgt : Nat} (hx : Rg x) (hd : decode cc pc = .ok (.ifCond .ne off, 3)) (ht : (pc : Int) + off = (tgt : Int)) (hq : pc + 3 = q) (kt : ¬ x = 0 → VV p l e R s m args below meth c Q G A cells slots nL σ tgt lv st) (kf : x = 0 → VV p l e R s m args below meth c Q G A cells slots nL σ q lv st) : VV p l e R s m args below meth c Q G A cells slots nL σ pc lv (iv x :: st) := by
  subst hq
  intro H locs ls hl hP hS
  exact lv_if_ne hC.1 hC.2.1 hd ht (fun h => kt ((not_congr (oi_eq hx Rg_0)).mp h) H locs ls hl hP hS) (fun h => kf ((oi_eq hx Rg_0).mp h) H locs ls hl hP hS)
theorem V_icmp_ne (hC : CX p s m args c cc nL own Ts G A) {x y : Int} {off : Int} {tgt : Nat} (hx : Rg x) (hy : Rg y) (hd : decode cc pc = .ok (.if_icmp .ne off, 3)) (ht : (pc : Int) + off = (tgt : Int)) (hq : pc + 3 = q) (kt : ¬ x = y → VV p l e R s m args below meth c Q G A cells slots nL σ tgt lv st) (kf : x = y → VV p l e R s m args below meth c Q G A cells slots nL σ q lv st) : VV p l e R s m args below meth c Q G A cells slots nL σ pc lv (iv y :: iv x :: st) := by
  subst hq
  intro H locs ls hl hP hS
  exact lv_icmp_ne hC.1 hC.2.1 hd ht (fun h => kt ((not_congr (oi_eq hx hy)).mp h) H locs ls hl hP hS) (fun h => kf ((oi_eq hx hy).mp h) H locs ls hl hP hS)
theorem V_if_lt (hC : CX p s m args c cc nL own Ts G A) {x : Int} {off : Int} {tgt : Nat} (hx : Rg x) (hd : decode cc pc = .ok (.ifCond .lt off, 3)) (ht : (pc : Int) + off = (tgt : Int)) (hq : pc + 3 = q) (kt : x < 0 → VV p l e R s m args below meth c Q G A cells slots nL σ tgt lv st) (kf : ¬ (x < 0) → VV p l e R s m args below meth c Q G A cells slots nL σ q lv st) : VV p l e R s m args below meth c Q G A cells slots nL σ pc lv (iv x :: st) := by
  subst hq
  intro H locs ls hl hP hS
  exact lv_if_lt hC.1 hC.2.1 hd ht (fun h => kt ((oi_lt hx Rg_0).mp h) H locs ls hl hP hS) (fun h => kf (fun h2 => h ((oi_lt hx Rg_0).mpr h2)) H locs ls hl hP hS)
theorem V_icmp_lt (hC : CX p s m args c cc nL own Ts G A) {x y : Int} {off : Int} {tgt : Nat} (hx : Rg x) (hy : Rg y) (hd : decode cc pc = .ok (.if_icmp .lt off, 3)) (ht : (pc : Int) + off = (tgt : Int)) (hq : pc + 3 = q) (kt : x < y → VV p l e R s m args below meth c Q G A cells slots nL σ tgt lv st) (kf : ¬ (x < y) → VV p l e R s m args below meth c Q G A cells slots nL σ q lv st) : VV p l e R s m args below meth c Q G A cells slots nL σ pc lv (iv y :: iv x :: st) := by
  subst hq
  intro H locs ls hl hP hS
  exact lv_icmp_lt hC.1 hC.2.1 hd ht (fun h => kt ((oi_lt hx hy).mp h) H locs ls hl hP hS) (fun h => kf (fun h2 => h ((oi_lt hx hy).mpr h2)) H locs ls hl hP hS)
theorem V_if_ge (hC : CX p s m args c cc nL own Ts G A) {x : Int} {off : Int} {tgt : Nat} (hx : Rg x) (hd : decode cc pc = .ok (.ifCond .ge off, 3)) (ht : (pc : Int) + off = (tgt : Int)) (hq : pc + 3 = q) (kt : 0 ≤ x → VV p l e R s m args below meth c Q G A cells slots nL σ tgt lv st) (kf : ¬ (0 ≤ x) → VV p l e R s m args below meth c Q G A cells slots nL σ q lv st) : VV p l e R s m args below meth c Q G A cells slots nL σ pc lv (iv x :: st) := by
  subst hq
  intro H locs ls hl hP hS
  exact lv_if_ge hC.1 hC.2.1 hd ht (fun h => kt ((oi_le Rg_0 hx).mp h) H locs ls hl hP hS) (fun h => kf (fun h2 => h ((oi_le Rg_0 hx).mpr h2)) H locs ls hl hP hS)
theorem V_icmp_ge (hC : CX p s m args c cc nL own Ts G A) {x y : Int} {off : Int} {tgt : Nat} (hx : Rg x) (hy : Rg y) (hd : decode cc pc = .ok (.if_icmp .ge off, 3)) (ht : (pc : Int) + off = (tgt : Int)) (hq : pc + 3 = q) (kt : y ≤ x → VV p l e R s m args below meth c Q G A cells slots nL σ tgt lv st) (kf : ¬ (y ≤ x) → VV p l e R s m args below meth c Q G A cells slots nL σ q lv st) : VV p l e R s m args below meth c Q G A cells slots nL σ pc lv (iv y :: iv x :: st) := by
  subst hq
  intro H locs ls hl hP hS
  exact lv_icmp_ge hC.1 hC.2.1 hd ht (fun h => kt ((oi_le hy hx).mp h) H locs ls hl hP hS) (fun h => kf (fun h2 => h ((oi_le hy hx).mpr h2)) H locs ls hl hP hS)
theorem V_if_gt (hC : CX p s m args c cc nL own Ts G A) {x : Int} {off : Int} {tgt : Nat} (hx : Rg x) (hd : decode cc pc = .ok (.ifCond .gt off, 3)) (ht : (pc : Int) + off = (tgt : Int)) (hq : pc + 3 = q) (kt : 0 < x → VV p l e R s m args below meth c Q G A cells slots nL σ tgt lv st) (kf : ¬ (0 < x) → VV p l e R s m args below meth c Q G A cells slots nL σ q lv st) : VV p l e R s m args below meth c Q G A cells slots nL σ pc lv (iv x :: st) := by
  subst hq
  intro H locs ls hl hP hS
  exact lv_if_gt hC.1 hC.2.1 hd ht (fun h => kt ((oi_lt Rg_0 hx).mp h) H locs ls hl hP hS) (fun h => kf (fun h2 => h ((oi_lt Rg_0 hx).mpr h2)) H locs ls hl hP hS)
theorem V_icmp_gt (hC : CX p s m args c cc nL own Ts G A) {x y : Int} {off : Int} {tgt : Nat} (hx : Rg x) (hy : Rg y) (hd : decode cc pc = .ok (.if_icmp .gt off, 3)) (ht : (pc : Int) + off = (tgt : Int)) (hq : pc + 3 = q) (kt : y < x → VV p l e R s m args below meth c Q G A cells slots nL σ tgt lv st) (kf : ¬ (y < x) → VV p l e R s m args below meth c Q G A cells slots nL σ q lv st) : VV p l e R s m args below meth c Q G A cells slots nL σ pc lv (iv y :: iv x :: st) := by
  subst hq
  intro H locs ls hl hP hS
  exact lv_icmp_gt hC.1 hC.2.1 hd ht (fun h => kt ((oi_lt hy hx).mp h) H locs ls hl hP hS) (fun h => kf (fun h2 => h ((oi_lt hy hx).mpr h2)) H locs ls hl hP hS)
theorem V_if_le (hC : CX p s m args c cc nL own Ts G A) {x : Int} {off : Int} {tgt : Nat} (hx : Rg x) (hd : decode cc pc = .ok (.ifCond .le off, 3)) (ht : (pc : Int) + off = (tgt : Int)) (hq : pc + 3 = q) (kt : x ≤ 0 → VV p l e R s m args below meth c Q G A cells slots nL σ tgt lv st) (kf : ¬ (x ≤ 0) → VV p l e R s m args below meth c Q G A cells slots nL σ q lv st) : VV p l e R s m args below meth c Q G A cells slots nL σ pc lv (iv x :: st) := by
  subst hq
  intro H locs ls hl hP hS
  exact lv_if_le hC.1 hC.2.1 hd ht (fun h => kt ((oi_le hx Rg_0).mp h) H locs ls hl hP hS) (fun h => kf (fun h2 => h ((oi_le hx Rg_0).mpr h2)) H locs ls hl hP hS)
theorem V_icmp_le (hC : CX p s m args c cc nL own Ts G A) {x y : Int} {off : Int} {tgt : Nat} (hx : Rg x) (hy : Rg y) (hd : decode cc pc = .ok (.if_icmp .le off, 3)) (ht : (pc : Int) + off = (tgt : Int)) (hq : pc + 3 = q) (kt : x ≤ y → VV p l e R s m args below meth c Q G A cells slots nL σ tgt lv st) (kf : ¬ (x ≤ y) → VV p l e R s m args below meth c Q G A cells slots nL σ q lv st) : VV p l e R s m args below meth c Q G A cells slots nL σ pc lv (iv y :: iv x :: st) := by
  subst hq
  intro H locs ls hl hP hS
  exact lv_icmp_le hC.1 hC.2.1 hd ht (fun h => kt ((oi_le hx hy).mp h) H locs ls hl hP hS) (fun h => kf (fun h2 => h ((oi_le hx hy).mpr h2)) H locs ls hl hP hS)
theorem V_goto (hC : CX p s m args c cc nL own Ts G A) {off : Int} {tgt : Nat} (hd : decode cc pc = .ok (.goto off, 3)) (ht : (pc : Int) + off = (tgt : Int)) (kk : VV p l e R s m args below meth c Q G A cells slots nL σ tgt lv st) : VV p l e R s m args below meth c Q G A cells slots nL σ pc lv st := by
  intro H locs ls hl hP hS
  exact lv_goto hC.1 hC.2.1 hd ht (kk H locs ls hl hP hS)
theorem V_tabOut (hC : CX p s m args c cc nL own Ts G A) {x dflt lo hi : Int} {offs : Array Int} {len tgt : Nat} (hx : Rg x) (hd : decode cc pc = .ok (.tableswitch dflt lo hi offs, len)) (h : x < lo ∨ hi < x) (ht : (pc : Int) + dflt = (tgt : Int)) (kk : VV p l e R s m args below meth c Q G A cells slots nL σ tgt lv st) : VV p l e R s m args below meth c Q G A cells slots nL σ pc lv (iv x :: st) := by
  intro H locs ls hl hP hS
  exact lv_tableOut hC.1 hC.2.1 hd (by rw [oi_ti hx]; exact h) ht (kk H locs ls hl hP hS)
theorem V_tabIn (hC : CX p s m args c cc nL own Ts G A) {x dflt lo hi off : Int} {offs : Array Int} {len tgt : Nat} (hx : Rg x) (hd : decode cc pc = .ok (.tableswitch dflt lo hi offs, len)) (h1 : lo ≤ x) (h2 : x ≤ hi) (ho : offs[(x - lo).toNat]? = some off) (ht : (pc : Int) + off = (tgt : Int)) (kk : VV p l e R s m args below meth c Q G A cells slots nL σ tgt lv st) : VV p l e R s m args below meth c Q G A cells slots nL σ pc lv (iv x :: st) := by
  intro H locs ls hl hP hS
  exact lv_tableIn hC.1 hC.2.1 hd (by rw [oi_ti hx]; omega) (by rw [oi_ti hx]; omega) (by rw [oi_ti hx]; exact ho) ht (kk H locs ls hl hP hS)
theorem V_lookup (hC : CX p s m args c cc nL own Ts G A) {x dflt off : Int} {ps : Array (Int × Int)} {len tgt : Nat} (hx : Rg x) (hd : decode cc pc = .ok (.lookupswitch dflt ps, len)) (hp : (ps.toList.zip (ps.toList.drop 1)).all (fun (a, next) => a.1 < next.1) = true) (ho : Op.lookupswitch.offset ps.toList dflt x = off) (ht : (pc : Int) + off = (tgt : Int)) (kk : VV p l e R s m args below meth c Q G A cells slots nL σ tgt lv st) : VV p l e R s m args below meth c Q G A cells slots nL σ pc lv (iv x :: st) := by
  intro H locs ls hl hP hS
  exact lv_lookup hC.1 hC.2.1 hd hp (by rw [oi_ti hx]; exact ho) ht (kk H locs ls hl hP hS)
theorem V_getf (hC : CX p s m args c cc nL own Ts G A) {Cn : String} {T : u_T} {N ix k s0 j0 : Nat} {fs : List Value} {v : Value} (hin : ∀ w ∈ u_ws Cn T N, w ∈ Ts) (hcl : vwCl[s0]? = some (Cn, T, N)) (hI : InD s0 j0) (he : ent G σ s0 j0 = .inr (s0, fs)) (hk : k < N) (hlk : Cond.fieldLink own ix (T k).1 (T k).2.1 (T k).2.2.1 ∈ Ts) (hv : fs[k]? = some v) (hd : decode cc pc = .ok (.getfield ix, 3)) (hq : pc + 3 = q) (kk : VV p l e R s m args below meth c Q G A cells slots nL σ q lv (v :: st)) : VV p l e R s m args below meth c Q G A cells slots nL σ pc lv (rf G s0 j0 :: st) := by
  subst hq
  intro H locs ls hl hP hS
  obtain ⟨q0, hq0⟩ := wld_at hI
  exact va_get hC.1 hC.2.1 hC.2.2.2.2.1 hin hC.2.2.2.1 hC.2.2.2.2.2.1.1 hP q0 (by rw [← he]; exact wld_k hq0) hcl k hk (hC.2.2.2.2.1 _ hlk) (fun _ h => h) hv hd (kk H locs ls hl hP hS)
theorem V_putf (hC : CX p s m args c cc nL own Ts G A) {Cn : String} {T : u_T} {N ix k s0 j0 : Nat} {fs : List Value} {x : Int} {ty : FieldType} (hin : ∀ w ∈ u_ws Cn T N, w ∈ Ts) (hcl : vwCl[s0]? = some (Cn, T, N)) (ty0 : Nat → FieldType) (hty : ∀ k, k < N → parseFieldDescriptor (T k).2.2.1 = some (ty0 k)) (hnm : ∀ a, a < N → ∀ b, b < N → a ≠ b → (T a).2.1 ≠ (T b).2.1) (hI : InD s0 j0) (he : ent G σ s0 j0 = .inr (s0, fs)) (he2 : .inr (s0, fs.set k (iv x)) = ent G (hup σ s0 j0 k x) s0 j0) (hk : k < N) (hlk : Cond.fieldLink own ix (T k).1 (T k).2.1 (T k).2.2.1 ∈ Ts) (hfin : (T k).2.2.2 = false) (hd2 : parseFieldDescriptor (T k).2.2.1 = some ty) (hn : narrow ty (iv x) = iv x) (hfit : fits ty (iv x) = true) (hlen : k < fs.length) {σ' : Hp} (he9 : σ' = (hup σ s0 j0 k x)) (hd : decode cc pc = .ok (.putfield ix, 3)) (hq : pc + 3 = q) (kk : VV p l e R s m args below meth c Q G A cells slots nL σ' q lv st) : VV p l e R s m args below meth c Q G A cells slots nL σ pc lv (iv x :: rf G s0 j0 :: st) := by
  subst hq
  intro H locs ls hl hP hS
  subst he9
  obtain ⟨q0, hq0⟩ := wld_at hI
  refine va_put hC.1 hC.2.1 hC.2.2.2.2.1 hin ty0 hty hnm hC.2.2.2.1 hC.2.2.2.2.2.1.1 hP (wld_D hC.2.2.2.2.2.2.1 hC.2.2.2.2.2.2.2) hS q0 (by rw [← he]; exact wld_k hq0) hcl k hk (hC.2.2.2.2.1 _ hlk) (fun _ h => h) hfin hd2 hn hfit hlen hd (fun H1 locs1 hP1 _ hS1 => kk H1 locs1 ls hl ?_ hS1)
  rw [wld_set hq0 he2 (fun s' j' h => by funext k'; unfold hup; rw [if_neg (fun z => h ⟨z.1, z.2.1⟩)])] at hP1
  exact hP1
theorem V_iald (hC : CX p s m args c cc nL own Ts G A) {s0 j0 : Nat} {i : Int} {n : Nat} (hI : InD s0 j0) (ha : alen s0 = n) (hb0 : 0 ≤ i ∧ i < (n : Int)) (hi : Rg i) (hd : decode cc pc = .ok (.iaload, 1)) (hq : pc + 1 = q) (kk : VV p l e R s m args below meth c Q G A cells slots nL σ q lv (iv (σ s0 j0 i.toNat) :: st)) : VV p l e R s m args below meth c Q G A cells slots nL σ pc lv (iv i :: rf G s0 j0 :: st) := by
  subst hq
  intro H locs ls hl hP hS
  obtain ⟨q0, hq0⟩ := wld_at hI
  subst ha
  have hk := kk H locs ls hl hP hS
  refine va_iald hC.1 hC.2.1 hC.2.2.2.2.2.1.1 hP q0 0 (cA := G.2.2.1) (n := alen s0) (f := fun k => Int32.ofInt (σ s0 j0 k)) (by rw [wld_k hq0, ent_ai (by omega)]; rfl) rfl (oi_in hi hb0) hd ?_
  show W p l e R s m args below meth c H locs cells slots Q (F0 m (pc + 1) ls (Value.int (Int32.ofInt (σ s0 j0 (Int32.ofInt i).toNatClampNeg)) :: st))
  rw [oi_nat hb0.1 hi]
  exact hk
theorem V_iast (hC : CX p s m args c cc nL own Ts G A) {s0 j0 : Nat} {i x : Int} {n : Nat} (hI : InD s0 j0) (ha : alen s0 = n) (hb0 : 0 ≤ i ∧ i < (n : Int)) (hi : Rg i) {σ' : Hp} (he9 : σ' = (hup σ s0 j0 i.toNat x)) (hd : decode cc pc = .ok (.iastore, 1)) (hq : pc + 1 = q) (kk : VV p l e R s m args below meth c Q G A cells slots nL σ' q lv st) : VV p l e R s m args below meth c Q G A cells slots nL σ pc lv (iv x :: iv i :: rf G s0 j0 :: st) := by
  subst hq
  intro H locs ls hl hP hS
  subst he9
  obtain ⟨q0, hq0⟩ := wld_at hI
  subst ha
  refine va_iast hC.1 hC.2.1 hC.2.2.2.2.2.1.1 hP (wld_D hC.2.2.2.2.2.2.1 hC.2.2.2.2.2.2.2) hS q0 0 (cA := G.2.2.1) (n := alen s0) (f := fun k => Int32.ofInt (σ s0 j0 k)) (by rw [wld_k hq0, ent_ai (by omega)]; rfl) rfl (oi_in hi hb0) hd (fun H1 locs1 hP1 _ hS1 => kk H1 locs1 ls hl ?_ hS1)
  rw [oi_nat hb0.1 hi] at hP1
  rw [wld_set (σ' := hup σ s0 j0 i.toNat x) hq0 ?_ (fun s' j' h => by funext k'; unfold hup; rw [if_neg (fun z => h ⟨z.1, z.2.1⟩)])] at hP1
  · exact hP1
  · rw [ent_ai (by omega)]
    unfold ai
    congr 4
    funext k'
    unfold upd hup
    by_cases hk : k' = i.toNat
    · rw [if_pos hk, if_pos ⟨rfl, rfl, hk⟩]
    · rw [if_neg hk, if_neg (fun z => hk z.2.2)]
theorem V_alen (hC : CX p s m args c cc nL own Ts G A) {s0 j0 : Nat} {n : Nat} (hI : InD s0 j0) (ha : alen s0 = n) (h0 : 0 < n) (hd : decode cc pc = .ok (.arraylength, 1)) (hq : pc + 1 = q) (kk : VV p l e R s m args below meth c Q G A cells slots nL σ q lv (iv (n : Int) :: st)) : VV p l e R s m args below meth c Q G A cells slots nL σ pc lv (rf G s0 j0 :: st) := by
  subst hq
  intro H locs ls hl hP hS
  obtain ⟨q0, hq0⟩ := wld_at hI
  subst ha
  exact va_alen hC.1 hC.2.1 hC.2.2.2.2.2.1.1 hP q0 0 (cA := G.2.2.1) (x := (alen s0, .inl (fun k => Int32.ofInt (σ s0 j0 k)))) (by rw [wld_k hq0, ent_ai h0]; rfl) (ty := .int) rfl (v := Int32.ofInt (alen s0 : Int)) (by rw [Int32.ofInt_eq_ofNat]) hd (kk H locs ls hl hP hS)
theorem V_aald9 (hC : CX p s m args c cc nL own Ts G A) {i : Int} (hb0 : 0 ≤ i ∧ i < 24) (hi : Rg i) (hd : decode cc pc = .ok (.aaload, 1)) (hq : pc + 1 = q) (kk : VV p l e R s m args below meth c Q G A cells slots nL σ q lv (rf G 5 (4 + i.toNat) :: st)) : VV p l e R s m args below meth c Q G A cells slots nL σ pc lv (iv i :: rf G 9 0 :: st) := by
  subst hq
  intro H locs ls hl hP hS
  obtain ⟨q0, hq0⟩ := wld_at (s := 9) (j := 0) ⟨by decide, by decide⟩
  have hk := kk H locs ls hl hP hS
  refine va_aldq hC.1 hC.2.1 hC.2.2.2.2.2.1.1 hP q0 3 (C := "BarkNames$Wood") (wld_k hq0) rfl (oi_in (n := 24) hi hb0) hd ?_
  rw [oi_nat hb0.1 hi]
  exact hk
theorem V_alen9 (hC : CX p s m args c cc nL own Ts G A)  (hd : decode cc pc = .ok (.arraylength, 1)) (hq : pc + 1 = q) (kk : VV p l e R s m args below meth c Q G A cells slots nL σ q lv (iv 24 :: st)) : VV p l e R s m args below meth c Q G A cells slots nL σ pc lv (rf G 9 0 :: st) := by
  subst hq
  intro H locs ls hl hP hS
  obtain ⟨q0, hq0⟩ := wld_at (s := 9) (j := 0) ⟨by decide, by decide⟩
  exact va_alen hC.1 hC.2.1 hC.2.2.2.2.2.1.1 hP q0 3 (wld_k hq0) (ty := .object "BarkNames$Wood") rfl (v := Int32.ofInt 24) (show Int32.ofNat 24 = Int32.ofInt 24 by decide) hd (kk H locs ls hl hP hS)
theorem V_aald20 (hC : CX p s m args c cc nL own Ts G A) {i : Int} (hb0 : 0 ≤ i ∧ i < 8) (hi : Rg i) (hd : decode cc pc = .ok (.aaload, 1)) (hq : pc + 1 = q) (kk : VV p l e R s m args below meth c Q G A cells slots nL σ q lv (rf G 3 i.toNat :: st)) : VV p l e R s m args below meth c Q G A cells slots nL σ pc lv (iv i :: rf G 20 0 :: st) := by
  subst hq
  intro H locs ls hl hP hS
  obtain ⟨q0, hq0⟩ := wld_at (s := 20) (j := 0) ⟨by decide, by decide⟩
  have hk := kk H locs ls hl hP hS
  refine va_aldq hC.1 hC.2.1 hC.2.2.2.2.2.1.1 hP q0 2 (C := "BarkNames$Row") (wld_k hq0) rfl (oi_in (n := 8) hi hb0) hd ?_
  rw [oi_nat hb0.1 hi]
  exact hk
theorem V_alen20 (hC : CX p s m args c cc nL own Ts G A)  (hd : decode cc pc = .ok (.arraylength, 1)) (hq : pc + 1 = q) (kk : VV p l e R s m args below meth c Q G A cells slots nL σ q lv (iv 8 :: st)) : VV p l e R s m args below meth c Q G A cells slots nL σ pc lv (rf G 20 0 :: st) := by
  subst hq
  intro H locs ls hl hP hS
  obtain ⟨q0, hq0⟩ := wld_at (s := 20) (j := 0) ⟨by decide, by decide⟩
  exact va_alen hC.1 hC.2.1 hC.2.2.2.2.2.1.1 hP q0 2 (wld_k hq0) (ty := .object "BarkNames$Row") rfl (v := Int32.ofInt 8) (show Int32.ofNat 8 = Int32.ofInt 8 by decide) hd (kk H locs ls hl hP hS)
theorem V_aald21 (hC : CX p s m args c cc nL own Ts G A) {i : Int} (hb0 : 0 ≤ i ∧ i < 2) (hi : Rg i) (hd : decode cc pc = .ok (.aaload, 1)) (hq : pc + 1 = q) (kk : VV p l e R s m args below meth c Q G A cells slots nL σ q lv (rf G 5 (2 + i.toNat) :: st)) : VV p l e R s m args below meth c Q G A cells slots nL σ pc lv (iv i :: rf G 21 0 :: st) := by
  subst hq
  intro H locs ls hl hP hS
  obtain ⟨q0, hq0⟩ := wld_at (s := 21) (j := 0) ⟨by decide, by decide⟩
  have hk := kk H locs ls hl hP hS
  refine va_aldq hC.1 hC.2.1 hC.2.2.2.2.2.1.1 hP q0 3 (C := "BarkNames$Wood") (wld_k hq0) rfl (oi_in (n := 2) hi hb0) hd ?_
  rw [oi_nat hb0.1 hi]
  exact hk
theorem V_alen21 (hC : CX p s m args c cc nL own Ts G A)  (hd : decode cc pc = .ok (.arraylength, 1)) (hq : pc + 1 = q) (kk : VV p l e R s m args below meth c Q G A cells slots nL σ q lv (iv 2 :: st)) : VV p l e R s m args below meth c Q G A cells slots nL σ pc lv (rf G 21 0 :: st) := by
  subst hq
  intro H locs ls hl hP hS
  obtain ⟨q0, hq0⟩ := wld_at (s := 21) (j := 0) ⟨by decide, by decide⟩
  exact va_alen hC.1 hC.2.1 hC.2.2.2.2.2.1.1 hP q0 3 (wld_k hq0) (ty := .object "BarkNames$Wood") rfl (v := Int32.ofInt 2) (show Int32.ofNat 2 = Int32.ofInt 2 by decide) hd (kk H locs ls hl hP hS)
theorem V_zald31 (hC : CX p s m args c cc nL own Ts G A) {i : Int} (hb0 : 0 ≤ i ∧ i < 2) (hi : Rg i) (hd : decode cc pc = .ok (.baload, 1)) (hq : pc + 1 = q) (kk : VV p l e R s m args below meth c Q G A cells slots nL σ q lv (iv (σ 31 0 i.toNat) :: st)) : VV p l e R s m args below meth c Q G A cells slots nL σ pc lv (iv i :: rf G 31 0 :: st) := by
  subst hq
  intro H locs ls hl hP hS
  obtain ⟨q0, hq0⟩ := wld_at (s := 31) (j := 0) ⟨by decide, by decide⟩
  have hk := kk H locs ls hl hP hS
  refine va_zald hC.1 hC.2.1 hC.2.2.2.2.2.1.1 hP q0 1 (f := fun k => Int32.ofInt (σ 31 0 k)) (wld_k hq0) rfl (oi_in (n := 2) hi hb0) hd ?_
  show W p l e R s m args below meth c H locs cells slots Q (F0 m (pc + 1) ls (Value.int (Int32.ofInt (σ 31 0 (Int32.ofInt i).toNatClampNeg)) :: st))
  rw [oi_nat hb0.1 hi]
  exact hk
theorem V_zast31 (hC : CX p s m args c cc nL own Ts G A) {i x : Int} (hb0 : 0 ≤ i ∧ i < 2) (hi : Rg i) (hx : x = 0 ∨ x = 1) {σ' : Hp} (he9 : σ' = (hup σ 31 0 i.toNat x)) (hd : decode cc pc = .ok (.bastore, 1)) (hq : pc + 1 = q) (kk : VV p l e R s m args below meth c Q G A cells slots nL σ' q lv st) : VV p l e R s m args below meth c Q G A cells slots nL σ pc lv (iv x :: iv i :: rf G 31 0 :: st) := by
  subst hq
  intro H locs ls hl hP hS
  subst he9
  obtain ⟨q0, hq0⟩ := wld_at (s := 31) (j := 0) ⟨by decide, by decide⟩
  refine va_zast hC.1 hC.2.1 hC.2.2.2.2.2.1.1 hP (wld_D hC.2.2.2.2.2.2.1 hC.2.2.2.2.2.2.2) hS q0 1 (f := fun k => Int32.ofInt (σ 31 0 k)) (wld_k hq0) rfl (oi_in (n := 2) hi hb0) hd (fun H1 locs1 hP1 _ hS1 => kk H1 locs1 ls hl ?_ hS1)
  rw [oi_nat hb0.1 hi] at hP1
  rw [show vp_nar .boolean (Int32.ofInt x) = Int32.ofInt x by rcases hx with rfl | rfl <;> decide] at hP1
  rw [wld_set (σ' := hup σ 31 0 i.toNat x) hq0 ?_ (fun s' j' h => by funext k'; unfold hup; rw [if_neg (fun z => h ⟨z.1, z.2.1⟩)])] at hP1
  · exact hP1
  · show _ = Sum.inl _
    congr 4
    funext k'
    unfold upd hup
    by_cases hk : k' = i.toNat
    · rw [if_pos hk, if_pos ⟨rfl, rfl, hk⟩]
    · rw [if_neg hk, if_neg (fun z => hk z.2.2)]
theorem V_gett (hC : CX p s m args c cc nL own Ts G A) {ix : Nat} (hlk : Cond.fieldLink own ix "BarkNames" "IS_TOO" "[I" ∈ Ts) (hd : decode cc pc = .ok (.getstatic ix, 3)) (hq : pc + 3 = q) (kk : VV p l e R s m args below meth c Q G A cells slots nL σ q lv (.ref (tblA G) :: st)) : VV p l e R s m args below meth c Q G A cells slots nL σ pc lv st := by
  subst hq
  intro H locs ls hl hP hS
  exact va_gets hC.1 hC.2.1 hC.2.2.2.2.2.1.2.2.1 hS hC.2.2.2.1 (hC.2.2.2.2.1 _ hlk) (fun _ h => h) hd (kk H locs ls hl hP hS)
theorem V_tlen (hC : CX p s m args c cc nL own Ts G A)  (hd : decode cc pc = .ok (.arraylength, 1)) (hq : pc + 1 = q) (kk : VV p l e R s m args below meth c Q G A cells slots nL σ q lv (iv 6 :: st)) : VV p l e R s m args below meth c Q G A cells slots nL σ pc lv (.ref (tblA G) :: st) := by
  subst hq
  intro H locs ls hl hP hS
  exact va_tlen hC.1 hC.2.1 hC.2.2.2.2.2.1.2.2.2 hS (v := Int32.ofInt 6) (by decide) hd (kk H locs ls hl hP hS)
theorem V_tld (hC : CX p s m args c cc nL own Ts G A) {i : Int} (hb0 : 0 ≤ i ∧ i < 6) (hi : Rg i) (hd : decode cc pc = .ok (.iaload, 1)) (hq : pc + 1 = q) (kk : VV p l e R s m args below meth c Q G A cells slots nL σ q lv (iv (isToo i.toNat) :: st)) : VV p l e R s m args below meth c Q G A cells slots nL σ pc lv (iv i :: .ref (tblA G) :: st) := by
  subst hq
  intro H locs ls hl hP hS
  exact va_ti hC.1 hC.2.1 hC.2.2.2.2.2.1.2.2.2 hS (oi_in (n := 6) hi hb0) (by rw [oi_nat hb0.1 hi]) hd (kk H locs ls hl hP hS)
theorem V_mmax (hC : CX p s m args c cc nL own Ts G A) {x y : Int} {ix : Nat} (hx : Rg x) (hy : Rg y) (h1 : Cond.methodLink own ix Lib.Math.max.name ∈ Ts) (h2 : Cond.static Lib.Math.max.name ∈ Ts) (h3 : Cond.initialized "java/lang/Math" ∈ Ts) (h4 : Cond.code Lib.Math.max.name Lib.Math.max.code 2 (some .int) ∈ Ts) (hR : 1 ≤ R.frames ∧ (st.map fun v => v.category).sum + 13 ≤ R.locals ∧ cells ≤ R.cells ∧ slots ≤ R.slots) (hd : decode cc pc = .ok (.invokestatic ix, 3)) (hq : pc + 3 = q) (kk : VV p l e R s m args below meth c Q G A cells slots nL σ q lv (iv (qmax x y) :: st)) : VV p l e R s m args below meth c Q G A cells slots nL σ pc lv (iv y :: iv x :: st) := by
  subst hq
  intro H locs ls hl hP hS
  have hk := (kk H locs ls hl hP hS)
  unfold iv at hk ⊢
  rw [oi_max hx hy] at hk
  exact va_mmax hC.1 hC.2.1 (by rw [hC.2.2.1]; exact hl.1.symm) hC.2.2.2.1 (hC.2.2.2.2.1 _ h1) (hC.2.2.2.2.1 _ h2) (hC.2.2.2.2.1 _ h3) (hC.2.2.2.2.1 _ h4) hR.1 hR.2.1 hR.2.2.1 hR.2.2.2 hd hk
theorem V_mmin (hC : CX p s m args c cc nL own Ts G A) {x y : Int} {ix : Nat} (hx : Rg x) (hy : Rg y) (h1 : Cond.methodLink own ix Lib.Math.min.name ∈ Ts) (h2 : Cond.static Lib.Math.min.name ∈ Ts) (h3 : Cond.initialized "java/lang/Math" ∈ Ts) (h4 : Cond.code Lib.Math.min.name Lib.Math.min.code 2 (some .int) ∈ Ts) (hR : 1 ≤ R.frames ∧ (st.map fun v => v.category).sum + 13 ≤ R.locals ∧ cells ≤ R.cells ∧ slots ≤ R.slots) (hd : decode cc pc = .ok (.invokestatic ix, 3)) (hq : pc + 3 = q) (kk : VV p l e R s m args below meth c Q G A cells slots nL σ q lv (iv (qmin x y) :: st)) : VV p l e R s m args below meth c Q G A cells slots nL σ pc lv (iv y :: iv x :: st) := by
  subst hq
  intro H locs ls hl hP hS
  have hk := (kk H locs ls hl hP hS)
  unfold iv at hk ⊢
  rw [oi_min hx hy] at hk
  exact va_mmin hC.1 hC.2.1 (by rw [hC.2.2.1]; exact hl.1.symm) hC.2.2.2.1 (hC.2.2.2.2.1 _ h1) (hC.2.2.2.2.1 _ h2) (hC.2.2.2.2.1 _ h3) (hC.2.2.2.2.1 _ h4) hR.1 hR.2.1 hR.2.2.1 hR.2.2.2 hd hk
theorem V_mabs (hC : CX p s m args c cc nL own Ts G A) {x : Int} {ix : Nat} (hx : Rg x) (h1 : Cond.methodLink own ix Lib.Math.abs.name ∈ Ts) (h2 : Cond.static Lib.Math.abs.name ∈ Ts) (h3 : Cond.initialized "java/lang/Math" ∈ Ts) (h4 : Cond.code Lib.Math.abs.name Lib.Math.abs.code 1 (some .int) ∈ Ts) (hR : 1 ≤ R.frames ∧ (st.map fun v => v.category).sum + 13 ≤ R.locals ∧ cells ≤ R.cells ∧ slots ≤ R.slots) (hd : decode cc pc = .ok (.invokestatic ix, 3)) (hq : pc + 3 = q) (kk : VV p l e R s m args below meth c Q G A cells slots nL σ q lv (iv (qabs x) :: st)) : VV p l e R s m args below meth c Q G A cells slots nL σ pc lv (iv x :: st) := by
  subst hq
  intro H locs ls hl hP hS
  have hk := (kk H locs ls hl hP hS)
  unfold iv at hk ⊢
  rw [oi_abs hx] at hk
  exact va_mabs hC.1 hC.2.1 (by rw [hC.2.2.1]; exact hl.1.symm) hC.2.2.2.1 (hC.2.2.2.2.1 _ h1) (hC.2.2.2.2.1 _ h2) (hC.2.2.2.2.1 _ h3) (hC.2.2.2.2.1 _ h4) hR.1 hR.2.1 hR.2.2.1 hR.2.2.2 hd hk
theorem V_acopy (hC : CX p s m args c cc nL own Ts G A) {s1 j1 s2 j2 : Nat} {sp dp n : Int} {ix n1 n2 : Nat} (hI1 : InD s1 j1) (hI2 : InD s2 j2) (ha1 : alen s1 = n1) (ha2 : alen s2 = n2) (h01 : 0 < n1) (h02 : 0 < n2) (hb0 : 0 ≤ sp ∧ 0 ≤ dp ∧ 0 ≤ n ∧ sp + n ≤ (n1 : Int) ∧ dp + n ≤ (n2 : Int)) (hsp : Rg sp) (hdp : Rg dp) (hn : Rg n) (h1 : Cond.methodLink own ix arraycopyName ∈ Ts) (h2 : Cond.native arraycopyName ∈ Ts) (h3 : Cond.static arraycopyName ∈ Ts) (h4 : Cond.initialized "java/lang/System" ∈ Ts) (hR : 1 ≤ R.frames ∧ (st.map fun v => v.category).sum + (nativeFrameWords "java/lang/System" "arraycopy" 5 + 11) ≤ R.locals) {σ' : Hp} (he9 : σ' = (hcp σ s1 j1 sp.toNat s2 j2 dp.toNat n.toNat)) (hd : decode cc pc = .ok (.invokestatic ix, 3)) (hq : pc + 3 = q) (kk : VV p l e R s m args below meth c Q G A cells slots nL σ' q lv st) : VV p l e R s m args below meth c Q G A cells slots nL σ pc lv (iv n :: iv dp :: rf G s2 j2 :: iv sp :: rf G s1 j1 :: st) := by
  subst hq
  intro H locs ls hl hP hS
  subst he9
  obtain ⟨q1, hq1⟩ := wld_at hI1
  obtain ⟨q2, hq2⟩ := wld_at hI2
  subst ha1
  subst ha2
  have hng : ∀ {z : Int}, Rg z → 0 ≤ z → ¬ Int32.ofInt z < 0 := fun hz h0 h => by have h5 := (oi_lt hz Rg_0).mp h; omega
  have e1 := oi_nat hb0.1 hsp
  have e2 := oi_nat hb0.2.1 hdp
  have e3 := oi_nat hb0.2.2.1 hn
  refine va_copyi hC.1 hC.2.1 (by rw [hC.2.2.1]; exact hl.1.symm) hC.2.2.2.1 (hC.2.2.2.2.1 _ h1) (hC.2.2.2.2.1 _ h2) (hC.2.2.2.2.1 _ h3) (hC.2.2.2.2.1 _ h4) hC.2.2.2.2.2.1.1 hP (wld_D hC.2.2.2.2.2.2.1 hC.2.2.2.2.2.2.2) hS q1 q2 0 0 (c0 := G.2.2.1) (c1 := G.2.2.1) (n0 := alen s1) (n1 := alen s2) (f := fun k => Int32.ofInt (σ s1 j1 k)) (g := fun k => Int32.ofInt (σ s2 j2 k)) (ty := .int) (by rw [wld_k hq1, ent_ai h01]; rfl) (by rw [wld_k hq2, ent_ai h02]; rfl) rfl rfl rfl (hng hsp hb0.1) (hng hdp hb0.2.1) (hng hn hb0.2.2.1) (by rw [e1, e3]; omega) (by rw [e2, e3]; omega) (fun _ _ => rfl) hR.1 hR.2 hd (fun H1 locs1 hP1 _ hS1 => kk H1 locs1 ls hl ?_ hS1)
  rw [e1, e2, e3] at hP1
  rw [wld_set (σ' := hcp σ s1 j1 sp.toNat s2 j2 dp.toNat n.toNat) hq2 ?_ (fun s' j' h => by funext k'; unfold hcp; rw [if_neg (fun z => h z.1)])] at hP1
  · exact hP1
  · rw [ent_ai h02]
    unfold ai
    congr 4
    funext k'
    unfold va_cpy hcp
    by_cases hk : dp.toNat ≤ k' ∧ k' < dp.toNat + n.toNat
    · rw [if_pos hk, if_pos ⟨⟨rfl, rfl⟩, hk⟩]
    · rw [if_neg hk, if_neg (fun z => hk z.2)]
end ROWS
section CALLS
variable {p : Program} {l : Launch} {e : Env} {R : Room} {s : State} {m : MethodId} {args : Array Value} {below : List Frame} {meth : Method} {c : Code} {Q : State → Prop} {G : GT} {A : Nat → Prop} {cells slots nL : Nat} {σ : Hp} {pc q : Nat} {lv : List (Nat × Value)} {st : List Value} {cc : ByteArray} {own : String} {Ts : List Cond}
variable {y : MethodName} {ws ws' : List Cond} {rm : Room} {n : Nat} {bytes : ByteArray} {maxL ix : Nat} {ret : Option FieldType} {Cn host : String} {s0 j0 : Nat} {As : List Value} {x0 : Int} {σ0 : Hp} {st9 : List Value}
theorem V_cvi (hC : CX p s m args c cc nL own Ts G A) (ct : Cti l G y ws rm (rf G s0 j0 :: As) σ x0 σ0) (cw : CallW R s args own Cn ix y bytes maxL ret ws rm 0 0 n) (hcl : ∃ z, vwCl[s0]? = some z ∧ z.1 = Cn) (hI : InD s0 j0) (he : ∀ τ : Hp, ∃ fs, ent G τ s0 j0 = .inr (s0, fs)) (hn : As.length = n) (hst : st9 = As.reverse ++ rf G s0 j0 :: st) (hW : (st.map fun v => v.category).sum ≤ 8) (hd : decode cc pc = .ok (.invokevirtual ix, 3)) (hq : pc + 3 = q) (hce : cells ≤ R.cells ∧ slots ≤ R.slots) (kk : Rg x0 → RgS σ0 → VV p l e R s m args below meth c Q G A cells slots nL σ0 q lv (iv x0 :: st)) : VV p l e R s m args below meth c Q G A cells slots nL σ pc lv st9 := by
  subst hq
  subst hst
  intro H locs ls hl hP hS
  obtain ⟨q0, hq0⟩ := wld_at hI
  obtain ⟨fs, he⟩ := he σ
  obtain ⟨z, hc1, hc2⟩ := hcl
  have hrecv := va_recv (q0 := q0) hC.2.2.2.2.2.1.1 hP hc1 (by rw [← he]; exact wld_k hq0)
  rw [hc2] at hrecv
  refine va_calli (va_runV (As := As) (rest := st) ⟨hC.1, hC.2.1, hC.2.2.1, hC.2.2.2.1, hC.2.2.2.2.1⟩ ct cw ⟨Wd.blind, hrecv, fun U hU hW => ⟨rfl, vwd hC.2.2.2.2.2.1 hC.2.2.2.2.2.2.2 hP hS hU hW⟩⟩ rfl hn hl.1 rfl (lv_room hW) hd ⟨hce.1, hce.2⟩) hS (fun q _ h => hC.2.2.2.2.2.2.2 q h) hC.2.2.2.2.2.2.2 (fun r u t H1 locs1 ht hvm hw hB hz1 hk1 hS1 => ?_)
  obtain ⟨⟨rfl, h1, h2⟩, rfl⟩ := hw
  exact kk h1 h2 H1 locs1 ls hl (by rw [← ht]; exact hB) hS1
theorem V_cvv (hC : CX p s m args c cc nL own Ts G A) (ct : Ctv l G y ws rm (rf G s0 j0 :: As) σ σ0) (cw : CallW R s args own Cn ix y bytes maxL ret ws rm 0 0 n) (hcl : ∃ z, vwCl[s0]? = some z ∧ z.1 = Cn) (hI : InD s0 j0) (he : ∀ τ : Hp, ∃ fs, ent G τ s0 j0 = .inr (s0, fs)) (hn : As.length = n) (hst : st9 = As.reverse ++ rf G s0 j0 :: st) (hW : (st.map fun v => v.category).sum ≤ 8) (hd : decode cc pc = .ok (.invokevirtual ix, 3)) (hq : pc + 3 = q) (hce : cells ≤ R.cells ∧ slots ≤ R.slots) (kk : RgS σ0 → VV p l e R s m args below meth c Q G A cells slots nL σ0 q lv st) : VV p l e R s m args below meth c Q G A cells slots nL σ pc lv st9 := by
  subst hq
  subst hst
  intro H locs ls hl hP hS
  obtain ⟨q0, hq0⟩ := wld_at hI
  obtain ⟨fs, he⟩ := he σ
  obtain ⟨z, hc1, hc2⟩ := hcl
  have hrecv := va_recv (q0 := q0) hC.2.2.2.2.2.1.1 hP hc1 (by rw [← he]; exact wld_k hq0)
  rw [hc2] at hrecv
  refine va_callv (va_runV (As := As) (rest := st) ⟨hC.1, hC.2.1, hC.2.2.1, hC.2.2.2.1, hC.2.2.2.2.1⟩ ct cw ⟨Wd.blind, hrecv, fun U hU hW => ⟨rfl, vwd hC.2.2.2.2.2.1 hC.2.2.2.2.2.2.2 hP hS hU hW⟩⟩ rfl hn hl.1 rfl (lv_room hW) hd ⟨hce.1, hce.2⟩) hS (fun q _ h => hC.2.2.2.2.2.2.2 q h) hC.2.2.2.2.2.2.2 (fun u t H1 locs1 ht hvm hw hB hz1 hk1 hS1 => ?_)
  obtain ⟨h2, rfl⟩ := hw
  exact kk h2 H1 locs1 ls hl (by rw [← ht]; exact hB) hS1
theorem V_csi (hC : CX p s m args c cc nL own Ts G A) (ct : Cti l G y ws rm As σ x0 σ0) (cw : CallB R s args own ix y bytes maxL ret ws rm 0 0 n ∧ (Cond.static y).before args s = true) (hn : As.length = n) (hst : st9 = As.reverse ++ st) (hW : (st.map fun v => v.category).sum ≤ 8) (hd : decode cc pc = .ok (.invokestatic ix, 3)) (hq : pc + 3 = q) (hce : cells ≤ R.cells ∧ slots ≤ R.slots) (kk : Rg x0 → RgS σ0 → VV p l e R s m args below meth c Q G A cells slots nL σ0 q lv (iv x0 :: st)) : VV p l e R s m args below meth c Q G A cells slots nL σ pc lv st9 := by
  subst hq
  subst hst
  intro H locs ls hl hP hS
  refine va_calli (va_runS (As := As) (rest := st) ⟨hC.1, hC.2.1, hC.2.2.1, hC.2.2.2.1, hC.2.2.2.2.1⟩ ct cw ⟨Wd.blind, fun U hU hW => ⟨rfl, vwd hC.2.2.2.2.2.1 hC.2.2.2.2.2.2.2 hP hS hU hW⟩⟩ rfl hn hl.1 rfl (lv_room hW) hd ⟨hce.1, hce.2⟩) hS (fun q _ h => hC.2.2.2.2.2.2.2 q h) hC.2.2.2.2.2.2.2 (fun r u t H1 locs1 ht hvm hw hB hz1 hk1 hS1 => ?_)
  obtain ⟨⟨rfl, h1, h2⟩, rfl⟩ := hw
  exact kk h1 h2 H1 locs1 ls hl (by rw [← ht]; exact hB) hS1
theorem V_csv (hC : CX p s m args c cc nL own Ts G A) (ct : Ctv l G y ws rm As σ σ0) (cw : CallB R s args own ix y bytes maxL ret ws rm 0 0 n ∧ (Cond.static y).before args s = true) (hn : As.length = n) (hst : st9 = As.reverse ++ st) (hW : (st.map fun v => v.category).sum ≤ 8) (hd : decode cc pc = .ok (.invokestatic ix, 3)) (hq : pc + 3 = q) (hce : cells ≤ R.cells ∧ slots ≤ R.slots) (kk : RgS σ0 → VV p l e R s m args below meth c Q G A cells slots nL σ0 q lv st) : VV p l e R s m args below meth c Q G A cells slots nL σ pc lv st9 := by
  subst hq
  subst hst
  intro H locs ls hl hP hS
  refine va_callv (va_runS (As := As) (rest := st) ⟨hC.1, hC.2.1, hC.2.2.1, hC.2.2.2.1, hC.2.2.2.2.1⟩ ct cw ⟨Wd.blind, fun U hU hW => ⟨rfl, vwd hC.2.2.2.2.2.1 hC.2.2.2.2.2.2.2 hP hS hU hW⟩⟩ rfl hn hl.1 rfl (lv_room hW) hd ⟨hce.1, hce.2⟩) hS (fun q _ h => hC.2.2.2.2.2.2.2 q h) hC.2.2.2.2.2.2.2 (fun u t H1 locs1 ht hvm hw hB hz1 hk1 hS1 => ?_)
  obtain ⟨h2, rfl⟩ := hw
  exact kk h2 H1 locs1 ls hl (by rw [← ht]; exact hB) hS1
theorem V_cni (hC : CX p s m args c cc nL own Ts G A) (ct : Cti l G y ws rm As σ x0 σ0) (cw : va_CN R s args own ix y host bytes maxL ret ws rm 0 0 n ∧ (Cond.static y).before args s = true ∧ True) (hn : As.length = n) (hst : st9 = As.reverse ++ st) (hW : (st.map fun v => v.category).sum ≤ 8) (hd : decode cc pc = .ok (.invokestatic ix, 3)) (hq : pc + 3 = q) (hce : cells ≤ R.cells ∧ slots ≤ R.slots) (kk : Rg x0 → RgS σ0 → VV p l e R s m args below meth c Q G A cells slots nL σ0 q lv (iv x0 :: st)) : VV p l e R s m args below meth c Q G A cells slots nL σ pc lv st9 := by
  subst hq
  subst hst
  intro H locs ls hl hP hS
  refine va_calli (va_runSN (As := As) (rest := st) ⟨hC.1, hC.2.1, hC.2.2.1, hC.2.2.2.1, hC.2.2.2.2.1⟩ ct cw ⟨Wd.blind, fun U hU hW => ⟨rfl, vwd hC.2.2.2.2.2.1 hC.2.2.2.2.2.2.2 hP hS hU hW⟩⟩ rfl hn hl.1 rfl (lv_room hW) hd ⟨hce.1, hce.2⟩) hS (fun q _ h => hC.2.2.2.2.2.2.2 q h) hC.2.2.2.2.2.2.2 (fun r u t H1 locs1 ht hvm hw hB hz1 hk1 hS1 => ?_)
  obtain ⟨⟨rfl, h1, h2⟩, rfl⟩ := hw
  exact kk h1 h2 H1 locs1 ls hl (by rw [← ht]; exact hB) hS1
end CALLS
def QI (G : GT) (x0 : Int) (σ0 : Hp) : Array Value → State → Outcome → State → Prop := va_Qi (fun (r : Int32) (u : Hp) => (r = Int32.ofInt x0 ∧ Rg x0 ∧ RgS σ0) ∧ u = σ0) (fun u t => va_P G.1 vwCl (wld G u) t.heap) (AA G)
def QV (G : GT) (σ0 : Hp) : Array Value → State → Outcome → State → Prop := va_Qv (fun (u : Hp) => RgS σ0 ∧ u = σ0) (fun u t => va_P G.1 vwCl (wld G u) t.heap) (AA G)
section ENDS
variable {p : Program} {l : Launch} {e : Env} {R : Room} {s : State} {m : MethodId} {args : Array Value} {below : List Frame} {meth : Method} {c : Code} {G : GT} {cells slots nL : Nat} {σ : Hp} {pc : Nat} {lv : List (Nat × Value)} {cc : ByteArray} {own : String} {Ts : List Cond} {x x0 : Int} {σ0 : Hp}
theorem V_iret (hC : CX p s m args c cc nL own Ts G (AA G)) (hr : meth.sig.returnType = some .int) (hlk : meth.locks = false) (hx : x = x0) (hσ : σ = σ0) (h1 : Rg x) (h2 : RgS σ) (hd : decode cc pc = .ok (.ireturn, 1)) : VV p l e R s m args below meth c (MQ below (QI G x0 σ0) args s cells slots (AA G)) G (AA G) cells slots nL σ pc lv [iv x] := by
  subst hx
  subst hσ
  intro H locs ls hl hP hS
  exact W.iret (v := Int32.ofInt x) hC.1 hC.2.1 hr (fun t ht hW => ⟨⟨_, σ, rfl, ⟨⟨rfl, h1, h2⟩, rfl⟩, by show va_P _ _ _ t.heap; rw [ht]; exact hP⟩, hS.F ht⟩) hS.2.2 hd hlk
theorem V_zret (hC : CX p s m args c cc nL own Ts G (AA G)) (hr : meth.sig.returnType = some .boolean) (hlk : meth.locks = false) (hz : x = 0 ∨ x = 1) (hx : x = x0) (hσ : σ = σ0) (h2 : RgS σ) (hd : decode cc pc = .ok (.ireturn, 1)) : VV p l e R s m args below meth c (MQ below (QI G x0 σ0) args s cells slots (AA G)) G (AA G) cells slots nL σ pc lv [iv x] := by
  subst hx
  subst hσ
  intro H locs ls hl hP hS
  exact W.zret (v := Int32.ofInt x) (ty := .boolean) hC.1 hC.2.1 hr (by rcases hz with rfl | rfl <;> decide) (fun t ht hW => ⟨⟨_, σ, rfl, ⟨⟨rfl, by rcases hz with rfl | rfl <;> exact Rg_c rfl, h2⟩, rfl⟩, by show va_P _ _ _ t.heap; rw [ht]; exact hP⟩, hS.F ht⟩) hS.2.2 hd hlk
theorem V_vret (hC : CX p s m args c cc nL own Ts G (AA G)) (hr : meth.sig.returnType = none) (hlk : meth.locks = false) (hσ : σ = σ0) (h2 : RgS σ) (hd : decode cc pc = .ok (.return_, 1)) : VV p l e R s m args below meth c (MQ below (QV G σ0) args s cells slots (AA G)) G (AA G) cells slots nL σ pc lv [] := by
  subst hσ
  intro H locs ls hl hP hS
  exact W.vret hC.1 hC.2.1 hr (fun t ht hW => ⟨⟨σ, rfl, ⟨h2, rfl⟩, by show va_P _ _ _ t.heap; rw [ht]; exact hP⟩, hS.F ht⟩) hS.2.2 hd hlk
end ENDS
theorem Cti_start {l : Launch} {G : GT} {y : MethodName} {ws ws' : List Cond} {rm : Room} {cc : ByteArray} {maxL : Nat} {ret : Option FieldType} {av : List Value} {lv : List (Nat × Value)} {σ : Hp} {x0 : Int} {σ0 : Hp} (hy : plainName y.cls = true) (hw : ws = Cond.code y cc maxL ret :: ws') (hG : GI G) (hlen : (lg_sl av).length ≤ maxL) (hlv : lv_args 0 av = lv)
    (body : ∀ p e s m args below meth c, CX p s m args c cc maxL y.cls ws G (AA G) → meth.sig.returnType = ret → meth.locks = false → VV p l e (headSpec ws rm).room s m args below meth c (MQ below (QI G x0 σ0) args s 0 0 (AA G)) G (AA G) 0 0 maxL σ 0 lv []) : Cti l G y ws rm av σ x0 σ0 := by
  refine Met.ofW hy hw ?_
  intro p e s m args below meth c s₁ B hml hv
  obtain ⟨rfl, hP, hGW⟩ := hv
  subst hlv
  have hb := body p e s m av.toArray below meth c ⟨B.exec, B.bytes, hml, findClass_of_methodNamed B.named, atoms_spec (ws := ws) B.pre, hGW, hG, fun q h => h⟩ B.returns B.notSynchronized s.heap [] _ (lv_entry av hlen) hP va_S.rf
  rw [lg_entry_eq]
  exact hb
theorem Ctv_start {l : Launch} {G : GT} {y : MethodName} {ws ws' : List Cond} {rm : Room} {cc : ByteArray} {maxL : Nat} {ret : Option FieldType} {av : List Value} {lv : List (Nat × Value)} {σ : Hp} {σ0 : Hp} (hy : plainName y.cls = true) (hw : ws = Cond.code y cc maxL ret :: ws') (hG : GI G) (hlen : (lg_sl av).length ≤ maxL) (hlv : lv_args 0 av = lv)
    (body : ∀ p e s m args below meth c, CX p s m args c cc maxL y.cls ws G (AA G) → meth.sig.returnType = ret → meth.locks = false → VV p l e (headSpec ws rm).room s m args below meth c (MQ below (QV G σ0) args s 0 0 (AA G)) G (AA G) 0 0 maxL σ 0 lv []) : Ctv l G y ws rm av σ σ0 := by
  refine Met.ofW hy hw ?_
  intro p e s m args below meth c s₁ B hml hv
  obtain ⟨rfl, hP, hGW⟩ := hv
  subst hlv
  have hb := body p e s m av.toArray below meth c ⟨B.exec, B.bytes, hml, findClass_of_methodNamed B.named, atoms_spec (ws := ws) B.pre, hGW, hG, fun q h => h⟩ B.returns B.notSynchronized s.heap [] _ (lv_entry av hlen) hP va_S.rf
  rw [lg_entry_eq]
  exact hb
theorem pf_0_1 (G : GT) (σ : Hp) (j : Nat) (x : Int) {fs : List Value} (h : ent G σ 0 j = .inr (0, fs)) : .inr (0, fs.set 1 (iv x)) = ent G (hup σ 0 j 1 x) 0 j := by
  cases h
  simp [ent, hup]
theorem pf_1_1 (G : GT) (σ : Hp) (j : Nat) (x : Int) {fs : List Value} (h : ent G σ 1 j = .inr (1, fs)) : .inr (1, fs.set 1 (iv x)) = ent G (hup σ 1 j 1 x) 1 j := by
  cases h
  simp [ent, hup]
theorem pf_1_2 (G : GT) (σ : Hp) (j : Nat) (x : Int) {fs : List Value} (h : ent G σ 1 j = .inr (1, fs)) : .inr (1, fs.set 2 (iv x)) = ent G (hup σ 1 j 2 x) 1 j := by
  cases h
  simp [ent, hup]
theorem pf_3_1 (G : GT) (σ : Hp) (j : Nat) (x : Int) {fs : List Value} (h : ent G σ 3 j = .inr (3, fs)) : .inr (3, fs.set 1 (iv x)) = ent G (hup σ 3 j 1 x) 3 j := by
  cases h
  simp [ent, hup]
theorem pf_3_2 (G : GT) (σ : Hp) (j : Nat) (x : Int) {fs : List Value} (h : ent G σ 3 j = .inr (3, fs)) : .inr (3, fs.set 2 (iv x)) = ent G (hup σ 3 j 2 x) 3 j := by
  cases h
  simp [ent, hup]
theorem pf_3_3 (G : GT) (σ : Hp) (j : Nat) (x : Int) {fs : List Value} (h : ent G σ 3 j = .inr (3, fs)) : .inr (3, fs.set 3 (iv x)) = ent G (hup σ 3 j 3 x) 3 j := by
  cases h
  simp [ent, hup]
theorem pf_4_1 (G : GT) (σ : Hp) (j : Nat) (x : Int) {fs : List Value} (h : ent G σ 4 j = .inr (4, fs)) : .inr (4, fs.set 1 (iv x)) = ent G (hup σ 4 j 1 x) 4 j := by
  cases h
  simp [ent, hup]
theorem pf_4_2 (G : GT) (σ : Hp) (j : Nat) (x : Int) {fs : List Value} (h : ent G σ 4 j = .inr (4, fs)) : .inr (4, fs.set 2 (iv x)) = ent G (hup σ 4 j 2 x) 4 j := by
  cases h
  simp [ent, hup]
theorem pf_4_3 (G : GT) (σ : Hp) (j : Nat) (x : Int) {fs : List Value} (h : ent G σ 4 j = .inr (4, fs)) : .inr (4, fs.set 3 (iv x)) = ent G (hup σ 4 j 3 x) 4 j := by
  cases h
  simp [ent, hup]
theorem pf_4_4 (G : GT) (σ : Hp) (j : Nat) (x : Int) {fs : List Value} (h : ent G σ 4 j = .inr (4, fs)) : .inr (4, fs.set 4 (iv x)) = ent G (hup σ 4 j 4 x) 4 j := by
  cases h
  simp [ent, hup]
theorem pf_5_7 (G : GT) (σ : Hp) (j : Nat) (x : Int) {fs : List Value} (h : ent G σ 5 j = .inr (5, fs)) : .inr (5, fs.set 7 (iv x)) = ent G (hup σ 5 j 7 x) 5 j := by
  cases h
  simp [ent, hup]
theorem pf_5_8 (G : GT) (σ : Hp) (j : Nat) (x : Int) {fs : List Value} (h : ent G σ 5 j = .inr (5, fs)) : .inr (5, fs.set 8 (iv x)) = ent G (hup σ 5 j 8 x) 5 j := by
  cases h
  simp [ent, hup]
theorem pf_5_9 (G : GT) (σ : Hp) (j : Nat) (x : Int) {fs : List Value} (h : ent G σ 5 j = .inr (5, fs)) : .inr (5, fs.set 9 (iv x)) = ent G (hup σ 5 j 9 x) 5 j := by
  cases h
  simp [ent, hup]
theorem pf_5_10 (G : GT) (σ : Hp) (j : Nat) (x : Int) {fs : List Value} (h : ent G σ 5 j = .inr (5, fs)) : .inr (5, fs.set 10 (iv x)) = ent G (hup σ 5 j 10 x) 5 j := by
  cases h
  simp [ent, hup]
theorem pf_5_11 (G : GT) (σ : Hp) (j : Nat) (x : Int) {fs : List Value} (h : ent G σ 5 j = .inr (5, fs)) : .inr (5, fs.set 11 (iv x)) = ent G (hup σ 5 j 11 x) 5 j := by
  cases h
  simp [ent, hup]
theorem pf_6_8 (G : GT) (σ : Hp) (j : Nat) (x : Int) {fs : List Value} (h : ent G σ 6 j = .inr (6, fs)) : .inr (6, fs.set 8 (iv x)) = ent G (hup σ 6 j 8 x) 6 j := by
  cases h
  simp [ent, hup]
theorem pf_6_9 (G : GT) (σ : Hp) (j : Nat) (x : Int) {fs : List Value} (h : ent G σ 6 j = .inr (6, fs)) : .inr (6, fs.set 9 (iv x)) = ent G (hup σ 6 j 9 x) 6 j := by
  cases h
  simp [ent, hup]
theorem pf_7_4 (G : GT) (σ : Hp) (j : Nat) (x : Int) {fs : List Value} (h : ent G σ 7 j = .inr (7, fs)) : .inr (7, fs.set 4 (iv x)) = ent G (hup σ 7 j 4 x) 7 j := by
  cases h
  simp [ent, hup]
theorem pf_7_6 (G : GT) (σ : Hp) (j : Nat) (x : Int) {fs : List Value} (h : ent G σ 7 j = .inr (7, fs)) : .inr (7, fs.set 6 (iv x)) = ent G (hup σ 7 j 6 x) 7 j := by
  cases h
  simp [ent, hup]
theorem pf_7_7 (G : GT) (σ : Hp) (j : Nat) (x : Int) {fs : List Value} (h : ent G σ 7 j = .inr (7, fs)) : .inr (7, fs.set 7 (iv x)) = ent G (hup σ 7 j 7 x) 7 j := by
  cases h
  simp [ent, hup]
theorem pf_7_8 (G : GT) (σ : Hp) (j : Nat) (x : Int) {fs : List Value} (h : ent G σ 7 j = .inr (7, fs)) : .inr (7, fs.set 8 (iv x)) = ent G (hup σ 7 j 8 x) 7 j := by
  cases h
  simp [ent, hup]
theorem pf_7_9 (G : GT) (σ : Hp) (j : Nat) (x : Int) {fs : List Value} (h : ent G σ 7 j = .inr (7, fs)) : .inr (7, fs.set 9 (iv x)) = ent G (hup σ 7 j 9 x) 7 j := by
  cases h
  simp [ent, hup]
theorem pf_7_10 (G : GT) (σ : Hp) (j : Nat) (x : Int) {fs : List Value} (h : ent G σ 7 j = .inr (7, fs)) : .inr (7, fs.set 10 (iv x)) = ent G (hup σ 7 j 10 x) 7 j := by
  cases h
  simp [ent, hup]
theorem pf_7_11 (G : GT) (σ : Hp) (j : Nat) (x : Int) {fs : List Value} (h : ent G σ 7 j = .inr (7, fs)) : .inr (7, fs.set 11 (iv x)) = ent G (hup σ 7 j 11 x) 7 j := by
  cases h
  simp [ent, hup]
theorem pf_7_12 (G : GT) (σ : Hp) (j : Nat) (x : Int) {fs : List Value} (h : ent G σ 7 j = .inr (7, fs)) : .inr (7, fs.set 12 (iv x)) = ent G (hup σ 7 j 12 x) 7 j := by
  cases h
  simp [ent, hup]
theorem pf_7_16 (G : GT) (σ : Hp) (j : Nat) (x : Int) {fs : List Value} (h : ent G σ 7 j = .inr (7, fs)) : .inr (7, fs.set 16 (iv x)) = ent G (hup σ 7 j 16 x) 7 j := by
  cases h
  simp [ent, hup]
theorem pf_7_21 (G : GT) (σ : Hp) (j : Nat) (x : Int) {fs : List Value} (h : ent G σ 7 j = .inr (7, fs)) : .inr (7, fs.set 21 (iv x)) = ent G (hup σ 7 j 21 x) 7 j := by
  cases h
  simp [ent, hup]
end
section
theorem zz_last : True := trivial
end
