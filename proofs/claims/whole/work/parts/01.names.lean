-- ===== PART A: goes FIRST, ahead of the names: the tables' words, and 'selects' of the private methods out of them =====
/-- a private method of a class that the tables say can be made, by its rows of tables_1 -/
def lw_okq (q : MethodName × Nat) : Prop := (q.1.cls ≠ "java/lang/invoke/MethodHandle" ∧ q.1.cls ≠ "java/lang/invoke/VarHandle") ∧ Cond.instantiable q.1.cls q.2 ∈ tables_1 ∧ Cond.privateMethod q.1 ∈ tables_1 ∧ Cond.instanceMethod q.1 ∈ tables_1
theorem lw_p0 : lw_okq (⟨"ButtonTin$Reader", "isAtEnd", "()Z"⟩, 3) := ⟨⟨by decide +kernel, by decide +kernel⟩, List.mem_of_getElem? (i := 30) (by decide +kernel), List.mem_of_getElem? (i := 269) (by decide +kernel), List.mem_of_getElem? (i := 270) (by decide +kernel)⟩
theorem lw_p1 : lw_okq (⟨"ButtonTin$Reader", "readClause", "(LButtonTin$Telling;)I"⟩, 3) := ⟨⟨by decide +kernel, by decide +kernel⟩, List.mem_of_getElem? (i := 30) (by decide +kernel), List.mem_of_getElem? (i := 273) (by decide +kernel), List.mem_of_getElem? (i := 274) (by decide +kernel)⟩
theorem lw_p2 : lw_okq (⟨"ButtonTin$Reader", "readNumber", "(II)I"⟩, 3) := ⟨⟨by decide +kernel, by decide +kernel⟩, List.mem_of_getElem? (i := 30) (by decide +kernel), List.mem_of_getElem? (i := 368) (by decide +kernel), List.mem_of_getElem? (i := 369) (by decide +kernel)⟩
theorem lw_p3 : lw_okq (⟨"ButtonTin$Bench", "firstRule", "(I)I"⟩, 2) := ⟨⟨by decide +kernel, by decide +kernel⟩, List.mem_of_getElem? (i := 49) (by decide +kernel), List.mem_of_getElem? (i := 441) (by decide +kernel), List.mem_of_getElem? (i := 442) (by decide +kernel)⟩
theorem lw_p4 : lw_okq (⟨"ButtonTin$Bench", "strongest", "(I)I"⟩, 2) := ⟨⟨by decide +kernel, by decide +kernel⟩, List.mem_of_getElem? (i := 49) (by decide +kernel), List.mem_of_getElem? (i := 473) (by decide +kernel), List.mem_of_getElem? (i := 474) (by decide +kernel)⟩
theorem lw_p5 : lw_okq (⟨"ButtonTin", "isThere", "(II)Z"⟩, 10) := ⟨⟨by decide +kernel, by decide +kernel⟩, List.mem_of_getElem? (i := 22) (by decide +kernel), List.mem_of_getElem? (i := 493) (by decide +kernel), List.mem_of_getElem? (i := 494) (by decide +kernel)⟩
theorem lw_p6 : lw_okq (⟨"ButtonTin", "driftOnce", "()V"⟩, 10) := ⟨⟨by decide +kernel, by decide +kernel⟩, List.mem_of_getElem? (i := 22) (by decide +kernel), List.mem_of_getElem? (i := 596) (by decide +kernel), List.mem_of_getElem? (i := 597) (by decide +kernel)⟩
theorem lw_p7 : lw_okq (⟨"ButtonTin$Fitting", "passing", "(I)I"⟩, 4) := ⟨⟨by decide +kernel, by decide +kernel⟩, List.mem_of_getElem? (i := 157) (by decide +kernel), List.mem_of_getElem? (i := 626) (by decide +kernel), List.mem_of_getElem? (i := 627) (by decide +kernel)⟩
theorem lw_p8 : lw_okq (⟨"ButtonTin$Fitting", "countPassed", "(I)I"⟩, 4) := ⟨⟨by decide +kernel, by decide +kernel⟩, List.mem_of_getElem? (i := 157) (by decide +kernel), List.mem_of_getElem? (i := 644) (by decide +kernel), List.mem_of_getElem? (i := 645) (by decide +kernel)⟩
theorem lw_p9 : lw_okq (⟨"ButtonTin$Fitting", "gatherPartings", "(I)V"⟩, 4) := ⟨⟨by decide +kernel, by decide +kernel⟩, List.mem_of_getElem? (i := 157) (by decide +kernel), List.mem_of_getElem? (i := 658) (by decide +kernel), List.mem_of_getElem? (i := 659) (by decide +kernel)⟩
theorem lw_p10 : lw_okq (⟨"ButtonTin$Fitting", "isMetAnyway", "(I)Z"⟩, 4) := ⟨⟨by decide +kernel, by decide +kernel⟩, List.mem_of_getElem? (i := 157) (by decide +kernel), List.mem_of_getElem? (i := 662) (by decide +kernel), List.mem_of_getElem? (i := 663) (by decide +kernel)⟩
theorem lw_p11 : lw_okq (⟨"ButtonTin$Fitting", "meetsAllPartings", "(I)Z"⟩, 4) := ⟨⟨by decide +kernel, by decide +kernel⟩, List.mem_of_getElem? (i := 157) (by decide +kernel), List.mem_of_getElem? (i := 667) (by decide +kernel), List.mem_of_getElem? (i := 668) (by decide +kernel)⟩
theorem lw_p12 : lw_okq (⟨"ButtonTin$Matching", "readWeights", "()V"⟩, 4) := ⟨⟨by decide +kernel, by decide +kernel⟩, List.mem_of_getElem? (i := 176) (by decide +kernel), List.mem_of_getElem? (i := 679) (by decide +kernel), List.mem_of_getElem? (i := 680) (by decide +kernel)⟩
theorem lw_p13 : lw_okq (⟨"ButtonTin$Matching", "openNeeds", "()I"⟩, 4) := ⟨⟨by decide +kernel, by decide +kernel⟩, List.mem_of_getElem? (i := 176) (by decide +kernel), List.mem_of_getElem? (i := 687) (by decide +kernel), List.mem_of_getElem? (i := 688) (by decide +kernel)⟩
theorem lw_p14 : lw_okq (⟨"ButtonTin$Matching", "bestWorth", "(II)I"⟩, 4) := ⟨⟨by decide +kernel, by decide +kernel⟩, List.mem_of_getElem? (i := 176) (by decide +kernel), List.mem_of_getElem? (i := 692) (by decide +kernel), List.mem_of_getElem? (i := 693) (by decide +kernel)⟩
theorem lw_p15 : lw_okq (⟨"ButtonTin$Matching", "leastNeed", "(I)I"⟩, 4) := ⟨⟨by decide +kernel, by decide +kernel⟩, List.mem_of_getElem? (i := 176) (by decide +kernel), List.mem_of_getElem? (i := 696) (by decide +kernel), List.mem_of_getElem? (i := 697) (by decide +kernel)⟩
def lw_privs_1 : List (MethodName × Nat) := [(⟨"ButtonTin$Reader", "isAtEnd", "()Z"⟩, 3), (⟨"ButtonTin$Reader", "readClause", "(LButtonTin$Telling;)I"⟩, 3), (⟨"ButtonTin$Reader", "readNumber", "(II)I"⟩, 3), (⟨"ButtonTin$Bench", "firstRule", "(I)I"⟩, 2), (⟨"ButtonTin$Bench", "strongest", "(I)I"⟩, 2), (⟨"ButtonTin", "isThere", "(II)Z"⟩, 10), (⟨"ButtonTin", "driftOnce", "()V"⟩, 10), (⟨"ButtonTin$Fitting", "passing", "(I)I"⟩, 4), (⟨"ButtonTin$Fitting", "countPassed", "(I)I"⟩, 4), (⟨"ButtonTin$Fitting", "gatherPartings", "(I)V"⟩, 4), (⟨"ButtonTin$Fitting", "isMetAnyway", "(I)Z"⟩, 4), (⟨"ButtonTin$Fitting", "meetsAllPartings", "(I)Z"⟩, 4), (⟨"ButtonTin$Matching", "readWeights", "()V"⟩, 4), (⟨"ButtonTin$Matching", "openNeeds", "()I"⟩, 4), (⟨"ButtonTin$Matching", "bestWorth", "(II)I"⟩, 4), (⟨"ButtonTin$Matching", "leastNeed", "(I)I"⟩, 4)]
theorem lw_r1 : ∀ q ∈ lw_privs_1, lw_okq q := List.forall_mem_cons.mpr ⟨lw_p0, List.forall_mem_cons.mpr ⟨lw_p1, List.forall_mem_cons.mpr ⟨lw_p2, List.forall_mem_cons.mpr ⟨lw_p3, List.forall_mem_cons.mpr ⟨lw_p4, List.forall_mem_cons.mpr ⟨lw_p5, List.forall_mem_cons.mpr ⟨lw_p6, List.forall_mem_cons.mpr ⟨lw_p7, List.forall_mem_cons.mpr ⟨lw_p8, List.forall_mem_cons.mpr ⟨lw_p9, List.forall_mem_cons.mpr ⟨lw_p10, List.forall_mem_cons.mpr ⟨lw_p11, List.forall_mem_cons.mpr ⟨lw_p12, List.forall_mem_cons.mpr ⟨lw_p13, List.forall_mem_cons.mpr ⟨lw_p14, List.forall_mem_cons.mpr ⟨lw_p15, fun _ h => absurd h List.not_mem_nil⟩⟩⟩⟩⟩⟩⟩⟩⟩⟩⟩⟩⟩⟩⟩⟩
theorem lw_p16 : lw_okq (⟨"ButtonTin$Matching", "weakestFor", "(II)I"⟩, 4) := ⟨⟨by decide +kernel, by decide +kernel⟩, List.mem_of_getElem? (i := 176) (by decide +kernel), List.mem_of_getElem? (i := 702) (by decide +kernel), List.mem_of_getElem? (i := 703) (by decide +kernel)⟩
theorem lw_p17 : lw_okq (⟨"ButtonTin$Matching", "firstChoice", "(IIII)I"⟩, 4) := ⟨⟨by decide +kernel, by decide +kernel⟩, List.mem_of_getElem? (i := 176) (by decide +kernel), List.mem_of_getElem? (i := 706) (by decide +kernel), List.mem_of_getElem? (i := 707) (by decide +kernel)⟩
theorem lw_p18 : lw_okq (⟨"ButtonTin", "fewestThatHold", "(I)I"⟩, 10) := ⟨⟨by decide +kernel, by decide +kernel⟩, List.mem_of_getElem? (i := 22) (by decide +kernel), List.mem_of_getElem? (i := 722) (by decide +kernel), List.mem_of_getElem? (i := 723) (by decide +kernel)⟩
theorem lw_p19 : lw_okq (⟨"ButtonTinModel", "skip", "()V"⟩, 39) := ⟨⟨by decide +kernel, by decide +kernel⟩, List.mem_of_getElem? (i := 808) (by decide +kernel), List.mem_of_getElem? (i := 946) (by decide +kernel), List.mem_of_getElem? (i := 947) (by decide +kernel)⟩
theorem lw_p20 : lw_okq (⟨"ButtonTinModel", "here", "()I"⟩, 39) := ⟨⟨by decide +kernel, by decide +kernel⟩, List.mem_of_getElem? (i := 808) (by decide +kernel), List.mem_of_getElem? (i := 950) (by decide +kernel), List.mem_of_getElem? (i := 951) (by decide +kernel)⟩
theorem lw_p21 : lw_okq (⟨"ButtonTinModel", "read", "()V"⟩, 39) := ⟨⟨by decide +kernel, by decide +kernel⟩, List.mem_of_getElem? (i := 808) (by decide +kernel), List.mem_of_getElem? (i := 954) (by decide +kernel), List.mem_of_getElem? (i := 955) (by decide +kernel)⟩
theorem lw_p22 : lw_okq (⟨"ButtonTinModel", "fail", "(II)V"⟩, 39) := ⟨⟨by decide +kernel, by decide +kernel⟩, List.mem_of_getElem? (i := 808) (by decide +kernel), List.mem_of_getElem? (i := 958) (by decide +kernel), List.mem_of_getElem? (i := 959) (by decide +kernel)⟩
theorem lw_p23 : lw_okq (⟨"ButtonTinModel", "number", "(II)I"⟩, 39) := ⟨⟨by decide +kernel, by decide +kernel⟩, List.mem_of_getElem? (i := 808) (by decide +kernel), List.mem_of_getElem? (i := 962) (by decide +kernel), List.mem_of_getElem? (i := 963) (by decide +kernel)⟩
theorem lw_p24 : lw_okq (⟨"ButtonTinModel", "isFigure", "()Z"⟩, 39) := ⟨⟨by decide +kernel, by decide +kernel⟩, List.mem_of_getElem? (i := 808) (by decide +kernel), List.mem_of_getElem? (i := 966) (by decide +kernel), List.mem_of_getElem? (i := 967) (by decide +kernel)⟩
theorem lw_p25 : lw_okq (⟨"ButtonTinModel", "end", "()V"⟩, 39) := ⟨⟨by decide +kernel, by decide +kernel⟩, List.mem_of_getElem? (i := 808) (by decide +kernel), List.mem_of_getElem? (i := 970) (by decide +kernel), List.mem_of_getElem? (i := 971) (by decide +kernel)⟩
theorem lw_p26 : lw_okq (⟨"ButtonTinModel", "clause", "(II)V"⟩, 39) := ⟨⟨by decide +kernel, by decide +kernel⟩, List.mem_of_getElem? (i := 808) (by decide +kernel), List.mem_of_getElem? (i := 974) (by decide +kernel), List.mem_of_getElem? (i := 975) (by decide +kernel)⟩
theorem lw_p27 : lw_okq (⟨"ButtonTinModel", "readMarks", "([II)V"⟩, 39) := ⟨⟨by decide +kernel, by decide +kernel⟩, List.mem_of_getElem? (i := 808) (by decide +kernel), List.mem_of_getElem? (i := 978) (by decide +kernel), List.mem_of_getElem? (i := 979) (by decide +kernel)⟩
theorem lw_p28 : lw_okq (⟨"ButtonTinModel", "setIn", "(I)I"⟩, 39) := ⟨⟨by decide +kernel, by decide +kernel⟩, List.mem_of_getElem? (i := 808) (by decide +kernel), List.mem_of_getElem? (i := 990) (by decide +kernel), List.mem_of_getElem? (i := 991) (by decide +kernel)⟩
theorem lw_p29 : lw_okq (⟨"ButtonTinModel", "those", "(I)I"⟩, 39) := ⟨⟨by decide +kernel, by decide +kernel⟩, List.mem_of_getElem? (i := 808) (by decide +kernel), List.mem_of_getElem? (i := 994) (by decide +kernel), List.mem_of_getElem? (i := 995) (by decide +kernel)⟩
theorem lw_p30 : lw_okq (⟨"ButtonTinModel", "ruleOf", "(I)I"⟩, 39) := ⟨⟨by decide +kernel, by decide +kernel⟩, List.mem_of_getElem? (i := 808) (by decide +kernel), List.mem_of_getElem? (i := 998) (by decide +kernel), List.mem_of_getElem? (i := 999) (by decide +kernel)⟩
theorem lw_p31 : lw_okq (⟨"ButtonTinModel", "passesRule", "(II)Z"⟩, 39) := ⟨⟨by decide +kernel, by decide +kernel⟩, List.mem_of_getElem? (i := 808) (by decide +kernel), List.mem_of_getElem? (i := 1002) (by decide +kernel), List.mem_of_getElem? (i := 1003) (by decide +kernel)⟩
def lw_privs_2 : List (MethodName × Nat) := [(⟨"ButtonTin$Matching", "weakestFor", "(II)I"⟩, 4), (⟨"ButtonTin$Matching", "firstChoice", "(IIII)I"⟩, 4), (⟨"ButtonTin", "fewestThatHold", "(I)I"⟩, 10), (⟨"ButtonTinModel", "skip", "()V"⟩, 39), (⟨"ButtonTinModel", "here", "()I"⟩, 39), (⟨"ButtonTinModel", "read", "()V"⟩, 39), (⟨"ButtonTinModel", "fail", "(II)V"⟩, 39), (⟨"ButtonTinModel", "number", "(II)I"⟩, 39), (⟨"ButtonTinModel", "isFigure", "()Z"⟩, 39), (⟨"ButtonTinModel", "end", "()V"⟩, 39), (⟨"ButtonTinModel", "clause", "(II)V"⟩, 39), (⟨"ButtonTinModel", "readMarks", "([II)V"⟩, 39), (⟨"ButtonTinModel", "setIn", "(I)I"⟩, 39), (⟨"ButtonTinModel", "those", "(I)I"⟩, 39), (⟨"ButtonTinModel", "ruleOf", "(I)I"⟩, 39), (⟨"ButtonTinModel", "passesRule", "(II)Z"⟩, 39)]
theorem lw_r2 : ∀ q ∈ lw_privs_2, lw_okq q := List.forall_mem_cons.mpr ⟨lw_p16, List.forall_mem_cons.mpr ⟨lw_p17, List.forall_mem_cons.mpr ⟨lw_p18, List.forall_mem_cons.mpr ⟨lw_p19, List.forall_mem_cons.mpr ⟨lw_p20, List.forall_mem_cons.mpr ⟨lw_p21, List.forall_mem_cons.mpr ⟨lw_p22, List.forall_mem_cons.mpr ⟨lw_p23, List.forall_mem_cons.mpr ⟨lw_p24, List.forall_mem_cons.mpr ⟨lw_p25, List.forall_mem_cons.mpr ⟨lw_p26, List.forall_mem_cons.mpr ⟨lw_p27, List.forall_mem_cons.mpr ⟨lw_p28, List.forall_mem_cons.mpr ⟨lw_p29, List.forall_mem_cons.mpr ⟨lw_p30, List.forall_mem_cons.mpr ⟨lw_p31, fun _ h => absurd h List.not_mem_nil⟩⟩⟩⟩⟩⟩⟩⟩⟩⟩⟩⟩⟩⟩⟩⟩
theorem lw_p32 : lw_okq (⟨"ButtonTinModel", "markOf", "(II)I"⟩, 39) := ⟨⟨by decide +kernel, by decide +kernel⟩, List.mem_of_getElem? (i := 808) (by decide +kernel), List.mem_of_getElem? (i := 1006) (by decide +kernel), List.mem_of_getElem? (i := 1007) (by decide +kernel)⟩
theorem lw_p33 : lw_okq (⟨"ButtonTinModel", "heapOf", "(I)I"⟩, 39) := ⟨⟨by decide +kernel, by decide +kernel⟩, List.mem_of_getElem? (i := 808) (by decide +kernel), List.mem_of_getElem? (i := 1013) (by decide +kernel), List.mem_of_getElem? (i := 1014) (by decide +kernel)⟩
theorem lw_p34 : lw_okq (⟨"ButtonTinModel", "goes", "(I)I"⟩, 39) := ⟨⟨by decide +kernel, by decide +kernel⟩, List.mem_of_getElem? (i := 808) (by decide +kernel), List.mem_of_getElem? (i := 1017) (by decide +kernel), List.mem_of_getElem? (i := 1018) (by decide +kernel)⟩
theorem lw_p35 : lw_okq (⟨"ButtonTinModel", "heaviest", "()I"⟩, 39) := ⟨⟨by decide +kernel, by decide +kernel⟩, List.mem_of_getElem? (i := 808) (by decide +kernel), List.mem_of_getElem? (i := 1021) (by decide +kernel), List.mem_of_getElem? (i := 1022) (by decide +kernel)⟩
theorem lw_p36 : lw_okq (⟨"ButtonTinModel", "holdsOf", "(I)I"⟩, 39) := ⟨⟨by decide +kernel, by decide +kernel⟩, List.mem_of_getElem? (i := 808) (by decide +kernel), List.mem_of_getElem? (i := 1025) (by decide +kernel), List.mem_of_getElem? (i := 1026) (by decide +kernel)⟩
theorem lw_p37 : lw_okq (⟨"ButtonTinModel", "holds", "(I)I"⟩, 39) := ⟨⟨by decide +kernel, by decide +kernel⟩, List.mem_of_getElem? (i := 808) (by decide +kernel), List.mem_of_getElem? (i := 1032) (by decide +kernel), List.mem_of_getElem? (i := 1033) (by decide +kernel)⟩
theorem lw_p38 : lw_okq (⟨"ButtonTinModel", "isButton", "(I)Z"⟩, 39) := ⟨⟨by decide +kernel, by decide +kernel⟩, List.mem_of_getElem? (i := 808) (by decide +kernel), List.mem_of_getElem? (i := 1040) (by decide +kernel), List.mem_of_getElem? (i := 1041) (by decide +kernel)⟩
theorem lw_p39 : lw_okq (⟨"ButtonTinModel", "isRule", "(I)Z"⟩, 39) := ⟨⟨by decide +kernel, by decide +kernel⟩, List.mem_of_getElem? (i := 808) (by decide +kernel), List.mem_of_getElem? (i := 1049) (by decide +kernel), List.mem_of_getElem? (i := 1050) (by decide +kernel)⟩
theorem lw_p40 : lw_okq (⟨"ButtonTinModel", "placeOf", "(I)I"⟩, 39) := ⟨⟨by decide +kernel, by decide +kernel⟩, List.mem_of_getElem? (i := 808) (by decide +kernel), List.mem_of_getElem? (i := 1053) (by decide +kernel), List.mem_of_getElem? (i := 1054) (by decide +kernel)⟩
theorem lw_p41 : lw_okq (⟨"ButtonTinModel", "isCause", "(I)Z"⟩, 39) := ⟨⟨by decide +kernel, by decide +kernel⟩, List.mem_of_getElem? (i := 808) (by decide +kernel), List.mem_of_getElem? (i := 1061) (by decide +kernel), List.mem_of_getElem? (i := 1062) (by decide +kernel)⟩
theorem lw_p42 : lw_okq (⟨"ButtonTinModel", "isNeed", "(I)Z"⟩, 39) := ⟨⟨by decide +kernel, by decide +kernel⟩, List.mem_of_getElem? (i := 808) (by decide +kernel), List.mem_of_getElem? (i := 1069) (by decide +kernel), List.mem_of_getElem? (i := 1070) (by decide +kernel)⟩
theorem lw_p43 : lw_okq (⟨"ButtonTinModel", "sewnTo", "(I)I"⟩, 39) := ⟨⟨by decide +kernel, by decide +kernel⟩, List.mem_of_getElem? (i := 808) (by decide +kernel), List.mem_of_getElem? (i := 1073) (by decide +kernel), List.mem_of_getElem? (i := 1074) (by decide +kernel)⟩
theorem lw_p44 : lw_okq (⟨"ButtonTinModel", "know", "()V"⟩, 39) := ⟨⟨by decide +kernel, by decide +kernel⟩, List.mem_of_getElem? (i := 808) (by decide +kernel), List.mem_of_getElem? (i := 1089) (by decide +kernel), List.mem_of_getElem? (i := 1090) (by decide +kernel)⟩
theorem lw_p45 : lw_okq (⟨"ButtonTinModel", "sortOne", "(I)V"⟩, 39) := ⟨⟨by decide +kernel, by decide +kernel⟩, List.mem_of_getElem? (i := 808) (by decide +kernel), List.mem_of_getElem? (i := 1101) (by decide +kernel), List.mem_of_getElem? (i := 1102) (by decide +kernel)⟩
theorem lw_p46 : lw_okq (⟨"ButtonTinModel", "draw", "(I)I"⟩, 39) := ⟨⟨by decide +kernel, by decide +kernel⟩, List.mem_of_getElem? (i := 808) (by decide +kernel), List.mem_of_getElem? (i := 1129) (by decide +kernel), List.mem_of_getElem? (i := 1130) (by decide +kernel)⟩
theorem lw_p47 : lw_okq (⟨"ButtonTinModel", "measure", "(I)V"⟩, 39) := ⟨⟨by decide +kernel, by decide +kernel⟩, List.mem_of_getElem? (i := 808) (by decide +kernel), List.mem_of_getElem? (i := 1145) (by decide +kernel), List.mem_of_getElem? (i := 1146) (by decide +kernel)⟩
def lw_privs_3 : List (MethodName × Nat) := [(⟨"ButtonTinModel", "markOf", "(II)I"⟩, 39), (⟨"ButtonTinModel", "heapOf", "(I)I"⟩, 39), (⟨"ButtonTinModel", "goes", "(I)I"⟩, 39), (⟨"ButtonTinModel", "heaviest", "()I"⟩, 39), (⟨"ButtonTinModel", "holdsOf", "(I)I"⟩, 39), (⟨"ButtonTinModel", "holds", "(I)I"⟩, 39), (⟨"ButtonTinModel", "isButton", "(I)Z"⟩, 39), (⟨"ButtonTinModel", "isRule", "(I)Z"⟩, 39), (⟨"ButtonTinModel", "placeOf", "(I)I"⟩, 39), (⟨"ButtonTinModel", "isCause", "(I)Z"⟩, 39), (⟨"ButtonTinModel", "isNeed", "(I)Z"⟩, 39), (⟨"ButtonTinModel", "sewnTo", "(I)I"⟩, 39), (⟨"ButtonTinModel", "know", "()V"⟩, 39), (⟨"ButtonTinModel", "sortOne", "(I)V"⟩, 39), (⟨"ButtonTinModel", "draw", "(I)I"⟩, 39), (⟨"ButtonTinModel", "measure", "(I)V"⟩, 39)]
theorem lw_r3 : ∀ q ∈ lw_privs_3, lw_okq q := List.forall_mem_cons.mpr ⟨lw_p32, List.forall_mem_cons.mpr ⟨lw_p33, List.forall_mem_cons.mpr ⟨lw_p34, List.forall_mem_cons.mpr ⟨lw_p35, List.forall_mem_cons.mpr ⟨lw_p36, List.forall_mem_cons.mpr ⟨lw_p37, List.forall_mem_cons.mpr ⟨lw_p38, List.forall_mem_cons.mpr ⟨lw_p39, List.forall_mem_cons.mpr ⟨lw_p40, List.forall_mem_cons.mpr ⟨lw_p41, List.forall_mem_cons.mpr ⟨lw_p42, List.forall_mem_cons.mpr ⟨lw_p43, List.forall_mem_cons.mpr ⟨lw_p44, List.forall_mem_cons.mpr ⟨lw_p45, List.forall_mem_cons.mpr ⟨lw_p46, List.forall_mem_cons.mpr ⟨lw_p47, fun _ h => absurd h List.not_mem_nil⟩⟩⟩⟩⟩⟩⟩⟩⟩⟩⟩⟩⟩⟩⟩⟩
theorem lw_p48 : lw_okq (⟨"ButtonTinModel", "passes", "(II)Z"⟩, 39) := ⟨⟨by decide +kernel, by decide +kernel⟩, List.mem_of_getElem? (i := 808) (by decide +kernel), List.mem_of_getElem? (i := 1149) (by decide +kernel), List.mem_of_getElem? (i := 1150) (by decide +kernel)⟩
theorem lw_p49 : lw_okq (⟨"ButtonTinModel", "apart", "(II)I"⟩, 39) := ⟨⟨by decide +kernel, by decide +kernel⟩, List.mem_of_getElem? (i := 808) (by decide +kernel), List.mem_of_getElem? (i := 1161) (by decide +kernel), List.mem_of_getElem? (i := 1162) (by decide +kernel)⟩
theorem lw_p50 : lw_okq (⟨"ButtonTinModel", "matchAll", "()V"⟩, 39) := ⟨⟨by decide +kernel, by decide +kernel⟩, List.mem_of_getElem? (i := 808) (by decide +kernel), List.mem_of_getElem? (i := 1169) (by decide +kernel), List.mem_of_getElem? (i := 1170) (by decide +kernel)⟩
theorem lw_p51 : lw_okq (⟨"ButtonTinModel", "canSew", "(III)Z"⟩, 39) := ⟨⟨by decide +kernel, by decide +kernel⟩, List.mem_of_getElem? (i := 808) (by decide +kernel), List.mem_of_getElem? (i := 1173) (by decide +kernel), List.mem_of_getElem? (i := 1174) (by decide +kernel)⟩
theorem lw_p52 : lw_okq (⟨"ButtonTinModel", "worthBy", "(III)I"⟩, 39) := ⟨⟨by decide +kernel, by decide +kernel⟩, List.mem_of_getElem? (i := 808) (by decide +kernel), List.mem_of_getElem? (i := 1177) (by decide +kernel), List.mem_of_getElem? (i := 1178) (by decide +kernel)⟩
theorem lw_p53 : lw_okq (⟨"ButtonTinModel", "matchOf", "(II)I"⟩, 39) := ⟨⟨by decide +kernel, by decide +kernel⟩, List.mem_of_getElem? (i := 808) (by decide +kernel), List.mem_of_getElem? (i := 1181) (by decide +kernel), List.mem_of_getElem? (i := 1182) (by decide +kernel)⟩
theorem lw_p54 : lw_okq (⟨"ButtonTinModel", "slipsOf", "(II)I"⟩, 39) := ⟨⟨by decide +kernel, by decide +kernel⟩, List.mem_of_getElem? (i := 808) (by decide +kernel), List.mem_of_getElem? (i := 1193) (by decide +kernel), List.mem_of_getElem? (i := 1194) (by decide +kernel)⟩
def lw_privs_4 : List (MethodName × Nat) := [(⟨"ButtonTinModel", "passes", "(II)Z"⟩, 39), (⟨"ButtonTinModel", "apart", "(II)I"⟩, 39), (⟨"ButtonTinModel", "matchAll", "()V"⟩, 39), (⟨"ButtonTinModel", "canSew", "(III)Z"⟩, 39), (⟨"ButtonTinModel", "worthBy", "(III)I"⟩, 39), (⟨"ButtonTinModel", "matchOf", "(II)I"⟩, 39), (⟨"ButtonTinModel", "slipsOf", "(II)I"⟩, 39)]
theorem lw_r4 : ∀ q ∈ lw_privs_4, lw_okq q := List.forall_mem_cons.mpr ⟨lw_p48, List.forall_mem_cons.mpr ⟨lw_p49, List.forall_mem_cons.mpr ⟨lw_p50, List.forall_mem_cons.mpr ⟨lw_p51, List.forall_mem_cons.mpr ⟨lw_p52, List.forall_mem_cons.mpr ⟨lw_p53, List.forall_mem_cons.mpr ⟨lw_p54, fun _ h => absurd h List.not_mem_nil⟩⟩⟩⟩⟩⟩⟩
def lw_privs : List (MethodName × Nat) := lw_privs_1 ++ (lw_privs_2 ++ (lw_privs_3 ++ (lw_privs_4)))
def lw_tbl : List Cond := k2_sels lw_privs ++ tables_1
theorem lw_privs_ok : ∀ q ∈ lw_privs, lw_okq q := by
  show ∀ q ∈ lw_privs_1 ++ (lw_privs_2 ++ (lw_privs_3 ++ (lw_privs_4))), lw_okq q
  exact List.forall_mem_append.mpr ⟨lw_r1, List.forall_mem_append.mpr ⟨lw_r2, List.forall_mem_append.mpr ⟨lw_r3, lw_r4⟩⟩⟩
def RX0 : String := "ButtonTin$Bench"
def TX0 : u_T := fun k => match k with
  | 0 => ("ButtonTin$Bench", "cloth", "LButtonTin$Cloth;", true)
  | _ => ("ButtonTin$Bench", "telling", "LButtonTin$Telling;", false)
def tyX0 : Nat → FieldType := fun k => match k with
  | 0 => .object "ButtonTin$Cloth"
  | _ => .object "ButtonTin$Telling"
abbrev wsX00 : List Cond := u_ws RX0 TX0 2
theorem nmX0 : ∀ a, a < 2 → ∀ b, b < 2 → a ≠ b → (TX0 a).2.1 ≠ (TX0 b).2.1 := by decide +kernel
theorem tyX0_ok : ∀ k, k < 2 → parseFieldDescriptor (TX0 k).2.2.1 = some (tyX0 k) := by decide +kernel
abbrev cX0_init : ByteArray := prog_2_method_1_code
def yX0_init : MethodName := ⟨RX0, "<init>", "()V"⟩
abbrev cX0_count : ByteArray := prog_2_method_2_code
def yX0_count : MethodName := ⟨RX0, "count", "(I)I"⟩
abbrev cX0_errs : ByteArray := prog_2_method_3_code
def yX0_errs : MethodName := ⟨RX0, "errs", "()I"⟩
abbrev cX0_weight : ByteArray := prog_2_method_4_code
def yX0_weight : MethodName := ⟨RX0, "weight", "(I)I"⟩
abbrev cX0_mark : ByteArray := prog_2_method_5_code
def yX0_mark : MethodName := ⟨RX0, "mark", "(II)I"⟩
abbrev cX0_holds : ByteArray := prog_2_method_6_code
def yX0_holds : MethodName := ⟨RX0, "holds", "(I)I"⟩
abbrev cX0_from : ByteArray := prog_2_method_7_code
def yX0_from : MethodName := ⟨RX0, "from", "(II)I"⟩
abbrev cX0_at : ByteArray := prog_2_method_8_code
def yX0_at : MethodName := ⟨RX0, "at", "(I)I"⟩
abbrev cX0_isSewn : ByteArray := prog_2_method_9_code
def yX0_isSewn : MethodName := ⟨RX0, "isSewn", "(I)Z"⟩
abbrev cX0_heapOf : ByteArray := prog_2_method_10_code
def yX0_heapOf : MethodName := ⟨RX0, "heapOf", "(I)I"⟩
abbrev cX0_sewnTo : ByteArray := prog_2_method_11_code
def yX0_sewnTo : MethodName := ⟨RX0, "sewnTo", "(I)I"⟩
abbrev cX0_placeOfRule : ByteArray := prog_2_method_12_code
def yX0_placeOfRule : MethodName := ⟨RX0, "placeOfRule", "(I)I"⟩
abbrev cX0_passes : ByteArray := prog_2_method_13_code
def yX0_passes : MethodName := ⟨RX0, "passes", "(III)Z"⟩
abbrev cX0_firstRule : ByteArray := prog_2_method_14_code
def yX0_firstRule : MethodName := ⟨RX0, "firstRule", "(I)I"⟩
abbrev cX0_goal : ByteArray := prog_2_method_15_code
def yX0_goal : MethodName := ⟨RX0, "goal", "(I)I"⟩
abbrev cX0_sortAlone : ByteArray := prog_2_method_16_code
def yX0_sortAlone : MethodName := ⟨RX0, "sortAlone", "(I)V"⟩
abbrev cX0_out : ByteArray := prog_2_method_17_code
def yX0_out : MethodName := ⟨RX0, "out", "()I"⟩
abbrev cX0_inWrongHeap : ByteArray := prog_2_method_18_code
def yX0_inWrongHeap : MethodName := ⟨RX0, "inWrongHeap", "()I"⟩
abbrev cX0_idle : ByteArray := prog_2_method_19_code
def yX0_idle : MethodName := ⟨RX0, "idle", "()I"⟩
abbrev cX0_heaviest : ByteArray := prog_2_method_20_code
def yX0_heaviest : MethodName := ⟨RX0, "heaviest", "()I"⟩
abbrev cX0_mostHeld : ByteArray := prog_2_method_21_code
def yX0_mostHeld : MethodName := ⟨RX0, "mostHeld", "(II)I"⟩
abbrev cX0_strongest : ByteArray := prog_2_method_22_code
def yX0_strongest : MethodName := ⟨RX0, "strongest", "(I)I"⟩
abbrev cX0_haveLikeMarks : ByteArray := prog_2_method_23_code
def yX0_haveLikeMarks : MethodName := ⟨RX0, "haveLikeMarks", "(II)Z"⟩
abbrev cX0_unlikeMarks : ByteArray := prog_2_method_24_code
def yX0_unlikeMarks : MethodName := ⟨RX0, "unlikeMarks", "(II)I"⟩
abbrev cX0_fewestSlips : ByteArray := prog_2_method_25_code
def yX0_fewestSlips : MethodName := ⟨RX0, "fewestSlips", "(I)I"⟩
abbrev cX0_causesWithSlips : ByteArray := prog_2_method_26_code
def yX0_causesWithSlips : MethodName := ⟨RX0, "causesWithSlips", "(II)I"⟩
abbrev cX0_leastChange : ByteArray := prog_2_method_27_code
def yX0_leastChange : MethodName := ⟨RX0, "leastChange", "(I)I"⟩
def RX1 : String := "ButtonTin$Book"
def TX1 : u_T := fun k => match k with
  | 0 => ("ButtonTin$Book", "buttons", "[I", true)
  | 1 => ("ButtonTin$Book", "heaps", "[I", true)
  | _ => ("ButtonTin$Book", "size", "I", false)
def tyX1 : Nat → FieldType := fun k => match k with
  | 0 => .array .int
  | 1 => .array .int
  | _ => .int
abbrev wsX10 : List Cond := u_ws RX1 TX1 3
theorem nmX1 : ∀ a, a < 3 → ∀ b, b < 3 → a ≠ b → (TX1 a).2.1 ≠ (TX1 b).2.1 := by decide +kernel
theorem tyX1_ok : ∀ k, k < 3 → parseFieldDescriptor (TX1 k).2.2.1 = some (tyX1 k) := by decide +kernel
abbrev cX1_init : ByteArray := prog_3_method_1_code
def yX1_init : MethodName := ⟨RX1, "<init>", "()V"⟩
abbrev cX1_clear : ByteArray := prog_3_method_2_code
def yX1_clear : MethodName := ⟨RX1, "clear", "()V"⟩
abbrev cX1_add : ByteArray := prog_3_method_3_code
def yX1_add : MethodName := ⟨RX1, "add", "(II)V"⟩
abbrev cX1_firstWrong : ByteArray := prog_3_method_4_code
def yX1_firstWrong : MethodName := ⟨RX1, "firstWrong", "(LButtonTin$Bench;)I"⟩
def RX2 : String := "ButtonTin$Cloth"
def TX2 : u_T := fun k => match k with
  | 0 => ("ButtonTin$Cloth", "place", "[I", true)
  | 1 => ("ButtonTin$Cloth", "order", "[I", true)
  | 2 => ("ButtonTin$Cloth", "threads", "I", false)
  | _ => ("ButtonTin$Cloth", "sorted", "I", false)
def tyX2 : Nat → FieldType := fun k => match k with
  | 0 => .array .int
  | 1 => .array .int
  | 2 => .int
  | _ => .int
abbrev wsX20 : List Cond := u_ws RX2 TX2 4
theorem nmX2 : ∀ a, a < 4 → ∀ b, b < 4 → a ≠ b → (TX2 a).2.1 ≠ (TX2 b).2.1 := by decide +kernel
theorem tyX2_ok : ∀ k, k < 4 → parseFieldDescriptor (TX2 k).2.2.1 = some (tyX2 k) := by decide +kernel
abbrev cX2_init : ByteArray := prog_4_method_1_code
def yX2_init : MethodName := ⟨RX2, "<init>", "()V"⟩
abbrev cX2_layOut : ByteArray := prog_4_method_2_code
def yX2_layOut : MethodName := ⟨RX2, "layOut", "(LButtonTin$Telling;)V"⟩
abbrev cX2_copyFrom : ByteArray := prog_4_method_3_code
def yX2_copyFrom : MethodName := ⟨RX2, "copyFrom", "(LButtonTin$Cloth;)V"⟩
def RX3 : String := "ButtonTin$Draws"
def TX3 : u_T := fun k => match k with
  | _ => ("ButtonTin$Draws", "state", "I", false)
def tyX3 : Nat → FieldType := fun k => match k with
  | _ => .int
abbrev wsX30 : List Cond := u_ws RX3 TX3 1
theorem nmX3 : ∀ a, a < 1 → ∀ b, b < 1 → a ≠ b → (TX3 a).2.1 ≠ (TX3 b).2.1 := by decide +kernel
theorem tyX3_ok : ∀ k, k < 1 → parseFieldDescriptor (TX3 k).2.2.1 = some (tyX3 k) := by decide +kernel
abbrev cX3_init : ByteArray := prog_5_method_1_code
def yX3_init : MethodName := ⟨RX3, "<init>", "()V"⟩
abbrev cX3_next : ByteArray := prog_5_method_2_code
def yX3_next : MethodName := ⟨RX3, "next", "(I)I"⟩
def RX4 : String := "ButtonTin$Fitting"
def TX4 : u_T := fun k => match k with
  | 0 => ("ButtonTin$Fitting", "bench", "LButtonTin$Bench;", true)
  | 1 => ("ButtonTin$Fitting", "passed", "[I", true)
  | 2 => ("ButtonTin$Fitting", "partings", "[I", true)
  | _ => ("ButtonTin$Fitting", "parted", "I", false)
def tyX4 : Nat → FieldType := fun k => match k with
  | 0 => .object "ButtonTin$Bench"
  | 1 => .array .int
  | 2 => .array .int
  | _ => .int
abbrev wsX40 : List Cond := u_ws RX4 TX4 4
theorem nmX4 : ∀ a, a < 4 → ∀ b, b < 4 → a ≠ b → (TX4 a).2.1 ≠ (TX4 b).2.1 := by decide +kernel
theorem tyX4_ok : ∀ k, k < 4 → parseFieldDescriptor (TX4 k).2.2.1 = some (tyX4 k) := by decide +kernel
abbrev cX4_init : ByteArray := prog_6_method_1_code
def yX4_init : MethodName := ⟨RX4, "<init>", "(LButtonTin$Bench;)V"⟩
abbrev cX4_passing : ByteArray := prog_6_method_2_code
def yX4_passing : MethodName := ⟨RX4, "passing", "(I)I"⟩
abbrev cX4_fits : ByteArray := prog_6_method_3_code
def yX4_fits : MethodName := ⟨RX4, "fits", "(III)Z"⟩
abbrev cX4_fitFor : ByteArray := prog_6_method_4_code
def yX4_fitFor : MethodName := ⟨RX4, "fitFor", "(II)I"⟩
abbrev cX4_bestTeller : ByteArray := prog_6_method_5_code
def yX4_bestTeller : MethodName := ⟨RX4, "bestTeller", "(I)I"⟩
abbrev cX4_countPassed : ByteArray := prog_6_method_6_code
def yX4_countPassed : MethodName := ⟨RX4, "countPassed", "(I)I"⟩
abbrev cX4_fewestTeachers : ByteArray := prog_6_method_7_code
def yX4_fewestTeachers : MethodName := ⟨RX4, "fewestTeachers", "(I)I"⟩
abbrev cX4_gatherPartings : ByteArray := prog_6_method_8_code
def yX4_gatherPartings : MethodName := ⟨RX4, "gatherPartings", "(I)V"⟩
abbrev cX4_isMetAnyway : ByteArray := prog_6_method_9_code
def yX4_isMetAnyway : MethodName := ⟨RX4, "isMetAnyway", "(I)Z"⟩
abbrev cX4_meetsAllPartings : ByteArray := prog_6_method_10_code
def yX4_meetsAllPartings : MethodName := ⟨RX4, "meetsAllPartings", "(I)Z"⟩
def RX5 : String := "ButtonTin$Image"
def TX5 : u_T := fun k => match k with
  | 0 => ("ButtonTin$Image", "cloth", "LButtonTin$Cloth;", true)
  | 1 => ("ButtonTin$Image", "drawState", "I", false)
  | _ => ("ButtonTin$Image", "kept", "Z", false)
def tyX5 : Nat → FieldType := fun k => match k with
  | 0 => .object "ButtonTin$Cloth"
  | 1 => .int
  | _ => .boolean
abbrev wsX50 : List Cond := u_ws RX5 TX5 3
theorem nmX5 : ∀ a, a < 3 → ∀ b, b < 3 → a ≠ b → (TX5 a).2.1 ≠ (TX5 b).2.1 := by decide +kernel
theorem tyX5_ok : ∀ k, k < 3 → parseFieldDescriptor (TX5 k).2.2.1 = some (tyX5 k) := by decide +kernel
abbrev cX5_init : ByteArray := prog_7_method_1_code
def yX5_init : MethodName := ⟨RX5, "<init>", "()V"⟩
def RX6 : String := "ButtonTin$Matching"
def TX6 : u_T := fun k => match k with
  | 0 => ("ButtonTin$Matching", "bench", "LButtonTin$Bench;", true)
  | 1 => ("ButtonTin$Matching", "held", "[I", true)
  | 2 => ("ButtonTin$Matching", "asked", "[I", true)
  | _ => ("ButtonTin$Matching", "given", "[I", true)
def tyX6 : Nat → FieldType := fun k => match k with
  | 0 => .object "ButtonTin$Bench"
  | 1 => .array .int
  | 2 => .array .int
  | _ => .array .int
abbrev wsX60 : List Cond := u_ws RX6 TX6 4
theorem nmX6 : ∀ a, a < 4 → ∀ b, b < 4 → a ≠ b → (TX6 a).2.1 ≠ (TX6 b).2.1 := by decide +kernel
theorem tyX6_ok : ∀ k, k < 4 → parseFieldDescriptor (TX6 k).2.2.1 = some (tyX6 k) := by decide +kernel
abbrev cX6_init : ByteArray := prog_8_method_1_code
def yX6_init : MethodName := ⟨RX6, "<init>", "(LButtonTin$Bench;)V"⟩
abbrev cX6_solve : ByteArray := prog_8_method_2_code
def yX6_solve : MethodName := ⟨RX6, "solve", "()V"⟩
abbrev cX6_howMany : ByteArray := prog_8_method_3_code
def yX6_howMany : MethodName := ⟨RX6, "howMany", "()I"⟩
abbrev cX6_howMuch : ByteArray := prog_8_method_4_code
def yX6_howMuch : MethodName := ⟨RX6, "howMuch", "()I"⟩
abbrev cX6_readWeights : ByteArray := prog_8_method_5_code
def yX6_readWeights : MethodName := ⟨RX6, "readWeights", "()V"⟩
abbrev cX6_openNeeds : ByteArray := prog_8_method_6_code
def yX6_openNeeds : MethodName := ⟨RX6, "openNeeds", "()I"⟩
abbrev cX6_firstChoice : ByteArray := prog_8_method_7_code
def yX6_firstChoice : MethodName := ⟨RX6, "firstChoice", "(IIII)I"⟩
abbrev cX6_bestWorth : ByteArray := prog_8_method_8_code
def yX6_bestWorth : MethodName := ⟨RX6, "bestWorth", "(II)I"⟩
abbrev cX6_leastNeed : ByteArray := prog_8_method_9_code
def yX6_leastNeed : MethodName := ⟨RX6, "leastNeed", "(I)I"⟩
abbrev cX6_weakestFor : ByteArray := prog_8_method_10_code
def yX6_weakestFor : MethodName := ⟨RX6, "weakestFor", "(II)I"⟩
def RX7 : String := "ButtonTin$Past"
def TX7 : u_T := fun k => match k with
  | 0 => ("ButtonTin$Past", "ring", "[LButtonTin$Cloth;", true)
  | 1 => ("ButtonTin$Past", "next", "I", false)
  | _ => ("ButtonTin$Past", "size", "I", false)
def tyX7 : Nat → FieldType := fun k => match k with
  | 0 => .array (.object "ButtonTin$Cloth")
  | 1 => .int
  | _ => .int
abbrev wsX70 : List Cond := u_ws RX7 TX7 3
theorem nmX7 : ∀ a, a < 3 → ∀ b, b < 3 → a ≠ b → (TX7 a).2.1 ≠ (TX7 b).2.1 := by decide +kernel
theorem tyX7_ok : ∀ k, k < 3 → parseFieldDescriptor (TX7 k).2.2.1 = some (tyX7 k) := by decide +kernel
abbrev cX7_init : ByteArray := prog_9_method_1_code
def yX7_init : MethodName := ⟨RX7, "<init>", "()V"⟩
abbrev cX7_clear : ByteArray := prog_9_method_2_code
def yX7_clear : MethodName := ⟨RX7, "clear", "()V"⟩
abbrev cX7_remember : ByteArray := prog_9_method_3_code
def yX7_remember : MethodName := ⟨RX7, "remember", "(LButtonTin$Cloth;)V"⟩
abbrev cX7_restore : ByteArray := prog_9_method_4_code
def yX7_restore : MethodName := ⟨RX7, "restore", "(LButtonTin$Cloth;)V"⟩
def RX8 : String := "ButtonTin$Reader"
def TX8 : u_T := fun k => match k with
  | 0 => ("ButtonTin$Reader", "letters", "[I", true)
  | 1 => ("ButtonTin$Reader", "length", "I", false)
  | _ => ("ButtonTin$Reader", "at", "I", false)
def tyX8 : Nat → FieldType := fun k => match k with
  | 0 => .array .int
  | 1 => .int
  | _ => .int
abbrev wsX80 : List Cond := u_ws RX8 TX8 3
theorem nmX8 : ∀ a, a < 3 → ∀ b, b < 3 → a ≠ b → (TX8 a).2.1 ≠ (TX8 b).2.1 := by decide +kernel
theorem tyX8_ok : ∀ k, k < 3 → parseFieldDescriptor (TX8 k).2.2.1 = some (tyX8 k) := by decide +kernel
abbrev cX8_init : ByteArray := prog_10_method_1_code
def yX8_init : MethodName := ⟨RX8, "<init>", "()V"⟩
abbrev cX8_add : ByteArray := prog_10_method_2_code
def yX8_add : MethodName := ⟨RX8, "add", "(I)V"⟩
abbrev cX8_clear : ByteArray := prog_10_method_3_code
def yX8_clear : MethodName := ⟨RX8, "clear", "()V"⟩
abbrev cX8_readInto : ByteArray := prog_10_method_4_code
def yX8_readInto : MethodName := ⟨RX8, "readInto", "(LButtonTin$Telling;)I"⟩
abbrev cX8_isAtEnd : ByteArray := prog_10_method_5_code
def yX8_isAtEnd : MethodName := ⟨RX8, "isAtEnd", "()Z"⟩
abbrev cX8_readClause : ByteArray := prog_10_method_6_code
def yX8_readClause : MethodName := ⟨RX8, "readClause", "(LButtonTin$Telling;)I"⟩
abbrev cX8_readNumber : ByteArray := prog_10_method_7_code
def yX8_readNumber : MethodName := ⟨RX8, "readNumber", "(II)I"⟩
abbrev cX8_isFigure : ByteArray := prog_10_method_8_code
def yX8_isFigure : MethodName := ⟨RX8, "isFigure", "(I)Z"⟩
def RX9 : String := "ButtonTin$Telling"
def TX9 : u_T := fun k => match k with
  | 0 => ("ButtonTin$Telling", "count", "[I", true)
  | _ => ("ButtonTin$Telling", "values", "[I", true)
def tyX9 : Nat → FieldType := fun k => match k with
  | 0 => .array .int
  | _ => .array .int
abbrev wsX90 : List Cond := u_ws RX9 TX9 2
theorem nmX9 : ∀ a, a < 2 → ∀ b, b < 2 → a ≠ b → (TX9 a).2.1 ≠ (TX9 b).2.1 := by decide +kernel
theorem tyX9_ok : ∀ k, k < 2 → parseFieldDescriptor (TX9 k).2.2.1 = some (tyX9 k) := by decide +kernel
abbrev cX9_init : ByteArray := prog_11_method_1_code
def yX9_init : MethodName := ⟨RX9, "<init>", "()V"⟩
abbrev cX9_clear : ByteArray := prog_11_method_2_code
def yX9_clear : MethodName := ⟨RX9, "clear", "()V"⟩
abbrev cX9_value : ByteArray := prog_11_method_3_code
def yX9_value : MethodName := ⟨RX9, "value", "(III)I"⟩
abbrev cX9_setValue : ByteArray := prog_11_method_4_code
def yX9_setValue : MethodName := ⟨RX9, "setValue", "(IIII)V"⟩
def RX10 : String := "ButtonTin"
def TX10 : u_T := fun k => match k with
  | 0 => ("ButtonTin", "reader", "LButtonTin$Reader;", true)
  | 1 => ("ButtonTin", "bench", "LButtonTin$Bench;", true)
  | 2 => ("ButtonTin", "past", "LButtonTin$Past;", true)
  | 3 => ("ButtonTin", "book", "LButtonTin$Book;", true)
  | 4 => ("ButtonTin", "draws", "LButtonTin$Draws;", true)
  | 5 => ("ButtonTin", "images", "[LButtonTin$Image;", true)
  | 6 => ("ButtonTin", "fitting", "LButtonTin$Fitting;", true)
  | 7 => ("ButtonTin", "matching", "LButtonTin$Matching;", true)
  | 8 => ("ButtonTin", "spare", "LButtonTin$Telling;", false)
  | _ => ("ButtonTin", "faultLetter", "I", false)
def tyX10 : Nat → FieldType := fun k => match k with
  | 0 => .object "ButtonTin$Reader"
  | 1 => .object "ButtonTin$Bench"
  | 2 => .object "ButtonTin$Past"
  | 3 => .object "ButtonTin$Book"
  | 4 => .object "ButtonTin$Draws"
  | 5 => .array (.object "ButtonTin$Image")
  | 6 => .object "ButtonTin$Fitting"
  | 7 => .object "ButtonTin$Matching"
  | 8 => .object "ButtonTin$Telling"
  | _ => .int
abbrev wsX100 : List Cond := u_ws RX10 TX10 10
theorem nmX10 : ∀ a, a < 10 → ∀ b, b < 10 → a ≠ b → (TX10 a).2.1 ≠ (TX10 b).2.1 := by decide +kernel
theorem tyX10_ok : ∀ k, k < 10 → parseFieldDescriptor (TX10 k).2.2.1 = some (tyX10 k) := by decide +kernel
abbrev cX10_init : ByteArray := prog_1_method_1_code
def yX10_init : MethodName := ⟨RX10, "<init>", "()V"⟩
abbrev cX10_feed : ByteArray := prog_1_method_2_code
def yX10_feed : MethodName := ⟨RX10, "feed", "(I)I"⟩
abbrev cX10_tin : ByteArray := prog_1_method_3_code
def yX10_tin : MethodName := ⟨RX10, "tin", "()I"⟩
abbrev cX10_fault : ByteArray := prog_1_method_4_code
def yX10_fault : MethodName := ⟨RX10, "fault", "()I"⟩
abbrev cX10_told : ByteArray := prog_1_method_5_code
def yX10_told : MethodName := ⟨RX10, "told", "(I)I"⟩
abbrev cX10_button : ByteArray := prog_1_method_6_code
def yX10_button : MethodName := ⟨RX10, "button", "(II)I"⟩
abbrev cX10_rule : ByteArray := prog_1_method_7_code
def yX10_rule : MethodName := ⟨RX10, "rule", "(II)I"⟩
abbrev cX10_cause : ByteArray := prog_1_method_8_code
def yX10_cause : MethodName := ⟨RX10, "cause", "(II)I"⟩
abbrev cX10_need : ByteArray := prog_1_method_9_code
def yX10_need : MethodName := ⟨RX10, "need", "(II)I"⟩
abbrev cX10_heap : ByteArray := prog_1_method_10_code
def yX10_heap : MethodName := ⟨RX10, "heap", "(I)I"⟩
abbrev cX10_put : ByteArray := prog_1_method_11_code
def yX10_put : MethodName := ⟨RX10, "put", "(II)I"⟩
abbrev cX10_takeBack : ByteArray := prog_1_method_12_code
def yX10_takeBack : MethodName := ⟨RX10, "takeBack", "(I)I"⟩
abbrev cX10_sort : ByteArray := prog_1_method_13_code
def yX10_sort : MethodName := ⟨RX10, "sort", "()I"⟩
abbrev cX10_sew : ByteArray := prog_1_method_14_code
def yX10_sew : MethodName := ⟨RX10, "sew", "(II)I"⟩
abbrev cX10_unpick : ByteArray := prog_1_method_15_code
def yX10_unpick : MethodName := ⟨RX10, "unpick", "(I)I"⟩
abbrev cX10_pull : ByteArray := prog_1_method_16_code
def yX10_pull : MethodName := ⟨RX10, "pull", "(I)I"⟩
abbrev cX10_up : ByteArray := prog_1_method_17_code
def yX10_up : MethodName := ⟨RX10, "up", "(I)I"⟩
abbrev cX10_drift : ByteArray := prog_1_method_18_code
def yX10_drift : MethodName := ⟨RX10, "drift", "(I)I"⟩
abbrev cX10_undo : ByteArray := prog_1_method_19_code
def yX10_undo : MethodName := ⟨RX10, "undo", "()I"⟩
abbrev cX10_fit : ByteArray := prog_1_method_20_code
def yX10_fit : MethodName := ⟨RX10, "fit", "(II)I"⟩
abbrev cX10_tells : ByteArray := prog_1_method_21_code
def yX10_tells : MethodName := ⟨RX10, "tells", "(I)I"⟩
abbrev cX10_teach : ByteArray := prog_1_method_22_code
def yX10_teach : MethodName := ⟨RX10, "teach", "(I)I"⟩
abbrev cX10_match : ByteArray := prog_1_method_23_code
def yX10_match : MethodName := ⟨RX10, "match", "(I)I"⟩
abbrev cX10_load : ByteArray := prog_1_method_24_code
def yX10_load : MethodName := ⟨RX10, "load", "(I)I"⟩
abbrev cX10_slips : ByteArray := prog_1_method_25_code
def yX10_slips : MethodName := ⟨RX10, "slips", "(II)I"⟩
abbrev cX10_undid : ByteArray := prog_1_method_26_code
def yX10_undid : MethodName := ⟨RX10, "undid", "(II)I"⟩
abbrev cX10_change : ByteArray := prog_1_method_27_code
def yX10_change : MethodName := ⟨RX10, "change", "(I)I"⟩
abbrev cX10_alike : ByteArray := prog_1_method_28_code
def yX10_alike : MethodName := ⟨RX10, "alike", "(I)I"⟩
abbrev cX10_child : ByteArray := prog_1_method_29_code
def yX10_child : MethodName := ⟨RX10, "child", "(I)I"⟩
abbrev cX10_write : ByteArray := prog_1_method_30_code
def yX10_write : MethodName := ⟨RX10, "write", "(II)I"⟩
abbrev cX10_tear : ByteArray := prog_1_method_31_code
def yX10_tear : MethodName := ⟨RX10, "tear", "()I"⟩
abbrev cX10_judge : ByteArray := prog_1_method_32_code
def yX10_judge : MethodName := ⟨RX10, "judge", "()I"⟩
abbrev cX10_seed : ByteArray := prog_1_method_33_code
def yX10_seed : MethodName := ⟨RX10, "seed", "(I)I"⟩
abbrev cX10_keep : ByteArray := prog_1_method_34_code
def yX10_keep : MethodName := ⟨RX10, "keep", "(I)I"⟩
abbrev cX10_goBack : ByteArray := prog_1_method_35_code
def yX10_goBack : MethodName := ⟨RX10, "goBack", "(I)I"⟩
abbrev cX10_isThere : ByteArray := prog_1_method_36_code
def yX10_isThere : MethodName := ⟨RX10, "isThere", "(II)Z"⟩
abbrev cX10_isHeap : ByteArray := prog_1_method_37_code
def yX10_isHeap : MethodName := ⟨RX10, "isHeap", "(I)Z"⟩
abbrev cX10_has : ByteArray := prog_1_method_38_code
def yX10_has : MethodName := ⟨RX10, "has", "(II)Z"⟩
abbrev cX10_driftOnce : ByteArray := prog_1_method_39_code
def yX10_driftOnce : MethodName := ⟨RX10, "driftOnce", "()V"⟩
abbrev cX10_fewestThatHold : ByteArray := prog_1_method_40_code
def yX10_fewestThatHold : MethodName := ⟨RX10, "fewestThatHold", "(I)I"⟩
def RX11 : String := "ButtonTinModel"
def TX11 : u_T := fun k => match k with
  | 0 => ("ButtonTinModel", "text", "[B", true)
  | 1 => ("ButtonTinModel", "typed", "I", false)
  | 2 => ("ButtonTinModel", "errs", "I", false)
  | 3 => ("ButtonTinModel", "buttons", "I", false)
  | 4 => ("ButtonTinModel", "mark", "[I", true)
  | 5 => ("ButtonTinModel", "rules", "I", false)
  | 6 => ("ButtonTinModel", "law", "[I", true)
  | 7 => ("ButtonTinModel", "causes", "I", false)
  | 8 => ("ButtonTinModel", "left", "[I", true)
  | 9 => ("ButtonTinModel", "needs", "I", false)
  | 10 => ("ButtonTinModel", "wanted", "[I", true)
  | 11 => ("ButtonTinModel", "draftErrs", "I", false)
  | 12 => ("ButtonTinModel", "draftButtons", "I", false)
  | 13 => ("ButtonTinModel", "draftMark", "[I", true)
  | 14 => ("ButtonTinModel", "draftRules", "I", false)
  | 15 => ("ButtonTinModel", "draftLaw", "[I", true)
  | 16 => ("ButtonTinModel", "draftCauses", "I", false)
  | 17 => ("ButtonTinModel", "draftLeft", "[I", true)
  | 18 => ("ButtonTinModel", "draftNeeds", "I", false)
  | 19 => ("ButtonTinModel", "draftWanted", "[I", true)
  | 20 => ("ButtonTinModel", "isTin", "Z", false)
  | 21 => ("ButtonTinModel", "taken", "I", false)
  | 22 => ("ButtonTinModel", "at", "I", false)
  | 23 => ("ButtonTinModel", "wrong", "I", false)
  | 24 => ("ButtonTinModel", "place", "I", false)
  | 25 => ("ButtonTinModel", "now", "[I", true)
  | 26 => ("ButtonTinModel", "before", "[I", true)
  | 27 => ("ButtonTinModel", "many", "I", false)
  | 28 => ("ButtonTinModel", "store", "[I", true)
  | 29 => ("ButtonTinModel", "seeds", "[I", true)
  | 30 => ("ButtonTinModel", "isKept", "[Z", true)
  | 31 => ("ButtonTinModel", "seed", "I", false)
  | 32 => ("ButtonTinModel", "fits", "[Z", true)
  | 33 => ("ButtonTinModel", "fitting", "I", false)
  | 34 => ("ButtonTinModel", "parts", "[I", true)
  | 35 => ("ButtonTinModel", "worth", "[I", true)
  | 36 => ("ButtonTinModel", "entryOf", "[I", true)
  | 37 => ("ButtonTinModel", "entryHeap", "[I", true)
  | _ => ("ButtonTinModel", "entries", "I", false)
def tyX11 : Nat → FieldType := fun k => match k with
  | 0 => .array .byte
  | 1 => .int
  | 2 => .int
  | 3 => .int
  | 4 => .array .int
  | 5 => .int
  | 6 => .array .int
  | 7 => .int
  | 8 => .array .int
  | 9 => .int
  | 10 => .array .int
  | 11 => .int
  | 12 => .int
  | 13 => .array .int
  | 14 => .int
  | 15 => .array .int
  | 16 => .int
  | 17 => .array .int
  | 18 => .int
  | 19 => .array .int
  | 20 => .boolean
  | 21 => .int
  | 22 => .int
  | 23 => .int
  | 24 => .int
  | 25 => .array .int
  | 26 => .array .int
  | 27 => .int
  | 28 => .array .int
  | 29 => .array .int
  | 30 => .array .boolean
  | 31 => .int
  | 32 => .array .boolean
  | 33 => .int
  | 34 => .array .int
  | 35 => .array .int
  | 36 => .array .int
  | 37 => .array .int
  | _ => .int
abbrev wsX110 : List Cond := u_ws RX11 TX11 39
theorem nmX11 : ∀ a, a < 39 → ∀ b, b < 39 → a ≠ b → (TX11 a).2.1 ≠ (TX11 b).2.1 := by decide +kernel
theorem tyX11_ok : ∀ k, k < 39 → parseFieldDescriptor (TX11 k).2.2.1 = some (tyX11 k) := by decide +kernel
abbrev cX11_init : ByteArray := prog_13_method_1_code
def yX11_init : MethodName := ⟨RX11, "<init>", "()V"⟩
abbrev cX11_in : ByteArray := prog_13_method_3_code
def yX11_in : MethodName := ⟨RX11, "in", "(III)Z"⟩
abbrev cX11_has : ByteArray := prog_13_method_4_code
def yX11_has : MethodName := ⟨RX11, "has", "(II)Z"⟩
abbrev cX11_feed : ByteArray := prog_13_method_5_code
def yX11_feed : MethodName := ⟨RX11, "feed", "(I)I"⟩
abbrev cX11_here : ByteArray := prog_13_method_6_code
def yX11_here : MethodName := ⟨RX11, "here", "()I"⟩
abbrev cX11_skip : ByteArray := prog_13_method_7_code
def yX11_skip : MethodName := ⟨RX11, "skip", "()V"⟩
abbrev cX11_fail : ByteArray := prog_13_method_8_code
def yX11_fail : MethodName := ⟨RX11, "fail", "(II)V"⟩
abbrev cX11_isFigure : ByteArray := prog_13_method_9_code
def yX11_isFigure : MethodName := ⟨RX11, "isFigure", "()Z"⟩
abbrev cX11_number : ByteArray := prog_13_method_10_code
def yX11_number : MethodName := ⟨RX11, "number", "(II)I"⟩
abbrev cX11_end : ByteArray := prog_13_method_11_code
def yX11_end : MethodName := ⟨RX11, "end", "()V"⟩
abbrev cX11_readMarks : ByteArray := prog_13_method_12_code
def yX11_readMarks : MethodName := ⟨RX11, "readMarks", "([II)V"⟩
abbrev cX11_clause : ByteArray := prog_13_method_13_code
def yX11_clause : MethodName := ⟨RX11, "clause", "(II)V"⟩
abbrev cX11_read : ByteArray := prog_13_method_14_code
def yX11_read : MethodName := ⟨RX11, "read", "()V"⟩
abbrev cX11_tin : ByteArray := prog_13_method_15_code
def yX11_tin : MethodName := ⟨RX11, "tin", "()I"⟩
abbrev cX11_fault : ByteArray := prog_13_method_16_code
def yX11_fault : MethodName := ⟨RX11, "fault", "()I"⟩
abbrev cX11_isButton : ByteArray := prog_13_method_17_code
def yX11_isButton : MethodName := ⟨RX11, "isButton", "(I)Z"⟩
abbrev cX11_isRule : ByteArray := prog_13_method_18_code
def yX11_isRule : MethodName := ⟨RX11, "isRule", "(I)Z"⟩
abbrev cX11_isCause : ByteArray := prog_13_method_19_code
def yX11_isCause : MethodName := ⟨RX11, "isCause", "(I)Z"⟩
abbrev cX11_isNeed : ByteArray := prog_13_method_20_code
def yX11_isNeed : MethodName := ⟨RX11, "isNeed", "(I)Z"⟩
abbrev cX11_isHeap : ByteArray := prog_13_method_21_code
def yX11_isHeap : MethodName := ⟨RX11, "isHeap", "(I)Z"⟩
abbrev cX11_markOf : ByteArray := prog_13_method_22_code
def yX11_markOf : MethodName := ⟨RX11, "markOf", "(II)I"⟩
abbrev cX11_holds : ByteArray := prog_13_method_23_code
def yX11_holds : MethodName := ⟨RX11, "holds", "(I)I"⟩
abbrev cX11_isBy : ByteArray := prog_13_method_24_code
def yX11_isBy : MethodName := ⟨RX11, "isBy", "(III)Z"⟩
abbrev cX11_passes : ByteArray := prog_13_method_25_code
def yX11_passes : MethodName := ⟨RX11, "passes", "(II)Z"⟩
abbrev cX11_passesRule : ByteArray := prog_13_method_26_code
def yX11_passesRule : MethodName := ⟨RX11, "passesRule", "(II)Z"⟩
abbrev cX11_ruleOf : ByteArray := prog_13_method_27_code
def yX11_ruleOf : MethodName := ⟨RX11, "ruleOf", "(I)I"⟩
abbrev cX11_goes : ByteArray := prog_13_method_28_code
def yX11_goes : MethodName := ⟨RX11, "goes", "(I)I"⟩
abbrev cX11_heapOf : ByteArray := prog_13_method_29_code
def yX11_heapOf : MethodName := ⟨RX11, "heapOf", "(I)I"⟩
abbrev cX11_setIn : ByteArray := prog_13_method_30_code
def yX11_setIn : MethodName := ⟨RX11, "setIn", "(I)I"⟩
abbrev cX11_sewnTo : ByteArray := prog_13_method_31_code
def yX11_sewnTo : MethodName := ⟨RX11, "sewnTo", "(I)I"⟩
abbrev cX11_bitsOf : ByteArray := prog_13_method_32_code
def yX11_bitsOf : MethodName := ⟨RX11, "bitsOf", "(I)I"⟩
abbrev cX11_placeOf : ByteArray := prog_13_method_33_code
def yX11_placeOf : MethodName := ⟨RX11, "placeOf", "(I)I"⟩
abbrev cX11_holdsOf : ByteArray := prog_13_method_34_code
def yX11_holdsOf : MethodName := ⟨RX11, "holdsOf", "(I)I"⟩
abbrev cX11_heaviest : ByteArray := prog_13_method_35_code
def yX11_heaviest : MethodName := ⟨RX11, "heaviest", "()I"⟩
abbrev cX11_those : ByteArray := prog_13_method_36_code
def yX11_those : MethodName := ⟨RX11, "those", "(I)I"⟩
abbrev cX11_told : ByteArray := prog_13_method_37_code
def yX11_told : MethodName := ⟨RX11, "told", "(I)I"⟩
abbrev cX11_button : ByteArray := prog_13_method_38_code
def yX11_button : MethodName := ⟨RX11, "button", "(II)I"⟩
abbrev cX11_rule : ByteArray := prog_13_method_39_code
def yX11_rule : MethodName := ⟨RX11, "rule", "(II)I"⟩
abbrev cX11_cause : ByteArray := prog_13_method_40_code
def yX11_cause : MethodName := ⟨RX11, "cause", "(II)I"⟩
abbrev cX11_need : ByteArray := prog_13_method_41_code
def yX11_need : MethodName := ⟨RX11, "need", "(II)I"⟩
abbrev cX11_heap : ByteArray := prog_13_method_42_code
def yX11_heap : MethodName := ⟨RX11, "heap", "(I)I"⟩
abbrev cX11_know : ByteArray := prog_13_method_43_code
def yX11_know : MethodName := ⟨RX11, "know", "()V"⟩
abbrev cX11_put : ByteArray := prog_13_method_44_code
def yX11_put : MethodName := ⟨RX11, "put", "(II)I"⟩
abbrev cX11_takeBack : ByteArray := prog_13_method_45_code
def yX11_takeBack : MethodName := ⟨RX11, "takeBack", "(I)I"⟩
abbrev cX11_sortOne : ByteArray := prog_13_method_46_code
def yX11_sortOne : MethodName := ⟨RX11, "sortOne", "(I)V"⟩
abbrev cX11_sort : ByteArray := prog_13_method_47_code
def yX11_sort : MethodName := ⟨RX11, "sort", "()I"⟩
abbrev cX11_sew : ByteArray := prog_13_method_48_code
def yX11_sew : MethodName := ⟨RX11, "sew", "(II)I"⟩
abbrev cX11_unpick : ByteArray := prog_13_method_49_code
def yX11_unpick : MethodName := ⟨RX11, "unpick", "(I)I"⟩
abbrev cX11_pull : ByteArray := prog_13_method_50_code
def yX11_pull : MethodName := ⟨RX11, "pull", "(I)I"⟩
abbrev cX11_up : ByteArray := prog_13_method_51_code
def yX11_up : MethodName := ⟨RX11, "up", "(I)I"⟩
abbrev cX11_draw : ByteArray := prog_13_method_52_code
def yX11_draw : MethodName := ⟨RX11, "draw", "(I)I"⟩
abbrev cX11_drift : ByteArray := prog_13_method_53_code
def yX11_drift : MethodName := ⟨RX11, "drift", "(I)I"⟩
abbrev cX11_undo : ByteArray := prog_13_method_54_code
def yX11_undo : MethodName := ⟨RX11, "undo", "()I"⟩
abbrev cX11_measure : ByteArray := prog_13_method_55_code
def yX11_measure : MethodName := ⟨RX11, "measure", "(I)V"⟩
abbrev cX11_fit : ByteArray := prog_13_method_56_code
def yX11_fit : MethodName := ⟨RX11, "fit", "(II)I"⟩
abbrev cX11_tells : ByteArray := prog_13_method_57_code
def yX11_tells : MethodName := ⟨RX11, "tells", "(I)I"⟩
abbrev cX11_apart : ByteArray := prog_13_method_58_code
def yX11_apart : MethodName := ⟨RX11, "apart", "(II)I"⟩
abbrev cX11_teach : ByteArray := prog_13_method_59_code
def yX11_teach : MethodName := ⟨RX11, "teach", "(I)I"⟩
abbrev cX11_canSew : ByteArray := prog_13_method_60_code
def yX11_canSew : MethodName := ⟨RX11, "canSew", "(III)Z"⟩
abbrev cX11_worthBy : ByteArray := prog_13_method_61_code
def yX11_worthBy : MethodName := ⟨RX11, "worthBy", "(III)I"⟩
abbrev cX11_matchAll : ByteArray := prog_13_method_62_code
def yX11_matchAll : MethodName := ⟨RX11, "matchAll", "()V"⟩
abbrev cX11_matchOf : ByteArray := prog_13_method_63_code
def yX11_matchOf : MethodName := ⟨RX11, "matchOf", "(II)I"⟩
abbrev cX11_match : ByteArray := prog_13_method_64_code
def yX11_match : MethodName := ⟨RX11, "match", "(I)I"⟩
abbrev cX11_load : ByteArray := prog_13_method_65_code
def yX11_load : MethodName := ⟨RX11, "load", "(I)I"⟩
abbrev cX11_slipsOf : ByteArray := prog_13_method_66_code
def yX11_slipsOf : MethodName := ⟨RX11, "slipsOf", "(II)I"⟩
abbrev cX11_slips : ByteArray := prog_13_method_67_code
def yX11_slips : MethodName := ⟨RX11, "slips", "(II)I"⟩
abbrev cX11_undid : ByteArray := prog_13_method_68_code
def yX11_undid : MethodName := ⟨RX11, "undid", "(II)I"⟩
abbrev cX11_change : ByteArray := prog_13_method_69_code
def yX11_change : MethodName := ⟨RX11, "change", "(I)I"⟩
abbrev cX11_alike : ByteArray := prog_13_method_70_code
def yX11_alike : MethodName := ⟨RX11, "alike", "(I)I"⟩
abbrev cX11_child : ByteArray := prog_13_method_71_code
def yX11_child : MethodName := ⟨RX11, "child", "(I)I"⟩
abbrev cX11_write : ByteArray := prog_13_method_72_code
def yX11_write : MethodName := ⟨RX11, "write", "(II)I"⟩
abbrev cX11_tear : ByteArray := prog_13_method_73_code
def yX11_tear : MethodName := ⟨RX11, "tear", "()I"⟩
abbrev cX11_judge : ByteArray := prog_13_method_74_code
def yX11_judge : MethodName := ⟨RX11, "judge", "()I"⟩
abbrev cX11_seed : ByteArray := prog_13_method_75_code
def yX11_seed : MethodName := ⟨RX11, "seed", "(I)I"⟩
abbrev cX11_keep : ByteArray := prog_13_method_76_code
def yX11_keep : MethodName := ⟨RX11, "keep", "(I)I"⟩
abbrev cX11_goBack : ByteArray := prog_13_method_77_code
def yX11_goBack : MethodName := ⟨RX11, "goBack", "(I)I"⟩
def RJ11 : String := "java/lang/Character"
abbrev cJ11_isValidCodePoint_9a6ad : ByteArray := prog_14_method_11_code
def yJ11_isValidCodePoint_9a6ad : MethodName := ⟨RJ11, "isValidCodePoint", "(I)Z"⟩
abbrev cJ11_highSurrogate_5068e : ByteArray := prog_14_method_28_code
def yJ11_highSurrogate_5068e : MethodName := ⟨RJ11, "highSurrogate", "(I)C"⟩
abbrev cJ11_lowSurrogate_5068e : ByteArray := prog_14_method_29_code
def yJ11_lowSurrogate_5068e : MethodName := ⟨RJ11, "lowSurrogate", "(I)C"⟩
def RJ6 : String := "java/lang/Integer"
abbrev cJ6_numberOfTrailingZeros_0f7a4 : ByteArray := prog_15_method_48_code
def yJ6_numberOfTrailingZeros_0f7a4 : MethodName := ⟨RJ6, "numberOfTrailingZeros", "(I)I"⟩
abbrev cJ6_bitCount_0f7a4 : ByteArray := prog_15_method_49_code
def yJ6_bitCount_0f7a4 : MethodName := ⟨RJ6, "bitCount", "(I)I"⟩
def RJ9 : String := "java/lang/Math"
abbrev cJ9_abs_0f7a4 : ByteArray := prog_16_method_59_code
def yJ9_abs_0f7a4 : MethodName := ⟨RJ9, "abs", "(I)I"⟩
abbrev cJ9_max_7cf53 : ByteArray := prog_16_method_65_code
def yJ9_max_7cf53 : MethodName := ⟨RJ9, "max", "(II)I"⟩
abbrev cJ9_min_7cf53 : ByteArray := prog_16_method_69_code
def yJ9_min_7cf53 : MethodName := ⟨RJ9, "min", "(II)I"⟩
def RJ0 : String := "java/lang/String"
abbrev cJ0_length_8abf5 : ByteArray := prog_17_method_54_code
def yJ0_length_8abf5 : MethodName := ⟨RJ0, "length", "()I"⟩
abbrev cJ0_indexOf_0f7a4 : ByteArray := prog_17_method_79_code
def yJ0_indexOf_0f7a4 : MethodName := ⟨RJ0, "indexOf", "(I)I"⟩
abbrev cJ0_indexOf_7cf53 : ByteArray := prog_17_method_80_code
def yJ0_indexOf_7cf53 : MethodName := ⟨RJ0, "indexOf", "(II)I"⟩
abbrev cJ0_coder_7d493 : ByteArray := prog_17_method_152_code
def yJ0_coder_7d493 : MethodName := ⟨RJ0, "coder", "()B"⟩
abbrev cJ0_isLatin1_aae02 : ByteArray := prog_17_method_154_code
def yJ0_isLatin1_aae02 : MethodName := ⟨RJ0, "isLatin1", "()Z"⟩
abbrev cJ0_checkBoundsBeginEnd_23922 : ByteArray := prog_17_method_158_code
def yJ0_checkBoundsBeginEnd_23922 : MethodName := ⟨RJ0, "checkBoundsBeginEnd", "(III)V"⟩
def RJ1 : String := "java/lang/StringLatin1"
abbrev cJ1_canEncode_9a6ad : ByteArray := prog_18_method_4_code
def yJ1_canEncode_9a6ad : MethodName := ⟨RJ1, "canEncode", "(I)Z"⟩
abbrev cJ1_indexOf_4cfef : ByteArray := prog_18_method_22_code
def yJ1_indexOf_4cfef : MethodName := ⟨RJ1, "indexOf", "([BIII)I"⟩
abbrev cJ1_indexOfChar_4cfef : ByteArray := prog_18_method_23_code
def yJ1_indexOfChar_4cfef : MethodName := ⟨RJ1, "indexOfChar", "([BIII)I"⟩
def RJ2 : String := "java/lang/StringUTF16"
abbrev cJ2_getChar_3b067 : ByteArray := prog_19_method_5_code
def yJ2_getChar_3b067 : MethodName := ⟨RJ2, "getChar", "([BI)C"⟩
abbrev cJ2_length_9d52b : ByteArray := prog_19_method_6_code
def yJ2_length_9d52b : MethodName := ⟨RJ2, "length", "([B)I"⟩
abbrev cJ2_indexOf_4cfef : ByteArray := prog_19_method_40_code
def yJ2_indexOf_4cfef : MethodName := ⟨RJ2, "indexOf", "([BIII)I"⟩
abbrev cJ2_indexOfChar_4cfef : ByteArray := prog_19_method_47_code
def yJ2_indexOfChar_4cfef : MethodName := ⟨RJ2, "indexOfChar", "([BIII)I"⟩
abbrev cJ2_indexOfCharUnsafe_4cfef : ByteArray := prog_19_method_48_code
def yJ2_indexOfCharUnsafe_4cfef : MethodName := ⟨RJ2, "indexOfCharUnsafe", "([BIII)I"⟩
abbrev cJ2_indexOfSupplementary_4cfef : ByteArray := prog_19_method_49_code
def yJ2_indexOfSupplementary_4cfef : MethodName := ⟨RJ2, "indexOfSupplementary", "([BIII)I"⟩
abbrev cJ2_checkBoundsBeginEnd_d044e : ByteArray := prog_19_method_93_code
def yJ2_checkBoundsBeginEnd_d044e : MethodName := ⟨RJ2, "checkBoundsBeginEnd", "(II[B)V"⟩
def RJ10 : String := "java/lang/System"
def RJ3 : String := "jdk/internal/util/Preconditions"
abbrev cJ3_checkFromToIndex_8c36e : ByteArray := prog_21_method_12_code
def yJ3_checkFromToIndex_8c36e : MethodName := ⟨RJ3, "checkFromToIndex", "(IIILjava/util/function/BiFunction;)I"⟩
def RL : String := "ButtonTinLaw"
abbrev cL_law : ByteArray := code
def yL_law : MethodName := ⟨RL, "law", "([I)Z"⟩
abbrev vwCl : List vw_C := [(RX0, TX0, 2), (RX1, TX1, 3), (RX2, TX2, 4), (RX3, TX3, 1), (RX4, TX4, 4), (RX5, TX5, 3), (RX6, TX6, 4), (RX7, TX7, 3), (RX8, TX8, 3), (RX9, TX9, 2), (RX10, TX10, 10), (RX11, TX11, 39)]
