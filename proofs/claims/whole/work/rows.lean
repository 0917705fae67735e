section
-- ===== PART A: goes FIRST, ahead of the names: the tables' words, and 'selects' of the private methods out of them =====
/-- a private method of a class that the tables say can be made, by its rows of tables_1 -/
def lw_okq (q : MethodName × Nat) : Prop := (q.1.cls ≠ "java/lang/invoke/MethodHandle" ∧ q.1.cls ≠ "java/lang/invoke/VarHandle") ∧ Cond.instantiable q.1.cls q.2 ∈ tables_1 ∧ Cond.privateMethod q.1 ∈ tables_1 ∧ Cond.instanceMethod q.1 ∈ tables_1
theorem lw_p0 : lw_okq (⟨"QuotaLaws$Reader", "takeToken", "()Z"⟩, 9) := ⟨⟨by decide +kernel, by decide +kernel⟩, List.mem_of_getElem? (i := 27) (by decide +kernel), List.mem_of_getElem? (i := 358) (by decide +kernel), List.mem_of_getElem? (i := 359) (by decide +kernel)⟩
theorem lw_p1 : lw_okq (⟨"QuotaLaws$Reader", "passRun", "(II)V"⟩, 9) := ⟨⟨by decide +kernel, by decide +kernel⟩, List.mem_of_getElem? (i := 27) (by decide +kernel), List.mem_of_getElem? (i := 362) (by decide +kernel), List.mem_of_getElem? (i := 363) (by decide +kernel)⟩
theorem lw_p2 : lw_okq (⟨"QuotaLaws$Reader", "kindHere", "()I"⟩, 9) := ⟨⟨by decide +kernel, by decide +kernel⟩, List.mem_of_getElem? (i := 27) (by decide +kernel), List.mem_of_getElem? (i := 366) (by decide +kernel), List.mem_of_getElem? (i := 367) (by decide +kernel)⟩
theorem lw_p3 : lw_okq (⟨"QuotaLaws$Reader", "valueOfRun", "()I"⟩, 9) := ⟨⟨by decide +kernel, by decide +kernel⟩, List.mem_of_getElem? (i := 27) (by decide +kernel), List.mem_of_getElem? (i := 370) (by decide +kernel), List.mem_of_getElem? (i := 371) (by decide +kernel)⟩
theorem lw_p4 : lw_okq (⟨"QuotaLaws$Reader", "fail", "(II)Z"⟩, 9) := ⟨⟨by decide +kernel, by decide +kernel⟩, List.mem_of_getElem? (i := 27) (by decide +kernel), List.mem_of_getElem? (i := 374) (by decide +kernel), List.mem_of_getElem? (i := 375) (by decide +kernel)⟩
theorem lw_p5 : lw_okq (⟨"QuotaLaws$Reader", "takeLine", "(LQuotaLaws$Realm;)Z"⟩, 9) := ⟨⟨by decide +kernel, by decide +kernel⟩, List.mem_of_getElem? (i := 27) (by decide +kernel), List.mem_of_getElem? (i := 378) (by decide +kernel), List.mem_of_getElem? (i := 379) (by decide +kernel)⟩
theorem lw_p6 : lw_okq (⟨"QuotaLaws$Reader", "isWord", "(Ljava/lang/String;)Z"⟩, 9) := ⟨⟨by decide +kernel, by decide +kernel⟩, List.mem_of_getElem? (i := 27) (by decide +kernel), List.mem_of_getElem? (i := 383) (by decide +kernel), List.mem_of_getElem? (i := 384) (by decide +kernel)⟩
theorem lw_p7 : lw_okq (⟨"QuotaLaws$Reader", "takeLaw", "(LQuotaLaws$Realm;I)Z"⟩, 9) := ⟨⟨by decide +kernel, by decide +kernel⟩, List.mem_of_getElem? (i := 27) (by decide +kernel), List.mem_of_getElem? (i := 435) (by decide +kernel), List.mem_of_getElem? (i := 436) (by decide +kernel)⟩
theorem lw_p8 : lw_okq (⟨"QuotaLaws$Reader", "takeNumber", "(II)Z"⟩, 9) := ⟨⟨by decide +kernel, by decide +kernel⟩, List.mem_of_getElem? (i := 27) (by decide +kernel), List.mem_of_getElem? (i := 439) (by decide +kernel), List.mem_of_getElem? (i := 440) (by decide +kernel)⟩
theorem lw_p9 : lw_okq (⟨"QuotaLaws$Reader", "isBounded", "(II)Z"⟩, 9) := ⟨⟨by decide +kernel, by decide +kernel⟩, List.mem_of_getElem? (i := 27) (by decide +kernel), List.mem_of_getElem? (i := 443) (by decide +kernel), List.mem_of_getElem? (i := 444) (by decide +kernel)⟩
theorem lw_p10 : lw_okq (⟨"QuotaLaws$Reader", "putInto", "([II)Z"⟩, 9) := ⟨⟨by decide +kernel, by decide +kernel⟩, List.mem_of_getElem? (i := 27) (by decide +kernel), List.mem_of_getElem? (i := 448) (by decide +kernel), List.mem_of_getElem? (i := 449) (by decide +kernel)⟩
theorem lw_p11 : lw_okq (⟨"QuotaLaws$Reader", "takeCarried", "(LQuotaLaws$Realm;I)Z"⟩, 9) := ⟨⟨by decide +kernel, by decide +kernel⟩, List.mem_of_getElem? (i := 27) (by decide +kernel), List.mem_of_getElem? (i := 452) (by decide +kernel), List.mem_of_getElem? (i := 453) (by decide +kernel)⟩
theorem lw_p12 : lw_okq (⟨"QuotaLaws$Reader", "isStop", "()Z"⟩, 9) := ⟨⟨by decide +kernel, by decide +kernel⟩, List.mem_of_getElem? (i := 27) (by decide +kernel), List.mem_of_getElem? (i := 456) (by decide +kernel), List.mem_of_getElem? (i := 457) (by decide +kernel)⟩
theorem lw_p13 : lw_okq (⟨"QuotaLaws$Reader", "takeOne", "(LQuotaLaws$Realm;I)Z"⟩, 9) := ⟨⟨by decide +kernel, by decide +kernel⟩, List.mem_of_getElem? (i := 27) (by decide +kernel), List.mem_of_getElem? (i := 461) (by decide +kernel), List.mem_of_getElem? (i := 462) (by decide +kernel)⟩
theorem lw_p14 : lw_okq (⟨"QuotaLaws$Reader", "addLaw", "([II)Z"⟩, 9) := ⟨⟨by decide +kernel, by decide +kernel⟩, List.mem_of_getElem? (i := 27) (by decide +kernel), List.mem_of_getElem? (i := 465) (by decide +kernel), List.mem_of_getElem? (i := 466) (by decide +kernel)⟩
theorem lw_p15 : lw_okq (⟨"QuotaLaws$Reader", "takeWant", "(LQuotaLaws$Realm;)Z"⟩, 9) := ⟨⟨by decide +kernel, by decide +kernel⟩, List.mem_of_getElem? (i := 27) (by decide +kernel), List.mem_of_getElem? (i := 473) (by decide +kernel), List.mem_of_getElem? (i := 474) (by decide +kernel)⟩
def lw_privs_1 : List (MethodName × Nat) := [(⟨"QuotaLaws$Reader", "takeToken", "()Z"⟩, 9), (⟨"QuotaLaws$Reader", "passRun", "(II)V"⟩, 9), (⟨"QuotaLaws$Reader", "kindHere", "()I"⟩, 9), (⟨"QuotaLaws$Reader", "valueOfRun", "()I"⟩, 9), (⟨"QuotaLaws$Reader", "fail", "(II)Z"⟩, 9), (⟨"QuotaLaws$Reader", "takeLine", "(LQuotaLaws$Realm;)Z"⟩, 9), (⟨"QuotaLaws$Reader", "isWord", "(Ljava/lang/String;)Z"⟩, 9), (⟨"QuotaLaws$Reader", "takeLaw", "(LQuotaLaws$Realm;I)Z"⟩, 9), (⟨"QuotaLaws$Reader", "takeNumber", "(II)Z"⟩, 9), (⟨"QuotaLaws$Reader", "isBounded", "(II)Z"⟩, 9), (⟨"QuotaLaws$Reader", "putInto", "([II)Z"⟩, 9), (⟨"QuotaLaws$Reader", "takeCarried", "(LQuotaLaws$Realm;I)Z"⟩, 9), (⟨"QuotaLaws$Reader", "isStop", "()Z"⟩, 9), (⟨"QuotaLaws$Reader", "takeOne", "(LQuotaLaws$Realm;I)Z"⟩, 9), (⟨"QuotaLaws$Reader", "addLaw", "([II)Z"⟩, 9), (⟨"QuotaLaws$Reader", "takeWant", "(LQuotaLaws$Realm;)Z"⟩, 9)]
theorem lw_r1 : ∀ q ∈ lw_privs_1, lw_okq q := List.forall_mem_cons.mpr ⟨lw_p0, List.forall_mem_cons.mpr ⟨lw_p1, List.forall_mem_cons.mpr ⟨lw_p2, List.forall_mem_cons.mpr ⟨lw_p3, List.forall_mem_cons.mpr ⟨lw_p4, List.forall_mem_cons.mpr ⟨lw_p5, List.forall_mem_cons.mpr ⟨lw_p6, List.forall_mem_cons.mpr ⟨lw_p7, List.forall_mem_cons.mpr ⟨lw_p8, List.forall_mem_cons.mpr ⟨lw_p9, List.forall_mem_cons.mpr ⟨lw_p10, List.forall_mem_cons.mpr ⟨lw_p11, List.forall_mem_cons.mpr ⟨lw_p12, List.forall_mem_cons.mpr ⟨lw_p13, List.forall_mem_cons.mpr ⟨lw_p14, List.forall_mem_cons.mpr ⟨lw_p15, fun _ h => absurd h List.not_mem_nil⟩⟩⟩⟩⟩⟩⟩⟩⟩⟩⟩⟩⟩⟩⟩⟩
theorem lw_p16 : lw_okq (⟨"QuotaLaws$Reader", "takeWatch", "(LQuotaLaws$Realm;)Z"⟩, 9) := ⟨⟨by decide +kernel, by decide +kernel⟩, List.mem_of_getElem? (i := 27) (by decide +kernel), List.mem_of_getElem? (i := 478) (by decide +kernel), List.mem_of_getElem? (i := 479) (by decide +kernel)⟩
theorem lw_p17 : lw_okq (⟨"QuotaLaws$Planner", "leftToLast", "(III)I"⟩, 8) := ⟨⟨by decide +kernel, by decide +kernel⟩, List.mem_of_getElem? (i := 199) (by decide +kernel), List.mem_of_getElem? (i := 676) (by decide +kernel), List.mem_of_getElem? (i := 677) (by decide +kernel)⟩
theorem lw_p18 : lw_okq (⟨"QuotaLaws$Planner", "search", "(III)I"⟩, 8) := ⟨⟨by decide +kernel, by decide +kernel⟩, List.mem_of_getElem? (i := 199) (by decide +kernel), List.mem_of_getElem? (i := 683) (by decide +kernel), List.mem_of_getElem? (i := 684) (by decide +kernel)⟩
theorem lw_p19 : lw_okq (⟨"QuotaLaws$Planner", "needOfAll", "(I)I"⟩, 8) := ⟨⟨by decide +kernel, by decide +kernel⟩, List.mem_of_getElem? (i := 199) (by decide +kernel), List.mem_of_getElem? (i := 707) (by decide +kernel), List.mem_of_getElem? (i := 708) (by decide +kernel)⟩
theorem lw_p20 : lw_okq (⟨"QuotaLaws$Planner", "givenTo", "(I)I"⟩, 8) := ⟨⟨by decide +kernel, by decide +kernel⟩, List.mem_of_getElem? (i := 199) (by decide +kernel), List.mem_of_getElem? (i := 712) (by decide +kernel), List.mem_of_getElem? (i := 713) (by decide +kernel)⟩
theorem lw_p21 : lw_okq (⟨"QuotaLaws$Odds", "addTry", "(I)V"⟩, 3) := ⟨⟨by decide +kernel, by decide +kernel⟩, List.mem_of_getElem? (i := 263) (by decide +kernel), List.mem_of_getElem? (i := 759) (by decide +kernel), List.mem_of_getElem? (i := 760) (by decide +kernel)⟩
theorem lw_p22 : lw_okq (⟨"QuotaLaws$Odds", "reduce", "()V"⟩, 3) := ⟨⟨by decide +kernel, by decide +kernel⟩, List.mem_of_getElem? (i := 263) (by decide +kernel), List.mem_of_getElem? (i := 765) (by decide +kernel), List.mem_of_getElem? (i := 766) (by decide +kernel)⟩
theorem lw_p23 : lw_okq (⟨"QuotaLaws$Tables", "spendAlone", "(II)V"⟩, 8) := ⟨⟨by decide +kernel, by decide +kernel⟩, List.mem_of_getElem? (i := 231) (by decide +kernel), List.mem_of_getElem? (i := 801) (by decide +kernel), List.mem_of_getElem? (i := 802) (by decide +kernel)⟩
theorem lw_p24 : lw_okq (⟨"QuotaLaws$Tables", "joinAll", "()V"⟩, 8) := ⟨⟨by decide +kernel, by decide +kernel⟩, List.mem_of_getElem? (i := 231) (by decide +kernel), List.mem_of_getElem? (i := 805) (by decide +kernel), List.mem_of_getElem? (i := 806) (by decide +kernel)⟩
theorem lw_p25 : lw_okq (⟨"QuotaLaws$Tables", "spendTogether", "(I)V"⟩, 8) := ⟨⟨by decide +kernel, by decide +kernel⟩, List.mem_of_getElem? (i := 231) (by decide +kernel), List.mem_of_getElem? (i := 812) (by decide +kernel), List.mem_of_getElem? (i := 813) (by decide +kernel)⟩
theorem lw_p26 : lw_okq (⟨"QuotaLaws$Tables", "waysTo", "(IIII)J"⟩, 8) := ⟨⟨by decide +kernel, by decide +kernel⟩, List.mem_of_getElem? (i := 231) (by decide +kernel), List.mem_of_getElem? (i := 816) (by decide +kernel), List.mem_of_getElem? (i := 817) (by decide +kernel)⟩
theorem lw_p27 : lw_okq (⟨"QuotaLaws$Tables", "sumOfDue", "()J"⟩, 8) := ⟨⟨by decide +kernel, by decide +kernel⟩, List.mem_of_getElem? (i := 231) (by decide +kernel), List.mem_of_getElem? (i := 822) (by decide +kernel), List.mem_of_getElem? (i := 823) (by decide +kernel)⟩
theorem lw_p28 : lw_okq (⟨"QuotaLaws$Tables", "isDueOf", "(II)Z"⟩, 8) := ⟨⟨by decide +kernel, by decide +kernel⟩, List.mem_of_getElem? (i := 231) (by decide +kernel), List.mem_of_getElem? (i := 826) (by decide +kernel), List.mem_of_getElem? (i := 827) (by decide +kernel)⟩
theorem lw_p29 : lw_okq (⟨"QuotaLaws", "countKept", "()I"⟩, 10) := ⟨⟨by decide +kernel, by decide +kernel⟩, List.mem_of_getElem? (i := 19) (by decide +kernel), List.mem_of_getElem? (i := 913) (by decide +kernel), List.mem_of_getElem? (i := 914) (by decide +kernel)⟩
theorem lw_p30 : lw_okq (⟨"QuotaLawsModel", "firstDraft", "()V"⟩, 39) := ⟨⟨by decide +kernel, by decide +kernel⟩, List.mem_of_getElem? (i := 925) (by decide +kernel), List.mem_of_getElem? (i := 931) (by decide +kernel), List.mem_of_getElem? (i := 932) (by decide +kernel)⟩
theorem lw_p31 : lw_okq (⟨"QuotaLawsModel", "keepDraft", "()V"⟩, 39) := ⟨⟨by decide +kernel, by decide +kernel⟩, List.mem_of_getElem? (i := 925) (by decide +kernel), List.mem_of_getElem? (i := 935) (by decide +kernel), List.mem_of_getElem? (i := 936) (by decide +kernel)⟩
def lw_privs_2 : List (MethodName × Nat) := [(⟨"QuotaLaws$Reader", "takeWatch", "(LQuotaLaws$Realm;)Z"⟩, 9), (⟨"QuotaLaws$Planner", "leftToLast", "(III)I"⟩, 8), (⟨"QuotaLaws$Planner", "search", "(III)I"⟩, 8), (⟨"QuotaLaws$Planner", "needOfAll", "(I)I"⟩, 8), (⟨"QuotaLaws$Planner", "givenTo", "(I)I"⟩, 8), (⟨"QuotaLaws$Odds", "addTry", "(I)V"⟩, 3), (⟨"QuotaLaws$Odds", "reduce", "()V"⟩, 3), (⟨"QuotaLaws$Tables", "spendAlone", "(II)V"⟩, 8), (⟨"QuotaLaws$Tables", "joinAll", "()V"⟩, 8), (⟨"QuotaLaws$Tables", "spendTogether", "(I)V"⟩, 8), (⟨"QuotaLaws$Tables", "waysTo", "(IIII)J"⟩, 8), (⟨"QuotaLaws$Tables", "sumOfDue", "()J"⟩, 8), (⟨"QuotaLaws$Tables", "isDueOf", "(II)Z"⟩, 8), (⟨"QuotaLaws", "countKept", "()I"⟩, 10), (⟨"QuotaLawsModel", "firstDraft", "()V"⟩, 39), (⟨"QuotaLawsModel", "keepDraft", "()V"⟩, 39)]
theorem lw_r2 : ∀ q ∈ lw_privs_2, lw_okq q := List.forall_mem_cons.mpr ⟨lw_p16, List.forall_mem_cons.mpr ⟨lw_p17, List.forall_mem_cons.mpr ⟨lw_p18, List.forall_mem_cons.mpr ⟨lw_p19, List.forall_mem_cons.mpr ⟨lw_p20, List.forall_mem_cons.mpr ⟨lw_p21, List.forall_mem_cons.mpr ⟨lw_p22, List.forall_mem_cons.mpr ⟨lw_p23, List.forall_mem_cons.mpr ⟨lw_p24, List.forall_mem_cons.mpr ⟨lw_p25, List.forall_mem_cons.mpr ⟨lw_p26, List.forall_mem_cons.mpr ⟨lw_p27, List.forall_mem_cons.mpr ⟨lw_p28, List.forall_mem_cons.mpr ⟨lw_p29, List.forall_mem_cons.mpr ⟨lw_p30, List.forall_mem_cons.mpr ⟨lw_p31, fun _ h => absurd h List.not_mem_nil⟩⟩⟩⟩⟩⟩⟩⟩⟩⟩⟩⟩⟩⟩⟩⟩
theorem lw_p32 : lw_okq (⟨"QuotaLawsModel", "next", "()V"⟩, 39) := ⟨⟨by decide +kernel, by decide +kernel⟩, List.mem_of_getElem? (i := 925) (by decide +kernel), List.mem_of_getElem? (i := 1073) (by decide +kernel), List.mem_of_getElem? (i := 1074) (by decide +kernel)⟩
theorem lw_p33 : lw_okq (⟨"QuotaLawsModel", "look", "(I)I"⟩, 39) := ⟨⟨by decide +kernel, by decide +kernel⟩, List.mem_of_getElem? (i := 925) (by decide +kernel), List.mem_of_getElem? (i := 1077) (by decide +kernel), List.mem_of_getElem? (i := 1078) (by decide +kernel)⟩
theorem lw_p34 : lw_okq (⟨"QuotaLawsModel", "needs", "(ZI)V"⟩, 39) := ⟨⟨by decide +kernel, by decide +kernel⟩, List.mem_of_getElem? (i := 925) (by decide +kernel), List.mem_of_getElem? (i := 1085) (by decide +kernel), List.mem_of_getElem? (i := 1086) (by decide +kernel)⟩
theorem lw_p35 : lw_okq (⟨"QuotaLawsModel", "readLine", "()V"⟩, 39) := ⟨⟨by decide +kernel, by decide +kernel⟩, List.mem_of_getElem? (i := 925) (by decide +kernel), List.mem_of_getElem? (i := 1089) (by decide +kernel), List.mem_of_getElem? (i := 1090) (by decide +kernel)⟩
theorem lw_p36 : lw_okq (⟨"QuotaLawsModel", "lineNow", "()I"⟩, 39) := ⟨⟨by decide +kernel, by decide +kernel⟩, List.mem_of_getElem? (i := 925) (by decide +kernel), List.mem_of_getElem? (i := 1093) (by decide +kernel), List.mem_of_getElem? (i := 1094) (by decide +kernel)⟩
theorem lw_p37 : lw_okq (⟨"QuotaLawsModel", "is", "(IIII)Z"⟩, 39) := ⟨⟨by decide +kernel, by decide +kernel⟩, List.mem_of_getElem? (i := 925) (by decide +kernel), List.mem_of_getElem? (i := 1097) (by decide +kernel), List.mem_of_getElem? (i := 1098) (by decide +kernel)⟩
theorem lw_p38 : lw_okq (⟨"QuotaLawsModel", "readLineOf", "(I)V"⟩, 39) := ⟨⟨by decide +kernel, by decide +kernel⟩, List.mem_of_getElem? (i := 925) (by decide +kernel), List.mem_of_getElem? (i := 1101) (by decide +kernel), List.mem_of_getElem? (i := 1102) (by decide +kernel)⟩
theorem lw_p39 : lw_okq (⟨"QuotaLawsModel", "readLaw", "()V"⟩, 39) := ⟨⟨by decide +kernel, by decide +kernel⟩, List.mem_of_getElem? (i := 925) (by decide +kernel), List.mem_of_getElem? (i := 1105) (by decide +kernel), List.mem_of_getElem? (i := 1106) (by decide +kernel)⟩
theorem lw_p40 : lw_okq (⟨"QuotaLawsModel", "readNumber", "(II)I"⟩, 39) := ⟨⟨by decide +kernel, by decide +kernel⟩, List.mem_of_getElem? (i := 925) (by decide +kernel), List.mem_of_getElem? (i := 1109) (by decide +kernel), List.mem_of_getElem? (i := 1110) (by decide +kernel)⟩
theorem lw_p41 : lw_okq (⟨"QuotaLawsModel", "looked", "(II)I"⟩, 39) := ⟨⟨by decide +kernel, by decide +kernel⟩, List.mem_of_getElem? (i := 925) (by decide +kernel), List.mem_of_getElem? (i := 1113) (by decide +kernel), List.mem_of_getElem? (i := 1114) (by decide +kernel)⟩
theorem lw_p42 : lw_okq (⟨"QuotaLawsModel", "readLawOf", "(I)I"⟩, 39) := ⟨⟨by decide +kernel, by decide +kernel⟩, List.mem_of_getElem? (i := 925) (by decide +kernel), List.mem_of_getElem? (i := 1117) (by decide +kernel), List.mem_of_getElem? (i := 1118) (by decide +kernel)⟩
theorem lw_p43 : lw_okq (⟨"QuotaLawsModel", "readOne", "()V"⟩, 39) := ⟨⟨by decide +kernel, by decide +kernel⟩, List.mem_of_getElem? (i := 925) (by decide +kernel), List.mem_of_getElem? (i := 1121) (by decide +kernel), List.mem_of_getElem? (i := 1122) (by decide +kernel)⟩
theorem lw_p44 : lw_okq (⟨"QuotaLawsModel", "isLaw", "(I)Z"⟩, 39) := ⟨⟨by decide +kernel, by decide +kernel⟩, List.mem_of_getElem? (i := 925) (by decide +kernel), List.mem_of_getElem? (i := 1137) (by decide +kernel), List.mem_of_getElem? (i := 1138) (by decide +kernel)⟩
theorem lw_p45 : lw_okq (⟨"QuotaLawsModel", "needOf", "(I)I"⟩, 39) := ⟨⟨by decide +kernel, by decide +kernel⟩, List.mem_of_getElem? (i := 925) (by decide +kernel), List.mem_of_getElem? (i := 1141) (by decide +kernel), List.mem_of_getElem? (i := 1142) (by decide +kernel)⟩
theorem lw_p46 : lw_okq (⟨"QuotaLawsModel", "doesStand", "(I)Z"⟩, 39) := ⟨⟨by decide +kernel, by decide +kernel⟩, List.mem_of_getElem? (i := 925) (by decide +kernel), List.mem_of_getElem? (i := 1145) (by decide +kernel), List.mem_of_getElem? (i := 1146) (by decide +kernel)⟩
theorem lw_p47 : lw_okq (⟨"QuotaLawsModel", "brokenBy", "(II)I"⟩, 39) := ⟨⟨by decide +kernel, by decide +kernel⟩, List.mem_of_getElem? (i := 925) (by decide +kernel), List.mem_of_getElem? (i := 1149) (by decide +kernel), List.mem_of_getElem? (i := 1150) (by decide +kernel)⟩
def lw_privs_3 : List (MethodName × Nat) := [(⟨"QuotaLawsModel", "next", "()V"⟩, 39), (⟨"QuotaLawsModel", "look", "(I)I"⟩, 39), (⟨"QuotaLawsModel", "needs", "(ZI)V"⟩, 39), (⟨"QuotaLawsModel", "readLine", "()V"⟩, 39), (⟨"QuotaLawsModel", "lineNow", "()I"⟩, 39), (⟨"QuotaLawsModel", "is", "(IIII)Z"⟩, 39), (⟨"QuotaLawsModel", "readLineOf", "(I)V"⟩, 39), (⟨"QuotaLawsModel", "readLaw", "()V"⟩, 39), (⟨"QuotaLawsModel", "readNumber", "(II)I"⟩, 39), (⟨"QuotaLawsModel", "looked", "(II)I"⟩, 39), (⟨"QuotaLawsModel", "readLawOf", "(I)I"⟩, 39), (⟨"QuotaLawsModel", "readOne", "()V"⟩, 39), (⟨"QuotaLawsModel", "isLaw", "(I)Z"⟩, 39), (⟨"QuotaLawsModel", "needOf", "(I)I"⟩, 39), (⟨"QuotaLawsModel", "doesStand", "(I)Z"⟩, 39), (⟨"QuotaLawsModel", "brokenBy", "(II)I"⟩, 39)]
theorem lw_r3 : ∀ q ∈ lw_privs_3, lw_okq q := List.forall_mem_cons.mpr ⟨lw_p32, List.forall_mem_cons.mpr ⟨lw_p33, List.forall_mem_cons.mpr ⟨lw_p34, List.forall_mem_cons.mpr ⟨lw_p35, List.forall_mem_cons.mpr ⟨lw_p36, List.forall_mem_cons.mpr ⟨lw_p37, List.forall_mem_cons.mpr ⟨lw_p38, List.forall_mem_cons.mpr ⟨lw_p39, List.forall_mem_cons.mpr ⟨lw_p40, List.forall_mem_cons.mpr ⟨lw_p41, List.forall_mem_cons.mpr ⟨lw_p42, List.forall_mem_cons.mpr ⟨lw_p43, List.forall_mem_cons.mpr ⟨lw_p44, List.forall_mem_cons.mpr ⟨lw_p45, List.forall_mem_cons.mpr ⟨lw_p46, List.forall_mem_cons.mpr ⟨lw_p47, fun _ h => absurd h List.not_mem_nil⟩⟩⟩⟩⟩⟩⟩⟩⟩⟩⟩⟩⟩⟩⟩⟩
theorem lw_p48 : lw_okq (⟨"QuotaLawsModel", "chainOf", "(I)I"⟩, 39) := ⟨⟨by decide +kernel, by decide +kernel⟩, List.mem_of_getElem? (i := 925) (by decide +kernel), List.mem_of_getElem? (i := 1153) (by decide +kernel), List.mem_of_getElem? (i := 1154) (by decide +kernel)⟩
theorem lw_p49 : lw_okq (⟨"QuotaLawsModel", "isOne", "(I)Z"⟩, 39) := ⟨⟨by decide +kernel, by decide +kernel⟩, List.mem_of_getElem? (i := 925) (by decide +kernel), List.mem_of_getElem? (i := 1161) (by decide +kernel), List.mem_of_getElem? (i := 1162) (by decide +kernel)⟩
theorem lw_p50 : lw_okq (⟨"QuotaLawsModel", "canBreak", "(II)Z"⟩, 39) := ⟨⟨by decide +kernel, by decide +kernel⟩, List.mem_of_getElem? (i := 925) (by decide +kernel), List.mem_of_getElem? (i := 1165) (by decide +kernel), List.mem_of_getElem? (i := 1166) (by decide +kernel)⟩
theorem lw_p51 : lw_okq (⟨"QuotaLawsModel", "roomOf", "(II)I"⟩, 39) := ⟨⟨by decide +kernel, by decide +kernel⟩, List.mem_of_getElem? (i := 925) (by decide +kernel), List.mem_of_getElem? (i := 1169) (by decide +kernel), List.mem_of_getElem? (i := 1170) (by decide +kernel)⟩
theorem lw_p52 : lw_okq (⟨"QuotaLawsModel", "timeLeft", "(I)I"⟩, 39) := ⟨⟨by decide +kernel, by decide +kernel⟩, List.mem_of_getElem? (i := 925) (by decide +kernel), List.mem_of_getElem? (i := 1173) (by decide +kernel), List.mem_of_getElem? (i := 1174) (by decide +kernel)⟩
theorem lw_p53 : lw_okq (⟨"QuotaLawsModel", "allBy", "(I)I"⟩, 39) := ⟨⟨by decide +kernel, by decide +kernel⟩, List.mem_of_getElem? (i := 925) (by decide +kernel), List.mem_of_getElem? (i := 1177) (by decide +kernel), List.mem_of_getElem? (i := 1178) (by decide +kernel)⟩
theorem lw_p54 : lw_okq (⟨"QuotaLawsModel", "becomes", "(II)I"⟩, 39) := ⟨⟨by decide +kernel, by decide +kernel⟩, List.mem_of_getElem? (i := 925) (by decide +kernel), List.mem_of_getElem? (i := 1193) (by decide +kernel), List.mem_of_getElem? (i := 1194) (by decide +kernel)⟩
theorem lw_p55 : lw_okq (⟨"QuotaLawsModel", "becomesBit", "(IIZ)I"⟩, 39) := ⟨⟨by decide +kernel, by decide +kernel⟩, List.mem_of_getElem? (i := 925) (by decide +kernel), List.mem_of_getElem? (i := 1205) (by decide +kernel), List.mem_of_getElem? (i := 1206) (by decide +kernel)⟩
theorem lw_p56 : lw_okq (⟨"QuotaLawsModel", "fallsNow", "()I"⟩, 39) := ⟨⟨by decide +kernel, by decide +kernel⟩, List.mem_of_getElem? (i := 925) (by decide +kernel), List.mem_of_getElem? (i := 1242) (by decide +kernel), List.mem_of_getElem? (i := 1243) (by decide +kernel)⟩
theorem lw_p57 : lw_okq (⟨"QuotaLawsModel", "startsRota", "(I)V"⟩, 39) := ⟨⟨by decide +kernel, by decide +kernel⟩, List.mem_of_getElem? (i := 925) (by decide +kernel), List.mem_of_getElem? (i := 1258) (by decide +kernel), List.mem_of_getElem? (i := 1259) (by decide +kernel)⟩
theorem lw_p58 : lw_okq (⟨"QuotaLawsModel", "findRota", "()I"⟩, 39) := ⟨⟨by decide +kernel, by decide +kernel⟩, List.mem_of_getElem? (i := 925) (by decide +kernel), List.mem_of_getElem? (i := 1262) (by decide +kernel), List.mem_of_getElem? (i := 1263) (by decide +kernel)⟩
theorem lw_p59 : lw_okq (⟨"QuotaLawsModel", "leastOf", "(IIII)I"⟩, 39) := ⟨⟨by decide +kernel, by decide +kernel⟩, List.mem_of_getElem? (i := 925) (by decide +kernel), List.mem_of_getElem? (i := 1269) (by decide +kernel), List.mem_of_getElem? (i := 1270) (by decide +kernel)⟩
theorem lw_p60 : lw_okq (⟨"QuotaLawsModel", "harmBy", "(IIIIIII)I"⟩, 39) := ⟨⟨by decide +kernel, by decide +kernel⟩, List.mem_of_getElem? (i := 925) (by decide +kernel), List.mem_of_getElem? (i := 1275) (by decide +kernel), List.mem_of_getElem? (i := 1276) (by decide +kernel)⟩
theorem lw_p61 : lw_okq (⟨"QuotaLawsModel", "roomAt", "(II)I"⟩, 39) := ⟨⟨by decide +kernel, by decide +kernel⟩, List.mem_of_getElem? (i := 925) (by decide +kernel), List.mem_of_getElem? (i := 1279) (by decide +kernel), List.mem_of_getElem? (i := 1280) (by decide +kernel)⟩
theorem lw_p62 : lw_okq (⟨"QuotaLawsModel", "sharesOf", "(IIII)V"⟩, 39) := ⟨⟨by decide +kernel, by decide +kernel⟩, List.mem_of_getElem? (i := 925) (by decide +kernel), List.mem_of_getElem? (i := 1283) (by decide +kernel), List.mem_of_getElem? (i := 1284) (by decide +kernel)⟩
theorem lw_p63 : lw_okq (⟨"QuotaLawsModel", "triesOf", "(II)I"⟩, 39) := ⟨⟨by decide +kernel, by decide +kernel⟩, List.mem_of_getElem? (i := 925) (by decide +kernel), List.mem_of_getElem? (i := 1299) (by decide +kernel), List.mem_of_getElem? (i := 1300) (by decide +kernel)⟩
def lw_privs_4 : List (MethodName × Nat) := [(⟨"QuotaLawsModel", "chainOf", "(I)I"⟩, 39), (⟨"QuotaLawsModel", "isOne", "(I)Z"⟩, 39), (⟨"QuotaLawsModel", "canBreak", "(II)Z"⟩, 39), (⟨"QuotaLawsModel", "roomOf", "(II)I"⟩, 39), (⟨"QuotaLawsModel", "timeLeft", "(I)I"⟩, 39), (⟨"QuotaLawsModel", "allBy", "(I)I"⟩, 39), (⟨"QuotaLawsModel", "becomes", "(II)I"⟩, 39), (⟨"QuotaLawsModel", "becomesBit", "(IIZ)I"⟩, 39), (⟨"QuotaLawsModel", "fallsNow", "()I"⟩, 39), (⟨"QuotaLawsModel", "startsRota", "(I)V"⟩, 39), (⟨"QuotaLawsModel", "findRota", "()I"⟩, 39), (⟨"QuotaLawsModel", "leastOf", "(IIII)I"⟩, 39), (⟨"QuotaLawsModel", "harmBy", "(IIIIIII)I"⟩, 39), (⟨"QuotaLawsModel", "roomAt", "(II)I"⟩, 39), (⟨"QuotaLawsModel", "sharesOf", "(IIII)V"⟩, 39), (⟨"QuotaLawsModel", "triesOf", "(II)I"⟩, 39)]
theorem lw_r4 : ∀ q ∈ lw_privs_4, lw_okq q := List.forall_mem_cons.mpr ⟨lw_p48, List.forall_mem_cons.mpr ⟨lw_p49, List.forall_mem_cons.mpr ⟨lw_p50, List.forall_mem_cons.mpr ⟨lw_p51, List.forall_mem_cons.mpr ⟨lw_p52, List.forall_mem_cons.mpr ⟨lw_p53, List.forall_mem_cons.mpr ⟨lw_p54, List.forall_mem_cons.mpr ⟨lw_p55, List.forall_mem_cons.mpr ⟨lw_p56, List.forall_mem_cons.mpr ⟨lw_p57, List.forall_mem_cons.mpr ⟨lw_p58, List.forall_mem_cons.mpr ⟨lw_p59, List.forall_mem_cons.mpr ⟨lw_p60, List.forall_mem_cons.mpr ⟨lw_p61, List.forall_mem_cons.mpr ⟨lw_p62, List.forall_mem_cons.mpr ⟨lw_p63, fun _ h => absurd h List.not_mem_nil⟩⟩⟩⟩⟩⟩⟩⟩⟩⟩⟩⟩⟩⟩⟩⟩
theorem lw_p64 : lw_okq (⟨"QuotaLawsModel", "saves", "()V"⟩, 39) := ⟨⟨by decide +kernel, by decide +kernel⟩, List.mem_of_getElem? (i := 925) (by decide +kernel), List.mem_of_getElem? (i := 1308) (by decide +kernel), List.mem_of_getElem? (i := 1309) (by decide +kernel)⟩
theorem lw_p65 : lw_okq (⟨"QuotaLawsModel", "wantedBy", "(I)I"⟩, 39) := ⟨⟨by decide +kernel, by decide +kernel⟩, List.mem_of_getElem? (i := 925) (by decide +kernel), List.mem_of_getElem? (i := 1312) (by decide +kernel), List.mem_of_getElem? (i := 1313) (by decide +kernel)⟩
theorem lw_p66 : lw_okq (⟨"QuotaLawsModel", "returns", "()V"⟩, 39) := ⟨⟨by decide +kernel, by decide +kernel⟩, List.mem_of_getElem? (i := 925) (by decide +kernel), List.mem_of_getElem? (i := 1316) (by decide +kernel), List.mem_of_getElem? (i := 1317) (by decide +kernel)⟩
theorem lw_p67 : lw_okq (⟨"QuotaLawsModel", "tablesBy", "(III)J"⟩, 39) := ⟨⟨by decide +kernel, by decide +kernel⟩, List.mem_of_getElem? (i := 925) (by decide +kernel), List.mem_of_getElem? (i := 1342) (by decide +kernel), List.mem_of_getElem? (i := 1343) (by decide +kernel)⟩
theorem lw_p68 : lw_okq (⟨"QuotaLawsModel", "addsLaw", "(IIII)V"⟩, 39) := ⟨⟨by decide +kernel, by decide +kernel⟩, List.mem_of_getElem? (i := 925) (by decide +kernel), List.mem_of_getElem? (i := 1346) (by decide +kernel), List.mem_of_getElem? (i := 1347) (by decide +kernel)⟩
theorem lw_p69 : lw_okq (⟨"QuotaLawsModel", "mostOf", "(II)I"⟩, 39) := ⟨⟨by decide +kernel, by decide +kernel⟩, List.mem_of_getElem? (i := 925) (by decide +kernel), List.mem_of_getElem? (i := 1350) (by decide +kernel), List.mem_of_getElem? (i := 1351) (by decide +kernel)⟩
theorem lw_p70 : lw_okq (⟨"QuotaLawsModel", "isSo", "(III)Z"⟩, 39) := ⟨⟨by decide +kernel, by decide +kernel⟩, List.mem_of_getElem? (i := 925) (by decide +kernel), List.mem_of_getElem? (i := 1354) (by decide +kernel), List.mem_of_getElem? (i := 1355) (by decide +kernel)⟩
theorem lw_p71 : lw_okq (⟨"QuotaLawsModel", "isAsked", "(IIIIII)Z"⟩, 39) := ⟨⟨by decide +kernel, by decide +kernel⟩, List.mem_of_getElem? (i := 925) (by decide +kernel), List.mem_of_getElem? (i := 1358) (by decide +kernel), List.mem_of_getElem? (i := 1359) (by decide +kernel)⟩
theorem lw_p72 : lw_okq (⟨"QuotaLawsModel", "addsTables", "(III)V"⟩, 39) := ⟨⟨by decide +kernel, by decide +kernel⟩, List.mem_of_getElem? (i := 925) (by decide +kernel), List.mem_of_getElem? (i := 1362) (by decide +kernel), List.mem_of_getElem? (i := 1363) (by decide +kernel)⟩
theorem lw_p73 : lw_okq (⟨"QuotaLawsModel", "isTime", "(II)Z"⟩, 39) := ⟨⟨by decide +kernel, by decide +kernel⟩, List.mem_of_getElem? (i := 925) (by decide +kernel), List.mem_of_getElem? (i := 1366) (by decide +kernel), List.mem_of_getElem? (i := 1367) (by decide +kernel)⟩
theorem lw_p74 : lw_okq (⟨"QuotaLawsModel", "copies", "(II)V"⟩, 39) := ⟨⟨by decide +kernel, by decide +kernel⟩, List.mem_of_getElem? (i := 925) (by decide +kernel), List.mem_of_getElem? (i := 1385) (by decide +kernel), List.mem_of_getElem? (i := 1386) (by decide +kernel)⟩
def lw_privs_5 : List (MethodName × Nat) := [(⟨"QuotaLawsModel", "saves", "()V"⟩, 39), (⟨"QuotaLawsModel", "wantedBy", "(I)I"⟩, 39), (⟨"QuotaLawsModel", "returns", "()V"⟩, 39), (⟨"QuotaLawsModel", "tablesBy", "(III)J"⟩, 39), (⟨"QuotaLawsModel", "addsLaw", "(IIII)V"⟩, 39), (⟨"QuotaLawsModel", "mostOf", "(II)I"⟩, 39), (⟨"QuotaLawsModel", "isSo", "(III)Z"⟩, 39), (⟨"QuotaLawsModel", "isAsked", "(IIIIII)Z"⟩, 39), (⟨"QuotaLawsModel", "addsTables", "(III)V"⟩, 39), (⟨"QuotaLawsModel", "isTime", "(II)Z"⟩, 39), (⟨"QuotaLawsModel", "copies", "(II)V"⟩, 39)]
theorem lw_r5 : ∀ q ∈ lw_privs_5, lw_okq q := List.forall_mem_cons.mpr ⟨lw_p64, List.forall_mem_cons.mpr ⟨lw_p65, List.forall_mem_cons.mpr ⟨lw_p66, List.forall_mem_cons.mpr ⟨lw_p67, List.forall_mem_cons.mpr ⟨lw_p68, List.forall_mem_cons.mpr ⟨lw_p69, List.forall_mem_cons.mpr ⟨lw_p70, List.forall_mem_cons.mpr ⟨lw_p71, List.forall_mem_cons.mpr ⟨lw_p72, List.forall_mem_cons.mpr ⟨lw_p73, List.forall_mem_cons.mpr ⟨lw_p74, fun _ h => absurd h List.not_mem_nil⟩⟩⟩⟩⟩⟩⟩⟩⟩⟩⟩
def lw_privs : List (MethodName × Nat) := lw_privs_1 ++ (lw_privs_2 ++ (lw_privs_3 ++ (lw_privs_4 ++ (lw_privs_5))))
def lw_tbl : List Cond := k2_sels lw_privs ++ tables_1
theorem lw_privs_ok : ∀ q ∈ lw_privs, lw_okq q := by
  show ∀ q ∈ lw_privs_1 ++ (lw_privs_2 ++ (lw_privs_3 ++ (lw_privs_4 ++ (lw_privs_5)))), lw_okq q
  exact List.forall_mem_append.mpr ⟨lw_r1, List.forall_mem_append.mpr ⟨lw_r2, List.forall_mem_append.mpr ⟨lw_r3, List.forall_mem_append.mpr ⟨lw_r4, lw_r5⟩⟩⟩⟩
end
section
/-! names: printed by wip/gen/gen_names.py -/
def T_Q : u_T := fun k => match k with
  | 0 => ("QuotaLaws", "reader", "LQuotaLaws$Reader;", true)
  | 1 => ("QuotaLaws", "now", "LQuotaLaws$Realm;", true)
  | 2 => ("QuotaLaws", "trial", "LQuotaLaws$Realm;", true)
  | 3 => ("QuotaLaws", "images", "[LQuotaLaws$Realm;", true)
  | 4 => ("QuotaLaws", "kept", "[Z", true)
  | 5 => ("QuotaLaws", "sheets", "[LQuotaLaws$Sheet;", true)
  | 6 => ("QuotaLaws", "planner", "LQuotaLaws$Planner;", true)
  | 7 => ("QuotaLaws", "tables", "LQuotaLaws$Tables;", true)
  | 8 => ("QuotaLaws", "odds", "LQuotaLaws$Odds;", true)
  | _ => ("QuotaLaws", "tornFault", "I", false)
def ty_Q : Nat → FieldType := fun k => match k with
  | 0 => .object "QuotaLaws$Reader"
  | 1 => .object "QuotaLaws$Realm"
  | 2 => .object "QuotaLaws$Realm"
  | 3 => .array (.object "QuotaLaws$Realm")
  | 4 => .array .boolean
  | 5 => .array (.object "QuotaLaws$Sheet")
  | 6 => .object "QuotaLaws$Planner"
  | 7 => .object "QuotaLaws$Tables"
  | 8 => .object "QuotaLaws$Odds"
  | _ => .int
def T_Odds : u_T := fun k => match k with
  | 0 => ("QuotaLaws$Odds", "over", "J", false)
  | 1 => ("QuotaLaws$Odds", "under", "J", false)
  | _ => ("QuotaLaws$Odds", "weights", "[J", true)
def ty_Odds : Nat → FieldType := fun k => match k with
  | 0 => .long
  | 1 => .long
  | _ => .array .long
def T_Planner : u_T := fun k => match k with
  | 0 => ("QuotaLaws$Planner", "laws", "I", false)
  | 1 => ("QuotaLaws$Planner", "left", "[I", true)
  | 2 => ("QuotaLaws$Planner", "need", "[I", true)
  | 3 => ("QuotaLaws$Planner", "needAhead", "[I", true)
  | 4 => ("QuotaLaws$Planner", "room", "[I", true)
  | 5 => ("QuotaLaws$Planner", "harm", "[I", true)
  | 6 => ("QuotaLaws$Planner", "first", "[I", true)
  | _ => ("QuotaLaws$Planner", "best", "[I", true)
def ty_Planner : Nat → FieldType := fun k => match k with
  | 0 => .int
  | 1 => .array .int
  | 2 => .array .int
  | 3 => .array .int
  | 4 => .array .int
  | 5 => .array .int
  | 6 => .array .int
  | _ => .array .int
def T_Reader : u_T := fun k => match k with
  | 0 => ("QuotaLaws$Reader", "tape", "[B", true)
  | 1 => ("QuotaLaws$Reader", "length", "I", false)
  | 2 => ("QuotaLaws$Reader", "fault", "I", false)
  | 3 => ("QuotaLaws$Reader", "faultPlace", "I", false)
  | 4 => ("QuotaLaws$Reader", "lines", "I", false)
  | 5 => ("QuotaLaws$Reader", "place", "I", false)
  | 6 => ("QuotaLaws$Reader", "kind", "I", false)
  | 7 => ("QuotaLaws$Reader", "start", "I", false)
  | _ => ("QuotaLaws$Reader", "value", "I", false)
def ty_Reader : Nat → FieldType := fun k => match k with
  | 0 => .array .byte
  | 1 => .int
  | 2 => .int
  | 3 => .int
  | 4 => .int
  | 5 => .int
  | 6 => .int
  | 7 => .int
  | _ => .int
def T_Realm : u_T := fun k => match k with
  | 0 => ("QuotaLaws$Realm", "laws", "I", false)
  | 1 => ("QuotaLaws$Realm", "people", "I", false)
  | 2 => ("QuotaLaws$Realm", "year", "I", false)
  | 3 => ("QuotaLaws$Realm", "done", "I", false)
  | 4 => ("QuotaLaws$Realm", "stands", "I", false)
  | 5 => ("QuotaLaws$Realm", "watched", "I", false)
  | 6 => ("QuotaLaws$Realm", "quota", "[I", true)
  | 7 => ("QuotaLaws$Realm", "cap", "[I", true)
  | 8 => ("QuotaLaws$Realm", "harm", "[I", true)
  | 9 => ("QuotaLaws$Realm", "fine", "[I", true)
  | 10 => ("QuotaLaws$Realm", "carries", "[I", true)
  | 11 => ("QuotaLaws$Realm", "time", "[I", true)
  | 12 => ("QuotaLaws$Realm", "clumsy", "[I", true)
  | 13 => ("QuotaLaws$Realm", "nerve", "[I", true)
  | 14 => ("QuotaLaws$Realm", "purse", "[I", true)
  | 15 => ("QuotaLaws$Realm", "refused", "[I", true)
  | 16 => ("QuotaLaws$Realm", "wanted", "[I", true)
  | 17 => ("QuotaLaws$Realm", "breakings", "[I", true)
  | _ => ("QuotaLaws$Realm", "seen", "LQuotaLaws$Sightings;", true)
def ty_Realm : Nat → FieldType := fun k => match k with
  | 0 => .int
  | 1 => .int
  | 2 => .int
  | 3 => .int
  | 4 => .int
  | 5 => .int
  | 6 => .array .int
  | 7 => .array .int
  | 8 => .array .int
  | 9 => .array .int
  | 10 => .array .int
  | 11 => .array .int
  | 12 => .array .int
  | 13 => .array .int
  | 14 => .array .int
  | 15 => .array .int
  | 16 => .array .int
  | 17 => .array .int
  | _ => .object "QuotaLaws$Sightings"
def T_Sheet : u_T := fun k => match k with
  | 0 => ("QuotaLaws$Sheet", "size", "I", false)
  | 1 => ("QuotaLaws$Sheet", "lane", "I", false)
  | _ => ("QuotaLaws$Sheet", "cells", "[I", true)
def ty_Sheet : Nat → FieldType := fun k => match k with
  | 0 => .int
  | 1 => .int
  | _ => .array .int
def T_Sightings : u_T := fun k => match k with
  | 0 => ("QuotaLaws$Sightings", "size", "I", false)
  | 1 => ("QuotaLaws$Sightings", "kinds", "[I", true)
  | 2 => ("QuotaLaws$Sightings", "whose", "[I", true)
  | _ => ("QuotaLaws$Sightings", "times", "[I", true)
def ty_Sightings : Nat → FieldType := fun k => match k with
  | 0 => .int
  | 1 => .array .int
  | 2 => .array .int
  | _ => .array .int
def T_Tables : u_T := fun k => match k with
  | 0 => ("QuotaLaws$Tables", "laws", "I", false)
  | 1 => ("QuotaLaws$Tables", "low", "[I", true)
  | 2 => ("QuotaLaws$Tables", "high", "[I", true)
  | 3 => ("QuotaLaws$Tables", "lawDue", "[I", true)
  | 4 => ("QuotaLaws$Tables", "oneDue", "[I", true)
  | 5 => ("QuotaLaws$Tables", "time", "[I", true)
  | 6 => ("QuotaLaws$Tables", "alone", "[J", true)
  | _ => ("QuotaLaws$Tables", "ways", "[J", true)
def ty_Tables : Nat → FieldType := fun k => match k with
  | 0 => .int
  | 1 => .array .int
  | 2 => .array .int
  | 3 => .array .int
  | 4 => .array .int
  | 5 => .array .int
  | 6 => .array .long
  | _ => .array .long
def T_M : u_T := fun k => match k with
  | 0 => ("QuotaLawsModel", "st", "[I", true)
  | 1 => ("QuotaLawsModel", "isKept", "[Z", true)
  | 2 => ("QuotaLawsModel", "laws", "I", false)
  | 3 => ("QuotaLawsModel", "people", "I", false)
  | 4 => ("QuotaLawsModel", "cap", "[I", true)
  | 5 => ("QuotaLawsModel", "harm", "[I", true)
  | 6 => ("QuotaLawsModel", "fine", "[I", true)
  | 7 => ("QuotaLawsModel", "clumsy", "[I", true)
  | 8 => ("QuotaLawsModel", "nerve", "[I", true)
  | 9 => ("QuotaLawsModel", "draft", "[I", true)
  | 10 => ("QuotaLawsModel", "dLaws", "I", false)
  | 11 => ("QuotaLawsModel", "dPeople", "I", false)
  | 12 => ("QuotaLawsModel", "dCap", "[I", true)
  | 13 => ("QuotaLawsModel", "dHarm", "[I", true)
  | 14 => ("QuotaLawsModel", "dFine", "[I", true)
  | 15 => ("QuotaLawsModel", "dClumsy", "[I", true)
  | 16 => ("QuotaLawsModel", "dNerve", "[I", true)
  | 17 => ("QuotaLawsModel", "highestLaw", "I", false)
  | 18 => ("QuotaLawsModel", "highestOne", "I", false)
  | 19 => ("QuotaLawsModel", "tape", "[I", true)
  | 20 => ("QuotaLawsModel", "taped", "I", false)
  | 21 => ("QuotaLawsModel", "pos", "I", false)
  | 22 => ("QuotaLawsModel", "from", "I", false)
  | 23 => ("QuotaLawsModel", "sort", "I", false)
  | 24 => ("QuotaLawsModel", "value", "I", false)
  | 25 => ("QuotaLawsModel", "fault", "I", false)
  | 26 => ("QuotaLawsModel", "wrongAt", "I", false)
  | 27 => ("QuotaLawsModel", "least", "[I", true)
  | 28 => ("QuotaLawsModel", "needs", "[I", true)
  | 29 => ("QuotaLawsModel", "lefts", "[I", true)
  | 30 => ("QuotaLawsModel", "shares", "[I", true)
  | 31 => ("QuotaLawsModel", "saved", "[I", true)
  | 32 => ("QuotaLawsModel", "ways", "[J", true)
  | 33 => ("QuotaLawsModel", "tables", "[J", true)
  | 34 => ("QuotaLawsModel", "then", "[J", true)
  | 35 => ("QuotaLawsModel", "lanes", "[I", true)
  | 36 => ("QuotaLawsModel", "sizes", "[I", true)
  | 37 => ("QuotaLawsModel", "cells", "[I", true)
  | _ => ("QuotaLawsModel", "torn", "I", false)
def ty_M : Nat → FieldType := fun k => match k with
  | 0 => .array .int
  | 1 => .array .boolean
  | 2 => .int
  | 3 => .int
  | 4 => .array .int
  | 5 => .array .int
  | 6 => .array .int
  | 7 => .array .int
  | 8 => .array .int
  | 9 => .array .int
  | 10 => .int
  | 11 => .int
  | 12 => .array .int
  | 13 => .array .int
  | 14 => .array .int
  | 15 => .array .int
  | 16 => .array .int
  | 17 => .int
  | 18 => .int
  | 19 => .array .int
  | 20 => .int
  | 21 => .int
  | 22 => .int
  | 23 => .int
  | 24 => .int
  | 25 => .int
  | 26 => .int
  | 27 => .array .int
  | 28 => .array .int
  | 29 => .array .int
  | 30 => .array .int
  | 31 => .array .int
  | 32 => .array .long
  | 33 => .array .long
  | 34 => .array .long
  | 35 => .array .int
  | 36 => .array .int
  | 37 => .array .int
  | _ => .int
def mcls : List vw_C := [("QuotaLaws", T_Q, 10), ("QuotaLaws$Odds", T_Odds, 3), ("QuotaLaws$Planner", T_Planner, 8), ("QuotaLaws$Reader", T_Reader, 9), ("QuotaLaws$Realm", T_Realm, 19), ("QuotaLaws$Sheet", T_Sheet, 3), ("QuotaLaws$Sightings", T_Sightings, 4), ("QuotaLaws$Tables", T_Tables, 8), ("QuotaLawsModel", T_M, 39)]
def mtys (dA : Nat → ClassId) : List (ClassId × FieldType) := [(dA 0, .int), (dA 1, .byte), (dA 2, .boolean), (dA 3, .long), (dA 4, .object "QuotaLaws$Realm"), (dA 5, .object "QuotaLaws$Sheet")]
def strK : List (String × Nat × String) := [("QuotaLaws$Reader", 54, "law"), ("QuotaLaws$Reader", 67, "one"), ("QuotaLaws$Reader", 75, "want"), ("QuotaLaws$Reader", 80, "watch")]
def strL : List Nat := [3, 3, 4, 5]
def strB : List (List Int32) := [[108, 97, 119], [111, 110, 101], [119, 97, 110, 116], [119, 97, 116, 99, 104]]
def overs : List String := ["QuotaLaws$Realm", "QuotaLaws$Sheet"]
end
section
/-! THE MODEL: cells by their places; a place k lies at the address 'ad k'. G: from this state of the model the method comes to its end. -/
abbrev mCell : Type := (Nat × vp_A) ⊕ (Nat × List Value)
/-- next free place, slots made so far, the cells -/
abbrev mH : Type := Nat × Nat × (Nat → mCell)
def cv (ad : Nat → Nat) : Value → Value
  | .ref k => .ref (ad k)
  | v => v
def cq (ad : Nat → Nat) (q : Nat × Value) : Nat × Value := (q.1, cv ad q.2)
def cA (ad : Nat → Nat) : vp_A → vp_A
  | (n, .inr (.inr (.inr (.inr f)))) => (n, .inr (.inr (.inr (.inr (fun j => (f j).map ad)))))
  | a => a
def cE (dA : Nat → ClassId) (ad : Nat → Nat) : mCell → va_E
  | .inl (t, a) => .inl (dA t, cA ad a)
  | .inr (c, fs) => .inr (c, fs.map (cv ad))
def dead : mCell := .inr (0, [])
def wl (dA : Nat → ClassId) (ad : Nat → Nat) (h : mH) : va_W := (List.range h.1).map (fun k => (ad k, cE dA ad (h.2.2 k)))
def mset (h : mH) (o : Nat) (c : mCell) : mH := (h.1, h.2.1, va_up h.2.2 o c)
theorem cv_cat (ad : Nat → Nat) (v : Value) : (cv ad v).category = v.category := by cases v <;> rfl
theorem wl_at {dA : Nat → ClassId} {ad : Nat → Nat} {h : mH} {o : Nat} (ho : o < h.1) : (wl dA ad h)[o]? = some (ad o, cE dA ad (h.2.2 o)) := by
  simp [wl, ho]
theorem wl_set {dA : Nat → ClassId} {ad : Nat → Nat} {h : mH} {o : Nat} {c : mCell} : (wl dA ad h).set o (ad o, cE dA ad c) = wl dA ad (mset h o c) := by
  apply List.ext_getElem?
  intro k
  by_cases hk : k < h.1
  · by_cases he : o = k
    · subst he
      simp [wl, mset, va_up, hk]
    · simp [wl, mset, va_up, hk, he, Ne.symm he]

  · rw [List.getElem?_eq_none (by simp [wl]; omega), List.getElem?_eq_none (by simp [wl, mset]; omega)]
theorem wl_of {dA : Nat → ClassId} {ad ad' : Nat → Nat} {h : mH} (hs : ∀ k, k < h.1 → (ad k, cE dA ad (h.2.2 k)) = (ad' k, cE dA ad' (h.2.2 k))) : wl dA ad h = wl dA ad' h := by
  unfold wl
  exact List.map_congr_left (fun k hk => hs k (List.mem_range.mp hk))
/-- words -/
def tbg : List Cond := lw_tbl.filter goodWord
theorem tbg_in {w : Cond} (i : Nat) (h : lw_tbl[i]? = some w) (hg : goodWord w = true) : w ∈ tbg := List.mem_filter.mpr ⟨List.mem_of_getElem? h, hg⟩
theorem tbg_good {big : List Cond} (hb : ∀ w ∈ tbg, w ∈ big) : GoodIn big tbg := fun w h => ⟨hb w h, good_of_word (List.mem_filter.mp h).2⟩
def isNest : Cond → Bool
  | .methodLinkNest .. => true
  | .fieldLinkNest .. => true
  | _ => false
def nests : List Cond := lw_tbl.filter isNest
theorem nests_in {w : Cond} (i : Nat) (h : lw_tbl[i]? = some w) (hg : isNest w = true) : w ∈ nests := List.mem_filter.mpr ⟨List.mem_of_getElem? h, hg⟩
theorem nest_warm {w : Cond} (hw : isNest w = true) {s U : State} (hW : s.WarmedH U.vm) (h : va_Nw w s) : va_Nw w U := by
  cases w <;> first | exact va_Nw.warmM hW h | exact va_Nw.warmF hW h | exact absurd hw (by simp [isNest])
theorem nest_on {w : Cond} (hw : isNest w = true) : w.onTables = true := by
  cases w <;> first | rfl | exact absurd hw (by simp [isNest])
end
section
/-- what lies outside the model's cells: nest mates' links, the String constants (places 1000 ..; their bytes 1100 ..), two statics -/
def EX (ad : Nat → Nat) (A : Nat → Prop) (U : State) : Prop :=
  (∀ w ∈ nests, va_Nw w U) ∧ (∀ (i : Nat) (q : String × Nat × String), strK[i]? = some q → vk_R q.1 q.2.1 q.2.2 (ad (1000 + i)) U) ∧ vk_S strK.length strL strB (fun i => ad (1000 + i)) (fun i => ad (1100 + i)) A U U.heap ∧ va_Z "java/lang/String" "COMPACT_STRINGS" "Z" (.int 1) A U U.heap ∧ (va_Z "jdk/internal/util/Preconditions" "SIOOBE_FORMATTER" "Ljava/util/function/BiFunction;" .null A U U.heap ∨ va_Z "jdk/internal/util/Preconditions" "SIOOBE_FORMATTER" "Ljava/util/function/BiFunction;" (.ref (ad 1200)) A U U.heap) ∧ ∀ C ∈ overs, va_AO C U
theorem EX.go {ad ad' : Nat → Nat} {A A' : Nat → Prop} {s U : State} {H0 : Heap} {locs : List Loc} (h : EX ad A s) (hW : s.WarmedH U.vm) (hS : va_S A s.heap H0 locs) (hU : U.heap = H0) (hA : ∀ q, A' q → A q) (hd : ∀ k, 1000 ≤ k → ad' k = ad k) : EX ad' A' U := by
  obtain ⟨h1, h2, h3, h4, h5, h6⟩ := h
  have hal := hW.alike
  have e1 : (fun i => ad' (1000 + i)) = (fun i => ad (1000 + i)) := funext fun i => hd _ (by omega)
  have e2 : (fun i => ad' (1100 + i)) = (fun i => ad (1100 + i)) := funext fun i => hd _ (by omega)
  subst hU
  refine ⟨fun w hw => nest_warm (List.mem_filter.mp hw).2 hW (h1 w hw), fun i q hq => ?_, ?_, ?_, ?_, fun C hC => (h6 C hC).moved hal⟩
  · rw [hd _ (by omega)]
    exact (h2 i q hq).warm hW
  · rw [e1, e2]
    exact ((h3.kept hS.2.1).moved hal).narrow hA
  · exact ((h4.kept hS.2.1).moved hal).narrow hA
  · rw [hd 1200 (by omega)]
    rcases h5 with z | z
    · exact Or.inl (((z.kept hS.2.1).moved hal).narrow hA)
    · exact Or.inr (((z.kept hS.2.1).moved hal).narrow hA)
theorem EX.blind {ad : Nat → Nat} {A : Nat → Prop} {U : State} {g : JFrame} {mk : MethodId} {a : Array Value} (h : EX ad A U) : EX ad A (U.calling g mk a) := by
  obtain ⟨h1, h2, h3, h4, h5, h6⟩ := h
  have hal : U.vm.Alike (U.calling g mk a).vm := Vm.Alike.refl U.vm
  exact ⟨fun w hw => va_Nw.same (u := U) (U := U.calling g mk a) (nest_on (List.mem_filter.mp hw).2) rfl (h1 w hw), fun i q hq => vk_R.same (u := U) (U := U.calling g mk a) rfl (h2 i q hq), h3.moved hal, h4.moved hal, h5.imp (fun z => z.moved hal) (fun z => z.moved hal), fun C hC => (h6 C hC).moved hal⟩
/-- the machine's side of a method's body -/
def Cx (y : MethodName) (cc : ByteArray) (mL : Nat) (ret : Option FieldType) (dC : Nat → ClassId) (dI : Nat → Nat → Nat) (dA : Nat → ClassId) (ad0 : Nat → Nat) (A : Nat → Prop) (p : Program) (s : State) (m : MethodId) (args : Array Value) (meth : Method) (c : Code) : Prop :=
  p.tables.exec = Jvm.exec ∧ c.code = cc ∧ meth.sig.returnType = ret ∧ c.maxLocals = mL ∧ meth.locks = false ∧ s.vm.findClass y.cls = some m.cls ∧ meth.name = y.name ∧ (∀ w ∈ tbg, w.before args s = true) ∧ va_K (dC, dI) mcls (mtys dA) s ∧ EX ad0 A s ∧ (∀ q, s.heap.size ≤ q → A q)
def hasRef (c : mCell) (j : Nat) : Prop := match c with
  | .inr (_, fs) => Value.ref j ∈ fs
  | .inl (_, _, .inr (.inr (.inr (.inr f)))) => ∃ i, f i = some j
  | _ => False
/-- the cells: few enough, none beyond the last, and all that they name is there -/
def HW (h : mH) : Prop := h.1 ≤ 1000 ∧ (∀ k, h.1 ≤ k → h.2.2 k = dead) ∧ ∀ k j, hasRef (h.2.2 k) j → j < h.1
/-- the model's state beside the machine's -/
def Sr (mL : Nat) (dC : Nat → ClassId) (dI : Nat → Nat → Nat) (dA : Nat → ClassId) (ad0 : Nat → Nat) (n0 s0 : Nat) (A : Nat → Prop) (s : State) (h : mH) (lv : List (Nat × Value)) (ad : Nat → Nat) (H : Heap) (locs : List Loc) (ls : Array Slot) : Prop :=
  va_P (dC, dI) mcls (wl dA ad h) H ∧ va_D A (wl dA ad h) ∧ va_S A s.heap H locs ∧ lv_has ls mL (lv.map (cq ad)) ∧ (∀ k, k < n0 ∨ h.1 ≤ k → ad k = ad0 k) ∧ n0 ≤ h.1 ∧ s0 ≤ h.2.1 ∧ HW h
def Qk (dC : Nat → ClassId) (dI : Nat → Nat → Nat) (dA : Nat → ClassId) (ad0 : Nat → Nat) (n0 : Nat) (A : Nat → Prop) (s : State) (args : Array Value) (r : Option Value) (h' : mH) (Qc : Array Value → State → Outcome → State → Prop) : Prop :=
  ∀ (ad : Nat → Nat) (H : Heap) (locs : List Loc) (t : State), va_P (dC, dI) mcls (wl dA ad h') H → va_D A (wl dA ad h') → va_S A s.heap H locs → (∀ k, k < n0 ∨ h'.1 ≤ k → ad k = ad0 k) → HW h' → t.heap = H → s.WarmedH t.vm → Qc args s (.returned (r.map (cv ad))) t
/-- the methods that make cells: constructors, and the law -/
def al (y : MethodName) : Bool := y.name == "<init>" || y.name == "law"
def nle (y : MethodName) (a b : Nat) : Prop := a ≤ b ∧ (al y = false → a = b)
theorem nle_rf {y : MethodName} {a : Nat} : nle y a a := ⟨Nat.le_refl a, fun _ => rfl⟩
theorem nle_tr {y y2 : MethodName} {a b c : Nat} (h1 : nle y2 a b) (hal : al y2 = true → al y = true) (h2 : nle y b c) : nle y a c := by
  refine ⟨Nat.le_trans h1.1 h2.1, fun z => ?_⟩
  have z2 : al y2 = false := by
    cases q : al y2 with
    | false => rfl
    | true => rw [hal q] at z; cases z
  rw [h1.2 z2]
  exact h2.2 z
/-- from this state of the model the method comes to its end: with r, and the cells h' -/
def G (y : MethodName) (cc : ByteArray) (mL : Nat) (ret : Option FieldType) (fr lo : Nat) (pc : Nat) (lv : List (Nat × Value)) (stk : List Value) (h : mH) (r : Option Value) (h' : mH) : Prop :=
  nle y h.1 h'.1 ∧ nle y h.2.1 h'.2.1 ∧ ∀ (l : Launch) (p : Program) (e : Env) (R : Room) (s : State) (m : MethodId) (args : Array Value) (below : List Frame) (meth : Method) (c : Code) (dC : Nat → ClassId) (dI : Nat → Nat → Nat) (dA : Nat → ClassId) (ad0 : Nat → Nat) (n0 s0 : Nat) (A : Nat → Prop) (Qc : Array Value → State → Outcome → State → Prop),
    Cx y cc mL ret dC dI dA ad0 A p s m args meth c → Qk dC dI dA ad0 n0 A s args r h' Qc → fr ≤ R.frames → lo ≤ R.locals → h'.1 - n0 ≤ R.cells → h'.2.1 - s0 ≤ R.slots →
    ∀ (ad : Nat → Nat) (H : Heap) (locs : List Loc) (ls : Array Slot), Sr mL dC dI dA ad0 n0 s0 A s h lv ad H locs ls →
      W p l e R s m args below meth c H locs (h.1 - n0) (h.2.1 - s0) (MQ below Qc args s (h'.1 - n0) (h'.2.1 - s0) A) (F0 m pc ls (stk.map (cv ad)))
section
variable {y : MethodName} {cc : ByteArray} {mL : Nat} {ret : Option FieldType} {fr lo pc : Nat} {lv : List (Nat × Value)} {stk : List Value} {h h' : mH} {r : Option Value}
/-- a row that touches neither cells nor locals -/
theorem g_pure {pc2 : Nat} {stk2 : List Value} (f : ∀ {p : Program} {l : Launch} {e : Env} {R : Room} {s : State} {m : MethodId} {args : Array Value} {below : List Frame} {meth : Method} {c : Code} {H : Heap} {locs : List Loc} {cells slots : Nat} {Q : State → Prop} {ls : Array Slot} {ad : Nat → Nat}, p.tables.exec = Jvm.exec → c.code = cc → s.vm.findClass y.cls = some m.cls → (∀ w ∈ tbg, w.before args s = true) → lv_has ls mL (lv.map (cq ad)) → W p l e R s m args below meth c H locs cells slots Q (F0 m pc2 ls (stk2.map (cv ad))) → W p l e R s m args below meth c H locs cells slots Q (F0 m pc ls (stk.map (cv ad))))
    (k : G y cc mL ret fr lo pc2 lv stk2 h r h') : G y cc mL ret fr lo pc lv stk h r h' :=
  ⟨k.1, k.2.1, fun l p e R s m args below meth c dC dI dA ad0 n0 s0 A Qc C q f1 f2 f3 f4 ad H locs ls S => f C.1 C.2.1 C.2.2.2.2.2.1 C.2.2.2.2.2.2.2.1 S.2.2.2.1 (k.2.2 l p e R s m args below meth c dC dI dA ad0 n0 s0 A Qc C q f1 f2 f3 f4 ad H locs ls S)⟩
theorem g_iconst {n : Int} (v : Int32) (hd : decode cc pc = .ok (.iconst n, 1)) (hv : Int32.ofInt n = v) (k : G y cc mL ret fr lo (pc + 1) lv (.int v :: stk) h r h') : G y cc mL ret fr lo pc lv stk h r h' :=
  g_pure (fun hx hb _ _ _ k => lv_iconst hx hb hd hv k) k
theorem g_iadd {a b : Int32} (hd : decode cc pc = .ok (.iadd, 1)) (k : G y cc mL ret fr lo (pc + 1) lv (.int (a + b) :: stk) h r h') : G y cc mL ret fr lo pc lv (.int b :: .int a :: stk) h r h' :=
  g_pure (fun hx hb _ _ _ k => lv_iadd hx hb hd k) k
theorem g_iload {i : Nat} {x : Int32} (j : Nat) (hd : decode cc pc = .ok (.iload i, 2)) (hj : lv[j]? = some (i, .int x)) (k : G y cc mL ret fr lo (pc + 2) lv (.int x :: stk) h r h') : G y cc mL ret fr lo pc lv stk h r h' :=
  g_pure (fun {_ _ _ _ _ _ _ _ _ _ _ _ _ _ _ _ ad} hx hb _ _ hl k => lv_iload hx hb hd (lv_at hl j (by rw [List.getElem?_map, hj]; rfl)) k) k
end
end
section
section
variable {y : MethodName} {cc : ByteArray} {mL : Nat} {ret : Option FieldType} {fr lo pc : Nat} {lv lv' : List (Nat × Value)} {stk : List Value} {h h' : mH} {r : Option Value}
theorem g_bipush {n : Int} (v : Int32) (hd : decode cc pc = .ok (.bipush n, 2)) (hv : (Int8.ofInt n).toInt32 = v) (k : G y cc mL ret fr lo (pc + 2) lv (.int v :: stk) h r h') : G y cc mL ret fr lo pc lv stk h r h' :=
  g_pure (fun hx hb hown hts hl k => lv_bipush hx hb hd hv k) k
theorem g_sipush {n : Int} (v : Int32) (hd : decode cc pc = .ok (.sipush n, 3)) (hv : (Int16.ofInt n).toInt32 = v) (k : G y cc mL ret fr lo (pc + 3) lv (.int v :: stk) h r h') : G y cc mL ret fr lo pc lv stk h r h' :=
  g_pure (fun hx hb hown hts hl k => lv_sipush hx hb hd hv k) k
theorem g_lconst {n : Fin 2} (v : Int64) (hd : decode cc pc = .ok (.lconst n, 1)) (hv : Int64.ofNat (n : Nat) = v) (k : G y cc mL ret fr lo (pc + 1) lv (.long v :: stk) h r h') : G y cc mL ret fr lo pc lv stk h r h' :=
  g_pure (fun hx hb hown hts hl k => lv_lconst hx hb hd hv k) k
theorem g_ldc {index : Nat} (v : Int32) (hd : decode cc pc = .ok (.ldc index, 2)) (hw : Cond.constant y.cls index v ∈ tbg) (k : G y cc mL ret fr lo (pc + 2) lv (.int v :: stk) h r h') : G y cc mL ret fr lo pc lv stk h r h' :=
  g_pure (fun hx hb hown hts hl k => lv_ldc hx hb hown (hts _ hw) hd k) k
theorem g_ldcw {index : Nat} (v : Int32) (hd : decode cc pc = .ok (.ldc_w index, 3)) (hw : Cond.constant y.cls index v ∈ tbg) (k : G y cc mL ret fr lo (pc + 3) lv (.int v :: stk) h r h') : G y cc mL ret fr lo pc lv stk h r h' :=
  g_pure (fun hx hb hown hts hl k => lv_ldcw hx hb hown (hts _ hw) hd k) k
theorem g_ldc2 {index : Nat} (v : Int64) (hd : decode cc pc = .ok (.ldc2_w index, 3)) (hw : Cond.constantLong y.cls index v ∈ tbg) (k : G y cc mL ret fr lo (pc + 3) lv (.long v :: stk) h r h') : G y cc mL ret fr lo pc lv stk h r h' :=
  g_pure (fun hx hb hown hts hl k => lv_ldc2 hx hb hown (hts _ hw) hd k) k
theorem g_iload_n {f : Fin 4} {i : Nat} {x : Int32} (j : Nat) (hd : decode cc pc = .ok (.iload_n f, 1)) (hi : (f : Nat) = i) (hj : lv[j]? = some (i, .int x)) (k : G y cc mL ret fr lo (pc + 1) lv (.int x :: stk) h r h') : G y cc mL ret fr lo pc lv stk h r h' :=
  g_pure (fun hx hb hown hts hl k => lv_iload_n hx hb hd hi (lv_at hl j (by rw [List.getElem?_map, hj]; rfl)) k) k
theorem g_lload_n {f : Fin 4} {i : Nat} {x : Int64} (j : Nat) (hd : decode cc pc = .ok (.lload_n f, 1)) (hi : (f : Nat) = i) (hj : lv[j]? = some (i, .long x)) (k : G y cc mL ret fr lo (pc + 1) lv (.long x :: stk) h r h') : G y cc mL ret fr lo pc lv stk h r h' :=
  g_pure (fun hx hb hown hts hl k => lv_lload_n hx hb hd hi (lv_at hl j (by rw [List.getElem?_map, hj]; rfl)) k) k
theorem g_lload {i : Nat} {x : Int64} (j : Nat) (hd : decode cc pc = .ok (.lload i, 2)) (hj : lv[j]? = some (i, .long x)) (k : G y cc mL ret fr lo (pc + 2) lv (.long x :: stk) h r h') : G y cc mL ret fr lo pc lv stk h r h' :=
  g_pure (fun hx hb hown hts hl k => lv_lload hx hb hd (lv_at hl j (by rw [List.getElem?_map, hj]; rfl)) k) k
theorem g_aload_n {f : Fin 4} {i : Nat} {x : Nat} (j : Nat) (hd : decode cc pc = .ok (.aload_n f, 1)) (hi : (f : Nat) = i) (hj : lv[j]? = some (i, .ref x)) (k : G y cc mL ret fr lo (pc + 1) lv (.ref x :: stk) h r h') : G y cc mL ret fr lo pc lv stk h r h' :=
  g_pure (fun hx hb hown hts hl k => lv_aload_n hx hb hd hi (lv_at hl j (by rw [List.getElem?_map, hj]; rfl)) k) k
theorem g_aload {i : Nat} {x : Nat} (j : Nat) (hd : decode cc pc = .ok (.aload i, 2)) (hj : lv[j]? = some (i, .ref x)) (k : G y cc mL ret fr lo (pc + 2) lv (.ref x :: stk) h r h') : G y cc mL ret fr lo pc lv stk h r h' :=
  g_pure (fun hx hb hown hts hl k => lv_aload hx hb hd (lv_at hl j (by rw [List.getElem?_map, hj]; rfl)) k) k
theorem g_isub {a b : Int32} (hd : decode cc pc = .ok (.isub, 1)) (k : G y cc mL ret fr lo (pc + 1) lv (.int (a - b) :: stk) h r h') : G y cc mL ret fr lo pc lv (.int b :: .int a :: stk) h r h' :=
  g_pure (fun hx hb hown hts hl k => lv_isub hx hb hd k) k
theorem g_imul {a b : Int32} (hd : decode cc pc = .ok (.imul, 1)) (k : G y cc mL ret fr lo (pc + 1) lv (.int (a * b) :: stk) h r h') : G y cc mL ret fr lo pc lv (.int b :: .int a :: stk) h r h' :=
  g_pure (fun hx hb hown hts hl k => lv_imul hx hb hd k) k
theorem g_iand {a b : Int32} (hd : decode cc pc = .ok (.iand, 1)) (k : G y cc mL ret fr lo (pc + 1) lv (.int (a &&& b) :: stk) h r h') : G y cc mL ret fr lo pc lv (.int b :: .int a :: stk) h r h' :=
  g_pure (fun hx hb hown hts hl k => lv_iand hx hb hd k) k
theorem g_ior {a b : Int32} (hd : decode cc pc = .ok (.ior, 1)) (k : G y cc mL ret fr lo (pc + 1) lv (.int (a ||| b) :: stk) h r h') : G y cc mL ret fr lo pc lv (.int b :: .int a :: stk) h r h' :=
  g_pure (fun hx hb hown hts hl k => lv_ior hx hb hd k) k
theorem g_ixor {a b : Int32} (hd : decode cc pc = .ok (.ixor, 1)) (k : G y cc mL ret fr lo (pc + 1) lv (.int (a ^^^ b) :: stk) h r h') : G y cc mL ret fr lo pc lv (.int b :: .int a :: stk) h r h' :=
  g_pure (fun hx hb hown hts hl k => lv_ixor hx hb hd k) k
theorem g_ladd {a b : Int64} (hd : decode cc pc = .ok (.ladd, 1)) (k : G y cc mL ret fr lo (pc + 1) lv (.long (a + b) :: stk) h r h') : G y cc mL ret fr lo pc lv (.long b :: .long a :: stk) h r h' :=
  g_pure (fun hx hb hown hts hl k => lv_ladd hx hb hd k) k
theorem g_lsub {a b : Int64} (hd : decode cc pc = .ok (.lsub, 1)) (k : G y cc mL ret fr lo (pc + 1) lv (.long (a - b) :: stk) h r h') : G y cc mL ret fr lo pc lv (.long b :: .long a :: stk) h r h' :=
  g_pure (fun hx hb hown hts hl k => lv_lsub hx hb hd k) k
theorem g_lmul {a b : Int64} (hd : decode cc pc = .ok (.lmul, 1)) (k : G y cc mL ret fr lo (pc + 1) lv (.long (a * b) :: stk) h r h') : G y cc mL ret fr lo pc lv (.long b :: .long a :: stk) h r h' :=
  g_pure (fun hx hb hown hts hl k => lv_lmul hx hb hd k) k
theorem g_idiv {a b : Int32} (hd : decode cc pc = .ok (.idiv, 1)) (hne : ¬ b = 0) (k : G y cc mL ret fr lo (pc + 1) lv (.int (a / b) :: stk) h r h') : G y cc mL ret fr lo pc lv (.int b :: .int a :: stk) h r h' :=
  g_pure (fun hx hb hown hts hl k => lv_idiv hx hb hd hne k) k
theorem g_irem {a b : Int32} (hd : decode cc pc = .ok (.irem, 1)) (hne : ¬ b = 0) (k : G y cc mL ret fr lo (pc + 1) lv (.int (a - a / b * b) :: stk) h r h') : G y cc mL ret fr lo pc lv (.int b :: .int a :: stk) h r h' :=
  g_pure (fun hx hb hown hts hl k => lv_irem hx hb hd hne k) k
theorem g_ldiv {a b : Int64} (hd : decode cc pc = .ok (.ldiv, 1)) (hne : ¬ b = 0) (k : G y cc mL ret fr lo (pc + 1) lv (.long (a / b) :: stk) h r h') : G y cc mL ret fr lo pc lv (.long b :: .long a :: stk) h r h' :=
  g_pure (fun hx hb hown hts hl k => lv_ldiv hx hb hd hne k) k
theorem g_lrem {a b : Int64} (hd : decode cc pc = .ok (.lrem, 1)) (hne : ¬ b = 0) (k : G y cc mL ret fr lo (pc + 1) lv (.long (a - a / b * b) :: stk) h r h') : G y cc mL ret fr lo pc lv (.long b :: .long a :: stk) h r h' :=
  g_pure (fun hx hb hown hts hl k => lv_lrem hx hb hd hne k) k
theorem g_ishl {a b : Int32} (hd : decode cc pc = .ok (.ishl, 1)) (k : G y cc mL ret fr lo (pc + 1) lv (.int (a <<< (b &&& 31)) :: stk) h r h') : G y cc mL ret fr lo pc lv (.int b :: .int a :: stk) h r h' :=
  g_pure (fun hx hb hown hts hl k => lv_ishl hx hb hd k) k
theorem g_ishr {a b : Int32} (hd : decode cc pc = .ok (.ishr, 1)) (k : G y cc mL ret fr lo (pc + 1) lv (.int (a >>> (b &&& 31)) :: stk) h r h') : G y cc mL ret fr lo pc lv (.int b :: .int a :: stk) h r h' :=
  g_pure (fun hx hb hown hts hl k => lv_ishr hx hb hd k) k
theorem g_iushr {a b : Int32} (hd : decode cc pc = .ok (.iushr, 1)) (k : G y cc mL ret fr lo (pc + 1) lv (.int (a.toUInt32 >>> (b.toUInt32 &&& Int32.toUInt32 31)).toInt32 :: stk) h r h') : G y cc mL ret fr lo pc lv (.int b :: .int a :: stk) h r h' :=
  g_pure (fun hx hb hown hts hl k => lv_iushr hx hb hd rfl k) k
theorem g_i2l {a : Int32} (hd : decode cc pc = .ok (.i2l, 1)) (k : G y cc mL ret fr lo (pc + 1) lv (.long a.toInt64 :: stk) h r h') : G y cc mL ret fr lo pc lv (.int a :: stk) h r h' :=
  g_pure (fun hx hb hown hts hl k => lv_i2l hx hb hd rfl k) k
theorem g_l2i {a : Int64} (hd : decode cc pc = .ok (.l2i, 1)) (k : G y cc mL ret fr lo (pc + 1) lv (.int a.toInt32 :: stk) h r h') : G y cc mL ret fr lo pc lv (.long a :: stk) h r h' :=
  g_pure (fun hx hb hown hts hl k => lv_l2i hx hb hd rfl k) k
theorem g_i2b {a : Int32} (hd : decode cc pc = .ok (.i2b, 1)) (k : G y cc mL ret fr lo (pc + 1) lv (.int a.toInt8.toInt32 :: stk) h r h') : G y cc mL ret fr lo pc lv (.int a :: stk) h r h' :=
  g_pure (fun hx hb hown hts hl k => lv_i2b hx hb hd rfl k) k
theorem g_i2s {a : Int32} (hd : decode cc pc = .ok (.i2s, 1)) (k : G y cc mL ret fr lo (pc + 1) lv (.int a.toInt16.toInt32 :: stk) h r h') : G y cc mL ret fr lo pc lv (.int a :: stk) h r h' :=
  g_pure (fun hx hb hown hts hl k => lv_i2s hx hb hd rfl k) k
theorem g_lcmp {a b : Int64} (hd : decode cc pc = .ok (.lcmp, 1)) (k : G y cc mL ret fr lo (pc + 1) lv (.int (lg_cmp a b) :: stk) h r h') : G y cc mL ret fr lo pc lv (.long b :: .long a :: stk) h r h' :=
  g_pure (fun hx hb hown hts hl k => W.lcmp hx hb hd k) k
theorem g_dup {v : Value} (hd : decode cc pc = .ok (.dup, 1)) (hc : v.category = 1) (k : G y cc mL ret fr lo (pc + 1) lv (v :: v :: stk) h r h') : G y cc mL ret fr lo pc lv (v :: stk) h r h' :=
  g_pure (fun hx hb hown hts hl k => lv_dup hx hb hd (by rw [cv_cat]; exact hc) k) k
theorem g_pop {v : Value} (hd : decode cc pc = .ok (.pop, 1)) (hc : v.category = 1) (k : G y cc mL ret fr lo (pc + 1) lv stk h r h') : G y cc mL ret fr lo pc lv (v :: stk) h r h' :=
  g_pure (fun hx hb hown hts hl k => lv_pop hx hb hd (by rw [cv_cat]; exact hc) k) k
theorem g_dup2 {v w : Value} (hd : decode cc pc = .ok (.dup2, 1)) (hc : v.category = 1) (hc2 : w.category = 1) (k : G y cc mL ret fr lo (pc + 1) lv (v :: w :: v :: w :: stk) h r h') : G y cc mL ret fr lo pc lv (v :: w :: stk) h r h' :=
  g_pure (fun hx hb hown hts hl k => lv_dup2_11 hx hb hd (by rw [cv_cat]; exact hc) (by rw [cv_cat]; exact hc2) k) k
theorem g_goto {off : Int} (tgt : Nat) (hd : decode cc pc = .ok (.goto off, 3)) (ht : (pc : Int) + off = (tgt : Int)) (k : G y cc mL ret fr lo tgt lv stk h r h') : G y cc mL ret fr lo pc lv stk h r h' :=
  g_pure (fun hx hb _ _ _ k => lv_goto hx hb hd ht k) k
theorem g_two {pc2 pc3 : Nat} {stk2 : List Value} {c1 c2 : Prop} (f : ∀ {p : Program} {l : Launch} {e : Env} {R : Room} {s : State} {m : MethodId} {args : Array Value} {below : List Frame} {meth : Method} {c : Code} {H : Heap} {locs : List Loc} {cells slots : Nat} {Q : State → Prop} {ls : Array Slot} {ad : Nat → Nat}, p.tables.exec = Jvm.exec → c.code = cc → (c1 → W p l e R s m args below meth c H locs cells slots Q (F0 m pc2 ls (stk2.map (cv ad)))) → (c2 → W p l e R s m args below meth c H locs cells slots Q (F0 m pc3 ls (stk2.map (cv ad)))) → W p l e R s m args below meth c H locs cells slots Q (F0 m pc ls (stk.map (cv ad))))
    (hor : c1 ∨ c2) (k1 : c1 → G y cc mL ret fr lo pc2 lv stk2 h r h') (k2 : c2 → G y cc mL ret fr lo pc3 lv stk2 h r h') : G y cc mL ret fr lo pc lv stk h r h' :=
  ⟨hor.elim (fun q => (k1 q).1) (fun q => (k2 q).1), hor.elim (fun q => (k1 q).2.1) (fun q => (k2 q).2.1), fun l p e R s m args below meth c dC dI dA ad0 n0 s0 A Qc C q f1 f2 f3 f4 ad H locs ls S => f C.1 C.2.1 (fun z => (k1 z).2.2 l p e R s m args below meth c dC dI dA ad0 n0 s0 A Qc C q f1 f2 f3 f4 ad H locs ls S) (fun z => (k2 z).2.2 l p e R s m args below meth c dC dI dA ad0 n0 s0 A Qc C q f1 f2 f3 f4 ad H locs ls S)⟩
theorem g_ifeq {a : Int32} {off : Int} (tgt : Nat) (hd : decode cc pc = .ok (.ifCond .eq off, 3)) (ht : (pc : Int) + off = (tgt : Int)) (k1 : a = 0 → G y cc mL ret fr lo tgt lv stk h r h') (k2 : ¬ a = 0 → G y cc mL ret fr lo (pc + 3) lv stk h r h') : G y cc mL ret fr lo pc lv (.int a :: stk) h r h' :=
  g_two (fun hx hb k1 k2 => lv_if_eq hx hb hd ht k1 k2) (Classical.em _) k1 k2
theorem g_icmpeq {a b : Int32} {off : Int} (tgt : Nat) (hd : decode cc pc = .ok (.if_icmp .eq off, 3)) (ht : (pc : Int) + off = (tgt : Int)) (k1 : a = b → G y cc mL ret fr lo tgt lv stk h r h') (k2 : ¬ a = b → G y cc mL ret fr lo (pc + 3) lv stk h r h') : G y cc mL ret fr lo pc lv (.int b :: .int a :: stk) h r h' :=
  g_two (fun hx hb k1 k2 => lv_icmp_eq hx hb hd ht k1 k2) (Classical.em _) k1 k2
theorem g_ifne {a : Int32} {off : Int} (tgt : Nat) (hd : decode cc pc = .ok (.ifCond .ne off, 3)) (ht : (pc : Int) + off = (tgt : Int)) (k1 : ¬ a = 0 → G y cc mL ret fr lo tgt lv stk h r h') (k2 : a = 0 → G y cc mL ret fr lo (pc + 3) lv stk h r h') : G y cc mL ret fr lo pc lv (.int a :: stk) h r h' :=
  g_two (fun hx hb k1 k2 => lv_if_ne hx hb hd ht k1 k2) ((Classical.em _).symm) k1 k2
theorem g_icmpne {a b : Int32} {off : Int} (tgt : Nat) (hd : decode cc pc = .ok (.if_icmp .ne off, 3)) (ht : (pc : Int) + off = (tgt : Int)) (k1 : ¬ a = b → G y cc mL ret fr lo tgt lv stk h r h') (k2 : a = b → G y cc mL ret fr lo (pc + 3) lv stk h r h') : G y cc mL ret fr lo pc lv (.int b :: .int a :: stk) h r h' :=
  g_two (fun hx hb k1 k2 => lv_icmp_ne hx hb hd ht k1 k2) ((Classical.em _).symm) k1 k2
theorem g_iflt {a : Int32} {off : Int} (tgt : Nat) (hd : decode cc pc = .ok (.ifCond .lt off, 3)) (ht : (pc : Int) + off = (tgt : Int)) (k1 : a < 0 → G y cc mL ret fr lo tgt lv stk h r h') (k2 : ¬ a < 0 → G y cc mL ret fr lo (pc + 3) lv stk h r h') : G y cc mL ret fr lo pc lv (.int a :: stk) h r h' :=
  g_two (fun hx hb k1 k2 => lv_if_lt hx hb hd ht k1 k2) (Classical.em _) k1 k2
theorem g_icmplt {a b : Int32} {off : Int} (tgt : Nat) (hd : decode cc pc = .ok (.if_icmp .lt off, 3)) (ht : (pc : Int) + off = (tgt : Int)) (k1 : a < b → G y cc mL ret fr lo tgt lv stk h r h') (k2 : ¬ a < b → G y cc mL ret fr lo (pc + 3) lv stk h r h') : G y cc mL ret fr lo pc lv (.int b :: .int a :: stk) h r h' :=
  g_two (fun hx hb k1 k2 => lv_icmp_lt hx hb hd ht k1 k2) (Classical.em _) k1 k2
theorem g_ifge {a : Int32} {off : Int} (tgt : Nat) (hd : decode cc pc = .ok (.ifCond .ge off, 3)) (ht : (pc : Int) + off = (tgt : Int)) (k1 : 0 ≤ a → G y cc mL ret fr lo tgt lv stk h r h') (k2 : ¬ 0 ≤ a → G y cc mL ret fr lo (pc + 3) lv stk h r h') : G y cc mL ret fr lo pc lv (.int a :: stk) h r h' :=
  g_two (fun hx hb k1 k2 => lv_if_ge hx hb hd ht k1 k2) (Classical.em _) k1 k2
theorem g_icmpge {a b : Int32} {off : Int} (tgt : Nat) (hd : decode cc pc = .ok (.if_icmp .ge off, 3)) (ht : (pc : Int) + off = (tgt : Int)) (k1 : b ≤ a → G y cc mL ret fr lo tgt lv stk h r h') (k2 : ¬ b ≤ a → G y cc mL ret fr lo (pc + 3) lv stk h r h') : G y cc mL ret fr lo pc lv (.int b :: .int a :: stk) h r h' :=
  g_two (fun hx hb k1 k2 => lv_icmp_ge hx hb hd ht k1 k2) (Classical.em _) k1 k2
theorem g_ifgt {a : Int32} {off : Int} (tgt : Nat) (hd : decode cc pc = .ok (.ifCond .gt off, 3)) (ht : (pc : Int) + off = (tgt : Int)) (k1 : 0 < a → G y cc mL ret fr lo tgt lv stk h r h') (k2 : ¬ 0 < a → G y cc mL ret fr lo (pc + 3) lv stk h r h') : G y cc mL ret fr lo pc lv (.int a :: stk) h r h' :=
  g_two (fun hx hb k1 k2 => lv_if_gt hx hb hd ht k1 k2) (Classical.em _) k1 k2
theorem g_icmpgt {a b : Int32} {off : Int} (tgt : Nat) (hd : decode cc pc = .ok (.if_icmp .gt off, 3)) (ht : (pc : Int) + off = (tgt : Int)) (k1 : b < a → G y cc mL ret fr lo tgt lv stk h r h') (k2 : ¬ b < a → G y cc mL ret fr lo (pc + 3) lv stk h r h') : G y cc mL ret fr lo pc lv (.int b :: .int a :: stk) h r h' :=
  g_two (fun hx hb k1 k2 => lv_icmp_gt hx hb hd ht k1 k2) (Classical.em _) k1 k2
theorem g_ifle {a : Int32} {off : Int} (tgt : Nat) (hd : decode cc pc = .ok (.ifCond .le off, 3)) (ht : (pc : Int) + off = (tgt : Int)) (k1 : a ≤ 0 → G y cc mL ret fr lo tgt lv stk h r h') (k2 : ¬ a ≤ 0 → G y cc mL ret fr lo (pc + 3) lv stk h r h') : G y cc mL ret fr lo pc lv (.int a :: stk) h r h' :=
  g_two (fun hx hb k1 k2 => lv_if_le hx hb hd ht k1 k2) (Classical.em _) k1 k2
theorem g_icmple {a b : Int32} {off : Int} (tgt : Nat) (hd : decode cc pc = .ok (.if_icmp .le off, 3)) (ht : (pc : Int) + off = (tgt : Int)) (k1 : a ≤ b → G y cc mL ret fr lo tgt lv stk h r h') (k2 : ¬ a ≤ b → G y cc mL ret fr lo (pc + 3) lv stk h r h') : G y cc mL ret fr lo pc lv (.int b :: .int a :: stk) h r h' :=
  g_two (fun hx hb k1 k2 => lv_icmp_le hx hb hd ht k1 k2) (Classical.em _) k1 k2
theorem g_tabIn {dflt lo_ hi_ : Int} {offs : Array Int} {len : Nat} {a : Int32} {off : Int} (tgt : Nat) (v : Int32) (hd : decode cc pc = .ok (.tableswitch dflt lo_ hi_ offs, len)) (hv : a = v) (h1 : ¬ v.toInt < lo_) (h2 : ¬ hi_ < v.toInt) (ho : offs[(v.toInt - lo_).toNat]? = some off) (ht : (pc : Int) + off = (tgt : Int)) (k : G y cc mL ret fr lo tgt lv stk h r h') : G y cc mL ret fr lo pc lv (.int a :: stk) h r h' :=
  g_pure (fun hx hb _ _ _ k => by subst hv; exact lv_tableIn hx hb hd h1 h2 ho ht k) k
theorem g_tabOut {dflt lo_ hi_ : Int} {offs : Array Int} {len : Nat} {a : Int32} (tgt n : Nat) (hd : decode cc pc = .ok (.tableswitch dflt lo_ hi_ offs, len)) (hn : hi_ < lo_ + n) (hall : ∀ i : Nat, i < n → ¬ a = Int32.ofInt (lo_ + i)) (ht : (pc : Int) + dflt = (tgt : Int)) (k : G y cc mL ret fr lo tgt lv stk h r h') : G y cc mL ret fr lo pc lv (.int a :: stk) h r h' := by
  refine g_pure (fun hx hb _ _ _ k => lv_tableOut hx hb hd ?_ ht k) k
  rcases Int.lt_or_le a.toInt lo_ with q | q
  · exact Or.inl q
  · rcases Int.lt_or_le hi_ a.toInt with q2 | q2
    · exact Or.inr q2
    · exact absurd (by rw [show lo_ + ((a.toInt - lo_).toNat : Int) = a.toInt by omega]; exact (Int32.ofInt_toInt a).symm) (hall (a.toInt - lo_).toNat (by omega))
theorem cq_pick (ad : Nat → Nat) (lv : List (Nat × Value)) (ks : List Nat) : lv_pick (lv.map (cq ad)) ks = (lv_pick lv ks).map (cq ad) := by
  induction ks with
  | nil => rfl
  | cons a ks ih =>
    simp only [lv_pick, List.filterMap_cons, List.getElem?_map] at ih ⊢
    cases lv[a]? <;> simp [ih]
theorem cq_f1 (ad : Nat → Nat) (i : Nat) (lv : List (Nat × Value)) : (lv.map (cq ad)).filter (fun q => !(q.1 == i) && !(q.1 + 1 == i && q.2.category == 2)) = (lv.filter (fun q => !(q.1 == i) && !(q.1 + 1 == i && q.2.category == 2))).map (cq ad) := by
  rw [List.filter_map]; congr 1; apply List.filter_congr; intro q _; simp [cq, cv_cat]
theorem cq_f2 (ad : Nat → Nat) (i : Nat) (lv : List (Nat × Value)) : (lv.map (cq ad)).filter (fun q => !(q.1 == i) && (!(q.1 == i + 1) && !(q.1 + 1 == i && q.2.category == 2))) = (lv.filter (fun q => !(q.1 == i) && (!(q.1 == i + 1) && !(q.1 + 1 == i && q.2.category == 2)))).map (cq ad) := by
  rw [List.filter_map]; congr 1; apply List.filter_congr; intro q _; simp [cq, cv_cat]
/-- a row that changes locals alone -/
theorem g_loc {pc2 : Nat} {stk2 : List Value} (f : ∀ {p : Program} {l : Launch} {e : Env} {R : Room} {s : State} {m : MethodId} {args : Array Value} {below : List Frame} {meth : Method} {c : Code} {H : Heap} {locs : List Loc} {cells slots : Nat} {Q : State → Prop} {ls : Array Slot} {ad : Nat → Nat}, p.tables.exec = Jvm.exec → c.code = cc → lv_has ls mL (lv.map (cq ad)) → (∀ ls', lv_has ls' mL (lv'.map (cq ad)) → W p l e R s m args below meth c H locs cells slots Q (F0 m pc2 ls' (stk2.map (cv ad)))) → W p l e R s m args below meth c H locs cells slots Q (F0 m pc ls (stk.map (cv ad))))
    (k : G y cc mL ret fr lo pc2 lv' stk2 h r h') : G y cc mL ret fr lo pc lv stk h r h' :=
  ⟨k.1, k.2.1, fun l p e R s m args below meth c dC dI dA ad0 n0 s0 A Qc C q f1 f2 f3 f4 ad H locs ls S => f C.1 C.2.1 S.2.2.2.1 (fun ls' hl => k.2.2 l p e R s m args below meth c dC dI dA ad0 n0 s0 A Qc C q f1 f2 f3 f4 ad H locs ls' ⟨S.1, S.2.1, S.2.2.1, hl, S.2.2.2.2⟩)⟩
theorem g_lv (ks : List Nat) (hk : lv_pick lv ks = lv') (k : G y cc mL ret fr lo pc lv' stk h r h') : G y cc mL ret fr lo pc lv stk h r h' :=
  g_loc (fun _ _ hl k => k _ (lv_sub hl ks (by rw [cq_pick, hk]))) k
theorem g_istore_n {f : Fin 4} {i : Nat} {x : Int32} (lv' : List (Nat × Value)) (hd : decode cc pc = .ok (.istore_n f, 1)) (hi : (f : Nat) = i) (hn : i < mL) (hl : (i, Value.int x) :: lv.filter (fun q => !(q.1 == i) && !(q.1 + 1 == i && q.2.category == 2)) = lv') (k : G y cc mL ret fr lo (pc + 1) lv' stk h r h') : G y cc mL ret fr lo pc lv (.int x :: stk) h r h' :=
  g_loc (fun hx hb h1 k => lv_istore_n hx hb hd hi h1 hn (by rw [cq_f1, ← hl]; rfl) k) k
theorem g_istore {i : Nat} {x : Int32} (lv' : List (Nat × Value)) (hd : decode cc pc = .ok (.istore i, 2)) (hn : i < mL) (hl : (i, Value.int x) :: lv.filter (fun q => !(q.1 == i) && !(q.1 + 1 == i && q.2.category == 2)) = lv') (k : G y cc mL ret fr lo (pc + 2) lv' stk h r h') : G y cc mL ret fr lo pc lv (.int x :: stk) h r h' :=
  g_loc (fun hx hb h1 k => lv_istore hx hb hd h1 hn (by rw [cq_f1, ← hl]; rfl) k) k
theorem g_astore_n {f : Fin 4} {i : Nat} {x : Nat} (lv' : List (Nat × Value)) (hd : decode cc pc = .ok (.astore_n f, 1)) (hi : (f : Nat) = i) (hn : i < mL) (hl : (i, Value.ref x) :: lv.filter (fun q => !(q.1 == i) && !(q.1 + 1 == i && q.2.category == 2)) = lv') (k : G y cc mL ret fr lo (pc + 1) lv' stk h r h') : G y cc mL ret fr lo pc lv (.ref x :: stk) h r h' :=
  g_loc (fun hx hb h1 k => lv_astore_n hx hb hd hi h1 hn (by rw [cq_f1, ← hl]; rfl) k) k
theorem g_astore {i : Nat} {x : Nat} (lv' : List (Nat × Value)) (hd : decode cc pc = .ok (.astore i, 2)) (hn : i < mL) (hl : (i, Value.ref x) :: lv.filter (fun q => !(q.1 == i) && !(q.1 + 1 == i && q.2.category == 2)) = lv') (k : G y cc mL ret fr lo (pc + 2) lv' stk h r h') : G y cc mL ret fr lo pc lv (.ref x :: stk) h r h' :=
  g_loc (fun hx hb h1 k => lv_astore hx hb hd h1 hn (by rw [cq_f1, ← hl]; rfl) k) k
theorem g_lstore_n {f : Fin 4} {i : Nat} {x : Int64} (lv' : List (Nat × Value)) (hd : decode cc pc = .ok (.lstore_n f, 1)) (hi : (f : Nat) = i) (hn : i + 1 < mL) (hl : (i, Value.long x) :: lv.filter (fun q => !(q.1 == i) && (!(q.1 == i + 1) && !(q.1 + 1 == i && q.2.category == 2))) = lv') (k : G y cc mL ret fr lo (pc + 1) lv' stk h r h') : G y cc mL ret fr lo pc lv (.long x :: stk) h r h' :=
  g_loc (fun hx hb h1 k => lv_lstore_n hx hb hd hi h1 hn (by rw [cq_f2, ← hl]; rfl) k) k
theorem g_lstore {i : Nat} {x : Int64} (lv' : List (Nat × Value)) (hd : decode cc pc = .ok (.lstore i, 2)) (hn : i + 1 < mL) (hl : (i, Value.long x) :: lv.filter (fun q => !(q.1 == i) && (!(q.1 == i + 1) && !(q.1 + 1 == i && q.2.category == 2))) = lv') (k : G y cc mL ret fr lo (pc + 2) lv' stk h r h') : G y cc mL ret fr lo pc lv (.long x :: stk) h r h' :=
  g_loc (fun hx hb h1 k => lv_lstore hx hb hd h1 hn (by rw [cq_f2, ← hl]; rfl) k) k
theorem g_iinc {i : Nat} {n : Int} {x : Int32} (j : Nat) (v : Int32) (lv' : List (Nat × Value)) (hd : decode cc pc = .ok (.iinc i n, 3)) (hj : lv[j]? = some (i, .int x)) (hv : x + Int32.ofInt n = v) (hn : i < mL) (hl : (i, Value.int v) :: lv.filter (fun q => !(q.1 == i) && !(q.1 + 1 == i && q.2.category == 2)) = lv') (k : G y cc mL ret fr lo (pc + 3) lv' stk h r h') : G y cc mL ret fr lo pc lv stk h r h' :=
  g_loc (fun hx hb h1 k => lv_iinc hx hb hd h1 (k := j) (by rw [List.getElem?_map, hj]; rfl) hv hn (by rw [cq_f1, ← hl]; rfl) k) k
end
end
section
/-! reading and writing the model's cells -/
def gV (h : mH) (o ci k : Nat) : Option Value := match h.2.2 o with
  | .inr (c, fs) => if c = ci then fs[k]? else none
  | .inl _ => none
def gI (h : mH) (o ci k : Nat) : Option Int32 := match gV h o ci k with
  | some (.int x) => some x
  | _ => none
def gL (h : mH) (o ci k : Nat) : Option Int64 := match gV h o ci k with
  | some (.long x) => some x
  | _ => none
def gR (h : mH) (o ci k : Nat) : Option Nat := match gV h o ci k with
  | some (.ref x) => some x
  | _ => none
def pV (h : mH) (o ci k : Nat) (v : Value) : Option mH := match h.2.2 o with
  | .inr (c, fs) => if c = ci ∧ k < fs.length then some (mset h o (.inr (c, fs.set k v))) else none
  | .inl _ => none
/-- an array of ints, bytes, booleans (t says which): its cell i -/
def aI (h : mH) (t o : Nat) (i : Int32) : Option Int32 := match h.2.2 o with
  | .inl (t', n, .inl f) => if t' = t ∧ ¬ (i < 0 ∨ n ≤ i.toNatClampNeg) then some (f i.toNatClampNeg) else none
  | _ => none
def sI (h : mH) (t o : Nat) (i x : Int32) : Option mH := match h.2.2 o with
  | .inl (t', n, .inl f) => if t' = t ∧ ¬ (i < 0 ∨ n ≤ i.toNatClampNeg) then some (mset h o (.inl (t, n, .inl (upd f i.toNatClampNeg x)))) else none
  | _ => none
def aL (h : mH) (o : Nat) (i : Int32) : Option Int64 := match h.2.2 o with
  | .inl (t', n, .inr (.inl f)) => if t' = 3 ∧ ¬ (i < 0 ∨ n ≤ i.toNatClampNeg) then some (f i.toNatClampNeg) else none
  | _ => none
def sL (h : mH) (o : Nat) (i : Int32) (x : Int64) : Option mH := match h.2.2 o with
  | .inl (t', n, .inr (.inl f)) => if t' = 3 ∧ ¬ (i < 0 ∨ n ≤ i.toNatClampNeg) then some (mset h o (.inl (3, n, .inr (.inl (vp_updL f i.toNatClampNeg x))))) else none
  | _ => none
def aR (h : mH) (t o : Nat) (i : Int32) : Option Nat := match h.2.2 o with
  | .inl (t', n, .inr (.inr (.inr (.inr f)))) => if t' = t ∧ ¬ (i < 0 ∨ n ≤ i.toNatClampNeg) then f i.toNatClampNeg else none
  | _ => none
def sR (h : mH) (t o ci : Nat) (i : Int32) (v : Nat) : Option mH := match h.2.2 o, h.2.2 v with
  | .inl (t', n, .inr (.inr (.inr (.inr f)))), .inr (c, _ :: _) => if t' = t ∧ c = ci ∧ ¬ (i < 0 ∨ n ≤ i.toNatClampNeg) then some (mset h o (.inl (t, n, .inr (.inr (.inr (.inr (va_up f i.toNatClampNeg (some v)))))))) else none
  | _, _ => none
def aN (h : mH) (t o : Nat) : Option Int32 := match h.2.2 o with
  | .inl (t', n, _) => if t' = t then some (Int32.ofNat n) else none
  | _ => none
theorem gV_spec {h : mH} {o ci k : Nat} {v : Value} (e : gV h o ci k = some v) : ∃ fs, h.2.2 o = .inr (ci, fs) ∧ fs[k]? = some v := by
  unfold gV at e
  split at e
  · next c fs e1 =>
    split at e
    · next e2 => subst e2; exact ⟨fs, e1, e⟩
    · cases e
  · cases e
theorem gI_spec {h : mH} {o ci k : Nat} {x : Int32} (e : gI h o ci k = some x) : gV h o ci k = some (.int x) := by
  unfold gI at e
  split at e
  · next y e1 => rw [e1, Option.some.inj e]
  · cases e
theorem gL_spec {h : mH} {o ci k : Nat} {x : Int64} (e : gL h o ci k = some x) : gV h o ci k = some (.long x) := by
  unfold gL at e
  split at e
  · next y e1 => rw [e1, Option.some.inj e]
  · cases e
theorem gR_spec {h : mH} {o ci k : Nat} {x : Nat} (e : gR h o ci k = some x) : gV h o ci k = some (.ref x) := by
  unfold gR at e
  split at e
  · next y e1 => rw [e1, Option.some.inj e]
  · cases e
theorem pV_spec {h h2 : mH} {o ci k : Nat} {v : Value} (e : pV h o ci k v = some h2) : ∃ fs, h.2.2 o = .inr (ci, fs) ∧ k < fs.length ∧ h2 = mset h o (.inr (ci, fs.set k v)) := by
  unfold pV at e
  split at e
  · next c fs e1 =>
    split at e
    · next e2 => obtain ⟨rfl, e3⟩ := e2; exact ⟨fs, e1, e3, (Option.some.inj e).symm⟩
    · cases e
  · cases e
theorem aI_spec {h : mH} {t o : Nat} {i x : Int32} (e : aI h t o i = some x) : ∃ n f, h.2.2 o = .inl (t, n, .inl f) ∧ vp_in i n ∧ x = f i.toNatClampNeg := by
  unfold aI at e
  split at e
  · next t' n f e1 =>
    split at e
    · next e2 => obtain ⟨rfl, e3⟩ := e2; exact ⟨n, f, e1, e3, (Option.some.inj e).symm⟩
    · cases e
  · cases e
theorem sI_spec {h h2 : mH} {t o : Nat} {i x : Int32} (e : sI h t o i x = some h2) : ∃ n f, h.2.2 o = .inl (t, n, .inl f) ∧ vp_in i n ∧ h2 = mset h o (.inl (t, n, .inl (upd f i.toNatClampNeg x))) := by
  unfold sI at e
  split at e
  · next t' n f e1 =>
    split at e
    · next e2 => obtain ⟨rfl, e3⟩ := e2; exact ⟨n, f, e1, e3, (Option.some.inj e).symm⟩
    · cases e
  · cases e
theorem aL_spec {h : mH} {o : Nat} {i : Int32} {x : Int64} (e : aL h o i = some x) : ∃ n f, h.2.2 o = .inl (3, n, .inr (.inl f)) ∧ vp_in i n ∧ x = f i.toNatClampNeg := by
  unfold aL at e
  split at e
  · next t' n f e1 =>
    split at e
    · next e2 => obtain ⟨rfl, e3⟩ := e2; exact ⟨n, f, e1, e3, (Option.some.inj e).symm⟩
    · cases e
  · cases e
theorem sL_spec {h h2 : mH} {o : Nat} {i : Int32} {x : Int64} (e : sL h o i x = some h2) : ∃ n f, h.2.2 o = .inl (3, n, .inr (.inl f)) ∧ vp_in i n ∧ h2 = mset h o (.inl (3, n, .inr (.inl (vp_updL f i.toNatClampNeg x)))) := by
  unfold sL at e
  split at e
  · next t' n f e1 =>
    split at e
    · next e2 => obtain ⟨rfl, e3⟩ := e2; exact ⟨n, f, e1, e3, (Option.some.inj e).symm⟩
    · cases e
  · cases e
theorem aR_spec {h : mH} {t o : Nat} {i : Int32} {x : Nat} (e : aR h t o i = some x) : ∃ n f, h.2.2 o = .inl (t, n, .inr (.inr (.inr (.inr f)))) ∧ vp_in i n ∧ f i.toNatClampNeg = some x := by
  unfold aR at e
  split at e
  · next t' n f e1 =>
    split at e
    · next e2 => obtain ⟨rfl, e3⟩ := e2; exact ⟨n, f, e1, e3, e⟩
    · cases e
  · cases e
theorem sR_spec {h h2 : mH} {t o ci : Nat} {i : Int32} {v : Nat} (e : sR h t o ci i v = some h2) : ∃ n f fs, h.2.2 o = .inl (t, n, .inr (.inr (.inr (.inr f)))) ∧ h.2.2 v = .inr (ci, fs) ∧ h.2.2 v ≠ dead ∧ vp_in i n ∧ h2 = mset h o (.inl (t, n, .inr (.inr (.inr (.inr (va_up f i.toNatClampNeg (some v))))))) := by
  unfold sR at e
  split at e
  · next t' n f c x xs e1 e0 =>
    split at e
    · next e2 => obtain ⟨rfl, rfl, e3⟩ := e2; exact ⟨n, f, x :: xs, e1, e0, by rw [e0]; simp [dead], e3, (Option.some.inj e).symm⟩
    · cases e
  · cases e
theorem aN_spec {h : mH} {t o : Nat} {x : Int32} (e : aN h t o = some x) : ∃ a : vp_A, h.2.2 o = .inl (t, a) ∧ Int32.ofNat a.1 = x := by
  unfold aN at e
  split at e
  · next t' n b e1 =>
    split at e
    · next e2 => subst e2; exact ⟨(n, b), e1, Option.some.inj e⟩
    · cases e
  · cases e
section
variable {mL : Nat} {dC : Nat → ClassId} {dI : Nat → Nat → Nat} {dA : Nat → ClassId} {ad0 : Nat → Nat} {n0 s0 : Nat} {A : Nat → Prop} {s : State} {h : mH} {lv : List (Nat × Value)} {ad : Nat → Nat} {H : Heap} {locs : List Loc} {ls : Array Slot}
theorem Sr.live (S : Sr mL dC dI dA ad0 n0 s0 A s h lv ad H locs ls) {o : Nat} (ho : h.2.2 o ≠ dead) : o < h.1 := by
  rcases Nat.lt_or_ge o h.1 with q | q
  · exact q
  · exact absurd (S.2.2.2.2.2.2.2.2.1 o q) ho
theorem Sr.obj (S : Sr mL dC dI dA ad0 n0 s0 A s h lv ad H locs ls) {o ci : Nat} {fs : List Value} (e : h.2.2 o = .inr (ci, fs)) (hne : fs ≠ []) : (wl dA ad h)[o]? = some (ad o, .inr (ci, fs.map (cv ad))) := by
  rw [wl_at (S.live (by rw [e]; intro q; cases q; exact hne rfl)), e]
  rfl
theorem Sr.arr (S : Sr mL dC dI dA ad0 n0 s0 A s h lv ad H locs ls) {o t : Nat} {a : vp_A} (e : h.2.2 o = .inl (t, a)) : (wl dA ad h)[o]? = some (ad o, .inl (dA t, cA ad a)) := by
  rw [wl_at (S.live (by rw [e]; intro q; cases q)), e]
  rfl
theorem HW.set (w : HW h) {o : Nat} {c : mCell} (ho : o < h.1) (hc : ∀ j, hasRef c j → j < h.1) : HW (mset h o c) := by
  refine ⟨w.1, fun k hk => ?_, fun k j => ?_⟩
  · have hk2 : h.1 ≤ k := hk
    show va_up h.2.2 o c k = dead
    unfold va_up
    rw [if_neg (by omega)]
    exact w.2.1 k hk2
  · show hasRef (va_up h.2.2 o c k) j → j < h.1
    unfold va_up
    split
    · exact hc j
    · exact w.2.2 k j
theorem Sr.set (S : Sr mL dC dI dA ad0 n0 s0 A s h lv ad H locs ls) {o : Nat} {c : mCell} {H1 : Heap} {locs1 : List Loc} (ho : o < h.1) (hc : ∀ j, hasRef c j → j < h.1) (hP : va_P (dC, dI) mcls (wl dA ad (mset h o c)) H1) (hD : va_D A (wl dA ad (mset h o c))) (hS : va_S A s.heap H1 locs1) : Sr mL dC dI dA ad0 n0 s0 A s (mset h o c) lv ad H1 locs1 ls :=
  ⟨hP, hD, hS, S.2.2.2.1, S.2.2.2.2.1, S.2.2.2.2.2.1, S.2.2.2.2.2.2.1, S.2.2.2.2.2.2.2.set ho hc⟩
theorem hasRef_set (w : HW h) {o ci kk : Nat} {fs : List Value} {v : Value} (e : h.2.2 o = .inr (ci, fs)) (hv : ∀ j, v = .ref j → j < h.1) : ∀ j, hasRef (.inr (ci, fs.set kk v)) j → j < h.1 := by
  intro j hj
  rcases List.mem_or_eq_of_mem_set hj with q | q
  · exact w.2.2 o j (by rw [e]; exact q)
  · exact hv j q.symm
end
section
variable {y : MethodName} {cc : ByteArray} {mL : Nat} {ret : Option FieldType} {fr lo pc : Nat} {lv lv' : List (Nat × Value)} {stk : List Value} {h h' : mH} {r : Option Value}
theorem g_get {C : String} {T : u_T} {N index : Nat} {o kk ci : Nat} {v : Value} (hd : decode cc pc = .ok (.getfield index, 3)) (hc : mcls[ci]? = some (C, T, N)) (hin : ∀ w ∈ u_ws C T N, w ∈ tbg) (hk : kk < N) (hlink : Cond.fieldLink y.cls index (T kk).1 (T kk).2.1 (T kk).2.2.1 ∈ tbg) (hv : gV h o ci kk = some v)
    (k : G y cc mL ret fr lo (pc + 3) lv (v :: stk) h r h') : G y cc mL ret fr lo pc lv (.ref o :: stk) h r h' :=
  ⟨k.1, k.2.1, fun l p e R s m args below meth c dC dI dA ad0 n0 s0 A Qc C q f1 f2 f3 f4 ad H locs ls S => by
    obtain ⟨fs, e1, e2⟩ := gV_spec hv
    have he := S.obj e1 (by intro q; rw [q] at e2; cases e2)
    exact va_get (D := (dC, dI)) (tys := mtys dA) C.1 C.2.1 C.2.2.2.2.2.2.2.1 hin C.2.2.2.2.2.1 C.2.2.2.2.2.2.2.2.1 S.1 o he hc kk hk (C.2.2.2.2.2.2.2.1 _ hlink) (fun _ z => z) (v := cv ad v) (by rw [List.getElem?_map, e2]; rfl) hd (k.2.2 l p e R s m args below meth c dC dI dA ad0 n0 s0 A Qc C q f1 f2 f3 f4 ad H locs ls S)⟩
theorem map_set {α β : Type} (f : α → β) (l : List α) (k : Nat) (v : α) : (l.set k v).map f = (l.map f).set k (f v) := List.map_set
theorem g_put {C : String} {T : u_T} {N index : Nat} {o kk ci : Nat} {v : Value} {h2 : mH} (ty0 : Nat → FieldType) (hty : ∀ k, k < N → parseFieldDescriptor (T k).2.2.1 = some (ty0 k)) (hnm : ∀ a, a < N → ∀ b, b < N → a ≠ b → (T a).2.1 ≠ (T b).2.1) (hd : decode cc pc = .ok (.putfield index, 3)) (hc : mcls[ci]? = some (C, T, N)) (hin : ∀ w ∈ u_ws C T N, w ∈ tbg) (hk : kk < N) (hlink : Cond.fieldLink y.cls index (T kk).1 (T kk).2.1 (T kk).2.2.1 ∈ tbg) (hfin : (T kk).2.2.2 = false) (hn : ∀ ad, narrow (ty0 kk) (cv ad v) = cv ad v) (hf : ∀ ad, fits (ty0 kk) (cv ad v) = true) (hr : ∀ j, v = .ref j → j < h.1) (hv : pV h o ci kk v = some h2)
    (k : G y cc mL ret fr lo (pc + 3) lv stk h2 r h') : G y cc mL ret fr lo pc lv (v :: .ref o :: stk) h r h' := by
  obtain ⟨fs, e1, e2, rfl⟩ := pV_spec hv
  refine ⟨k.1, k.2.1, fun l p e R s m args below meth c dC dI dA ad0 n0 s0 A Qc C q f1 f2 f3 f4 ad H locs ls S => ?_⟩
  have hne : fs ≠ [] := by intro q; rw [q] at e2; simp at e2
  have he := S.obj e1 hne
  have ho : o < h.1 := S.live (by rw [e1]; intro q; cases q; exact hne rfl)
  refine va_put (D := (dC, dI)) (tys := mtys dA) C.1 C.2.1 C.2.2.2.2.2.2.2.1 hin ty0 hty hnm C.2.2.2.2.2.1 C.2.2.2.2.2.2.2.2.1 S.1 S.2.1 S.2.2.1 o he hc kk hk (C.2.2.2.2.2.2.2.1 _ hlink) (fun _ z => z) hfin (v := cv ad v) (hty kk hk) (hn ad) (hf ad) (by rw [List.length_map]; exact e2) hd (fun H1 locs1 hP hD hS => ?_)
  have ew : (wl dA ad h).set o (ad o, .inr (ci, (fs.map (cv ad)).set kk (cv ad v))) = wl dA ad (mset h o (.inr (ci, fs.set kk v))) := by
    rw [← map_set]
    exact wl_set (c := .inr (ci, fs.set kk v))
  rw [ew] at hP hD
  exact k.2.2 l p e R s m args below meth c dC dI dA ad0 n0 s0 A Qc C q f1 f2 f3 f4 ad H1 locs1 ls (S.set ho (hasRef_set S.2.2.2.2.2.2.2 e1 hr) hP hD hS)
theorem g_putF {C : String} {T : u_T} {N index : Nat} {o kk ci : Nat} {v : Value} {h2 : mH} (ty0 : Nat → FieldType) (hty : ∀ k, k < N → parseFieldDescriptor (T k).2.2.1 = some (ty0 k)) (hnm : ∀ a, a < N → ∀ b, b < N → a ≠ b → (T a).2.1 ≠ (T b).2.1) (hd : decode cc pc = .ok (.putfield index, 3)) (hc : mcls[ci]? = some (C, T, N)) (hin : ∀ w ∈ u_ws C T N, w ∈ tbg) (hk : kk < N) (hlink : Cond.fieldLink y.cls index (T kk).1 (T kk).2.1 (T kk).2.2.1 ∈ tbg) (hfin : (T kk).2.2.2 = true) (hy : y.name = "<init>") (hdecl : (T kk).1 = y.cls) (hn : ∀ ad, narrow (ty0 kk) (cv ad v) = cv ad v) (hf : ∀ ad, fits (ty0 kk) (cv ad v) = true) (hr : ∀ j, v = .ref j → j < h.1) (hv : pV h o ci kk v = some h2)
    (k : G y cc mL ret fr lo (pc + 3) lv stk h2 r h') : G y cc mL ret fr lo pc lv (v :: .ref o :: stk) h r h' := by
  obtain ⟨fs, e1, e2, rfl⟩ := pV_spec hv
  refine ⟨k.1, k.2.1, fun l p e R s m args below meth c dC dI dA ad0 n0 s0 A Qc C q f1 f2 f3 f4 ad H locs ls S => ?_⟩
  have hne : fs ≠ [] := by intro q; rw [q] at e2; simp at e2
  have he := S.obj e1 hne
  have ho : o < h.1 := S.live (by rw [e1]; intro q; cases q; exact hne rfl)
  refine va_putF (D := (dC, dI)) (tys := mtys dA) C.1 C.2.1 C.2.2.2.2.2.2.2.1 hin ty0 hty hnm C.2.2.2.2.2.1 C.2.2.2.2.2.2.2.2.1 S.1 S.2.1 S.2.2.1 o he hc kk hk (C.2.2.2.2.2.2.2.1 _ hlink) (fun _ z => z) hfin (C.2.2.2.2.2.2.1.trans hy) hdecl (v := cv ad v) (hty kk hk) (hn ad) (hf ad) (by rw [List.length_map]; exact e2) hd (fun H1 locs1 hP hD hS => ?_)
  have ew : (wl dA ad h).set o (ad o, .inr (ci, (fs.map (cv ad)).set kk (cv ad v))) = wl dA ad (mset h o (.inr (ci, fs.set kk v))) := by
    rw [← map_set]
    exact wl_set (c := .inr (ci, fs.set kk v))
  rw [ew] at hP hD
  exact k.2.2 l p e R s m args below meth c dC dI dA ad0 n0 s0 A Qc C q f1 f2 f3 f4 ad H1 locs1 ls (S.set ho (hasRef_set S.2.2.2.2.2.2.2 e1 hr) hP hD hS)
theorem g_iald {o : Nat} {i x : Int32} (hd : decode cc pc = .ok (.iaload, 1)) (hv : aI h 0 o i = some x) (k : G y cc mL ret fr lo (pc + 1) lv (.int x :: stk) h r h') : G y cc mL ret fr lo pc lv (.int i :: .ref o :: stk) h r h' := by
  obtain ⟨n, f, e1, e2, rfl⟩ := aI_spec hv
  exact ⟨k.1, k.2.1, fun l p e R s m args below meth c dC dI dA ad0 n0 s0 A Qc C q f1 f2 f3 f4 ad H locs ls S => va_iald (D := (dC, dI)) C.1 C.2.1 C.2.2.2.2.2.2.2.2.1 S.1 o 0 (S.arr e1) rfl e2 hd (k.2.2 l p e R s m args below meth c dC dI dA ad0 n0 s0 A Qc C q f1 f2 f3 f4 ad H locs ls S)⟩
theorem g_bald {o : Nat} {i x : Int32} (hd : decode cc pc = .ok (.baload, 1)) (hv : aI h 1 o i = some x) (k : G y cc mL ret fr lo (pc + 1) lv (.int x :: stk) h r h') : G y cc mL ret fr lo pc lv (.int i :: .ref o :: stk) h r h' := by
  obtain ⟨n, f, e1, e2, rfl⟩ := aI_spec hv
  exact ⟨k.1, k.2.1, fun l p e R s m args below meth c dC dI dA ad0 n0 s0 A Qc C q f1 f2 f3 f4 ad H locs ls S => va_bald (D := (dC, dI)) C.1 C.2.1 C.2.2.2.2.2.2.2.2.1 S.1 o 1 (S.arr e1) rfl e2 hd (k.2.2 l p e R s m args below meth c dC dI dA ad0 n0 s0 A Qc C q f1 f2 f3 f4 ad H locs ls S)⟩
theorem g_zald {o : Nat} {i x : Int32} (hd : decode cc pc = .ok (.baload, 1)) (hv : aI h 2 o i = some x) (k : G y cc mL ret fr lo (pc + 1) lv (.int x :: stk) h r h') : G y cc mL ret fr lo pc lv (.int i :: .ref o :: stk) h r h' := by
  obtain ⟨n, f, e1, e2, rfl⟩ := aI_spec hv
  exact ⟨k.1, k.2.1, fun l p e R s m args below meth c dC dI dA ad0 n0 s0 A Qc C q f1 f2 f3 f4 ad H locs ls S => va_zald (D := (dC, dI)) C.1 C.2.1 C.2.2.2.2.2.2.2.2.1 S.1 o 2 (S.arr e1) rfl e2 hd (k.2.2 l p e R s m args below meth c dC dI dA ad0 n0 s0 A Qc C q f1 f2 f3 f4 ad H locs ls S)⟩
theorem g_lald {o : Nat} {i : Int32} {x : Int64} (hd : decode cc pc = .ok (.laload, 1)) (hv : aL h o i = some x) (k : G y cc mL ret fr lo (pc + 1) lv (.long x :: stk) h r h') : G y cc mL ret fr lo pc lv (.int i :: .ref o :: stk) h r h' := by
  obtain ⟨n, f, e1, e2, rfl⟩ := aL_spec hv
  exact ⟨k.1, k.2.1, fun l p e R s m args below meth c dC dI dA ad0 n0 s0 A Qc C q f1 f2 f3 f4 ad H locs ls S => va_lald (D := (dC, dI)) C.1 C.2.1 C.2.2.2.2.2.2.2.2.1 S.1 o 3 (S.arr e1) rfl e2 hd (k.2.2 l p e R s m args below meth c dC dI dA ad0 n0 s0 A Qc C q f1 f2 f3 f4 ad H locs ls S)⟩
theorem g_aald {t o x : Nat} {i : Int32} (Cn : String) (hd : decode cc pc = .ok (.aaload, 1)) (ht : ∀ dA, (mtys dA)[t]? = some (dA t, .object Cn)) (hv : aR h t o i = some x) (k : G y cc mL ret fr lo (pc + 1) lv (.ref x :: stk) h r h') : G y cc mL ret fr lo pc lv (.int i :: .ref o :: stk) h r h' := by
  obtain ⟨n, f, e1, e2, e3⟩ := aR_spec hv
  exact ⟨k.1, k.2.1, fun l p e R s m args below meth c dC dI dA ad0 n0 s0 A Qc C q f1 f2 f3 f4 ad H locs ls S => va_aldq (D := (dC, dI)) C.1 C.2.1 C.2.2.2.2.2.2.2.2.1 S.1 o t (S.arr e1) (ht dA) e2 hd (by rw [e3]; exact k.2.2 l p e R s m args below meth c dC dI dA ad0 n0 s0 A Qc C q f1 f2 f3 f4 ad H locs ls S)⟩
theorem g_iast {o : Nat} {i x : Int32} {h2 : mH} (hd : decode cc pc = .ok (.iastore, 1)) (hv : sI h 0 o i x = some h2) (k : G y cc mL ret fr lo (pc + 1) lv stk h2 r h') : G y cc mL ret fr lo pc lv (.int x :: .int i :: .ref o :: stk) h r h' := by
  obtain ⟨n, f, e1, e2, rfl⟩ := sI_spec hv
  refine ⟨k.1, k.2.1, fun l p e R s m args below meth c dC dI dA ad0 n0 s0 A Qc C q f1 f2 f3 f4 ad H locs ls S => ?_⟩
  refine va_iast (D := (dC, dI)) C.1 C.2.1 C.2.2.2.2.2.2.2.2.1 S.1 S.2.1 S.2.2.1 o 0 (S.arr e1) rfl e2 hd (fun H1 locs1 hP hD hS => ?_)
  have ew := wl_set (dA := dA) (ad := ad) (h := h) (o := o) (c := .inl (0, n, .inl (upd f i.toNatClampNeg x)))
  exact k.2.2 l p e R s m args below meth c dC dI dA ad0 n0 s0 A Qc C q f1 f2 f3 f4 ad H1 locs1 ls (S.set (S.live (by rw [e1]; intro q; cases q)) (fun j z => absurd z id) (ew ▸ hP) (ew ▸ hD) hS)
theorem g_bast {o : Nat} {i x : Int32} {h2 : mH} (hd : decode cc pc = .ok (.bastore, 1)) (hv : sI h 1 o i (vp_nar .byte x) = some h2) (k : G y cc mL ret fr lo (pc + 1) lv stk h2 r h') : G y cc mL ret fr lo pc lv (.int x :: .int i :: .ref o :: stk) h r h' := by
  obtain ⟨n, f, e1, e2, rfl⟩ := sI_spec hv
  refine ⟨k.1, k.2.1, fun l p e R s m args below meth c dC dI dA ad0 n0 s0 A Qc C q f1 f2 f3 f4 ad H locs ls S => ?_⟩
  refine va_bast (D := (dC, dI)) C.1 C.2.1 C.2.2.2.2.2.2.2.2.1 S.1 S.2.1 S.2.2.1 o 1 (S.arr e1) rfl e2 hd (fun H1 locs1 hP hD hS => ?_)
  have ew := wl_set (dA := dA) (ad := ad) (h := h) (o := o) (c := .inl (1, n, .inl (upd f i.toNatClampNeg (vp_nar .byte x))))
  exact k.2.2 l p e R s m args below meth c dC dI dA ad0 n0 s0 A Qc C q f1 f2 f3 f4 ad H1 locs1 ls (S.set (S.live (by rw [e1]; intro q; cases q)) (fun j z => absurd z id) (ew ▸ hP) (ew ▸ hD) hS)
theorem g_zast {o : Nat} {i x : Int32} {h2 : mH} (hd : decode cc pc = .ok (.bastore, 1)) (hv : sI h 2 o i (vp_nar .boolean x) = some h2) (k : G y cc mL ret fr lo (pc + 1) lv stk h2 r h') : G y cc mL ret fr lo pc lv (.int x :: .int i :: .ref o :: stk) h r h' := by
  obtain ⟨n, f, e1, e2, rfl⟩ := sI_spec hv
  refine ⟨k.1, k.2.1, fun l p e R s m args below meth c dC dI dA ad0 n0 s0 A Qc C q f1 f2 f3 f4 ad H locs ls S => ?_⟩
  refine va_zast (D := (dC, dI)) C.1 C.2.1 C.2.2.2.2.2.2.2.2.1 S.1 S.2.1 S.2.2.1 o 2 (S.arr e1) rfl e2 hd (fun H1 locs1 hP hD hS => ?_)
  have ew := wl_set (dA := dA) (ad := ad) (h := h) (o := o) (c := .inl (2, n, .inl (upd f i.toNatClampNeg (vp_nar .boolean x))))
  exact k.2.2 l p e R s m args below meth c dC dI dA ad0 n0 s0 A Qc C q f1 f2 f3 f4 ad H1 locs1 ls (S.set (S.live (by rw [e1]; intro q; cases q)) (fun j z => absurd z id) (ew ▸ hP) (ew ▸ hD) hS)
theorem g_last {o : Nat} {i : Int32} {x : Int64} {h2 : mH} (hd : decode cc pc = .ok (.lastore, 1)) (hv : sL h o i x = some h2) (k : G y cc mL ret fr lo (pc + 1) lv stk h2 r h') : G y cc mL ret fr lo pc lv (.long x :: .int i :: .ref o :: stk) h r h' := by
  obtain ⟨n, f, e1, e2, rfl⟩ := sL_spec hv
  refine ⟨k.1, k.2.1, fun l p e R s m args below meth c dC dI dA ad0 n0 s0 A Qc C q f1 f2 f3 f4 ad H locs ls S => ?_⟩
  refine va_last (D := (dC, dI)) C.1 C.2.1 C.2.2.2.2.2.2.2.2.1 S.1 S.2.1 S.2.2.1 o 3 (S.arr e1) rfl e2 hd (fun H1 locs1 hP hD hS => ?_)
  have ew := wl_set (dA := dA) (ad := ad) (h := h) (o := o) (c := .inl (3, n, .inr (.inl (vp_updL f i.toNatClampNeg x))))
  exact k.2.2 l p e R s m args below meth c dC dI dA ad0 n0 s0 A Qc C q f1 f2 f3 f4 ad H1 locs1 ls (S.set (S.live (by rw [e1]; intro q; cases q)) (fun j z => absurd z id) (ew ▸ hP) (ew ▸ hD) hS)
theorem g_alen {t o : Nat} {x : Int32} (ty : FieldType) (hd : decode cc pc = .ok (.arraylength, 1)) (ht : ∀ dA, (mtys dA)[t]? = some (dA t, ty)) (hv : aN h t o = some x) (k : G y cc mL ret fr lo (pc + 1) lv (.int x :: stk) h r h') : G y cc mL ret fr lo pc lv (.ref o :: stk) h r h' := by
  obtain ⟨a, e1, e2⟩ := aN_spec hv
  have e3 : ∀ ad, (cA ad a).1 = a.1 := by intro ad; unfold cA; split <;> rfl
  exact ⟨k.1, k.2.1, fun l p e R s m args below meth c dC dI dA ad0 n0 s0 A Qc C q f1 f2 f3 f4 ad H locs ls S => va_alen (D := (dC, dI)) C.1 C.2.1 C.2.2.2.2.2.2.2.2.1 S.1 o t (S.arr e1) (ht dA) (by rw [e3, e2]) hd (k.2.2 l p e R s m args below meth c dC dI dA ad0 n0 s0 A Qc C q f1 f2 f3 f4 ad H locs ls S)⟩
theorem g_iret {x : Int32} (hr : ret = some .int) (hd : decode cc pc = .ok (.ireturn, 1)) : G y cc mL ret fr lo pc lv [.int x] h (some (.int x)) h :=
  ⟨nle_rf, nle_rf, fun l p e R s m args below meth c dC dI dA ad0 n0 s0 A Qc C q f1 f2 f3 f4 ad H locs ls S => W.iret C.1 C.2.1 (C.2.2.1.trans hr) (fun t ht hW => q ad H locs t S.1 S.2.1 S.2.2.1 S.2.2.2.2.1 S.2.2.2.2.2.2.2 ht hW) S.2.2.1.2.2 hd C.2.2.2.2.1⟩
theorem g_zret {x : Int32} {ty : FieldType} (hr : ret = some ty) (hn : narrow ty (.int x) = .int x) (hd : decode cc pc = .ok (.ireturn, 1)) : G y cc mL ret fr lo pc lv [.int x] h (some (.int x)) h :=
  ⟨nle_rf, nle_rf, fun l p e R s m args below meth c dC dI dA ad0 n0 s0 A Qc C q f1 f2 f3 f4 ad H locs ls S => W.zret C.1 C.2.1 (C.2.2.1.trans hr) hn (fun t ht hW => q ad H locs t S.1 S.2.1 S.2.2.1 S.2.2.2.2.1 S.2.2.2.2.2.2.2 ht hW) S.2.2.1.2.2 hd C.2.2.2.2.1⟩
theorem g_lret {x : Int64} (hr : ret = some .long) (hd : decode cc pc = .ok (.lreturn, 1)) : G y cc mL ret fr lo pc lv [.long x] h (some (.long x)) h :=
  ⟨nle_rf, nle_rf, fun l p e R s m args below meth c dC dI dA ad0 n0 s0 A Qc C q f1 f2 f3 f4 ad H locs ls S => W.lret C.1 C.2.1 (C.2.2.1.trans hr) (fun t ht hW => q ad H locs t S.1 S.2.1 S.2.2.1 S.2.2.2.2.1 S.2.2.2.2.2.2.2 ht hW) S.2.2.1.2.2 hd C.2.2.2.2.1⟩
theorem g_vret (hr : ret = none) (hd : decode cc pc = .ok (.return_, 1)) : G y cc mL ret fr lo pc lv [] h none h :=
  ⟨nle_rf, nle_rf, fun l p e R s m args below meth c dC dI dA ad0 n0 s0 A Qc C q f1 f2 f3 f4 ad H locs ls S => W.vret C.1 C.2.1 (C.2.2.1.trans hr) (fun t ht hW => q ad H locs t S.1 S.2.1 S.2.2.1 S.2.2.2.2.1 S.2.2.2.2.2.2.2 ht hW) S.2.2.1.2.2 hd C.2.2.2.2.1⟩
end
end
section
/-! a method's contract over the model, out of the judgement of its body -/
def PM (dC : Nat → ClassId) (dI : Nat → Nat → Nat) (dA : Nat → ClassId) (ad : Nat → Nat) (sz : Nat) (h : mH) : State → Prop := fun U =>
  U.heap.size = sz ∧ va_P (dC, dI) mcls (wl dA ad h) U.heap ∧ va_D (fun _ => True) (wl dA ad h) ∧ va_K (dC, dI) mcls (mtys dA) U ∧ EX ad (va_A (wl dA ad h) sz) U ∧ HW h
def QM (dC : Nat → ClassId) (dI : Nat → Nat → Nat) (dA : Nat → ClassId) (ad : Nat → Nat) (sz : Nat) (h : mH) (r : Option Value) (h' : mH) : Array Value → State → Outcome → State → Prop := fun _ st oc t =>
  (∃ ad' : Nat → Nat, (∀ k, k < h.1 ∨ h'.1 ≤ k → ad' k = ad k) ∧ oc = .returned (r.map (cv ad')) ∧ va_P (dC, dI) mcls (wl dA ad' h') t.heap ∧ va_D (va_A (wl dA ad h) sz) (wl dA ad' h') ∧ HW h') ∧ va_F (va_A (wl dA ad h) sz) st t
def MM (y : MethodName) (cc : ByteArray) (mL : Nat) (ret : Option FieldType) (fr lo : Nat) (args : List Value) (h : mH) (r : Option Value) (h' : mH) : Prop :=
  nle y h.1 h'.1 ∧ nle y h.2.1 h'.2.1 ∧ ∀ (l : Launch) (dC : Nat → ClassId) (dI : Nat → Nat → Nat) (dA : Nat → ClassId) (ad : Nat → Nat) (sz : Nat), Met l y (.code y cc mL ret :: tbg) { frames := fr, cells := h'.1 - h.1, slots := h'.2.1 - h.2.1, locals := lo } (va_Pc (args.map (cv ad)) (PM dC dI dA ad sz h)) (QM dC dI dA ad sz h r h') (h'.1 - h.1) (h'.2.1 - h.2.1) (va_A (wl dA ad h) sz)
theorem lv_args_cv (ad : Nat → Nat) (vs : List Value) : ∀ i, lv_args i (vs.map (cv ad)) = (lv_args i vs).map (cq ad) := by
  induction vs with
  | nil => intro i; rfl
  | cons v vs ih => intro i; simp [lv_args, cv_cat, ih, cq]
theorem lg_sl_cv (ad : Nat → Nat) (vs : List Value) : (lg_sl (vs.map (cv ad))).length = (lg_sl vs).length := by
  induction vs with
  | nil => rfl
  | cons v vs ih =>
    simp only [lg_sl, List.map_cons, List.flatMap_cons, List.length_append] at ih ⊢
    rw [ih, cv_cat]
    split <;> rfl
theorem mm_of_G {y : MethodName} {cc : ByteArray} {mL : Nat} {ret : Option FieldType} {fr lo : Nat} {args : List Value} {h h' : mH} {r : Option Value} (hy : plainName y.cls = true) (hlen : (lg_sl args).length ≤ mL) (hg : G y cc mL ret fr lo 0 (lv_args 0 args) [] h r h') : MM y cc mL ret fr lo args h r h' := by
  refine ⟨hg.1, hg.2.1, fun l dC dI dA ad sz => ?_⟩
  refine Met.ofW (cc := cc) (maxL := mL) (ret := ret) hy rfl ?_
  intro p e s m args' below meth c s₁ B hml hv
  obtain ⟨rfl, hsz, hP, hD0, hK, hE, hw⟩ := hv
  have hts := atoms_spec (ws := .code y cc mL ret :: tbg) B.pre
  subst hsz
  have hD := hD0.self (sz := s.heap.size)
  have hl := lv_entry (args.map (cv ad)) (n := mL) (by rw [lg_sl_cv]; exact hlen)
  rw [lg_entry_eq]
  generalize (lg_sl (args.map (cv ad)) ++ List.replicate (mL - (lg_sl (args.map (cv ad))).length) Slot.unset).toArray = ls at hl ⊢
  rw [lv_args_cv] at hl
  have key := hg.2.2 l p e { frames := fr, cells := h'.1 - h.1, slots := h'.2.1 - h.2.1, locals := lo } s m (args.map (cv ad)).toArray below meth c dC dI dA ad h.1 h.2.1 (va_A (wl dA ad h) s.heap.size) (QM dC dI dA ad s.heap.size h r h')
    ⟨B.exec, B.bytes, B.returns, hml, B.notSynchronized, findClass_of_methodNamed B.named, (name_of_methodNamed B.named B.method).1, fun w hw => hts w (List.mem_cons_of_mem _ hw), hK, hE, fun q hq => Or.inr hq⟩
    (fun ad' H locs t hP hD hS had hw ht hW => ⟨⟨ad', had, rfl, by rw [ht]; exact hP, hD, hw⟩, hS.F ht⟩)
    (Nat.le_refl _) (Nat.le_refl _) (Nat.le_refl _) (Nat.le_refl _) ad s.heap [] ls ⟨hP, hD, va_S.rf, hl, fun _ _ => rfl, Nat.le_refl _, Nat.le_refl _, hw⟩
  rw [Nat.sub_self, Nat.sub_self] at key
  exact key
section
variable {y : MethodName} {cc : ByteArray} {mL : Nat} {ret : Option FieldType} {fr lo pc : Nat} {lv lv' : List (Nat × Value)} {stk rest : List Value} {h h1 h' : mH} {r r1 : Option Value}
/-- a value's places lie below n, or are none of the cells -/
def okv (n n1 : Nat) (v : Value) : Prop := ∀ k, v = .ref k → k < n ∨ n1 ≤ k
theorem cv_ok {ad ad' : Nat → Nat} {n n1 : Nat} {v : Value} (hv : okv n n1 v) (had : ∀ k, k < n ∨ n1 ≤ k → ad' k = ad k) : cv ad' v = cv ad v := by
  cases v with
  | ref k => show Value.ref (ad' k) = Value.ref (ad k); rw [had k (hv k rfl)]
  | _ => rfl
theorem okv_same {n : Nat} (v : Value) : okv n n v := fun k _ => Nat.lt_or_ge k n
theorem g_run {y2 : MethodName} (ha : nle y2 h.1 h1.1 ∧ nle y2 h.2.1 h1.2.1) (hal : al y2 = true → al y = true) (hlv : al y2 = true → ∀ q ∈ lv, okv h.1 h1.1 q.2) (hst : al y2 = true → ∀ v ∈ rest, okv h.1 h1.1 v)
    (run : ∀ (l : Launch) (p : Program) (e : Env) (R : Room) (s : State) (m : MethodId) (args : Array Value) (below : List Frame) (meth : Method) (c : Code) (dC : Nat → ClassId) (dI : Nat → Nat → Nat) (dA : Nat → ClassId) (ad0 : Nat → Nat) (n0 s0 : Nat) (A : Nat → Prop), Cx y cc mL ret dC dI dA ad0 A p s m args meth c → fr ≤ R.frames → lo ≤ R.locals → h1.1 - n0 ≤ R.cells → h1.2.1 - s0 ≤ R.slots →
      ∀ (ad : Nat → Nat) (H : Heap) (locs : List Loc) (ls : Array Slot), Sr mL dC dI dA ad0 n0 s0 A s h lv ad H locs ls → (∀ U : State, U.heap = H → s.WarmedH U.vm → PM dC dI dA ad H.size h U) →
        ∃ a, va_Run p l e R s m args below meth c H locs (h.1 - n0) (h.2.1 - s0) (h1.1 - h.1) (h1.2.1 - h.2.1) (F0 m pc ls (stk.map (cv ad))) (rest.map (cv ad)) (QM dC dI dA ad H.size h r1 h1 a) (va_A (wl dA ad h) H.size))
    (k : G y cc mL ret fr lo (pc + 3) lv (r1.toList ++ rest) h1 r h') : G y cc mL ret fr lo pc lv stk h r h' := by
  have hlv : ∀ q ∈ lv, okv h.1 h1.1 q.2 := by
    cases z : al y2 with
    | true => exact hlv z
    | false => intro q _; rw [← ha.1.2 z]; exact okv_same _
  have hst : ∀ v ∈ rest, okv h.1 h1.1 v := by
    cases z : al y2 with
    | true => exact hst z
    | false => intro q _; rw [← ha.1.2 z]; exact okv_same _
  have u1 := ha.1.1
  have u2 := ha.2.1
  refine ⟨nle_tr ha.1 hal k.1, nle_tr ha.2 hal k.2.1, fun l p e R s m args below meth c dC dI dA ad0 n0 s0 A Qc C q f1 f2 f3 f4 ad H locs ls S => ?_⟩
  obtain ⟨hP, hD, hS, hl, had0, hn0, hs0, hw⟩ := id S
  have hF : ∀ q, va_A (wl dA ad h) H.size q → A q := by
    rintro q (⟨k2, e2, z⟩ | z)
    · exact hD.2 k2 _ z
    · exact C.2.2.2.2.2.2.2.2.2.2 q (Nat.le_trans hS.1 z)
  have hpm : ∀ U : State, U.heap = H → s.WarmedH U.vm → PM dC dI dA ad H.size h U := fun U hU hW =>
    ⟨by rw [hU], by rw [hU]; exact hP, hD.weaken (fun _ _ _ _ => trivial), va_K.moved hW.alike C.2.2.2.2.2.2.2.2.1, C.2.2.2.2.2.2.2.2.2.1.go hW hS hU hF (fun k hk => had0 k (Or.inr (Nat.le_trans hw.1 hk))), hw⟩
  have e1 := k.1.1
  have e2 := k.2.1.1
  obtain ⟨ar, hr⟩ := run l p e R s m args below meth c dC dI dA ad0 n0 s0 A C f1 f2 (by omega) (by omega) ad H locs ls S hpm
  intro T hT X
  obtain ⟨v, st₀, t, T', L, h0, X', hL, g1, g2, ⟨⟨ad', had, hv, hP1, hD1, hw1⟩, hz, hk⟩, st⟩ := hr T hT X
  cases hv
  rw [h0] at hz hk
  have ec : h.1 - n0 + (h1.1 - h.1) = h1.1 - n0 := by omega
  have es : h.2.1 - s0 + (h1.2.1 - h.2.1) = h1.2.1 - s0 := by omega
  rw [ec, es] at X'
  have hs2 : va_S A s.heap T'.heap (locs ++ L) := ⟨Nat.le_trans hS.1 (by rw [g1]; exact hz), fun q a1 a2 => by rw [g1, hk q (Nat.lt_of_lt_of_le a1 hS.1) (fun z => a2 (hF q z))]; exact hS.2.1 q a1 a2, fun q hq => by
      rcases List.mem_append.mp hq with z | z
      · exact hS.2.2 q z
      · exact hF _ (hL q z)⟩
  have hlv2 : lv.map (cq ad') = lv.map (cq ad) := List.map_congr_left (fun q hq => by unfold cq; rw [cv_ok (hlv q hq) had])
  have hst2 : rest.map (cv ad') = rest.map (cv ad) := List.map_congr_left (fun v hv => cv_ok (hst v hv) had)
  obtain ⟨t2, a1, b1⟩ := k.2.2 l p e R s m args below meth c dC dI dA ad0 n0 s0 A Qc C q f1 f2 f3 f4 ad' T'.heap (locs ++ L) ls
    ⟨by rw [g1]; exact hP1, hD1.weaken (fun _ q _ z => hF q.1 z), hs2, by rw [hlv2]; exact hl, fun k2 hk2 => by rw [had k2 (by omega)]; exact had0 k2 (by omega), by omega, by omega, hw1⟩ T' rfl X'
  have eg : ((r1.toList ++ rest).map (cv ad')) = (r1.map (cv ad')).toList ++ rest.map (cv ad) := by
    rw [List.map_append, hst2]
    cases r1 <;> rfl
  rw [eg] at a1
  exact ⟨t2, st t2 a1, b1⟩
end
end
section
/-- the cell is an object of that class -/
def kC (h : mH) (b ci : Nat) : Option Unit := match h.2.2 b with
  | .inr (c, _ :: _) => if c = ci then some () else none
  | _ => none
theorem kC_spec {h : mH} {b ci : Nat} {u : Unit} (e : kC h b ci = some u) : ∃ fs, h.2.2 b = .inr (ci, fs) ∧ fs ≠ [] := by
  unfold kC at e
  split at e
  · next c x xs e1 =>
    split at e
    · next e2 => subst e2; exact ⟨x :: xs, e1, by simp⟩
    · cases e
  · cases e
def cpI (h : mH) (t src : Nat) (sp : Int32) (dst : Nat) (dp n : Int32) : Option mH := match h.2.2 src, h.2.2 dst with
  | .inl (t1, n0, .inl f), .inl (t2, n1, .inl g) => if (t1 = t ∧ t2 = t) ∧ ¬ sp < 0 ∧ ¬ dp < 0 ∧ ¬ n < 0 ∧ sp.toNatClampNeg + n.toNatClampNeg ≤ n0 ∧ dp.toNatClampNeg + n.toNatClampNeg ≤ n1 then some (mset h dst (.inl (t, n1, .inl (va_cpy f g sp.toNatClampNeg dp.toNatClampNeg n.toNatClampNeg)))) else none
  | _, _ => none
theorem cpI_spec {h h2 : mH} {t src dst : Nat} {sp dp n : Int32} (e : cpI h t src sp dst dp n = some h2) : ∃ n0 n1 f g, h.2.2 src = .inl (t, n0, .inl f) ∧ h.2.2 dst = .inl (t, n1, .inl g) ∧ (¬ sp < 0 ∧ ¬ dp < 0 ∧ ¬ n < 0 ∧ sp.toNatClampNeg + n.toNatClampNeg ≤ n0 ∧ dp.toNatClampNeg + n.toNatClampNeg ≤ n1) ∧ h2 = mset h dst (.inl (t, n1, .inl (va_cpy f g sp.toNatClampNeg dp.toNatClampNeg n.toNatClampNeg))) := by
  unfold cpI at e
  split at e
  · next t1 n0 f t2 n1 g e1 e2 =>
    split at e
    · next e3 => obtain ⟨⟨rfl, rfl⟩, e4⟩ := e3; exact ⟨n0, n1, f, g, e1, e2, e4, (Option.some.inj e).symm⟩
    · cases e
  · cases e
theorem ws_good {y2 : MethodName} {cc2 : ByteArray} {mL2 : Nat} {ret2 : Option FieldType} (hcode : Cond.code y2 cc2 mL2 ret2 ∈ tbg) : GoodIn tbg (.code y2 cc2 mL2 ret2 :: tbg) := by
  intro w hw
  rcases List.mem_cons.mp hw with rfl | hw
  · exact tbg_good (fun _ z => z) _ hcode
  · exact tbg_good (fun _ z => z) w hw
theorem PM_blind {dC : Nat → ClassId} {dI : Nat → Nat → Nat} {dA : Nat → ClassId} {ad : Nat → Nat} {sz : Nat} {h : mH} {av : List Value} : FrameBlind (va_Pc av (PM dC dI dA ad sz h)) := by
  intro a U g mk q
  obtain ⟨q0, q1, qP, qD, qK, qE, qw⟩ := q
  exact ⟨q0, q1, qP, qD, va_K.moved (u := U) (U := U.calling g mk a) (Vm.Alike.refl U.vm) qK, qE.blind, qw⟩
theorem cat_cv (ad : Nat → Nat) (l : List Value) : ((l.map (cv ad)).map fun v => v.category) = l.map fun v => v.category := by
  rw [List.map_map]
  exact List.map_congr_left (fun v _ => cv_cat ad v)
section
variable {y : MethodName} {cc : ByteArray} {mL : Nat} {ret : Option FieldType} {fr lo pc : Nat} {lv lv' : List (Nat × Value)} {stk rest : List Value} {h h1 h' : mH} {r r1 : Option Value}
variable {y2 : MethodName} {cc2 : ByteArray} {mL2 : Nat} {ret2 : Option FieldType} {fr2 lo2 : Nat}
theorem len_of {n : Nat} (hn : (parseMethodDescriptor y2.desc).map (fun d => d.parameters.length) = some n) : ∀ sig, parseMethodDescriptor y2.desc = some sig → n = sig.parameters.length := by
  intro sig hs
  rw [hs] at hn
  exact (Option.some.inj hn).symm
/-- what a call's site must have: the callee's words, and room -/
def site (y y2 : MethodName) (cc2 : ByteArray) (mL2 : Nat) (ret2 : Option FieldType) (fr lo fr2 lo2 n : Nat) : Prop :=
  Cond.code y2 cc2 mL2 ret2 ∈ tbg ∧ Cond.initialized y2.cls ∈ tbg ∧ (y2.cls ≠ "java/lang/invoke/MethodHandle" ∧ y2.cls ≠ "java/lang/invoke/VarHandle") ∧ (parseMethodDescriptor y2.desc).map (fun d => d.parameters.length) = some n ∧ fr2 + 1 ≤ fr ∧ 8 + (mL2 + 11) + lo2 ≤ lo
theorem g_callV {index b ci : Nat} {T : u_T} {N : Nat} (As : List Value) (hs : site y y2 cc2 mL2 ret2 fr lo fr2 lo2 As.length) (hlink : Cond.methodLink y.cls index y2 ∈ tbg) (hin : Cond.instanceMethod y2 ∈ tbg) (hsel : Cond.selects y2.cls y2 y2 ∈ tbg) (hd : decode cc pc = .ok (.invokevirtual index, 3)) (hc : mcls[ci]? = some (y2.cls, T, N)) {u : Unit} (hb : kC h b ci = some u) (hcat : (rest.map fun v => v.category).sum ≤ 8) (hal : al y2 = true → al y = true) (hlv : al y2 = true → ∀ q ∈ lv, okv h.1 h1.1 q.2) (hst : al y2 = true → ∀ v ∈ rest, okv h.1 h1.1 v) (M : MM y2 cc2 mL2 ret2 fr2 lo2 (.ref b :: As) h r1 h1) (hk : stk = As.reverse ++ .ref b :: rest)
    (k : G y cc mL ret fr lo (pc + 3) lv (r1.toList ++ rest) h1 r h') : G y cc mL ret fr lo pc lv stk h r h' := by
  obtain ⟨s1, s2, s3, s4, s5, s6⟩ := hs
  subst hk
  refine g_run ⟨M.1, M.2.1⟩ hal hlv hst (fun l p e R s m args below meth c dC dI dA ad0 n0 s0 A C f1 f2 f3 f4 ad H locs ls S hpm => ?_) k
  obtain ⟨fs, e1, e2⟩ := kC_spec hb
  have hts := C.2.2.2.2.2.2.2.1
  have z1 := M.1.1
  have z2 := M.2.1.1
  have z3 := S.2.2.2.2.2.1
  have z4 := S.2.2.2.2.2.2.1
  exact ⟨_, va_runV (C := y2.cls) (b := ad b) (As := As.map (cv ad)) (rest := rest.map (cv ad)) (Ts := tbg) (own := y.cls) (nL := mL) ⟨C.1, C.2.1, C.2.2.2.1, C.2.2.2.2.2.1, hts⟩ (M.2.2 l dC dI dA ad H.size)
    ⟨⟨rfl, rfl, by show fr2 + 1 ≤ _; omega, by show 8 + (mL2 + 11) + lo2 ≤ _; omega, pay_in hts (ws_good s1), List.mem_cons_self, hts _ s1, hts _ s2, s3, len_of s4, hts _ hlink⟩, hts _ hin, hts _ hsel⟩
    ⟨PM_blind, va_recv C.2.2.2.2.2.2.2.2.1 S.1 hc (S.obj e1 e2), fun U hU hW => ⟨rfl, hpm U hU hW⟩⟩ rfl (by rw [List.length_map]) S.2.2.2.1.1 (by simp [cv]) (lv_room (by rw [cat_cv]; exact hcat)) hd ⟨by omega, by omega⟩⟩
theorem g_callS {index : Nat} (As : List Value) (hs : site y y2 cc2 mL2 ret2 fr lo fr2 lo2 As.length) (hlink : Cond.methodLink y.cls index y2 ∈ tbg) (hstat : Cond.static y2 ∈ tbg) (hd : decode cc pc = .ok (.invokestatic index, 3)) (hcat : (rest.map fun v => v.category).sum ≤ 8) (hal : al y2 = true → al y = true) (hlv : al y2 = true → ∀ q ∈ lv, okv h.1 h1.1 q.2) (hst : al y2 = true → ∀ v ∈ rest, okv h.1 h1.1 v) (M : MM y2 cc2 mL2 ret2 fr2 lo2 As h r1 h1) (hk : stk = As.reverse ++ rest)
    (k : G y cc mL ret fr lo (pc + 3) lv (r1.toList ++ rest) h1 r h') : G y cc mL ret fr lo pc lv stk h r h' := by
  obtain ⟨s1, s2, s3, s4, s5, s6⟩ := hs
  subst hk
  refine g_run ⟨M.1, M.2.1⟩ hal hlv hst (fun l p e R s m args below meth c dC dI dA ad0 n0 s0 A C f1 f2 f3 f4 ad H locs ls S hpm => ?_) k
  have hts := C.2.2.2.2.2.2.2.1
  have z1 := M.1.1
  have z2 := M.2.1.1
  have z3 := S.2.2.2.2.2.1
  have z4 := S.2.2.2.2.2.2.1
  exact ⟨_, va_runS (As := As.map (cv ad)) (rest := rest.map (cv ad)) (Ts := tbg) (own := y.cls) (nL := mL) ⟨C.1, C.2.1, C.2.2.2.1, C.2.2.2.2.2.1, hts⟩ (M.2.2 l dC dI dA ad H.size)
    ⟨⟨rfl, rfl, by show fr2 + 1 ≤ _; omega, by show 8 + (mL2 + 11) + lo2 ≤ _; omega, pay_in hts (ws_good s1), List.mem_cons_self, hts _ s1, hts _ s2, s3, len_of s4, hts _ hlink⟩, hts _ hstat⟩
    ⟨PM_blind, fun U hU hW => ⟨rfl, hpm U hU hW⟩⟩ rfl (by rw [List.length_map]) S.2.2.2.1.1 (by simp) (lv_room (by rw [cat_cv]; exact hcat)) hd ⟨by omega, by omega⟩⟩
theorem g_callSN {index : Nat} (host : String) (As : List Value) (hs : site y y2 cc2 mL2 ret2 fr lo fr2 lo2 As.length) (hlink : Cond.methodLinkNest y.cls index y2 host ∈ nests) (hstat : Cond.static y2 ∈ tbg) (hd : decode cc pc = .ok (.invokestatic index, 3)) (hcat : (rest.map fun v => v.category).sum ≤ 8) (hal : al y2 = true → al y = true) (hlv : al y2 = true → ∀ q ∈ lv, okv h.1 h1.1 q.2) (hst : al y2 = true → ∀ v ∈ rest, okv h.1 h1.1 v) (M : MM y2 cc2 mL2 ret2 fr2 lo2 As h r1 h1) (hk : stk = As.reverse ++ rest)
    (k : G y cc mL ret fr lo (pc + 3) lv (r1.toList ++ rest) h1 r h') : G y cc mL ret fr lo pc lv stk h r h' := by
  obtain ⟨s1, s2, s3, s4, s5, s6⟩ := hs
  subst hk
  refine g_run ⟨M.1, M.2.1⟩ hal hlv hst (fun l p e R s m args below meth c dC dI dA ad0 n0 s0 A C f1 f2 f3 f4 ad H locs ls S hpm => ?_) k
  have hts := C.2.2.2.2.2.2.2.1
  have z1 := M.1.1
  have z2 := M.2.1.1
  have z3 := S.2.2.2.2.2.1
  have z4 := S.2.2.2.2.2.2.1
  exact ⟨_, va_runSN (host := host) (As := As.map (cv ad)) (rest := rest.map (cv ad)) (Ts := tbg) (own := y.cls) (nL := mL) ⟨C.1, C.2.1, C.2.2.2.1, C.2.2.2.2.2.1, hts⟩ (M.2.2 l dC dI dA ad H.size)
    ⟨⟨⟨rfl, rfl, by show fr2 + 1 ≤ _; omega, by show 8 + (mL2 + 11) + lo2 ≤ _; omega, pay_in hts (ws_good s1), List.mem_cons_self⟩, hts _ s1, hts _ s2, s3, len_of s4, va_Nw.use rfl (C.2.2.2.2.2.2.2.2.2.1.1 _ hlink)⟩, hts _ hstat, trivial⟩
    ⟨PM_blind, fun U hU hW => ⟨rfl, hpm U hU hW⟩⟩ rfl (by rw [List.length_map]) S.2.2.2.1.1 (by simp) (lv_room (by rw [cat_cv]; exact hcat)) hd ⟨by omega, by omega⟩⟩
theorem g_callI {index b : Nat} (As : List Value) (hs : site y y2 cc2 mL2 none fr lo fr2 lo2 As.length) (hy2 : y2.name = "<init>") (hlink : Cond.methodLink y.cls index y2 ∈ tbg) (hin : Cond.instanceMethod y2 ∈ tbg) (hd : decode cc pc = .ok (.invokespecial index, 3)) (hcat : (rest.map fun v => v.category).sum ≤ 8) (hal : al y2 = true → al y = true) (hlv : al y2 = true → ∀ q ∈ lv, okv h.1 h1.1 q.2) (hst : al y2 = true → ∀ v ∈ rest, okv h.1 h1.1 v) (M : MM y2 cc2 mL2 none fr2 lo2 (.ref b :: As) h r1 h1) (hk : stk = As.reverse ++ .ref b :: rest)
    (k : G y cc mL ret fr lo (pc + 3) lv (r1.toList ++ rest) h1 r h') : G y cc mL ret fr lo pc lv stk h r h' := by
  obtain ⟨s1, s2, s3, s4, s5, s6⟩ := hs
  subst hk
  refine g_run ⟨M.1, M.2.1⟩ hal hlv hst (fun l p e R s m args below meth c dC dI dA ad0 n0 s0 A C f1 f2 f3 f4 ad H locs ls S hpm => ?_) k
  have hts := C.2.2.2.2.2.2.2.1
  have z1 := M.1.1
  have z2 := M.2.1.1
  have z3 := S.2.2.2.2.2.1
  have z4 := S.2.2.2.2.2.2.1
  exact ⟨_, va_runI (b := ad b) (As := As.map (cv ad)) (rest := rest.map (cv ad)) (Ts := tbg) (own := y.cls) (nL := mL) ⟨C.1, C.2.1, C.2.2.2.1, C.2.2.2.2.2.1, hts⟩ (M.2.2 l dC dI dA ad H.size)
    ⟨⟨rfl, rfl, by show fr2 + 1 ≤ _; omega, by show 8 + (mL2 + 11) + lo2 ≤ _; omega, pay_in hts (ws_good s1), List.mem_cons_self, hts _ s1, hts _ s2, s3, len_of s4, hts _ hlink⟩, hy2, hts _ hin⟩
    ⟨PM_blind, fun U hU hW => ⟨rfl, hpm U hU hW⟩⟩ rfl (by rw [List.length_map]) S.2.2.2.1.1 (by simp [cv]) (lv_room (by rw [cat_cv]; exact hcat)) hd ⟨by omega, by omega⟩⟩
theorem g_callIN {index b : Nat} (host : String) (As : List Value) (hs : site y y2 cc2 mL2 none fr lo fr2 lo2 As.length) (hy2 : y2.name = "<init>") (hlink : Cond.methodLinkNest y.cls index y2 host ∈ nests) (hin : Cond.instanceMethod y2 ∈ tbg) (hd : decode cc pc = .ok (.invokespecial index, 3)) (hcat : (rest.map fun v => v.category).sum ≤ 8) (hal : al y2 = true → al y = true) (hlv : al y2 = true → ∀ q ∈ lv, okv h.1 h1.1 q.2) (hst : al y2 = true → ∀ v ∈ rest, okv h.1 h1.1 v) (M : MM y2 cc2 mL2 none fr2 lo2 (.ref b :: As) h r1 h1) (hk : stk = As.reverse ++ .ref b :: rest)
    (k : G y cc mL ret fr lo (pc + 3) lv (r1.toList ++ rest) h1 r h') : G y cc mL ret fr lo pc lv stk h r h' := by
  obtain ⟨s1, s2, s3, s4, s5, s6⟩ := hs
  subst hk
  refine g_run ⟨M.1, M.2.1⟩ hal hlv hst (fun l p e R s m args below meth c dC dI dA ad0 n0 s0 A C f1 f2 f3 f4 ad H locs ls S hpm => ?_) k
  have hts := C.2.2.2.2.2.2.2.1
  have z1 := M.1.1
  have z2 := M.2.1.1
  have z3 := S.2.2.2.2.2.1
  have z4 := S.2.2.2.2.2.2.1
  exact ⟨_, va_runIN (host := host) (b := ad b) (As := As.map (cv ad)) (rest := rest.map (cv ad)) (Ts := tbg) (own := y.cls) (nL := mL) ⟨C.1, C.2.1, C.2.2.2.1, C.2.2.2.2.2.1, hts⟩ (M.2.2 l dC dI dA ad H.size)
    ⟨⟨⟨rfl, rfl, by show fr2 + 1 ≤ _; omega, by show 8 + (mL2 + 11) + lo2 ≤ _; omega, pay_in hts (ws_good s1), List.mem_cons_self⟩, hts _ s1, hts _ s2, s3, len_of s4, va_Nw.use rfl (C.2.2.2.2.2.2.2.2.2.1.1 _ hlink)⟩, hy2, hts _ hin⟩
    ⟨PM_blind, fun U hU hW => ⟨rfl, hpm U hU hW⟩⟩ rfl (by rw [List.length_map]) S.2.2.2.1.1 (by simp [cv]) (lv_room (by rw [cat_cv]; exact hcat)) hd ⟨by omega, by omega⟩⟩
theorem g_mmax {index : Nat} {a b : Int32} (hd : decode cc pc = .ok (.invokestatic index, 3)) (hlink : Cond.methodLink y.cls index Lib.Math.max.name ∈ tbg) (hstat : Cond.static Lib.Math.max.name ∈ tbg) (hini : Cond.initialized "java/lang/Math" ∈ tbg) (hcode : Cond.code Lib.Math.max.name Lib.Math.max.code 2 (some .int) ∈ tbg) (hfr : 1 ≤ fr) (hlo : (stk.map fun v => v.category).sum + 13 ≤ lo)
    (k : G y cc mL ret fr lo (pc + 3) lv (.int (if a < b then b else a) :: stk) h r h') : G y cc mL ret fr lo pc lv (.int b :: .int a :: stk) h r h' :=
  ⟨k.1, k.2.1, fun l p e R s m args below meth c dC dI dA ad0 n0 s0 A Qc C q f1 f2 f3 f4 ad H locs ls S => by
    have hts := C.2.2.2.2.2.2.2.1
    have z1 := k.1.1
    have z2 := k.2.1.1
    exact va_mmax C.1 C.2.1 (C.2.2.2.1.trans S.2.2.2.1.1.symm) C.2.2.2.2.2.1 (hts _ hlink) (hts _ hstat) (hts _ hini) (hts _ hcode) (by omega) (by rw [cat_cv]; omega) (by omega) (by omega) hd (k.2.2 l p e R s m args below meth c dC dI dA ad0 n0 s0 A Qc C q f1 f2 f3 f4 ad H locs ls S)⟩
theorem g_mmin {index : Nat} {a b : Int32} (hd : decode cc pc = .ok (.invokestatic index, 3)) (hlink : Cond.methodLink y.cls index Lib.Math.min.name ∈ tbg) (hstat : Cond.static Lib.Math.min.name ∈ tbg) (hini : Cond.initialized "java/lang/Math" ∈ tbg) (hcode : Cond.code Lib.Math.min.name Lib.Math.min.code 2 (some .int) ∈ tbg) (hfr : 1 ≤ fr) (hlo : (stk.map fun v => v.category).sum + 13 ≤ lo)
    (k : G y cc mL ret fr lo (pc + 3) lv (.int (if b < a then b else a) :: stk) h r h') : G y cc mL ret fr lo pc lv (.int b :: .int a :: stk) h r h' :=
  ⟨k.1, k.2.1, fun l p e R s m args below meth c dC dI dA ad0 n0 s0 A Qc C q f1 f2 f3 f4 ad H locs ls S => by
    have hts := C.2.2.2.2.2.2.2.1
    have z1 := k.1.1
    have z2 := k.2.1.1
    exact va_mmin C.1 C.2.1 (C.2.2.2.1.trans S.2.2.2.1.1.symm) C.2.2.2.2.2.1 (hts _ hlink) (hts _ hstat) (hts _ hini) (hts _ hcode) (by omega) (by rw [cat_cv]; omega) (by omega) (by omega) hd (k.2.2 l p e R s m args below meth c dC dI dA ad0 n0 s0 A Qc C q f1 f2 f3 f4 ad H locs ls S)⟩
theorem g_objInit {index b : Nat} (hd : decode cc pc = .ok (.invokespecial index, 3)) (hlink : Cond.methodLink y.cls index Lib.objectInit ∈ tbg) (hin : Cond.instanceMethod Lib.objectInit ∈ tbg) (hcode : Cond.code Lib.objectInit ⟨#[0xb1]⟩ 1 none ∈ tbg) (hfr : 1 ≤ fr) (hlo : (stk.map fun v => v.category).sum + 12 ≤ lo)
    (k : G y cc mL ret fr lo (pc + 3) lv stk h r h') : G y cc mL ret fr lo pc lv (.ref b :: stk) h r h' :=
  ⟨k.1, k.2.1, fun l p e R s m args below meth c dC dI dA ad0 n0 s0 A Qc C q f1 f2 f3 f4 ad H locs ls S => by
    have hts := C.2.2.2.2.2.2.2.1
    exact W.objInit C.1 C.2.1 C.2.2.2.2.2.1 (hts _ hlink) (hts _ hin) (hts _ hcode) rfl (S.2.2.2.1.1.trans C.2.2.2.1.symm) rfl hd (by omega) (by show 2 * 0 + ((stk.map (cv ad)).map fun v => v.category).sum + 12 ≤ _; rw [cat_cv]; omega) (k.2.2 l p e R s m args below meth c dC dI dA ad0 n0 s0 A Qc C q f1 f2 f3 f4 ad H locs ls S)⟩
theorem g_copyi {index src dst : Nat} {sp dp n : Int32} {h2 : mH} (hd : decode cc pc = .ok (.invokestatic index, 3)) (hlink : Cond.methodLink y.cls index arraycopyName ∈ tbg) (hnat : Cond.native arraycopyName ∈ tbg) (hstat : Cond.static arraycopyName ∈ tbg) (hini : Cond.initialized "java/lang/System" ∈ tbg) (hfr : 1 ≤ fr) (hlo : (stk.map fun v => v.category).sum + (nativeFrameWords "java/lang/System" "arraycopy" 5 + 11) ≤ lo) (hv : cpI h 0 src sp dst dp n = some h2)
    (k : G y cc mL ret fr lo (pc + 3) lv stk h2 r h') : G y cc mL ret fr lo pc lv (.int n :: .int dp :: .ref dst :: .int sp :: .ref src :: stk) h r h' := by
  obtain ⟨n0, n1, f, g, e1, e2, ⟨b1, b2, b3, b4, b5⟩, rfl⟩ := cpI_spec hv
  refine ⟨k.1, k.2.1, fun l p e R s m args below meth c dC dI dA ad0 n0 s0 A Qc C q f1 f2 f3 f4 ad H locs ls S => ?_⟩
  have hts := C.2.2.2.2.2.2.2.1
  refine va_copyi (D := (dC, dI)) (ty := .int) C.1 C.2.1 (C.2.2.2.1.trans S.2.2.2.1.1.symm) C.2.2.2.2.2.1 (hts _ hlink) (hts _ hnat) (hts _ hstat) (hts _ hini) C.2.2.2.2.2.2.2.2.1 S.1 S.2.1 S.2.2.1 src dst 0 0 (S.arr e1) (S.arr e2) rfl rfl rfl b1 b2 b3 b4 b5 (fun _ _ => rfl) (by omega) (by rw [cat_cv]; omega) hd (fun H1 locs1 hP hD hS => ?_)
  have ew := wl_set (dA := dA) (ad := ad) (h := h) (o := dst) (c := .inl (0, n1, .inl (va_cpy f g sp.toNatClampNeg dp.toNatClampNeg n.toNatClampNeg)))
  exact k.2.2 l p e R s m args below meth c dC dI dA ad0 _ s0 A Qc C q f1 f2 f3 f4 ad H1 locs1 ls (S.set (S.live (by rw [e2]; intro q; cases q)) (fun j z => absurd z id) (ew ▸ hP) (ew ▸ hD) hS)
end
end
section
/-! making cells -/
def mnew (h : mH) (sl : Nat) (c : mCell) : mH := (h.1 + 1, h.2.1 + sl, va_up h.2.2 h.1 c)
theorem cE_ok {dA : Nat → ClassId} {ad ad' : Nat → Nat} {c : mCell} (hc : ∀ j, hasRef c j → ad' j = ad j) : cE dA ad' c = cE dA ad c := by
  cases c with
  | inr q =>
    obtain ⟨ci, fs⟩ := q
    show Sum.inr (ci, fs.map (cv ad')) = Sum.inr (ci, fs.map (cv ad))
    rw [List.map_congr_left (fun v hv => ?_)]
    cases v with
    | ref k => show Value.ref (ad' k) = Value.ref (ad k); rw [hc k hv]
    | _ => rfl
  | inl q =>
    obtain ⟨t, n, a⟩ := q
    rcases a with f | f | f | f | f
    · rfl
    · rfl
    · rfl
    · rfl
    · show Sum.inl (dA t, n, Sum.inr (Sum.inr (Sum.inr (Sum.inr (fun j => (f j).map ad'))))) = Sum.inl (dA t, n, Sum.inr (Sum.inr (Sum.inr (Sum.inr (fun j => (f j).map ad)))))
      have e : (fun j => (f j).map ad') = (fun j => (f j).map ad) := by
        funext j
        cases hj : f j with
        | none => rfl
        | some x => show some (ad' x) = some (ad x); rw [hc x ⟨j, hj⟩]
      rw [e]
theorem wl_new {dA : Nat → ClassId} {ad : Nat → Nat} {h : mH} {sl q : Nat} {c : mCell} (w : HW h) (hc : ∀ j, ¬ hasRef c j) : wl dA ad h ++ [(q, cE dA ad c)] = wl dA (va_up ad h.1 q) (mnew h sl c) := by
  have e0 : ∀ k, k < h.1 → va_up ad h.1 q k = ad k := fun k hk => by unfold va_up; rw [if_neg (by omega)]
  unfold wl mnew
  show _ = (List.range (h.1 + 1)).map _
  rw [List.range_succ, List.map_append]
  congr 1
  · refine List.map_congr_left (fun k hk => ?_)
    have hk2 := List.mem_range.mp hk
    have e1 : va_up h.2.2 h.1 c k = h.2.2 k := by unfold va_up; rw [if_neg (by omega)]
    show (ad k, cE dA ad (h.2.2 k)) = (va_up ad h.1 q k, cE dA (va_up ad h.1 q) (va_up h.2.2 h.1 c k))
    rw [e1, e0 k hk2, cE_ok (ad := ad) (fun j hj => e0 j (w.2.2 k j hj))]
  · show [(q, cE dA ad c)] = [(va_up ad h.1 q h.1, cE dA (va_up ad h.1 q) (va_up h.2.2 h.1 c h.1))]
    have e1 : va_up h.2.2 h.1 c h.1 = c := by unfold va_up; rw [if_pos rfl]
    have e2 : va_up ad h.1 q h.1 = q := by unfold va_up; rw [if_pos rfl]
    rw [e1, e2, cE_ok (ad := ad) (ad' := va_up ad h.1 q) (fun j hj => absurd hj (hc j))]
theorem HW.new {h : mH} {sl : Nat} {c : mCell} (w : HW h) (hlt : h.1 < 1000) (hc : ∀ j, ¬ hasRef c j) : HW (mnew h sl c) := by
  refine ⟨hlt, fun k hk => ?_, fun k j => ?_⟩
  · have hk2 : h.1 + 1 ≤ k := hk
    show va_up h.2.2 h.1 c k = dead
    unfold va_up
    rw [if_neg (by omega)]
    exact w.2.1 k (by omega)
  · show hasRef (va_up h.2.2 h.1 c k) j → j < h.1 + 1
    unfold va_up
    split
    · exact fun z => absurd z (hc j)
    · exact fun z => Nat.lt_succ_of_lt (w.2.2 k j z)
section
variable {mL : Nat} {dC : Nat → ClassId} {dI : Nat → Nat → Nat} {dA : Nat → ClassId} {ad0 : Nat → Nat} {n0 s0 : Nat} {A : Nat → Prop} {s : State} {h : mH} {lv : List (Nat × Value)} {ad : Nat → Nat} {H : Heap} {locs : List Loc} {ls : Array Slot}
theorem Sr.new (S : Sr mL dC dI dA ad0 n0 s0 A s h lv ad H locs ls) {sl q : Nat} {c : mCell} {H1 : Heap} {locs1 : List Loc} (hlt : h.1 < 1000) (hc : ∀ j, ¬ hasRef c j) (hlv : ∀ q ∈ lv, okv h.1 (h.1 + 1) q.2) (hP : va_P (dC, dI) mcls (wl dA ad h ++ [(q, cE dA ad c)]) H1) (hD : va_D A (wl dA ad h ++ [(q, cE dA ad c)])) (hS : va_S A s.heap H1 locs1) : Sr mL dC dI dA ad0 n0 s0 A s (mnew h sl c) lv (va_up ad h.1 q) H1 locs1 ls := by
  obtain ⟨-, -, -, h4, h5, h6, h7, w⟩ := S
  rw [wl_new (sl := sl) w hc] at hP hD
  have e0 : ∀ k, k < h.1 ∨ h.1 + 1 ≤ k → va_up ad h.1 q k = ad k := fun k hk => by unfold va_up; rw [if_neg (by omega)]
  have hlv2 : lv.map (cq (va_up ad h.1 q)) = lv.map (cq ad) := List.map_congr_left (fun z hz => by unfold cq; rw [cv_ok (hlv z hz) e0])
  refine ⟨hP, hD, hS, by rw [hlv2]; exact h4, fun k hk => ?_, Nat.le_succ_of_le h6, Nat.le_trans h7 (Nat.le_add_right _ _), w.new hlt hc⟩
  have hk2 : k < n0 ∨ h.1 + 1 ≤ k := hk
  rw [e0 k (by omega)]
  exact h5 k (by omega)
end
section
variable {y : MethodName} {cc : ByteArray} {mL : Nat} {ret : Option FieldType} {fr lo pc : Nat} {lv lv' : List (Nat × Value)} {stk rest : List Value} {h h1 h' : mH} {r r1 : Option Value}
theorem up_at {α : Type} (f : Nat → α) (k : Nat) (v : α) : va_up f k v k = v := by unfold va_up; rw [if_pos rfl]
theorem stk_new {ad : Nat → Nat} {n q : Nat} (hst : ∀ v ∈ stk, okv n (n + 1) v) : (Value.ref n :: stk).map (cv (va_up ad n q)) = .ref q :: stk.map (cv ad) := by
  have e0 : ∀ k, k < n ∨ n + 1 ≤ k → va_up ad n q k = ad k := fun k hk => by unfold va_up; rw [if_neg (by omega)]
  rw [List.map_cons, List.map_congr_left (fun v hv => cv_ok (hst v hv) e0)]
  show Value.ref (va_up ad n q n) :: _ = _
  rw [up_at]
theorem g_new (hyl : al y = true) {C : String} {T : u_T} {N index ci : Nat} (fs : List Value) (ty0 : Nat → FieldType) (hty : ∀ k, k < N → parseFieldDescriptor (T k).2.2.1 = some (ty0 k)) (hd : decode cc pc = .ok (.new index, 3)) (hc : mcls[ci]? = some (C, T, N)) (hin : ∀ w ∈ u_ws C T N, w ∈ tbg) (hcl : Cond.classLink y.cls index C ∈ tbg) (hinst : Cond.instantiable C N ∈ tbg) (hini : Cond.initialized C ∈ tbg) (hfs : ∀ j, j < N → defaultValue (ty0 j) = vp_V fs j) (hnr : ∀ v ∈ fs, ∀ k, v ≠ .ref k) (hlt : h.1 < 1000) (hlv : ∀ q ∈ lv, okv h.1 (h.1 + 1) q.2) (hst : ∀ v ∈ stk, okv h.1 (h.1 + 1) v)
    (k : G y cc mL ret fr lo (pc + 3) lv (.ref h.1 :: stk) (mnew h N (.inr (ci, fs))) r h') : G y cc mL ret fr lo pc lv stk h r h' := by
  have k1 : h.1 + 1 ≤ h'.1 := k.1.1
  have k2 : h.2.1 + N ≤ h'.2.1 := k.2.1.1
  refine ⟨⟨by omega, fun z => absurd (hyl.symm.trans z) (by decide)⟩, ⟨by omega, fun z => absurd (hyl.symm.trans z) (by decide)⟩, fun l p e R s m args below meth c dC dI dA ad0 n0 s0 A Qc C q f1 f2 f3 f4 ad H locs ls S => ?_⟩
  have hts := C.2.2.2.2.2.2.2.1
  have z3 := S.2.2.2.2.2.1
  have z4 := S.2.2.2.2.2.2.1
  have efs : fs.map (cv ad) = fs := by
    have e : fs.map (cv ad) = fs.map id := List.map_congr_left (fun v hv => by
      cases v with
      | ref k => exact absurd rfl (hnr _ hv k)
      | _ => rfl)
    rw [e, List.map_id]
  have hcr : ∀ j, ¬ hasRef (.inr (ci, fs)) j := fun j hj => hnr _ hj j rfl
  refine va_new (D := (dC, dI)) (tys := mtys dA) (fs := fs) C.1 C.2.1 hts hin ty0 hty C.2.2.2.2.2.1 (hts _ hcl) (hts _ hinst) (hts _ hini) C.2.2.2.2.2.2.2.2.1 S.1 S.2.1 S.2.2.1 C.2.2.2.2.2.2.2.2.2.2 hc hfs (by omega) (by omega) hd (fun qa H1 hP hD hS => ?_)
  have ec : cE dA ad (.inr (ci, fs)) = .inr (ci, fs) := by show Sum.inr (ci, fs.map (cv ad)) = _; rw [efs]
  have key := k.2.2 l p e R s m args below meth c dC dI dA ad0 n0 s0 A Qc C q f1 f2 f3 f4 (va_up ad h.1 qa) H1 locs ls (S.new hlt hcr hlv (by rw [ec]; exact hP) (by rw [ec]; exact hD) hS)
  rw [stk_new hst, show (mnew h N (.inr (ci, fs))).1 - n0 = h.1 - n0 + 1 by show h.1 + 1 - n0 = _; omega, show (mnew h N (.inr (ci, fs))).2.1 - s0 = h.2.1 - s0 + N by show h.2.1 + N - s0 = _; omega] at key
  exact key
theorem g_newa (hyl : al y = true) {atype : ArrayType} {n : Int32} (t N' : Nat) (ty : FieldType) (a0 : vp_A) (harr : Cond.arrayClass ty ∈ tbg) (hty : newarray.typeOf atype = ty) (ht : ∀ dA, (mtys dA)[t]? = some (dA t, ty)) (hra : ∀ (U : State) (c1 c2 : ClassId), va_RA U c1 ty → va_RA U c2 ty → c1 = c2) (ha : ∀ cA : ClassId, vp_cell cA a0 = arrV cA N' (fun _ => defaultValue ty)) (ha2 : ∀ ad, cA ad a0 = a0) (hnr : ∀ j, ¬ hasRef (.inl (t, a0)) j) (hn : ¬ n < 0) (hN : n.toNatClampNeg = N') (hbytes : N' * componentBytes ty ≤ 536870912) (hd : decode cc pc = .ok (.newarray atype, 2)) (hlt : h.1 < 1000) (hlv : ∀ q ∈ lv, okv h.1 (h.1 + 1) q.2) (hst : ∀ v ∈ stk, okv h.1 (h.1 + 1) v)
    (k : G y cc mL ret fr lo (pc + 2) lv (.ref h.1 :: stk) (mnew h N' (.inl (t, a0))) r h') : G y cc mL ret fr lo pc lv (.int n :: stk) h r h' := by
  have k1 : h.1 + 1 ≤ h'.1 := k.1.1
  have k2 : h.2.1 + N' ≤ h'.2.1 := k.2.1.1
  refine ⟨⟨by omega, fun z => absurd (hyl.symm.trans z) (by decide)⟩, ⟨by omega, fun z => absurd (hyl.symm.trans z) (by decide)⟩, fun l p e R s m args below meth c dC dI dA ad0 n0 s0 A Qc C q f1 f2 f3 f4 ad H locs ls S => ?_⟩
  have hts := C.2.2.2.2.2.2.2.1
  have hK := C.2.2.2.2.2.2.2.2.1
  have z3 := S.2.2.2.2.2.1
  have z4 := S.2.2.2.2.2.2.1
  refine va_newa (D := (dC, dI)) (tys := mtys dA) (a0 := a0) C.1 C.2.1 (by rw [hty]; exact hts _ harr) hty hK S.1 S.2.1 S.2.2.1 C.2.2.2.2.2.2.2.2.2.2 ha hn hN hbytes (by omega) (by omega) hd (fun qa cA1 H1 hK1 hP hD hS => ?_)
  have hcA : cA1 = dA t := hra s _ _ (hK1.2 (mtys dA).length (cA1, ty) (by simp)).2 (hK.2 t _ (ht dA)).2
  subst hcA
  have ec : cE dA ad (.inl (t, a0)) = .inl (dA t, a0) := by show Sum.inl (dA t, cA ad a0) = _; rw [ha2]
  have key := k.2.2 l p e R s m args below meth c dC dI dA ad0 n0 s0 A Qc C q f1 f2 f3 f4 (va_up ad h.1 qa) H1 locs ls (S.new hlt hnr hlv (by rw [ec]; exact hP) (by rw [ec]; exact hD) hS)
  rw [stk_new hst, show (mnew h N' (.inl (t, a0))).1 - n0 = h.1 - n0 + 1 by show h.1 + 1 - n0 = _; omega, show (mnew h N' (.inl (t, a0))).2.1 - s0 = h.2.1 - s0 + N' by show h.2.1 + N' - s0 = _; omega] at key
  exact key
theorem g_newq (hyl : al y = true) {index : Nat} {n : Int32} (t N' : Nat) (Cn : String) (hcl : Cond.classLink y.cls index Cn ∈ tbg) (hov : Cn ∈ overs) (ht : ∀ dA, (mtys dA)[t]? = some (dA t, .object Cn)) (hn : ¬ n < 0) (hN : n.toNatClampNeg = N') (hbytes : N' * 4 ≤ 536870912) (hd : decode cc pc = .ok (.anewarray index, 3)) (hlt : h.1 < 1000) (hlv : ∀ q ∈ lv, okv h.1 (h.1 + 1) q.2) (hst : ∀ v ∈ stk, okv h.1 (h.1 + 1) v)
    (k : G y cc mL ret fr lo (pc + 3) lv (.ref h.1 :: stk) (mnew h N' (.inl (t, N', .inr (.inr (.inr (.inr (fun _ => none))))))) r h') : G y cc mL ret fr lo pc lv (.int n :: stk) h r h' := by
  have k1 : h.1 + 1 ≤ h'.1 := k.1.1
  have k2 : h.2.1 + N' ≤ h'.2.1 := k.2.1.1
  refine ⟨⟨by omega, fun z => absurd (hyl.symm.trans z) (by decide)⟩, ⟨by omega, fun z => absurd (hyl.symm.trans z) (by decide)⟩, fun l p e R s m args below meth c dC dI dA ad0 n0 s0 A Qc C q f1 f2 f3 f4 ad H locs ls S => ?_⟩
  have hts := C.2.2.2.2.2.2.2.1
  have hK := C.2.2.2.2.2.2.2.2.1
  have z3 := S.2.2.2.2.2.1
  have z4 := S.2.2.2.2.2.2.1
  refine va_newq (D := (dC, dI)) (tys := mtys dA) C.1 C.2.1 C.2.2.2.2.2.1 (hts _ hcl) (C.2.2.2.2.2.2.2.2.2.1.2.2.2.2.2 _ hov) hK S.1 S.2.1 S.2.2.1 C.2.2.2.2.2.2.2.2.2.2 hn hN hbytes (by omega) (by omega) hd (fun qa cA1 H1 hK1 hP hD hS => ?_)
  have hcA : cA1 = dA t := by
    obtain ⟨_, _, _, _, _, g1⟩ := (hK1.2 (mtys dA).length (cA1, .object Cn) (by simp)).2
    obtain ⟨_, _, _, _, _, g2⟩ := (hK.2 t _ (ht dA)).2
    exact Option.some.inj (g1.symm.trans g2)
  subst hcA
  have hnr : ∀ j, ¬ hasRef (.inl (t, N', .inr (.inr (.inr (.inr (fun _ => none)))))) j := fun j hj => by obtain ⟨i, hi⟩ := hj; cases hi
  have ec : cE dA ad (.inl (t, N', .inr (.inr (.inr (.inr (fun _ => none)))))) = .inl (dA t, N', .inr (.inr (.inr (.inr (fun _ => none))))) := rfl
  have key := k.2.2 l p e R s m args below meth c dC dI dA ad0 n0 s0 A Qc C q f1 f2 f3 f4 (va_up ad h.1 qa) H1 locs ls (S.new hlt hnr hlv (by rw [ec]; exact hP) (by rw [ec]; exact hD) hS)
  rw [stk_new hst, show (mnew h N' (.inl (t, N', .inr (.inr (.inr (.inr (fun _ => none))))))).1 - n0 = h.1 - n0 + 1 by show h.1 + 1 - n0 = _; omega, show (mnew h N' (.inl (t, N', .inr (.inr (.inr (.inr (fun _ => none))))))).2.1 - s0 = h.2.1 - s0 + N' by show h.2.1 + N' - s0 = _; omega] at key
  exact key
theorem g_aast {t o v ci : Nat} {i : Int32} {h2 : mH} {q : vw_C} (hd : decode cc pc = .ok (.aastore, 1)) (hc : mcls[ci]? = some q) (ht : ∀ dA, (mtys dA)[t]? = some (dA t, .object q.1)) (hv : sR h t o ci i v = some h2) (k : G y cc mL ret fr lo (pc + 1) lv stk h2 r h') : G y cc mL ret fr lo pc lv (.ref v :: .int i :: .ref o :: stk) h r h' := by
  obtain ⟨n, f, fs, e1, e0, e5, e2, rfl⟩ := sR_spec hv
  refine ⟨k.1, k.2.1, fun l p e R s m args below meth c dC dI dA ad0 n0 s0 A Qc C q f1 f2 f3 f4 ad H locs ls S => ?_⟩
  have ho : o < h.1 := S.live (by rw [e1]; intro q; cases q)
  have hvl : v < h.1 := S.live e5
  have hov : (wl dA ad h)[v]? = some (ad v, .inr (ci, fs.map (cv ad))) := by rw [wl_at hvl, e0]; rfl
  refine va_astq (D := (dC, dI)) C.1 C.2.1 C.2.2.2.2.2.2.2.2.1 S.1 S.2.1 S.2.2.1 o t v ci (S.arr e1) (ht dA) hov hc e2 hd (fun H1 locs1 hP hD hS => ?_)
  have ef : va_up (fun j => (f j).map ad) i.toNatClampNeg (some (ad v)) = fun j => (va_up f i.toNatClampNeg (some v) j).map ad := by
    funext j
    unfold va_up
    split <;> rfl
  have ew := wl_set (dA := dA) (ad := ad) (h := h) (o := o) (c := .inl (t, n, .inr (.inr (.inr (.inr (va_up f i.toNatClampNeg (some v)))))))
  have ew2 : cE dA ad (.inl (t, n, .inr (.inr (.inr (.inr (va_up f i.toNatClampNeg (some v))))))) = .inl (dA t, n, .inr (.inr (.inr (.inr (va_up (fun j => (f j).map ad) i.toNatClampNeg (some (ad v))))))) := by rw [ef]; rfl
  rw [ew2] at ew
  refine k.2.2 l p e R s m args below meth c dC dI dA ad0 n0 s0 A Qc C q f1 f2 f3 f4 ad H1 locs1 ls (S.set ho (fun j hj => ?_) (ew ▸ hP) (ew ▸ hD) hS)
  obtain ⟨x, hx⟩ := hj
  unfold va_up at hx
  split at hx
  · cases hx; exact hvl
  · exact S.2.2.2.2.2.2.2.2.2 o j (by rw [e1]; exact ⟨x, hx⟩)
end
end
section
/-! facts of the names: printed by wip/gen/gen_names.py -/
theorem nm_Q : ∀ a, a < 10 → ∀ b, b < 10 → a ≠ b → (T_Q a).2.1 ≠ (T_Q b).2.1 := by decide +kernel
theorem tyok_Q : ∀ k, k < 10 → parseFieldDescriptor (T_Q k).2.2.1 = some (ty_Q k) := by decide +kernel
theorem in_Q : ∀ w ∈ u_ws "QuotaLaws" T_Q 10, w ∈ tbg := by decide +kernel
theorem nm_Odds : ∀ a, a < 3 → ∀ b, b < 3 → a ≠ b → (T_Odds a).2.1 ≠ (T_Odds b).2.1 := by decide +kernel
theorem tyok_Odds : ∀ k, k < 3 → parseFieldDescriptor (T_Odds k).2.2.1 = some (ty_Odds k) := by decide +kernel
theorem in_Odds : ∀ w ∈ u_ws "QuotaLaws$Odds" T_Odds 3, w ∈ tbg := by decide +kernel
theorem nm_Planner : ∀ a, a < 8 → ∀ b, b < 8 → a ≠ b → (T_Planner a).2.1 ≠ (T_Planner b).2.1 := by decide +kernel
theorem tyok_Planner : ∀ k, k < 8 → parseFieldDescriptor (T_Planner k).2.2.1 = some (ty_Planner k) := by decide +kernel
theorem in_Planner : ∀ w ∈ u_ws "QuotaLaws$Planner" T_Planner 8, w ∈ tbg := by decide +kernel
theorem nm_Reader : ∀ a, a < 9 → ∀ b, b < 9 → a ≠ b → (T_Reader a).2.1 ≠ (T_Reader b).2.1 := by decide +kernel
theorem tyok_Reader : ∀ k, k < 9 → parseFieldDescriptor (T_Reader k).2.2.1 = some (ty_Reader k) := by decide +kernel
theorem in_Reader : ∀ w ∈ u_ws "QuotaLaws$Reader" T_Reader 9, w ∈ tbg := by decide +kernel
theorem nm_Realm : ∀ a, a < 19 → ∀ b, b < 19 → a ≠ b → (T_Realm a).2.1 ≠ (T_Realm b).2.1 := by decide +kernel
theorem tyok_Realm : ∀ k, k < 19 → parseFieldDescriptor (T_Realm k).2.2.1 = some (ty_Realm k) := by decide +kernel
theorem in_Realm : ∀ w ∈ u_ws "QuotaLaws$Realm" T_Realm 19, w ∈ tbg := by decide +kernel
theorem nm_Sheet : ∀ a, a < 3 → ∀ b, b < 3 → a ≠ b → (T_Sheet a).2.1 ≠ (T_Sheet b).2.1 := by decide +kernel
theorem tyok_Sheet : ∀ k, k < 3 → parseFieldDescriptor (T_Sheet k).2.2.1 = some (ty_Sheet k) := by decide +kernel
theorem in_Sheet : ∀ w ∈ u_ws "QuotaLaws$Sheet" T_Sheet 3, w ∈ tbg := by decide +kernel
theorem nm_Sightings : ∀ a, a < 4 → ∀ b, b < 4 → a ≠ b → (T_Sightings a).2.1 ≠ (T_Sightings b).2.1 := by decide +kernel
theorem tyok_Sightings : ∀ k, k < 4 → parseFieldDescriptor (T_Sightings k).2.2.1 = some (ty_Sightings k) := by decide +kernel
theorem in_Sightings : ∀ w ∈ u_ws "QuotaLaws$Sightings" T_Sightings 4, w ∈ tbg := by decide +kernel
theorem nm_Tables : ∀ a, a < 8 → ∀ b, b < 8 → a ≠ b → (T_Tables a).2.1 ≠ (T_Tables b).2.1 := by decide +kernel
theorem tyok_Tables : ∀ k, k < 8 → parseFieldDescriptor (T_Tables k).2.2.1 = some (ty_Tables k) := by decide +kernel
theorem in_Tables : ∀ w ∈ u_ws "QuotaLaws$Tables" T_Tables 8, w ∈ tbg := by decide +kernel
theorem nm_M : ∀ a, a < 39 → ∀ b, b < 39 → a ≠ b → (T_M a).2.1 ≠ (T_M b).2.1 := by decide +kernel
theorem tyok_M : ∀ k, k < 39 → parseFieldDescriptor (T_M k).2.2.1 = some (ty_M k) := by decide +kernel
theorem in_M : ∀ w ∈ u_ws "QuotaLawsModel" T_M 39, w ∈ tbg := by decide +kernel
end
section
/-! small words of the printed functions and proofs -/
def FU : Nat := 600
def bd1 {α β : Type} (x : Option α) (f : α → Option β) : Option β := match x with
  | some a => f a
  | none => none
def bd2 {α β γ : Type} (x : Option (α × γ)) (f : α → γ → Option β) : Option β := match x with
  | some a => f a.1 a.2
  | none => none
theorem bd1_s {α β : Type} (a : α) (f : α → Option β) : bd1 (some a) f = f a := rfl
theorem bd2_s {α β γ : Type} (a : α) (c : γ) (f : α → γ → Option β) : bd2 (some (a, c)) f = f a c := rfl
theorem bd1_e {α β : Type} {x : Option α} {f : α → Option β} {b : β} (h : bd1 x f = some b) : ∃ a, x = some a ∧ f a = some b := by
  cases x with
  | none => cases h
  | some a => exact ⟨a, rfl, h⟩
theorem bd2_e {α β γ : Type} {x : Option (α × γ)} {f : α → γ → Option β} {b : β} (h : bd2 x f = some b) : ∃ a c, x = some (a, c) ∧ f a c = some b := by
  cases x with
  | none => cases h
  | some a => exact ⟨a.1, a.2, rfl, h⟩
theorem ret1 {α : Type} {a b : α} (h : some a = some b) : b = a := (Option.some.inj h).symm
theorem ret2 {α β : Type} {a c : α} {b d : β} (h : some (a, b) = some (c, d)) : c = a ∧ d = b := by
  have := Option.some.inj h
  exact ⟨(congrArg Prod.fst this).symm, (congrArg Prod.snd this).symm⟩
theorem nar_z {x : Int32} (h : x = 0 ∨ x = 1) : narrow .boolean (.int x) = .int x := by
  rcases h with rfl | rfl <;> rfl
theorem tbg_in2 {w : Cond} (i : Nat) (h : tables_1[i]? = some w) (hg : goodWord w = true) : w ∈ tbg := List.mem_filter.mpr ⟨List.mem_append_right _ (List.mem_of_getElem? h), hg⟩
theorem tbg_in3 {w : Cond} (i : Nat) (h : (k2_sels lw_privs)[i]? = some w) (hg : goodWord w = true) : w ∈ tbg := List.mem_filter.mpr ⟨List.mem_append_left _ (List.mem_of_getElem? h), hg⟩
theorem nests_in2 {w : Cond} (i : Nat) (h : tables_1[i]? = some w) (hg : isNest w = true) : w ∈ nests := List.mem_filter.mpr ⟨List.mem_append_right _ (List.mem_of_getElem? h), hg⟩
def site0 (y2 : MethodName) (cc2 : ByteArray) (mL2 : Nat) (ret2 : Option FieldType) (n : Nat) : Prop :=
  Cond.code y2 cc2 mL2 ret2 ∈ tbg ∧ Cond.initialized y2.cls ∈ tbg ∧ (y2.cls ≠ "java/lang/invoke/MethodHandle" ∧ y2.cls ≠ "java/lang/invoke/VarHandle") ∧ (parseMethodDescriptor y2.desc).map (fun d => d.parameters.length) = some n
theorem site_of {y y2 : MethodName} {cc2 : ByteArray} {mL2 : Nat} {ret2 : Option FieldType} {fr lo fr2 lo2 n : Nat} (h : site0 y2 cc2 mL2 ret2 n) (h1 : fr2 + 1 ≤ fr) (h2 : 8 + (mL2 + 11) + lo2 ≤ lo) : site y y2 cc2 mL2 ret2 fr lo fr2 lo2 n := ⟨h.1, h.2.1, h.2.2.1, h.2.2.2, h1, h2⟩
section
variable {y : MethodName} {cc : ByteArray} {mL : Nat} {ret : Option FieldType} {fr lo pc : Nat} {lv lv' : List (Nat × Value)} {stk stk2 : List Value} {h h' : mH} {r : Option Value}
theorem g_st (stk2 : List Value) (e : stk = stk2) (k : G y cc mL ret fr lo pc lv stk2 h r h') : G y cc mL ret fr lo pc lv stk h r h' := e ▸ k
theorem g_lookIn {dflt : Int} {ps : Array (Int × Int)} {len : Nat} {a : Int32} (tgt : Nat) (v : Int32) (hd : decode cc pc = .ok (.lookupswitch dflt ps, len)) (hv : a = v) (hp : (ps.toList.zip (ps.toList.drop 1)).all (fun (a, next) => a.1 < next.1) = true) (ho : (pc : Int) + Op.lookupswitch.offset ps.toList dflt v.toInt = (tgt : Int)) (k : G y cc mL ret fr lo tgt lv stk h r h') : G y cc mL ret fr lo pc lv (.int a :: stk) h r h' :=
  g_pure (fun hx hb _ _ _ k => by subst hv; exact lv_lookup hx hb hd hp rfl ho k) k
theorem look_out (ps : List (Int × Int)) (dflt k : Int) (hall : ∀ q ∈ ps, k ≠ q.1) : Op.lookupswitch.offset ps dflt k = dflt := by
  induction ps with
  | nil => rfl
  | cons q ps ih =>
    rw [Op.lookupswitch.offset_cons, ih (fun z hz => hall z (List.mem_cons_of_mem _ hz))]
    have := hall q List.mem_cons_self
    simp
    intro e
    exact absurd e (by first | exact this | exact fun z => this z.symm)
theorem g_lookOut {dflt : Int} {ps : Array (Int × Int)} {len : Nat} {a : Int32} (tgt : Nat) (hd : decode cc pc = .ok (.lookupswitch dflt ps, len)) (hp : (ps.toList.zip (ps.toList.drop 1)).all (fun (a, next) => a.1 < next.1) = true) (hall : ∀ q ∈ ps.toList, ¬ a = Int32.ofInt q.1) (ht : (pc : Int) + dflt = (tgt : Int)) (k : G y cc mL ret fr lo tgt lv stk h r h') : G y cc mL ret fr lo pc lv (.int a :: stk) h r h' :=
  g_pure (fun hx hb _ _ _ k => lv_lookup hx hb hd hp (look_out _ _ _ (fun q hq e => hall q hq (by rw [← e]; exact (Int32.ofInt_toInt a).symm))) ht k) k
theorem g_ldcS {index : Nat} {tx : String} (i : Nat) (hd : decode cc pc = .ok (.ldc index, 2)) (hi : strK[i]? = some (y.cls, index, tx)) (k : G y cc mL ret fr lo (pc + 2) lv (.ref (1000 + i) :: stk) h r h') : G y cc mL ret fr lo pc lv stk h r h' :=
  ⟨k.1, k.2.1, fun l p e R s m args below meth c dC dI dA ad0 n0 s0 A Qc C q f1 f2 f3 f4 ad H locs ls S => by
    have e1 : ad (1000 + i) = ad0 (1000 + i) := S.2.2.2.2.1 _ (Or.inr (Nat.le_trans S.2.2.2.2.2.2.2.1 (by omega)))
    exact va_ldcS C.1 C.2.1 C.2.2.2.2.2.1 (by rw [e1]; exact C.2.2.2.2.2.2.2.2.2.1.2.1 i _ hi) hd (k.2.2 l p e R s m args below meth c dC dI dA ad0 n0 s0 A Qc C q f1 f2 f3 f4 ad H locs ls S)⟩
end
end
section
/-! names of the methods, and the words that their calls and fields need: printed by wip/gen/gen_all.py -/
def y_Q_new : MethodName := ⟨"QuotaLaws", "<init>", "()V"⟩
def y_Reader_new : MethodName := ⟨"QuotaLaws$Reader", "<init>", "()V"⟩
def y_Realm_new : MethodName := ⟨"QuotaLaws$Realm", "<init>", "()V"⟩
def y_Sightings_new : MethodName := ⟨"QuotaLaws$Sightings", "<init>", "()V"⟩
def y_Planner_new : MethodName := ⟨"QuotaLaws$Planner", "<init>", "()V"⟩
def y_Tables_new : MethodName := ⟨"QuotaLaws$Tables", "<init>", "()V"⟩
def y_Odds_new : MethodName := ⟨"QuotaLaws$Odds", "<init>", "()V"⟩
def y_Sheet_new : MethodName := ⟨"QuotaLaws$Sheet", "<init>", "()V"⟩
def y_Q_feed : MethodName := ⟨"QuotaLaws", "feed", "(I)I"⟩
def y_Q_isWithin : MethodName := ⟨"QuotaLaws", "isWithin", "(III)Z"⟩
def y_Reader_append : MethodName := ⟨"QuotaLaws$Reader", "append", "(I)Z"⟩
def y_Q_end : MethodName := ⟨"QuotaLaws", "end", "(I)I"⟩
def y_Q_text : MethodName := ⟨"QuotaLaws", "text", "()I"⟩
def y_Reader_readInto : MethodName := ⟨"QuotaLaws$Reader", "readInto", "(LQuotaLaws$Realm;)Z"⟩
def y_Realm_empty : MethodName := ⟨"QuotaLaws$Realm", "empty", "()V"⟩
def y_Arrays_fillI : MethodName := ⟨"java/util/Arrays", "fill", "([II)V"⟩
def y_Reader_takeToken : MethodName := ⟨"QuotaLaws$Reader", "takeToken", "()Z"⟩
def y_Reader_passRun : MethodName := ⟨"QuotaLaws$Reader", "passRun", "(II)V"⟩
def y_Reader_kindHere : MethodName := ⟨"QuotaLaws$Reader", "kindHere", "()I"⟩
def y_Reader_valueOfRun : MethodName := ⟨"QuotaLaws$Reader", "valueOfRun", "()I"⟩
def y_Reader_fail : MethodName := ⟨"QuotaLaws$Reader", "fail", "(II)Z"⟩
def y_Reader_takeLine : MethodName := ⟨"QuotaLaws$Reader", "takeLine", "(LQuotaLaws$Realm;)Z"⟩
def y_Reader_isWord : MethodName := ⟨"QuotaLaws$Reader", "isWord", "(Ljava/lang/String;)Z"⟩
def y_String_length : MethodName := ⟨"java/lang/String", "length", "()I"⟩
def y_String_coder : MethodName := ⟨"java/lang/String", "coder", "()B"⟩
def y_String_charAt : MethodName := ⟨"java/lang/String", "charAt", "(I)C"⟩
def y_String_isLatin1 : MethodName := ⟨"java/lang/String", "isLatin1", "()Z"⟩
def y_StringLatin1_charAt : MethodName := ⟨"java/lang/StringLatin1", "charAt", "([BI)C"⟩
def y_String_checkIndex : MethodName := ⟨"java/lang/String", "checkIndex", "(II)V"⟩
def y_Preconditions_checkIndex : MethodName := ⟨"jdk/internal/util/Preconditions", "checkIndex", "(IILjava/util/function/BiFunction;)I"⟩
def y_StringUTF16_charAt : MethodName := ⟨"java/lang/StringUTF16", "charAt", "([BI)C"⟩
def y_StringUTF16_checkIndex : MethodName := ⟨"java/lang/StringUTF16", "checkIndex", "(I[B)V"⟩
def y_StringUTF16_length : MethodName := ⟨"java/lang/StringUTF16", "length", "([B)I"⟩
def y_StringUTF16_getChar : MethodName := ⟨"java/lang/StringUTF16", "getChar", "([BI)C"⟩
def y_Reader_takeLaw : MethodName := ⟨"QuotaLaws$Reader", "takeLaw", "(LQuotaLaws$Realm;I)Z"⟩
def y_Reader_takeNumber : MethodName := ⟨"QuotaLaws$Reader", "takeNumber", "(II)Z"⟩
def y_Reader_isBounded : MethodName := ⟨"QuotaLaws$Reader", "isBounded", "(II)Z"⟩
def y_Reader_putInto : MethodName := ⟨"QuotaLaws$Reader", "putInto", "([II)Z"⟩
def y_Reader_takeCarried : MethodName := ⟨"QuotaLaws$Reader", "takeCarried", "(LQuotaLaws$Realm;I)Z"⟩
def y_Reader_isStop : MethodName := ⟨"QuotaLaws$Reader", "isStop", "()Z"⟩
def y_Reader_takeOne : MethodName := ⟨"QuotaLaws$Reader", "takeOne", "(LQuotaLaws$Realm;I)Z"⟩
def y_Reader_addLaw : MethodName := ⟨"QuotaLaws$Reader", "addLaw", "([II)Z"⟩
def y_Q_hasBit : MethodName := ⟨"QuotaLaws", "hasBit", "(II)Z"⟩
def y_Reader_takeWant : MethodName := ⟨"QuotaLaws$Reader", "takeWant", "(LQuotaLaws$Realm;)Z"⟩
def y_Reader_takeWatch : MethodName := ⟨"QuotaLaws$Reader", "takeWatch", "(LQuotaLaws$Realm;)Z"⟩
def y_Reader_allThere : MethodName := ⟨"QuotaLaws$Reader", "allThere", "(LQuotaLaws$Realm;)Z"⟩
def y_Q_isPart : MethodName := ⟨"QuotaLaws", "isPart", "(II)Z"⟩
def y_Realm_hasLaw : MethodName := ⟨"QuotaLaws$Realm", "hasLaw", "(I)Z"⟩
def y_Realm_hasOne : MethodName := ⟨"QuotaLaws$Realm", "hasOne", "(I)Z"⟩
def y_Realm_copyFrom : MethodName := ⟨"QuotaLaws$Realm", "copyFrom", "(LQuotaLaws$Realm;)V"⟩
def y_Sightings_copyFrom : MethodName := ⟨"QuotaLaws$Sightings", "copyFrom", "(LQuotaLaws$Sightings;)V"⟩
def y_Q_fault : MethodName := ⟨"QuotaLaws", "fault", "()I"⟩
def y_Q_rule : MethodName := ⟨"QuotaLaws", "rule", "(I)I"⟩
def y_Q_law : MethodName := ⟨"QuotaLaws", "law", "(II)I"⟩
def y_Realm_needOf : MethodName := ⟨"QuotaLaws$Realm", "needOf", "(I)I"⟩
def y_Realm_brokenBy : MethodName := ⟨"QuotaLaws$Realm", "brokenBy", "(II)I"⟩
def y_Realm_chainOf : MethodName := ⟨"QuotaLaws$Realm", "chainOf", "(I)I"⟩
def y_Q_one : MethodName := ⟨"QuotaLaws", "one", "(II)I"⟩
def y_Realm_brokenByOne : MethodName := ⟨"QuotaLaws$Realm", "brokenByOne", "(I)I"⟩
def y_Realm_breakable : MethodName := ⟨"QuotaLaws$Realm", "breakable", "(I)I"⟩
def y_Realm_ableAlone : MethodName := ⟨"QuotaLaws$Realm", "ableAlone", "(II)I"⟩
def y_Realm_roomOf : MethodName := ⟨"QuotaLaws$Realm", "roomOf", "(II)I"⟩
def y_Realm_timeLeft : MethodName := ⟨"QuotaLaws$Realm", "timeLeft", "(I)I"⟩
def y_Q_broken : MethodName := ⟨"QuotaLaws", "broken", "(II)I"⟩
def y_Realm_hasBoth : MethodName := ⟨"QuotaLaws$Realm", "hasBoth", "(II)Z"⟩
def y_Q_quota : MethodName := ⟨"QuotaLaws", "quota", "(II)I"⟩
def y_Q_carry : MethodName := ⟨"QuotaLaws", "carry", "(II)I"⟩
def y_Q_watch : MethodName := ⟨"QuotaLaws", "watch", "(IZ)I"⟩
def y_Q_bitOf : MethodName := ⟨"QuotaLaws", "bitOf", "(II)I"⟩
def y_Q_withBit : MethodName := ⟨"QuotaLaws", "withBit", "(IIZ)I"⟩
def y_Q_time : MethodName := ⟨"QuotaLaws", "time", "(II)I"⟩
def y_Q_refuse : MethodName := ⟨"QuotaLaws", "refuse", "(IIZ)I"⟩
def y_Q_want : MethodName := ⟨"QuotaLaws", "want", "(IIZ)I"⟩
def y_Q_fund : MethodName := ⟨"QuotaLaws", "fund", "(II)I"⟩
def y_Q_revive : MethodName := ⟨"QuotaLaws", "revive", "(I)I"⟩
def y_Integer_bitCount : MethodName := ⟨"java/lang/Integer", "bitCount", "(I)I"⟩
def y_Q_breaks : MethodName := ⟨"QuotaLaws", "breaks", "(II)I"⟩
def y_Realm_breakOnce : MethodName := ⟨"QuotaLaws$Realm", "breakOnce", "(II)I"⟩
def y_Realm_mark : MethodName := ⟨"QuotaLaws$Realm", "mark", "(II)I"⟩
def y_Q_year : MethodName := ⟨"QuotaLaws", "year", "()I"⟩
def y_Realm_endYear : MethodName := ⟨"QuotaLaws$Realm", "endYear", "()I"⟩
def y_Realm_lapsing : MethodName := ⟨"QuotaLaws$Realm", "lapsing", "()I"⟩
def y_Q_falls : MethodName := ⟨"QuotaLaws", "falls", "()I"⟩
def y_Q_most : MethodName := ⟨"QuotaLaws", "most", "(I)I"⟩
def y_Q_rota : MethodName := ⟨"QuotaLaws", "rota", "(I)I"⟩
def y_Planner_load : MethodName := ⟨"QuotaLaws$Planner", "load", "(LQuotaLaws$Realm;)V"⟩
def y_Planner_leastHarm : MethodName := ⟨"QuotaLaws$Planner", "leastHarm", "()I"⟩
def y_Planner_leftToLast : MethodName := ⟨"QuotaLaws$Planner", "leftToLast", "(III)I"⟩
def y_Planner_stateOf : MethodName := ⟨"QuotaLaws$Planner", "stateOf", "(III)I"⟩
def y_Planner_search : MethodName := ⟨"QuotaLaws$Planner", "search", "(III)I"⟩
def y_Planner_timesInFirst : MethodName := ⟨"QuotaLaws$Planner", "timesInFirst", "(II)I"⟩
def y_Q_more : MethodName := ⟨"QuotaLaws", "more", "(I)I"⟩
def y_Planner_grant : MethodName := ⟨"QuotaLaws$Planner", "grant", "(II)V"⟩
def y_Planner_canMeet : MethodName := ⟨"QuotaLaws$Planner", "canMeet", "(I)Z"⟩
def y_Planner_needOfAll : MethodName := ⟨"QuotaLaws$Planner", "needOfAll", "(I)I"⟩
def y_Planner_givenTo : MethodName := ⟨"QuotaLaws$Planner", "givenTo", "(I)I"⟩
def y_Q_together : MethodName := ⟨"QuotaLaws", "together", "(I)I"⟩
def y_Q_kill : MethodName := ⟨"QuotaLaws", "kill", "(II)I"⟩
def y_Realm_ableWithout : MethodName := ⟨"QuotaLaws$Realm", "ableWithout", "(II)I"⟩
def y_Q_selfish : MethodName := ⟨"QuotaLaws", "selfish", "(I)I"⟩
def y_Realm_eachForHimself : MethodName := ⟨"QuotaLaws$Realm", "eachForHimself", "()I"⟩
def y_Realm_mostNeeded : MethodName := ⟨"QuotaLaws$Realm", "mostNeeded", "(I)I"⟩
def y_Realm_met : MethodName := ⟨"QuotaLaws$Realm", "met", "()I"⟩
def y_Q_luck : MethodName := ⟨"QuotaLaws", "luck", "(II)J"⟩
def y_Odds_weigh : MethodName := ⟨"QuotaLaws$Odds", "weigh", "(LQuotaLaws$Realm;I)V"⟩
def y_Arrays_fillJ : MethodName := ⟨"java/util/Arrays", "fill", "([JJ)V"⟩
def y_Odds_addTry : MethodName := ⟨"QuotaLaws$Odds", "addTry", "(I)V"⟩
def y_Odds_reduce : MethodName := ⟨"QuotaLaws$Odds", "reduce", "()V"⟩
def y_Q_see : MethodName := ⟨"QuotaLaws", "see", "(III)I"⟩
def y_Sightings_append : MethodName := ⟨"QuotaLaws$Sightings", "append", "(III)Z"⟩
def y_Q_forget : MethodName := ⟨"QuotaLaws", "forget", "(I)I"⟩
def y_Q_books : MethodName := ⟨"QuotaLaws", "books", "()J"⟩
def y_Tables_load : MethodName := ⟨"QuotaLaws$Tables", "load", "(LQuotaLaws$Realm;)V"⟩
def y_Sightings_sumDue : MethodName := ⟨"QuotaLaws$Sightings", "sumDue", "(II)I"⟩
def y_Tables_fitting : MethodName := ⟨"QuotaLaws$Tables", "fitting", "()J"⟩
def y_Tables_spendAlone : MethodName := ⟨"QuotaLaws$Tables", "spendAlone", "(II)V"⟩
def y_Tables_joinAll : MethodName := ⟨"QuotaLaws$Tables", "joinAll", "()V"⟩
def y_Tables_stateOf : MethodName := ⟨"QuotaLaws$Tables", "stateOf", "(III)I"⟩
def y_Tables_spendTogether : MethodName := ⟨"QuotaLaws$Tables", "spendTogether", "(I)V"⟩
def y_Tables_waysTo : MethodName := ⟨"QuotaLaws$Tables", "waysTo", "(IIII)J"⟩
def y_Tables_sumOfDue : MethodName := ⟨"QuotaLaws$Tables", "sumOfDue", "()J"⟩
def y_Tables_isDueOf : MethodName := ⟨"QuotaLaws$Tables", "isDueOf", "(II)Z"⟩
def y_Q_entry : MethodName := ⟨"QuotaLaws", "entry", "(III)I"⟩
def y_Tables_firstThatFits : MethodName := ⟨"QuotaLaws$Tables", "firstThatFits", "(IIZ)I"⟩
def y_Q_wild : MethodName := ⟨"QuotaLaws", "wild", "(III)I"⟩
def y_Realm_breakBySeed : MethodName := ⟨"QuotaLaws$Realm", "breakBySeed", "(II)I"⟩
def y_Realm_nextSeed : MethodName := ⟨"QuotaLaws$Realm", "nextSeed", "(I)I"⟩
def y_Realm_drawn : MethodName := ⟨"QuotaLaws$Realm", "drawn", "(I)I"⟩
def y_Q_keep : MethodName := ⟨"QuotaLaws", "keep", "(I)I"⟩
def y_Q_back : MethodName := ⟨"QuotaLaws", "back", "(I)I"⟩
def y_Q_sheet : MethodName := ⟨"QuotaLaws", "sheet", "(III)I"⟩
def y_Sheet_renew : MethodName := ⟨"QuotaLaws$Sheet", "renew", "(II)V"⟩
def y_Q_lay : MethodName := ⟨"QuotaLaws", "lay", "(III)I"⟩
def y_Sheet_faultAt : MethodName := ⟨"QuotaLaws$Sheet", "faultAt", "(J)I"⟩
def y_Sheet_put : MethodName := ⟨"QuotaLaws$Sheet", "put", "(II)V"⟩
def y_Q_read : MethodName := ⟨"QuotaLaws", "read", "(IIII)I"⟩
def y_Sheet_faultAs : MethodName := ⟨"QuotaLaws$Sheet", "faultAs", "(I)I"⟩
def y_Sheet_faultOfPair : MethodName := ⟨"QuotaLaws$Sheet", "faultOfPair", "(J)I"⟩
def y_Sheet_cellAt : MethodName := ⟨"QuotaLaws$Sheet", "cellAt", "(J)I"⟩
def y_Q_torn : MethodName := ⟨"QuotaLaws", "torn", "()I"⟩
def y_Q_count : MethodName := ⟨"QuotaLaws", "count", "(I)I"⟩
def y_Realm_brokenInAll : MethodName := ⟨"QuotaLaws$Realm", "brokenInAll", "()I"⟩
def y_Q_countKept : MethodName := ⟨"QuotaLaws", "countKept", "()I"⟩
def y_Realm_allPurses : MethodName := ⟨"QuotaLaws$Realm", "allPurses", "()I"⟩
def y_Realm_allNeed : MethodName := ⟨"QuotaLaws$Realm", "allNeed", "()I"⟩
def y_M_new : MethodName := ⟨"QuotaLawsModel", "<init>", "()V"⟩
def y_M_firstDraft : MethodName := ⟨"QuotaLawsModel", "firstDraft", "()V"⟩
def y_M_keepDraft : MethodName := ⟨"QuotaLawsModel", "keepDraft", "()V"⟩
def y_M_feed : MethodName := ⟨"QuotaLawsModel", "feed", "(I)I"⟩
def y_M_in : MethodName := ⟨"QuotaLawsModel", "in", "(JJJ)Z"⟩
def y_M_end : MethodName := ⟨"QuotaLawsModel", "end", "(I)I"⟩
def y_M_text : MethodName := ⟨"QuotaLawsModel", "text", "()I"⟩
def y_M_next : MethodName := ⟨"QuotaLawsModel", "next", "()V"⟩
def y_M_look : MethodName := ⟨"QuotaLawsModel", "look", "(I)I"⟩
def y_M_needs : MethodName := ⟨"QuotaLawsModel", "needs", "(ZI)V"⟩
def y_M_readLine : MethodName := ⟨"QuotaLawsModel", "readLine", "()V"⟩
def y_M_lineNow : MethodName := ⟨"QuotaLawsModel", "lineNow", "()I"⟩
def y_M_is : MethodName := ⟨"QuotaLawsModel", "is", "(IIII)Z"⟩
def y_M_readLineOf : MethodName := ⟨"QuotaLawsModel", "readLineOf", "(I)V"⟩
def y_M_readLaw : MethodName := ⟨"QuotaLawsModel", "readLaw", "()V"⟩
def y_M_readNumber : MethodName := ⟨"QuotaLawsModel", "readNumber", "(II)I"⟩
def y_M_looked : MethodName := ⟨"QuotaLawsModel", "looked", "(II)I"⟩
def y_M_readLawOf : MethodName := ⟨"QuotaLawsModel", "readLawOf", "(I)I"⟩
def y_M_readOne : MethodName := ⟨"QuotaLawsModel", "readOne", "()V"⟩
def y_M_fault : MethodName := ⟨"QuotaLawsModel", "fault", "()I"⟩
def y_M_rule : MethodName := ⟨"QuotaLawsModel", "rule", "(I)I"⟩
def y_M_law : MethodName := ⟨"QuotaLawsModel", "law", "(II)I"⟩
def y_M_isLaw : MethodName := ⟨"QuotaLawsModel", "isLaw", "(I)Z"⟩
def y_M_needOf : MethodName := ⟨"QuotaLawsModel", "needOf", "(I)I"⟩
def y_M_doesStand : MethodName := ⟨"QuotaLawsModel", "doesStand", "(I)Z"⟩
def y_M_brokenBy : MethodName := ⟨"QuotaLawsModel", "brokenBy", "(II)I"⟩
def y_M_chainOf : MethodName := ⟨"QuotaLawsModel", "chainOf", "(I)I"⟩
def y_M_one : MethodName := ⟨"QuotaLawsModel", "one", "(II)I"⟩
def y_M_isOne : MethodName := ⟨"QuotaLawsModel", "isOne", "(I)Z"⟩
def y_M_canBreak : MethodName := ⟨"QuotaLawsModel", "canBreak", "(II)Z"⟩
def y_M_roomOf : MethodName := ⟨"QuotaLawsModel", "roomOf", "(II)I"⟩
def y_M_timeLeft : MethodName := ⟨"QuotaLawsModel", "timeLeft", "(I)I"⟩
def y_M_allBy : MethodName := ⟨"QuotaLawsModel", "allBy", "(I)I"⟩
def y_M_flag : MethodName := ⟨"QuotaLawsModel", "flag", "(Z)I"⟩
def y_M_broken : MethodName := ⟨"QuotaLawsModel", "broken", "(II)I"⟩
def y_M_quota : MethodName := ⟨"QuotaLawsModel", "quota", "(II)I"⟩
def y_M_becomes : MethodName := ⟨"QuotaLawsModel", "becomes", "(II)I"⟩
def y_M_carry : MethodName := ⟨"QuotaLawsModel", "carry", "(II)I"⟩
def y_M_watch : MethodName := ⟨"QuotaLawsModel", "watch", "(IZ)I"⟩
def y_M_becomesBit : MethodName := ⟨"QuotaLawsModel", "becomesBit", "(IIZ)I"⟩
def y_M_time : MethodName := ⟨"QuotaLawsModel", "time", "(II)I"⟩
def y_M_refuse : MethodName := ⟨"QuotaLawsModel", "refuse", "(IIZ)I"⟩
def y_M_want : MethodName := ⟨"QuotaLawsModel", "want", "(IIZ)I"⟩
def y_M_fund : MethodName := ⟨"QuotaLawsModel", "fund", "(II)I"⟩
def y_M_revive : MethodName := ⟨"QuotaLawsModel", "revive", "(I)I"⟩
def y_M_bitsOf : MethodName := ⟨"QuotaLawsModel", "bitsOf", "(I)I"⟩
def y_M_breaks : MethodName := ⟨"QuotaLawsModel", "breaks", "(II)I"⟩
def y_M_year : MethodName := ⟨"QuotaLawsModel", "year", "()I"⟩
def y_M_fallsNow : MethodName := ⟨"QuotaLawsModel", "fallsNow", "()I"⟩
def y_M_falls : MethodName := ⟨"QuotaLawsModel", "falls", "()I"⟩
def y_M_most : MethodName := ⟨"QuotaLawsModel", "most", "(I)I"⟩
def y_M_rota : MethodName := ⟨"QuotaLawsModel", "rota", "(I)I"⟩
def y_M_startsRota : MethodName := ⟨"QuotaLawsModel", "startsRota", "(I)V"⟩
def y_M_findRota : MethodName := ⟨"QuotaLawsModel", "findRota", "()I"⟩
def y_M_at : MethodName := ⟨"QuotaLawsModel", "at", "(IIII)I"⟩
def y_M_leastOf : MethodName := ⟨"QuotaLawsModel", "leastOf", "(IIII)I"⟩
def y_M_harmBy : MethodName := ⟨"QuotaLawsModel", "harmBy", "(IIIIIII)I"⟩
def y_M_roomAt : MethodName := ⟨"QuotaLawsModel", "roomAt", "(II)I"⟩
def y_M_sharesOf : MethodName := ⟨"QuotaLawsModel", "sharesOf", "(IIII)V"⟩
def y_M_more : MethodName := ⟨"QuotaLawsModel", "more", "(I)I"⟩
def y_M_together : MethodName := ⟨"QuotaLawsModel", "together", "(I)I"⟩
def y_M_kill : MethodName := ⟨"QuotaLawsModel", "kill", "(II)I"⟩
def y_M_triesOf : MethodName := ⟨"QuotaLawsModel", "triesOf", "(II)I"⟩
def y_M_selfish : MethodName := ⟨"QuotaLawsModel", "selfish", "(I)I"⟩
def y_M_saves : MethodName := ⟨"QuotaLawsModel", "saves", "()V"⟩
def y_M_wantedBy : MethodName := ⟨"QuotaLawsModel", "wantedBy", "(I)I"⟩
def y_M_returns : MethodName := ⟨"QuotaLawsModel", "returns", "()V"⟩
def y_M_luck : MethodName := ⟨"QuotaLawsModel", "luck", "(II)J"⟩
def y_M_common : MethodName := ⟨"QuotaLawsModel", "common", "(JJ)J"⟩
def y_M_see : MethodName := ⟨"QuotaLawsModel", "see", "(III)I"⟩
def y_M_forget : MethodName := ⟨"QuotaLawsModel", "forget", "(I)I"⟩
def y_M_books : MethodName := ⟨"QuotaLawsModel", "books", "()J"⟩
def y_M_tablesBy : MethodName := ⟨"QuotaLawsModel", "tablesBy", "(III)J"⟩
def y_M_addsLaw : MethodName := ⟨"QuotaLawsModel", "addsLaw", "(IIII)V"⟩
def y_M_mostOf : MethodName := ⟨"QuotaLawsModel", "mostOf", "(II)I"⟩
def y_M_isSo : MethodName := ⟨"QuotaLawsModel", "isSo", "(III)Z"⟩
def y_M_isAsked : MethodName := ⟨"QuotaLawsModel", "isAsked", "(IIIIII)Z"⟩
def y_M_addsTables : MethodName := ⟨"QuotaLawsModel", "addsTables", "(III)V"⟩
def y_M_isTime : MethodName := ⟨"QuotaLawsModel", "isTime", "(II)Z"⟩
def y_M_entry : MethodName := ⟨"QuotaLawsModel", "entry", "(III)I"⟩
def y_M_wild : MethodName := ⟨"QuotaLawsModel", "wild", "(III)I"⟩
def y_M_keep : MethodName := ⟨"QuotaLawsModel", "keep", "(I)I"⟩
def y_M_copies : MethodName := ⟨"QuotaLawsModel", "copies", "(II)V"⟩
def y_M_back : MethodName := ⟨"QuotaLawsModel", "back", "(I)I"⟩
def y_M_sheet : MethodName := ⟨"QuotaLawsModel", "sheet", "(III)I"⟩
def y_M_isSheet : MethodName := ⟨"QuotaLawsModel", "isSheet", "(II)Z"⟩
def y_M_lay : MethodName := ⟨"QuotaLawsModel", "lay", "(III)I"⟩
def y_M_read : MethodName := ⟨"QuotaLawsModel", "read", "(IIII)I"⟩
def y_M_torn : MethodName := ⟨"QuotaLawsModel", "torn", "()I"⟩
def y_M_count : MethodName := ⟨"QuotaLawsModel", "count", "(I)I"⟩
theorem wd_1 : (.initialized "QuotaLaws" : Cond) ∈ tbg := tbg_in2 1 (by decide +kernel) rfl
theorem wd_2 : (.initialized "QuotaLaws$Reader" : Cond) ∈ tbg := tbg_in2 2 (by decide +kernel) rfl
theorem wd_3 : (.initialized "QuotaLaws$Realm" : Cond) ∈ tbg := tbg_in2 3 (by decide +kernel) rfl
theorem wd_4 : (.initialized "QuotaLaws$Sightings" : Cond) ∈ tbg := tbg_in2 4 (by decide +kernel) rfl
theorem wd_5 : (.initialized "QuotaLaws$Planner" : Cond) ∈ tbg := tbg_in2 5 (by decide +kernel) rfl
theorem wd_6 : (.initialized "QuotaLaws$Tables" : Cond) ∈ tbg := tbg_in2 6 (by decide +kernel) rfl
theorem wd_7 : (.initialized "QuotaLaws$Odds" : Cond) ∈ tbg := tbg_in2 7 (by decide +kernel) rfl
theorem wd_8 : (.initialized "QuotaLaws$Sheet" : Cond) ∈ tbg := tbg_in2 8 (by decide +kernel) rfl
theorem wd_9 : (.initialized "QuotaLawsModel" : Cond) ∈ tbg := tbg_in2 9 (by decide +kernel) rfl
theorem wd_10 : (.initialized "java/util/Arrays" : Cond) ∈ tbg := tbg_in2 10 (by decide +kernel) rfl
theorem wd_11 : (.initialized "java/lang/String" : Cond) ∈ tbg := tbg_in2 11 (by decide +kernel) rfl
theorem wd_12 : (.initialized "java/lang/StringLatin1" : Cond) ∈ tbg := tbg_in2 12 (by decide +kernel) rfl
theorem wd_13 : (.initialized "jdk/internal/util/Preconditions" : Cond) ∈ tbg := tbg_in2 13 (by decide +kernel) rfl
theorem wd_15 : (.initialized "java/lang/System" : Cond) ∈ tbg := tbg_in2 15 (by decide +kernel) rfl
theorem wd_16 : (.initialized "java/lang/Math" : Cond) ∈ tbg := tbg_in2 16 (by decide +kernel) rfl
theorem wd_17 : (.initialized "java/lang/Integer" : Cond) ∈ tbg := tbg_in2 17 (by decide +kernel) rfl
theorem wd_23 : (.methodLink "QuotaLaws" 1 Lib.objectInit : Cond) ∈ tbg := tbg_in2 23 (by decide +kernel) rfl
theorem wd_24 : (.instanceMethod Lib.objectInit : Cond) ∈ tbg := tbg_in2 24 (by decide +kernel) rfl
set_option maxRecDepth 100000 in
theorem wd_25 : (.code Lib.objectInit ⟨#[0xb1]⟩ 1 none : Cond) ∈ tbg := tbg_in2 25 rfl rfl
theorem wd_26 : (.classLink "QuotaLaws" 7 "QuotaLaws$Reader" : Cond) ∈ tbg := tbg_in2 26 (by decide +kernel) rfl
theorem wd_27 : (.instantiable "QuotaLaws$Reader" 9 : Cond) ∈ tbg := tbg_in2 27 (by decide +kernel) rfl
theorem wd_28 : (.methodLinkNest "QuotaLaws" 9 y_Reader_new "QuotaLaws" : Cond) ∈ nests := nests_in2 28 (by decide +kernel) rfl
theorem wd_29 : (.instanceMethod y_Reader_new : Cond) ∈ tbg := tbg_in2 29 (by decide +kernel) rfl
set_option maxRecDepth 100000 in
theorem wd_30 : (.code y_Reader_new prog_4_method_1_code 1 none : Cond) ∈ tbg := tbg_in2 30 rfl rfl
theorem wd_31 : (.methodLink "QuotaLaws$Reader" 3 Lib.objectInit : Cond) ∈ tbg := tbg_in2 31 (by decide +kernel) rfl
theorem wd_32 : (.fieldLink "QuotaLaws$Reader" 9 "QuotaLaws$Reader" "tape" "[B" : Cond) ∈ tbg := tbg_in2 32 (by decide +kernel) rfl
theorem wd_33 : (.fieldLink "QuotaLaws$Reader" 15 "QuotaLaws$Reader" "length" "I" : Cond) ∈ tbg := tbg_in2 33 (by decide +kernel) rfl
theorem wd_34 : (.fieldLink "QuotaLaws" 70 "QuotaLaws$Reader" "length" "I" : Cond) ∈ tbg := tbg_in2 34 (by decide +kernel) rfl
theorem wd_35 : (.fieldLink "QuotaLaws$Reader" 24 "QuotaLaws$Reader" "fault" "I" : Cond) ∈ tbg := tbg_in2 35 (by decide +kernel) rfl
theorem wd_36 : (.fieldLink "QuotaLaws" 88 "QuotaLaws$Reader" "fault" "I" : Cond) ∈ tbg := tbg_in2 36 (by decide +kernel) rfl
theorem wd_37 : (.fieldLink "QuotaLaws$Reader" 27 "QuotaLaws$Reader" "faultPlace" "I" : Cond) ∈ tbg := tbg_in2 37 (by decide +kernel) rfl
theorem wd_38 : (.fieldLink "QuotaLaws" 78 "QuotaLaws$Reader" "faultPlace" "I" : Cond) ∈ tbg := tbg_in2 38 (by decide +kernel) rfl
theorem wd_39 : (.fieldLink "QuotaLaws$Reader" 30 "QuotaLaws$Reader" "lines" "I" : Cond) ∈ tbg := tbg_in2 39 (by decide +kernel) rfl
theorem wd_40 : (.fieldLink "QuotaLaws" 85 "QuotaLaws$Reader" "lines" "I" : Cond) ∈ tbg := tbg_in2 40 (by decide +kernel) rfl
theorem wd_41 : (.fieldLink "QuotaLaws$Reader" 33 "QuotaLaws$Reader" "place" "I" : Cond) ∈ tbg := tbg_in2 41 (by decide +kernel) rfl
theorem wd_42 : (.fieldLink "QuotaLaws$Reader" 40 "QuotaLaws$Reader" "kind" "I" : Cond) ∈ tbg := tbg_in2 42 (by decide +kernel) rfl
theorem wd_43 : (.fieldLink "QuotaLaws$Reader" 85 "QuotaLaws$Reader" "start" "I" : Cond) ∈ tbg := tbg_in2 43 (by decide +kernel) rfl
theorem wd_44 : (.fieldLink "QuotaLaws$Reader" 123 "QuotaLaws$Reader" "value" "I" : Cond) ∈ tbg := tbg_in2 44 (by decide +kernel) rfl
theorem wd_64 : (.arrayClass .byte : Cond) ∈ tbg := tbg_in2 64 (by decide +kernel) rfl
theorem wd_65 : (.classLink "QuotaLaws" 16 "QuotaLaws$Realm" : Cond) ∈ tbg := tbg_in2 65 (by decide +kernel) rfl
theorem wd_66 : (.instantiable "QuotaLaws$Realm" 19 : Cond) ∈ tbg := tbg_in2 66 (by decide +kernel) rfl
theorem wd_67 : (.methodLinkNest "QuotaLaws" 18 y_Realm_new "QuotaLaws" : Cond) ∈ nests := nests_in2 67 (by decide +kernel) rfl
theorem wd_68 : (.instanceMethod y_Realm_new : Cond) ∈ tbg := tbg_in2 68 (by decide +kernel) rfl
set_option maxRecDepth 100000 in
theorem wd_69 : (.code y_Realm_new prog_5_method_1_code 1 none : Cond) ∈ tbg := tbg_in2 69 rfl rfl
theorem wd_70 : (.methodLink "QuotaLaws$Realm" 3 Lib.objectInit : Cond) ∈ tbg := tbg_in2 70 (by decide +kernel) rfl
theorem wd_71 : (.classLink "QuotaLaws$Realm" 48 "QuotaLaws$Sightings" : Cond) ∈ tbg := tbg_in2 71 (by decide +kernel) rfl
theorem wd_72 : (.instantiable "QuotaLaws$Sightings" 4 : Cond) ∈ tbg := tbg_in2 72 (by decide +kernel) rfl
theorem wd_73 : (.methodLinkNest "QuotaLaws$Realm" 50 y_Sightings_new "QuotaLaws" : Cond) ∈ nests := nests_in2 73 (by decide +kernel) rfl
theorem wd_74 : (.instanceMethod y_Sightings_new : Cond) ∈ tbg := tbg_in2 74 (by decide +kernel) rfl
set_option maxRecDepth 100000 in
theorem wd_75 : (.code y_Sightings_new prog_7_method_1_code 1 none : Cond) ∈ tbg := tbg_in2 75 rfl rfl
theorem wd_76 : (.methodLink "QuotaLaws$Sightings" 3 Lib.objectInit : Cond) ∈ tbg := tbg_in2 76 (by decide +kernel) rfl
theorem wd_77 : (.fieldLink "QuotaLaws$Sightings" 21 "QuotaLaws$Sightings" "size" "I" : Cond) ∈ tbg := tbg_in2 77 (by decide +kernel) rfl
theorem wd_78 : (.fieldLink "QuotaLaws$Realm" 74 "QuotaLaws$Sightings" "size" "I" : Cond) ∈ tbg := tbg_in2 78 (by decide +kernel) rfl
theorem wd_79 : (.fieldLink "QuotaLaws" 244 "QuotaLaws$Sightings" "size" "I" : Cond) ∈ tbg := tbg_in2 79 (by decide +kernel) rfl
theorem wd_80 : (.fieldLink "QuotaLaws$Sightings" 9 "QuotaLaws$Sightings" "kinds" "[I" : Cond) ∈ tbg := tbg_in2 80 (by decide +kernel) rfl
theorem wd_81 : (.fieldLink "QuotaLaws$Sightings" 15 "QuotaLaws$Sightings" "whose" "[I" : Cond) ∈ tbg := tbg_in2 81 (by decide +kernel) rfl
theorem wd_82 : (.fieldLink "QuotaLaws$Sightings" 18 "QuotaLaws$Sightings" "times" "[I" : Cond) ∈ tbg := tbg_in2 82 (by decide +kernel) rfl
theorem wd_92 : (.arrayClass .int : Cond) ∈ tbg := tbg_in2 92 (by decide +kernel) rfl
theorem wd_93 : (.fieldLink "QuotaLaws$Realm" 55 "QuotaLaws$Realm" "laws" "I" : Cond) ∈ tbg := tbg_in2 93 (by decide +kernel) rfl
theorem wd_94 : (.fieldLink "QuotaLaws$Planner" 33 "QuotaLaws$Realm" "laws" "I" : Cond) ∈ tbg := tbg_in2 94 (by decide +kernel) rfl
theorem wd_95 : (.fieldLink "QuotaLaws$Tables" 34 "QuotaLaws$Realm" "laws" "I" : Cond) ∈ tbg := tbg_in2 95 (by decide +kernel) rfl
theorem wd_96 : (.fieldLink "QuotaLaws$Reader" 60 "QuotaLaws$Realm" "laws" "I" : Cond) ∈ tbg := tbg_in2 96 (by decide +kernel) rfl
theorem wd_97 : (.fieldLink "QuotaLaws" 91 "QuotaLaws$Realm" "laws" "I" : Cond) ∈ tbg := tbg_in2 97 (by decide +kernel) rfl
theorem wd_98 : (.fieldLink "QuotaLaws$Realm" 59 "QuotaLaws$Realm" "people" "I" : Cond) ∈ tbg := tbg_in2 98 (by decide +kernel) rfl
theorem wd_99 : (.fieldLink "QuotaLaws$Odds" 25 "QuotaLaws$Realm" "people" "I" : Cond) ∈ tbg := tbg_in2 99 (by decide +kernel) rfl
theorem wd_100 : (.fieldLink "QuotaLaws$Planner" 57 "QuotaLaws$Realm" "people" "I" : Cond) ∈ tbg := tbg_in2 100 (by decide +kernel) rfl
theorem wd_101 : (.fieldLink "QuotaLaws$Reader" 69 "QuotaLaws$Realm" "people" "I" : Cond) ∈ tbg := tbg_in2 101 (by decide +kernel) rfl
theorem wd_102 : (.fieldLink "QuotaLaws" 94 "QuotaLaws$Realm" "people" "I" : Cond) ∈ tbg := tbg_in2 102 (by decide +kernel) rfl
theorem wd_103 : (.fieldLink "QuotaLaws$Realm" 62 "QuotaLaws$Realm" "year" "I" : Cond) ∈ tbg := tbg_in2 103 (by decide +kernel) rfl
theorem wd_104 : (.fieldLink "QuotaLaws" 97 "QuotaLaws$Realm" "year" "I" : Cond) ∈ tbg := tbg_in2 104 (by decide +kernel) rfl
theorem wd_105 : (.fieldLink "QuotaLaws$Realm" 65 "QuotaLaws$Realm" "done" "I" : Cond) ∈ tbg := tbg_in2 105 (by decide +kernel) rfl
theorem wd_106 : (.fieldLink "QuotaLaws" 100 "QuotaLaws$Realm" "done" "I" : Cond) ∈ tbg := tbg_in2 106 (by decide +kernel) rfl
theorem wd_107 : (.fieldLink "QuotaLaws$Realm" 68 "QuotaLaws$Realm" "stands" "I" : Cond) ∈ tbg := tbg_in2 107 (by decide +kernel) rfl
theorem wd_108 : (.fieldLink "QuotaLaws$Reader" 92 "QuotaLaws$Realm" "stands" "I" : Cond) ∈ tbg := tbg_in2 108 (by decide +kernel) rfl
theorem wd_109 : (.fieldLink "QuotaLaws" 103 "QuotaLaws$Realm" "stands" "I" : Cond) ∈ tbg := tbg_in2 109 (by decide +kernel) rfl
theorem wd_110 : (.fieldLink "QuotaLaws$Realm" 71 "QuotaLaws$Realm" "watched" "I" : Cond) ∈ tbg := tbg_in2 110 (by decide +kernel) rfl
theorem wd_111 : (.fieldLink "QuotaLaws" 106 "QuotaLaws$Realm" "watched" "I" : Cond) ∈ tbg := tbg_in2 111 (by decide +kernel) rfl
theorem wd_112 : (.fieldLink "QuotaLaws$Reader" 147 "QuotaLaws$Realm" "watched" "I" : Cond) ∈ tbg := tbg_in2 112 (by decide +kernel) rfl
theorem wd_113 : (.fieldLink "QuotaLaws$Realm" 9 "QuotaLaws$Realm" "quota" "[I" : Cond) ∈ tbg := tbg_in2 113 (by decide +kernel) rfl
theorem wd_114 : (.fieldLink "QuotaLaws$Reader" 98 "QuotaLaws$Realm" "quota" "[I" : Cond) ∈ tbg := tbg_in2 114 (by decide +kernel) rfl
theorem wd_115 : (.fieldLink "QuotaLaws" 112 "QuotaLaws$Realm" "quota" "[I" : Cond) ∈ tbg := tbg_in2 115 (by decide +kernel) rfl
theorem wd_116 : (.fieldLink "QuotaLaws$Realm" 15 "QuotaLaws$Realm" "cap" "[I" : Cond) ∈ tbg := tbg_in2 116 (by decide +kernel) rfl
theorem wd_117 : (.fieldLink "QuotaLaws$Tables" 69 "QuotaLaws$Realm" "cap" "[I" : Cond) ∈ tbg := tbg_in2 117 (by decide +kernel) rfl
theorem wd_118 : (.fieldLink "QuotaLaws$Reader" 105 "QuotaLaws$Realm" "cap" "[I" : Cond) ∈ tbg := tbg_in2 118 (by decide +kernel) rfl
theorem wd_119 : (.fieldLink "QuotaLaws" 116 "QuotaLaws$Realm" "cap" "[I" : Cond) ∈ tbg := tbg_in2 119 (by decide +kernel) rfl
theorem wd_120 : (.fieldLink "QuotaLaws$Realm" 18 "QuotaLaws$Realm" "harm" "[I" : Cond) ∈ tbg := tbg_in2 120 (by decide +kernel) rfl
theorem wd_121 : (.fieldLink "QuotaLaws$Planner" 64 "QuotaLaws$Realm" "harm" "[I" : Cond) ∈ tbg := tbg_in2 121 (by decide +kernel) rfl
theorem wd_122 : (.fieldLink "QuotaLaws$Reader" 108 "QuotaLaws$Realm" "harm" "[I" : Cond) ∈ tbg := tbg_in2 122 (by decide +kernel) rfl
theorem wd_123 : (.fieldLink "QuotaLaws" 119 "QuotaLaws$Realm" "harm" "[I" : Cond) ∈ tbg := tbg_in2 123 (by decide +kernel) rfl
theorem wd_124 : (.fieldLink "QuotaLaws$Realm" 21 "QuotaLaws$Realm" "fine" "[I" : Cond) ∈ tbg := tbg_in2 124 (by decide +kernel) rfl
theorem wd_125 : (.fieldLink "QuotaLaws$Reader" 111 "QuotaLaws$Realm" "fine" "[I" : Cond) ∈ tbg := tbg_in2 125 (by decide +kernel) rfl
theorem wd_126 : (.fieldLink "QuotaLaws" 122 "QuotaLaws$Realm" "fine" "[I" : Cond) ∈ tbg := tbg_in2 126 (by decide +kernel) rfl
theorem wd_127 : (.fieldLink "QuotaLaws$Realm" 24 "QuotaLaws$Realm" "carries" "[I" : Cond) ∈ tbg := tbg_in2 127 (by decide +kernel) rfl
theorem wd_128 : (.fieldLink "QuotaLaws$Reader" 88 "QuotaLaws$Realm" "carries" "[I" : Cond) ∈ tbg := tbg_in2 128 (by decide +kernel) rfl
theorem wd_129 : (.fieldLink "QuotaLaws" 125 "QuotaLaws$Realm" "carries" "[I" : Cond) ∈ tbg := tbg_in2 129 (by decide +kernel) rfl
theorem wd_130 : (.fieldLink "QuotaLaws$Realm" 27 "QuotaLaws$Realm" "time" "[I" : Cond) ∈ tbg := tbg_in2 130 (by decide +kernel) rfl
theorem wd_131 : (.fieldLink "QuotaLaws$Tables" 61 "QuotaLaws$Realm" "time" "[I" : Cond) ∈ tbg := tbg_in2 131 (by decide +kernel) rfl
theorem wd_132 : (.fieldLink "QuotaLaws$Reader" 126 "QuotaLaws$Realm" "time" "[I" : Cond) ∈ tbg := tbg_in2 132 (by decide +kernel) rfl
theorem wd_133 : (.fieldLink "QuotaLaws" 138 "QuotaLaws$Realm" "time" "[I" : Cond) ∈ tbg := tbg_in2 133 (by decide +kernel) rfl
theorem wd_134 : (.fieldLink "QuotaLaws$Realm" 30 "QuotaLaws$Realm" "clumsy" "[I" : Cond) ∈ tbg := tbg_in2 134 (by decide +kernel) rfl
theorem wd_135 : (.fieldLink "QuotaLaws$Planner" 65 "QuotaLaws$Realm" "clumsy" "[I" : Cond) ∈ tbg := tbg_in2 135 (by decide +kernel) rfl
theorem wd_136 : (.fieldLink "QuotaLaws$Reader" 129 "QuotaLaws$Realm" "clumsy" "[I" : Cond) ∈ tbg := tbg_in2 136 (by decide +kernel) rfl
theorem wd_137 : (.fieldLink "QuotaLaws" 141 "QuotaLaws$Realm" "clumsy" "[I" : Cond) ∈ tbg := tbg_in2 137 (by decide +kernel) rfl
theorem wd_138 : (.fieldLink "QuotaLaws$Realm" 33 "QuotaLaws$Realm" "nerve" "[I" : Cond) ∈ tbg := tbg_in2 138 (by decide +kernel) rfl
theorem wd_139 : (.fieldLink "QuotaLaws$Odds" 35 "QuotaLaws$Realm" "nerve" "[I" : Cond) ∈ tbg := tbg_in2 139 (by decide +kernel) rfl
theorem wd_140 : (.fieldLink "QuotaLaws$Reader" 132 "QuotaLaws$Realm" "nerve" "[I" : Cond) ∈ tbg := tbg_in2 140 (by decide +kernel) rfl
theorem wd_141 : (.fieldLink "QuotaLaws" 144 "QuotaLaws$Realm" "nerve" "[I" : Cond) ∈ tbg := tbg_in2 141 (by decide +kernel) rfl
theorem wd_142 : (.fieldLink "QuotaLaws$Realm" 36 "QuotaLaws$Realm" "purse" "[I" : Cond) ∈ tbg := tbg_in2 142 (by decide +kernel) rfl
theorem wd_143 : (.fieldLink "QuotaLaws$Reader" 135 "QuotaLaws$Realm" "purse" "[I" : Cond) ∈ tbg := tbg_in2 143 (by decide +kernel) rfl
theorem wd_144 : (.fieldLink "QuotaLaws" 147 "QuotaLaws$Realm" "purse" "[I" : Cond) ∈ tbg := tbg_in2 144 (by decide +kernel) rfl
theorem wd_145 : (.fieldLink "QuotaLaws$Realm" 39 "QuotaLaws$Realm" "refused" "[I" : Cond) ∈ tbg := tbg_in2 145 (by decide +kernel) rfl
theorem wd_146 : (.fieldLink "QuotaLaws$Tables" 62 "QuotaLaws$Realm" "refused" "[I" : Cond) ∈ tbg := tbg_in2 146 (by decide +kernel) rfl
theorem wd_147 : (.fieldLink "QuotaLaws$Reader" 138 "QuotaLaws$Realm" "refused" "[I" : Cond) ∈ tbg := tbg_in2 147 (by decide +kernel) rfl
theorem wd_148 : (.fieldLink "QuotaLaws" 150 "QuotaLaws$Realm" "refused" "[I" : Cond) ∈ tbg := tbg_in2 148 (by decide +kernel) rfl
theorem wd_149 : (.fieldLink "QuotaLaws$Realm" 42 "QuotaLaws$Realm" "wanted" "[I" : Cond) ∈ tbg := tbg_in2 149 (by decide +kernel) rfl
theorem wd_150 : (.fieldLink "QuotaLaws$Reader" 144 "QuotaLaws$Realm" "wanted" "[I" : Cond) ∈ tbg := tbg_in2 150 (by decide +kernel) rfl
theorem wd_151 : (.fieldLink "QuotaLaws" 153 "QuotaLaws$Realm" "wanted" "[I" : Cond) ∈ tbg := tbg_in2 151 (by decide +kernel) rfl
theorem wd_152 : (.fieldLink "QuotaLaws$Realm" 45 "QuotaLaws$Realm" "breakings" "[I" : Cond) ∈ tbg := tbg_in2 152 (by decide +kernel) rfl
theorem wd_153 : (.fieldLink "QuotaLaws$Realm" 51 "QuotaLaws$Realm" "seen" "LQuotaLaws$Sightings;" : Cond) ∈ tbg := tbg_in2 153 (by decide +kernel) rfl
theorem wd_154 : (.fieldLink "QuotaLaws$Tables" 47 "QuotaLaws$Realm" "seen" "LQuotaLaws$Sightings;" : Cond) ∈ tbg := tbg_in2 154 (by decide +kernel) rfl
theorem wd_155 : (.fieldLink "QuotaLaws" 236 "QuotaLaws$Realm" "seen" "LQuotaLaws$Sightings;" : Cond) ∈ tbg := tbg_in2 155 (by decide +kernel) rfl
theorem wd_196 : (.classLink "QuotaLaws" 34 "QuotaLaws$Sheet" : Cond) ∈ tbg := tbg_in2 196 (by decide +kernel) rfl
theorem wd_198 : (.classLink "QuotaLaws" 40 "QuotaLaws$Planner" : Cond) ∈ tbg := tbg_in2 198 (by decide +kernel) rfl
theorem wd_199 : (.instantiable "QuotaLaws$Planner" 8 : Cond) ∈ tbg := tbg_in2 199 (by decide +kernel) rfl
theorem wd_200 : (.methodLinkNest "QuotaLaws" 42 y_Planner_new "QuotaLaws" : Cond) ∈ nests := nests_in2 200 (by decide +kernel) rfl
theorem wd_201 : (.instanceMethod y_Planner_new : Cond) ∈ tbg := tbg_in2 201 (by decide +kernel) rfl
set_option maxRecDepth 100000 in
theorem wd_202 : (.code y_Planner_new prog_3_method_1_code 1 none : Cond) ∈ tbg := tbg_in2 202 rfl rfl
theorem wd_203 : (.methodLink "QuotaLaws$Planner" 3 Lib.objectInit : Cond) ∈ tbg := tbg_in2 203 (by decide +kernel) rfl
theorem wd_204 : (.fieldLink "QuotaLaws$Planner" 39 "QuotaLaws$Planner" "laws" "I" : Cond) ∈ tbg := tbg_in2 204 (by decide +kernel) rfl
theorem wd_205 : (.fieldLink "QuotaLaws$Planner" 9 "QuotaLaws$Planner" "left" "[I" : Cond) ∈ tbg := tbg_in2 205 (by decide +kernel) rfl
theorem wd_206 : (.fieldLink "QuotaLaws$Planner" 15 "QuotaLaws$Planner" "need" "[I" : Cond) ∈ tbg := tbg_in2 206 (by decide +kernel) rfl
theorem wd_207 : (.fieldLink "QuotaLaws$Planner" 18 "QuotaLaws$Planner" "needAhead" "[I" : Cond) ∈ tbg := tbg_in2 207 (by decide +kernel) rfl
theorem wd_208 : (.fieldLink "QuotaLaws$Planner" 21 "QuotaLaws$Planner" "room" "[I" : Cond) ∈ tbg := tbg_in2 208 (by decide +kernel) rfl
theorem wd_209 : (.fieldLink "QuotaLaws$Planner" 24 "QuotaLaws$Planner" "harm" "[I" : Cond) ∈ tbg := tbg_in2 209 (by decide +kernel) rfl
theorem wd_210 : (.fieldLink "QuotaLaws$Planner" 27 "QuotaLaws$Planner" "first" "[I" : Cond) ∈ tbg := tbg_in2 210 (by decide +kernel) rfl
theorem wd_211 : (.fieldLink "QuotaLaws$Planner" 30 "QuotaLaws$Planner" "best" "[I" : Cond) ∈ tbg := tbg_in2 211 (by decide +kernel) rfl
theorem wd_229 : (.arrayClass .boolean : Cond) ∈ tbg := tbg_in2 229 (by decide +kernel) rfl
theorem wd_230 : (.classLink "QuotaLaws" 47 "QuotaLaws$Tables" : Cond) ∈ tbg := tbg_in2 230 (by decide +kernel) rfl
theorem wd_231 : (.instantiable "QuotaLaws$Tables" 8 : Cond) ∈ tbg := tbg_in2 231 (by decide +kernel) rfl
theorem wd_232 : (.methodLinkNest "QuotaLaws" 49 y_Tables_new "QuotaLaws" : Cond) ∈ nests := nests_in2 232 (by decide +kernel) rfl
theorem wd_233 : (.instanceMethod y_Tables_new : Cond) ∈ tbg := tbg_in2 233 (by decide +kernel) rfl
set_option maxRecDepth 100000 in
theorem wd_234 : (.code y_Tables_new prog_8_method_1_code 1 none : Cond) ∈ tbg := tbg_in2 234 rfl rfl
theorem wd_235 : (.methodLink "QuotaLaws$Tables" 3 Lib.objectInit : Cond) ∈ tbg := tbg_in2 235 (by decide +kernel) rfl
theorem wd_236 : (.fieldLink "QuotaLaws$Tables" 40 "QuotaLaws$Tables" "laws" "I" : Cond) ∈ tbg := tbg_in2 236 (by decide +kernel) rfl
theorem wd_237 : (.fieldLink "QuotaLaws$Tables" 9 "QuotaLaws$Tables" "low" "[I" : Cond) ∈ tbg := tbg_in2 237 (by decide +kernel) rfl
theorem wd_238 : (.fieldLink "QuotaLaws$Tables" 15 "QuotaLaws$Tables" "high" "[I" : Cond) ∈ tbg := tbg_in2 238 (by decide +kernel) rfl
theorem wd_239 : (.fieldLink "QuotaLaws$Tables" 18 "QuotaLaws$Tables" "lawDue" "[I" : Cond) ∈ tbg := tbg_in2 239 (by decide +kernel) rfl
theorem wd_240 : (.fieldLink "QuotaLaws$Tables" 21 "QuotaLaws$Tables" "oneDue" "[I" : Cond) ∈ tbg := tbg_in2 240 (by decide +kernel) rfl
theorem wd_241 : (.fieldLink "QuotaLaws$Tables" 24 "QuotaLaws$Tables" "time" "[I" : Cond) ∈ tbg := tbg_in2 241 (by decide +kernel) rfl
theorem wd_242 : (.fieldLink "QuotaLaws$Tables" 27 "QuotaLaws$Tables" "alone" "[J" : Cond) ∈ tbg := tbg_in2 242 (by decide +kernel) rfl
theorem wd_243 : (.fieldLink "QuotaLaws$Tables" 31 "QuotaLaws$Tables" "ways" "[J" : Cond) ∈ tbg := tbg_in2 243 (by decide +kernel) rfl
theorem wd_261 : (.arrayClass .long : Cond) ∈ tbg := tbg_in2 261 (by decide +kernel) rfl
theorem wd_262 : (.classLink "QuotaLaws" 54 "QuotaLaws$Odds" : Cond) ∈ tbg := tbg_in2 262 (by decide +kernel) rfl
theorem wd_263 : (.instantiable "QuotaLaws$Odds" 3 : Cond) ∈ tbg := tbg_in2 263 (by decide +kernel) rfl
theorem wd_264 : (.methodLinkNest "QuotaLaws" 56 y_Odds_new "QuotaLaws" : Cond) ∈ nests := nests_in2 264 (by decide +kernel) rfl
theorem wd_265 : (.instanceMethod y_Odds_new : Cond) ∈ tbg := tbg_in2 265 (by decide +kernel) rfl
set_option maxRecDepth 100000 in
theorem wd_266 : (.code y_Odds_new prog_2_method_1_code 1 none : Cond) ∈ tbg := tbg_in2 266 rfl rfl
theorem wd_267 : (.methodLink "QuotaLaws$Odds" 3 Lib.objectInit : Cond) ∈ tbg := tbg_in2 267 (by decide +kernel) rfl
theorem wd_268 : (.fieldLink "QuotaLaws$Odds" 43 "QuotaLaws$Odds" "over" "J" : Cond) ∈ tbg := tbg_in2 268 (by decide +kernel) rfl
theorem wd_269 : (.fieldLink "QuotaLaws" 229 "QuotaLaws$Odds" "over" "J" : Cond) ∈ tbg := tbg_in2 269 (by decide +kernel) rfl
theorem wd_270 : (.fieldLink "QuotaLaws$Odds" 21 "QuotaLaws$Odds" "under" "J" : Cond) ∈ tbg := tbg_in2 270 (by decide +kernel) rfl
theorem wd_271 : (.fieldLink "QuotaLaws" 233 "QuotaLaws$Odds" "under" "J" : Cond) ∈ tbg := tbg_in2 271 (by decide +kernel) rfl
theorem wd_272 : (.fieldLink "QuotaLaws$Odds" 11 "QuotaLaws$Odds" "weights" "[J" : Cond) ∈ tbg := tbg_in2 272 (by decide +kernel) rfl
theorem wd_280 : (.instantiable "QuotaLaws$Sheet" 3 : Cond) ∈ tbg := tbg_in2 280 (by decide +kernel) rfl
theorem wd_281 : (.methodLinkNest "QuotaLaws" 61 y_Sheet_new "QuotaLaws" : Cond) ∈ nests := nests_in2 281 (by decide +kernel) rfl
theorem wd_282 : (.instanceMethod y_Sheet_new : Cond) ∈ tbg := tbg_in2 282 (by decide +kernel) rfl
set_option maxRecDepth 100000 in
theorem wd_283 : (.code y_Sheet_new prog_6_method_1_code 1 none : Cond) ∈ tbg := tbg_in2 283 rfl rfl
theorem wd_284 : (.methodLink "QuotaLaws$Sheet" 3 Lib.objectInit : Cond) ∈ tbg := tbg_in2 284 (by decide +kernel) rfl
theorem wd_285 : (.fieldLink "QuotaLaws$Sheet" 9 "QuotaLaws$Sheet" "size" "I" : Cond) ∈ tbg := tbg_in2 285 (by decide +kernel) rfl
theorem wd_286 : (.fieldLink "QuotaLaws" 286 "QuotaLaws$Sheet" "size" "I" : Cond) ∈ tbg := tbg_in2 286 (by decide +kernel) rfl
theorem wd_287 : (.fieldLink "QuotaLaws$Sheet" 19 "QuotaLaws$Sheet" "lane" "I" : Cond) ∈ tbg := tbg_in2 287 (by decide +kernel) rfl
theorem wd_288 : (.fieldLink "QuotaLaws$Sheet" 15 "QuotaLaws$Sheet" "cells" "[I" : Cond) ∈ tbg := tbg_in2 288 (by decide +kernel) rfl
theorem wd_296 : (.fieldLink "QuotaLaws" 10 "QuotaLaws" "reader" "LQuotaLaws$Reader;" : Cond) ∈ tbg := tbg_in2 296 (by decide +kernel) rfl
theorem wd_297 : (.fieldLink "QuotaLaws" 19 "QuotaLaws" "now" "LQuotaLaws$Realm;" : Cond) ∈ tbg := tbg_in2 297 (by decide +kernel) rfl
theorem wd_298 : (.fieldLink "QuotaLaws" 23 "QuotaLaws" "trial" "LQuotaLaws$Realm;" : Cond) ∈ tbg := tbg_in2 298 (by decide +kernel) rfl
theorem wd_299 : (.fieldLink "QuotaLaws" 26 "QuotaLaws" "images" "[LQuotaLaws$Realm;" : Cond) ∈ tbg := tbg_in2 299 (by decide +kernel) rfl
theorem wd_300 : (.fieldLink "QuotaLaws" 30 "QuotaLaws" "kept" "[Z" : Cond) ∈ tbg := tbg_in2 300 (by decide +kernel) rfl
theorem wd_301 : (.fieldLink "QuotaLaws" 36 "QuotaLaws" "sheets" "[LQuotaLaws$Sheet;" : Cond) ∈ tbg := tbg_in2 301 (by decide +kernel) rfl
theorem wd_302 : (.fieldLink "QuotaLaws" 43 "QuotaLaws" "planner" "LQuotaLaws$Planner;" : Cond) ∈ tbg := tbg_in2 302 (by decide +kernel) rfl
theorem wd_303 : (.fieldLink "QuotaLaws" 50 "QuotaLaws" "tables" "LQuotaLaws$Tables;" : Cond) ∈ tbg := tbg_in2 303 (by decide +kernel) rfl
theorem wd_304 : (.fieldLink "QuotaLaws" 57 "QuotaLaws" "odds" "LQuotaLaws$Odds;" : Cond) ∈ tbg := tbg_in2 304 (by decide +kernel) rfl
theorem wd_305 : (.fieldLink "QuotaLaws" 277 "QuotaLaws" "tornFault" "I" : Cond) ∈ tbg := tbg_in2 305 (by decide +kernel) rfl
theorem wd_331 : (.methodLink "QuotaLaws" 62 y_Q_isWithin : Cond) ∈ tbg := tbg_in2 331 (by decide +kernel) rfl
theorem wd_332 : (.static y_Q_isWithin : Cond) ∈ tbg := tbg_in2 332 (by decide +kernel) rfl
set_option maxRecDepth 100000 in
theorem wd_333 : (.code y_Q_isWithin prog_1_method_41_code 3 (some .boolean) : Cond) ∈ tbg := tbg_in2 333 rfl rfl
theorem wd_334 : (.methodLink "QuotaLaws" 66 y_Reader_append : Cond) ∈ tbg := tbg_in2 334 (by decide +kernel) rfl
theorem wd_335 : (.instanceMethod y_Reader_append : Cond) ∈ tbg := tbg_in2 335 (by decide +kernel) rfl
theorem wd_336 : (.selects "QuotaLaws$Reader" y_Reader_append y_Reader_append : Cond) ∈ tbg := tbg_in2 336 (by decide +kernel) rfl
set_option maxRecDepth 100000 in
theorem wd_337 : (.code y_Reader_append prog_4_method_2_code 2 (some .boolean) : Cond) ∈ tbg := tbg_in2 337 rfl rfl
theorem wd_346 : (.methodLink "QuotaLaws" 74 y_Reader_readInto : Cond) ∈ tbg := tbg_in2 346 (by decide +kernel) rfl
theorem wd_347 : (.instanceMethod y_Reader_readInto : Cond) ∈ tbg := tbg_in2 347 (by decide +kernel) rfl
theorem wd_348 : (.selects "QuotaLaws$Reader" y_Reader_readInto y_Reader_readInto : Cond) ∈ tbg := tbg_in2 348 (by decide +kernel) rfl
set_option maxRecDepth 100000 in
theorem wd_349 : (.code y_Reader_readInto prog_4_method_3_code 4 (some .boolean) : Cond) ∈ tbg := tbg_in2 349 rfl rfl
theorem wd_350 : (.methodLink "QuotaLaws$Reader" 19 y_Realm_empty : Cond) ∈ tbg := tbg_in2 350 (by decide +kernel) rfl
theorem wd_351 : (.instanceMethod y_Realm_empty : Cond) ∈ tbg := tbg_in2 351 (by decide +kernel) rfl
theorem wd_352 : (.selects "QuotaLaws$Realm" y_Realm_empty y_Realm_empty : Cond) ∈ tbg := tbg_in2 352 (by decide +kernel) rfl
set_option maxRecDepth 100000 in
theorem wd_353 : (.code y_Realm_empty prog_5_method_2_code 1 none : Cond) ∈ tbg := tbg_in2 353 rfl rfl
theorem wd_354 : (.methodLink "QuotaLaws$Realm" 77 y_Arrays_fillI : Cond) ∈ tbg := tbg_in2 354 (by decide +kernel) rfl
theorem wd_355 : (.static y_Arrays_fillI : Cond) ∈ tbg := tbg_in2 355 (by decide +kernel) rfl
set_option maxRecDepth 100000 in
theorem wd_356 : (.code y_Arrays_fillI prog_17_method_103_code 4 none : Cond) ∈ tbg := tbg_in2 356 rfl rfl
theorem wd_357 : (.methodLink "QuotaLaws$Reader" 36 y_Reader_takeToken : Cond) ∈ tbg := tbg_in2 357 (by decide +kernel) rfl
theorem wd_359 : (.instanceMethod y_Reader_takeToken : Cond) ∈ tbg := tbg_in2 359 (by decide +kernel) rfl
set_option maxRecDepth 100000 in
theorem wd_360 : (.code y_Reader_takeToken prog_4_method_17_code 1 (some .boolean) : Cond) ∈ tbg := tbg_in2 360 rfl rfl
theorem wd_361 : (.methodLink "QuotaLaws$Reader" 176 y_Reader_passRun : Cond) ∈ tbg := tbg_in2 361 (by decide +kernel) rfl
theorem wd_363 : (.instanceMethod y_Reader_passRun : Cond) ∈ tbg := tbg_in2 363 (by decide +kernel) rfl
set_option maxRecDepth 100000 in
theorem wd_364 : (.code y_Reader_passRun prog_4_method_19_code 3 none : Cond) ∈ tbg := tbg_in2 364 rfl rfl
theorem wd_365 : (.methodLink "QuotaLaws$Reader" 180 y_Reader_kindHere : Cond) ∈ tbg := tbg_in2 365 (by decide +kernel) rfl
theorem wd_367 : (.instanceMethod y_Reader_kindHere : Cond) ∈ tbg := tbg_in2 367 (by decide +kernel) rfl
set_option maxRecDepth 100000 in
theorem wd_368 : (.code y_Reader_kindHere prog_4_method_18_code 2 (some .int) : Cond) ∈ tbg := tbg_in2 368 rfl rfl
theorem wd_369 : (.methodLink "QuotaLaws$Reader" 183 y_Reader_valueOfRun : Cond) ∈ tbg := tbg_in2 369 (by decide +kernel) rfl
theorem wd_371 : (.instanceMethod y_Reader_valueOfRun : Cond) ∈ tbg := tbg_in2 371 (by decide +kernel) rfl
set_option maxRecDepth 100000 in
theorem wd_372 : (.code y_Reader_valueOfRun prog_4_method_20_code 3 (some .int) : Cond) ∈ tbg := tbg_in2 372 rfl rfl
theorem wd_373 : (.methodLink "QuotaLaws$Reader" 50 y_Reader_fail : Cond) ∈ tbg := tbg_in2 373 (by decide +kernel) rfl
theorem wd_375 : (.instanceMethod y_Reader_fail : Cond) ∈ tbg := tbg_in2 375 (by decide +kernel) rfl
set_option maxRecDepth 100000 in
theorem wd_376 : (.code y_Reader_fail prog_4_method_21_code 3 (some .boolean) : Cond) ∈ tbg := tbg_in2 376 rfl rfl
theorem wd_377 : (.methodLink "QuotaLaws$Reader" 43 y_Reader_takeLine : Cond) ∈ tbg := tbg_in2 377 (by decide +kernel) rfl
theorem wd_379 : (.instanceMethod y_Reader_takeLine : Cond) ∈ tbg := tbg_in2 379 (by decide +kernel) rfl
set_option maxRecDepth 100000 in
theorem wd_380 : (.code y_Reader_takeLine prog_4_method_4_code 2 (some .boolean) : Cond) ∈ tbg := tbg_in2 380 rfl rfl
theorem wd_382 : (.methodLink "QuotaLaws$Reader" 56 y_Reader_isWord : Cond) ∈ tbg := tbg_in2 382 (by decide +kernel) rfl
theorem wd_384 : (.instanceMethod y_Reader_isWord : Cond) ∈ tbg := tbg_in2 384 (by decide +kernel) rfl
set_option maxRecDepth 100000 in
theorem wd_385 : (.code y_Reader_isWord prog_4_method_16_code 3 (some .boolean) : Cond) ∈ tbg := tbg_in2 385 rfl rfl
theorem wd_386 : (.methodLink "QuotaLaws$Reader" 167 y_String_length : Cond) ∈ tbg := tbg_in2 386 (by decide +kernel) rfl
theorem wd_387 : (.instanceMethod y_String_length : Cond) ∈ tbg := tbg_in2 387 (by decide +kernel) rfl
theorem wd_388 : (.selects "java/lang/String" y_String_length y_String_length : Cond) ∈ tbg := tbg_in2 388 (by decide +kernel) rfl
set_option maxRecDepth 100000 in
theorem wd_389 : (.code y_String_length prog_13_method_54_code 1 (some .int) : Cond) ∈ tbg := tbg_in2 389 rfl rfl
theorem wd_390 : (.methodLink "java/lang/String" 335 y_String_coder : Cond) ∈ tbg := tbg_in2 390 (by decide +kernel) rfl
theorem wd_391 : (.instanceMethod y_String_coder : Cond) ∈ tbg := tbg_in2 391 (by decide +kernel) rfl
theorem wd_392 : (.selects "java/lang/String" y_String_coder y_String_coder : Cond) ∈ tbg := tbg_in2 392 (by decide +kernel) rfl
set_option maxRecDepth 100000 in
theorem wd_393 : (.code y_String_coder prog_13_method_152_code 1 (some .byte) : Cond) ∈ tbg := tbg_in2 393 rfl rfl
theorem wd_394 : (.fieldLink "java/lang/String" 38 "java/lang/String" "COMPACT_STRINGS" "Z" : Cond) ∈ tbg := tbg_in2 394 (by decide +kernel) rfl
theorem wd_396 : (.methodLink "QuotaLaws$Reader" 172 y_String_charAt : Cond) ∈ tbg := tbg_in2 396 (by decide +kernel) rfl
theorem wd_397 : (.instanceMethod y_String_charAt : Cond) ∈ tbg := tbg_in2 397 (by decide +kernel) rfl
theorem wd_398 : (.selects "java/lang/String" y_String_charAt y_String_charAt : Cond) ∈ tbg := tbg_in2 398 (by decide +kernel) rfl
set_option maxRecDepth 100000 in
theorem wd_399 : (.code y_String_charAt prog_13_method_56_code 2 (some .char) : Cond) ∈ tbg := tbg_in2 399 rfl rfl
theorem wd_400 : (.methodLink "java/lang/String" 492 y_String_isLatin1 : Cond) ∈ tbg := tbg_in2 400 (by decide +kernel) rfl
theorem wd_401 : (.instanceMethod y_String_isLatin1 : Cond) ∈ tbg := tbg_in2 401 (by decide +kernel) rfl
theorem wd_402 : (.selects "java/lang/String" y_String_isLatin1 y_String_isLatin1 : Cond) ∈ tbg := tbg_in2 402 (by decide +kernel) rfl
set_option maxRecDepth 100000 in
theorem wd_403 : (.code y_String_isLatin1 prog_13_method_154_code 1 (some .boolean) : Cond) ∈ tbg := tbg_in2 403 rfl rfl
theorem wd_404 : (.methodLink "java/lang/String" 495 y_StringLatin1_charAt : Cond) ∈ tbg := tbg_in2 404 (by decide +kernel) rfl
theorem wd_405 : (.static y_StringLatin1_charAt : Cond) ∈ tbg := tbg_in2 405 (by decide +kernel) rfl
set_option maxRecDepth 100000 in
theorem wd_406 : (.code y_StringLatin1_charAt prog_14_method_2_code 2 (some .char) : Cond) ∈ tbg := tbg_in2 406 rfl rfl
theorem wd_407 : (.methodLink "java/lang/StringLatin1" 9 y_String_checkIndex : Cond) ∈ tbg := tbg_in2 407 (by decide +kernel) rfl
theorem wd_408 : (.static y_String_checkIndex : Cond) ∈ tbg := tbg_in2 408 (by decide +kernel) rfl
set_option maxRecDepth 100000 in
theorem wd_409 : (.code y_String_checkIndex prog_13_method_155_code 2 none : Cond) ∈ tbg := tbg_in2 409 rfl rfl
theorem wd_410 : (.fieldLink "java/lang/String" 1053 "jdk/internal/util/Preconditions" "SIOOBE_FORMATTER" "Ljava/util/function/BiFunction;" : Cond) ∈ tbg := tbg_in2 410 (by decide +kernel) rfl
theorem wd_412 : (.methodLink "java/lang/String" 1059 y_Preconditions_checkIndex : Cond) ∈ tbg := tbg_in2 412 (by decide +kernel) rfl
theorem wd_413 : (.static y_Preconditions_checkIndex : Cond) ∈ tbg := tbg_in2 413 (by decide +kernel) rfl
set_option maxRecDepth 100000 in
theorem wd_414 : (.code y_Preconditions_checkIndex prog_18_method_11_code 3 (some .int) : Cond) ∈ tbg := tbg_in2 414 rfl rfl
theorem wd_415 : (.methodLink "java/lang/String" 498 y_StringUTF16_charAt : Cond) ∈ tbg := tbg_in2 415 (by decide +kernel) rfl
theorem wd_434 : (.methodLink "QuotaLaws$Reader" 63 y_Reader_takeLaw : Cond) ∈ tbg := tbg_in2 434 (by decide +kernel) rfl
theorem wd_436 : (.instanceMethod y_Reader_takeLaw : Cond) ∈ tbg := tbg_in2 436 (by decide +kernel) rfl
set_option maxRecDepth 100000 in
theorem wd_437 : (.code y_Reader_takeLaw prog_4_method_5_code 3 (some .boolean) : Cond) ∈ tbg := tbg_in2 437 rfl rfl
theorem wd_438 : (.methodLink "QuotaLaws$Reader" 95 y_Reader_takeNumber : Cond) ∈ tbg := tbg_in2 438 (by decide +kernel) rfl
theorem wd_440 : (.instanceMethod y_Reader_takeNumber : Cond) ∈ tbg := tbg_in2 440 (by decide +kernel) rfl
set_option maxRecDepth 100000 in
theorem wd_441 : (.code y_Reader_takeNumber prog_4_method_13_code 3 (some .boolean) : Cond) ∈ tbg := tbg_in2 441 rfl rfl
theorem wd_442 : (.methodLink "QuotaLaws$Reader" 120 y_Reader_isBounded : Cond) ∈ tbg := tbg_in2 442 (by decide +kernel) rfl
theorem wd_444 : (.instanceMethod y_Reader_isBounded : Cond) ∈ tbg := tbg_in2 444 (by decide +kernel) rfl
set_option maxRecDepth 100000 in
theorem wd_445 : (.code y_Reader_isBounded prog_4_method_14_code 3 (some .boolean) : Cond) ∈ tbg := tbg_in2 445 rfl rfl
theorem wd_446 : (.methodLinkNest "QuotaLaws$Reader" 163 y_Q_isWithin "QuotaLaws" : Cond) ∈ nests := nests_in2 446 (by decide +kernel) rfl
theorem wd_447 : (.methodLink "QuotaLaws$Reader" 101 y_Reader_putInto : Cond) ∈ tbg := tbg_in2 447 (by decide +kernel) rfl
theorem wd_449 : (.instanceMethod y_Reader_putInto : Cond) ∈ tbg := tbg_in2 449 (by decide +kernel) rfl
set_option maxRecDepth 100000 in
theorem wd_450 : (.code y_Reader_putInto prog_4_method_12_code 3 (some .boolean) : Cond) ∈ tbg := tbg_in2 450 rfl rfl
theorem wd_451 : (.methodLink "QuotaLaws$Reader" 114 y_Reader_takeCarried : Cond) ∈ tbg := tbg_in2 451 (by decide +kernel) rfl
theorem wd_453 : (.instanceMethod y_Reader_takeCarried : Cond) ∈ tbg := tbg_in2 453 (by decide +kernel) rfl
set_option maxRecDepth 100000 in
theorem wd_454 : (.code y_Reader_takeCarried prog_4_method_6_code 3 (some .boolean) : Cond) ∈ tbg := tbg_in2 454 rfl rfl
theorem wd_455 : (.methodLink "QuotaLaws$Reader" 117 y_Reader_isStop : Cond) ∈ tbg := tbg_in2 455 (by decide +kernel) rfl
theorem wd_457 : (.instanceMethod y_Reader_isStop : Cond) ∈ tbg := tbg_in2 457 (by decide +kernel) rfl
set_option maxRecDepth 100000 in
theorem wd_458 : (.code y_Reader_isStop prog_4_method_15_code 1 (some .boolean) : Cond) ∈ tbg := tbg_in2 458 rfl rfl
theorem wd_460 : (.methodLink "QuotaLaws$Reader" 72 y_Reader_takeOne : Cond) ∈ tbg := tbg_in2 460 (by decide +kernel) rfl
theorem wd_462 : (.instanceMethod y_Reader_takeOne : Cond) ∈ tbg := tbg_in2 462 (by decide +kernel) rfl
set_option maxRecDepth 100000 in
theorem wd_463 : (.code y_Reader_takeOne prog_4_method_7_code 5 (some .boolean) : Cond) ∈ tbg := tbg_in2 463 rfl rfl
theorem wd_464 : (.methodLink "QuotaLaws$Reader" 141 y_Reader_addLaw : Cond) ∈ tbg := tbg_in2 464 (by decide +kernel) rfl
theorem wd_466 : (.instanceMethod y_Reader_addLaw : Cond) ∈ tbg := tbg_in2 466 (by decide +kernel) rfl
set_option maxRecDepth 100000 in
theorem wd_467 : (.code y_Reader_addLaw prog_4_method_10_code 3 (some .boolean) : Cond) ∈ tbg := tbg_in2 467 rfl rfl
theorem wd_468 : (.methodLinkNest "QuotaLaws$Reader" 150 y_Q_hasBit "QuotaLaws" : Cond) ∈ nests := nests_in2 468 (by decide +kernel) rfl
theorem wd_469 : (.static y_Q_hasBit : Cond) ∈ tbg := tbg_in2 469 (by decide +kernel) rfl
set_option maxRecDepth 100000 in
theorem wd_470 : (.code y_Q_hasBit prog_1_method_42_code 2 (some .boolean) : Cond) ∈ tbg := tbg_in2 470 rfl rfl
theorem wd_472 : (.methodLink "QuotaLaws$Reader" 77 y_Reader_takeWant : Cond) ∈ tbg := tbg_in2 472 (by decide +kernel) rfl
theorem wd_474 : (.instanceMethod y_Reader_takeWant : Cond) ∈ tbg := tbg_in2 474 (by decide +kernel) rfl
set_option maxRecDepth 100000 in
theorem wd_475 : (.code y_Reader_takeWant prog_4_method_8_code 3 (some .boolean) : Cond) ∈ tbg := tbg_in2 475 rfl rfl
theorem wd_477 : (.methodLink "QuotaLaws$Reader" 82 y_Reader_takeWatch : Cond) ∈ tbg := tbg_in2 477 (by decide +kernel) rfl
theorem wd_479 : (.instanceMethod y_Reader_takeWatch : Cond) ∈ tbg := tbg_in2 479 (by decide +kernel) rfl
set_option maxRecDepth 100000 in
theorem wd_480 : (.code y_Reader_takeWatch prog_4_method_9_code 2 (some .boolean) : Cond) ∈ tbg := tbg_in2 480 rfl rfl
theorem wd_481 : (.methodLink "QuotaLaws$Reader" 47 y_Reader_allThere : Cond) ∈ tbg := tbg_in2 481 (by decide +kernel) rfl
theorem wd_482 : (.static y_Reader_allThere : Cond) ∈ tbg := tbg_in2 482 (by decide +kernel) rfl
set_option maxRecDepth 100000 in
theorem wd_483 : (.code y_Reader_allThere prog_4_method_11_code 4 (some .boolean) : Cond) ∈ tbg := tbg_in2 483 rfl rfl
theorem wd_484 : (.methodLinkNest "QuotaLaws$Reader" 153 y_Q_isPart "QuotaLaws" : Cond) ∈ nests := nests_in2 484 (by decide +kernel) rfl
theorem wd_485 : (.static y_Q_isPart : Cond) ∈ tbg := tbg_in2 485 (by decide +kernel) rfl
set_option maxRecDepth 100000 in
theorem wd_486 : (.code y_Q_isPart prog_1_method_45_code 2 (some .boolean) : Cond) ∈ tbg := tbg_in2 486 rfl rfl
theorem wd_487 : (.methodLink "QuotaLaws$Reader" 156 y_Realm_hasLaw : Cond) ∈ tbg := tbg_in2 487 (by decide +kernel) rfl
theorem wd_488 : (.instanceMethod y_Realm_hasLaw : Cond) ∈ tbg := tbg_in2 488 (by decide +kernel) rfl
theorem wd_489 : (.selects "QuotaLaws$Realm" y_Realm_hasLaw y_Realm_hasLaw : Cond) ∈ tbg := tbg_in2 489 (by decide +kernel) rfl
set_option maxRecDepth 100000 in
theorem wd_490 : (.code y_Realm_hasLaw prog_5_method_4_code 2 (some .boolean) : Cond) ∈ tbg := tbg_in2 490 rfl rfl
theorem wd_491 : (.methodLink "QuotaLaws$Reader" 160 y_Realm_hasOne : Cond) ∈ tbg := tbg_in2 491 (by decide +kernel) rfl
theorem wd_492 : (.instanceMethod y_Realm_hasOne : Cond) ∈ tbg := tbg_in2 492 (by decide +kernel) rfl
theorem wd_493 : (.selects "QuotaLaws$Realm" y_Realm_hasOne y_Realm_hasOne : Cond) ∈ tbg := tbg_in2 493 (by decide +kernel) rfl
set_option maxRecDepth 100000 in
theorem wd_494 : (.code y_Realm_hasOne prog_5_method_5_code 2 (some .boolean) : Cond) ∈ tbg := tbg_in2 494 rfl rfl
theorem wd_495 : (.methodLink "QuotaLaws" 81 y_Realm_copyFrom : Cond) ∈ tbg := tbg_in2 495 (by decide +kernel) rfl
theorem wd_496 : (.instanceMethod y_Realm_copyFrom : Cond) ∈ tbg := tbg_in2 496 (by decide +kernel) rfl
theorem wd_497 : (.selects "QuotaLaws$Realm" y_Realm_copyFrom y_Realm_copyFrom : Cond) ∈ tbg := tbg_in2 497 (by decide +kernel) rfl
set_option maxRecDepth 100000 in
theorem wd_498 : (.code y_Realm_copyFrom prog_5_method_3_code 2 none : Cond) ∈ tbg := tbg_in2 498 rfl rfl
theorem wd_499 : (.methodLink "QuotaLaws$Realm" 83 arraycopyName : Cond) ∈ tbg := tbg_in2 499 (by decide +kernel) rfl
theorem wd_500 : (.static arraycopyName : Cond) ∈ tbg := tbg_in2 500 (by decide +kernel) rfl
theorem wd_501 : (.native arraycopyName : Cond) ∈ tbg := tbg_in2 501 (by decide +kernel) rfl
theorem wd_502 : (.methodLink "QuotaLaws$Realm" 89 y_Sightings_copyFrom : Cond) ∈ tbg := tbg_in2 502 (by decide +kernel) rfl
theorem wd_503 : (.instanceMethod y_Sightings_copyFrom : Cond) ∈ tbg := tbg_in2 503 (by decide +kernel) rfl
theorem wd_504 : (.selects "QuotaLaws$Sightings" y_Sightings_copyFrom y_Sightings_copyFrom : Cond) ∈ tbg := tbg_in2 504 (by decide +kernel) rfl
set_option maxRecDepth 100000 in
theorem wd_505 : (.code y_Sightings_copyFrom prog_7_method_4_code 2 none : Cond) ∈ tbg := tbg_in2 505 rfl rfl
theorem wd_506 : (.methodLink "QuotaLaws$Sightings" 25 arraycopyName : Cond) ∈ tbg := tbg_in2 506 (by decide +kernel) rfl
theorem wd_519 : (.methodLink "QuotaLaws" 109 y_Realm_hasLaw : Cond) ∈ tbg := tbg_in2 519 (by decide +kernel) rfl
theorem wd_520 : (.methodLink "QuotaLaws" 128 y_Realm_needOf : Cond) ∈ tbg := tbg_in2 520 (by decide +kernel) rfl
theorem wd_521 : (.instanceMethod y_Realm_needOf : Cond) ∈ tbg := tbg_in2 521 (by decide +kernel) rfl
theorem wd_522 : (.selects "QuotaLaws$Realm" y_Realm_needOf y_Realm_needOf : Cond) ∈ tbg := tbg_in2 522 (by decide +kernel) rfl
set_option maxRecDepth 100000 in
theorem wd_523 : (.code y_Realm_needOf prog_5_method_10_code 4 (some .int) : Cond) ∈ tbg := tbg_in2 523 rfl rfl
theorem wd_524 : (.methodLinkNest "QuotaLaws$Realm" 104 y_Q_hasBit "QuotaLaws" : Cond) ∈ nests := nests_in2 524 (by decide +kernel) rfl
theorem wd_525 : (.methodLink "QuotaLaws$Realm" 108 y_Realm_brokenBy : Cond) ∈ tbg := tbg_in2 525 (by decide +kernel) rfl
theorem wd_526 : (.instanceMethod y_Realm_brokenBy : Cond) ∈ tbg := tbg_in2 526 (by decide +kernel) rfl
theorem wd_527 : (.selects "QuotaLaws$Realm" y_Realm_brokenBy y_Realm_brokenBy : Cond) ∈ tbg := tbg_in2 527 (by decide +kernel) rfl
set_option maxRecDepth 100000 in
theorem wd_528 : (.code y_Realm_brokenBy prog_5_method_7_code 3 (some .int) : Cond) ∈ tbg := tbg_in2 528 rfl rfl
theorem wd_529 : (.methodLink "QuotaLaws$Realm" 112 Lib.Math.max.name : Cond) ∈ tbg := tbg_in2 529 (by decide +kernel) rfl
theorem wd_530 : (.static Lib.Math.max.name : Cond) ∈ tbg := tbg_in2 530 (by decide +kernel) rfl
set_option maxRecDepth 100000 in
theorem wd_531 : (.code Lib.Math.max.name Lib.Math.max.code 2 (some .int) : Cond) ∈ tbg := tbg_in2 531 rfl rfl
theorem wd_532 : (.methodLink "QuotaLaws" 132 y_Realm_chainOf : Cond) ∈ tbg := tbg_in2 532 (by decide +kernel) rfl
theorem wd_533 : (.instanceMethod y_Realm_chainOf : Cond) ∈ tbg := tbg_in2 533 (by decide +kernel) rfl
theorem wd_534 : (.selects "QuotaLaws$Realm" y_Realm_chainOf y_Realm_chainOf : Cond) ∈ tbg := tbg_in2 534 (by decide +kernel) rfl
set_option maxRecDepth 100000 in
theorem wd_535 : (.code y_Realm_chainOf prog_5_method_13_code 5 (some .int) : Cond) ∈ tbg := tbg_in2 535 rfl rfl
theorem wd_536 : (.methodLink "QuotaLaws$Realm" 97 y_Realm_hasLaw : Cond) ∈ tbg := tbg_in2 536 (by decide +kernel) rfl
theorem wd_541 : (.methodLink "QuotaLaws" 135 y_Realm_hasOne : Cond) ∈ tbg := tbg_in2 541 (by decide +kernel) rfl
theorem wd_542 : (.methodLink "QuotaLaws" 156 y_Realm_brokenByOne : Cond) ∈ tbg := tbg_in2 542 (by decide +kernel) rfl
theorem wd_543 : (.instanceMethod y_Realm_brokenByOne : Cond) ∈ tbg := tbg_in2 543 (by decide +kernel) rfl
theorem wd_544 : (.selects "QuotaLaws$Realm" y_Realm_brokenByOne y_Realm_brokenByOne : Cond) ∈ tbg := tbg_in2 544 (by decide +kernel) rfl
set_option maxRecDepth 100000 in
theorem wd_545 : (.code y_Realm_brokenByOne prog_5_method_8_code 4 (some .int) : Cond) ∈ tbg := tbg_in2 545 rfl rfl
theorem wd_546 : (.methodLink "QuotaLaws" 159 y_Realm_breakable : Cond) ∈ tbg := tbg_in2 546 (by decide +kernel) rfl
theorem wd_547 : (.instanceMethod y_Realm_breakable : Cond) ∈ tbg := tbg_in2 547 (by decide +kernel) rfl
theorem wd_548 : (.selects "QuotaLaws$Realm" y_Realm_breakable y_Realm_breakable : Cond) ∈ tbg := tbg_in2 548 (by decide +kernel) rfl
set_option maxRecDepth 100000 in
theorem wd_549 : (.code y_Realm_breakable prog_5_method_18_code 4 (some .int) : Cond) ∈ tbg := tbg_in2 549 rfl rfl
theorem wd_550 : (.methodLink "QuotaLaws$Realm" 129 y_Realm_ableAlone : Cond) ∈ tbg := tbg_in2 550 (by decide +kernel) rfl
theorem wd_551 : (.instanceMethod y_Realm_ableAlone : Cond) ∈ tbg := tbg_in2 551 (by decide +kernel) rfl
theorem wd_552 : (.selects "QuotaLaws$Realm" y_Realm_ableAlone y_Realm_ableAlone : Cond) ∈ tbg := tbg_in2 552 (by decide +kernel) rfl
set_option maxRecDepth 100000 in
theorem wd_553 : (.code y_Realm_ableAlone prog_5_method_16_code 3 (some .int) : Cond) ∈ tbg := tbg_in2 553 rfl rfl
theorem wd_554 : (.methodLink "QuotaLaws$Realm" 120 y_Realm_roomOf : Cond) ∈ tbg := tbg_in2 554 (by decide +kernel) rfl
theorem wd_555 : (.instanceMethod y_Realm_roomOf : Cond) ∈ tbg := tbg_in2 555 (by decide +kernel) rfl
theorem wd_556 : (.selects "QuotaLaws$Realm" y_Realm_roomOf y_Realm_roomOf : Cond) ∈ tbg := tbg_in2 556 (by decide +kernel) rfl
set_option maxRecDepth 100000 in
theorem wd_557 : (.code y_Realm_roomOf prog_5_method_14_code 4 (some .int) : Cond) ∈ tbg := tbg_in2 557 rfl rfl
theorem wd_558 : (.methodLink "QuotaLaws$Realm" 123 y_Realm_timeLeft : Cond) ∈ tbg := tbg_in2 558 (by decide +kernel) rfl
theorem wd_559 : (.instanceMethod y_Realm_timeLeft : Cond) ∈ tbg := tbg_in2 559 (by decide +kernel) rfl
theorem wd_560 : (.selects "QuotaLaws$Realm" y_Realm_timeLeft y_Realm_timeLeft : Cond) ∈ tbg := tbg_in2 560 (by decide +kernel) rfl
set_option maxRecDepth 100000 in
theorem wd_561 : (.code y_Realm_timeLeft prog_5_method_15_code 2 (some .int) : Cond) ∈ tbg := tbg_in2 561 rfl rfl
theorem wd_562 : (.methodLink "QuotaLaws$Realm" 100 y_Realm_brokenByOne : Cond) ∈ tbg := tbg_in2 562 (by decide +kernel) rfl
theorem wd_563 : (.methodLink "QuotaLaws$Realm" 126 Lib.Math.min.name : Cond) ∈ tbg := tbg_in2 563 (by decide +kernel) rfl
theorem wd_564 : (.static Lib.Math.min.name : Cond) ∈ tbg := tbg_in2 564 (by decide +kernel) rfl
set_option maxRecDepth 100000 in
theorem wd_565 : (.code Lib.Math.min.name Lib.Math.min.code 2 (some .int) : Cond) ∈ tbg := tbg_in2 565 rfl rfl
theorem wd_570 : (.methodLink "QuotaLaws" 162 y_Realm_hasBoth : Cond) ∈ tbg := tbg_in2 570 (by decide +kernel) rfl
theorem wd_571 : (.instanceMethod y_Realm_hasBoth : Cond) ∈ tbg := tbg_in2 571 (by decide +kernel) rfl
theorem wd_572 : (.selects "QuotaLaws$Realm" y_Realm_hasBoth y_Realm_hasBoth : Cond) ∈ tbg := tbg_in2 572 (by decide +kernel) rfl
set_option maxRecDepth 100000 in
theorem wd_573 : (.code y_Realm_hasBoth prog_5_method_6_code 3 (some .boolean) : Cond) ∈ tbg := tbg_in2 573 rfl rfl
theorem wd_574 : (.methodLink "QuotaLaws$Realm" 93 y_Realm_hasOne : Cond) ∈ tbg := tbg_in2 574 (by decide +kernel) rfl
theorem wd_575 : (.methodLink "QuotaLaws" 166 y_Realm_brokenBy : Cond) ∈ tbg := tbg_in2 575 (by decide +kernel) rfl
theorem wd_588 : (.methodLink "QuotaLaws" 170 y_Q_bitOf : Cond) ∈ tbg := tbg_in2 588 (by decide +kernel) rfl
theorem wd_589 : (.static y_Q_bitOf : Cond) ∈ tbg := tbg_in2 589 (by decide +kernel) rfl
set_option maxRecDepth 100000 in
theorem wd_590 : (.code y_Q_bitOf prog_1_method_43_code 2 (some .int) : Cond) ∈ tbg := tbg_in2 590 rfl rfl
theorem wd_591 : (.methodLink "QuotaLaws" 173 y_Q_withBit : Cond) ∈ tbg := tbg_in2 591 (by decide +kernel) rfl
theorem wd_592 : (.static y_Q_withBit : Cond) ∈ tbg := tbg_in2 592 (by decide +kernel) rfl
set_option maxRecDepth 100000 in
theorem wd_593 : (.code y_Q_withBit prog_1_method_44_code 3 (some .int) : Cond) ∈ tbg := tbg_in2 593 rfl rfl
theorem wd_614 : (.methodLink "QuotaLaws" 177 y_Q_hasBit : Cond) ∈ tbg := tbg_in2 614 (by decide +kernel) rfl
theorem wd_615 : (.methodLink "QuotaLaws" 180 y_Integer_bitCount : Cond) ∈ tbg := tbg_in2 615 (by decide +kernel) rfl
theorem wd_616 : (.static y_Integer_bitCount : Cond) ∈ tbg := tbg_in2 616 (by decide +kernel) rfl
set_option maxRecDepth 100000 in
theorem wd_617 : (.code y_Integer_bitCount prog_11_method_49_code 1 (some .int) : Cond) ∈ tbg := tbg_in2 617 rfl rfl
theorem wd_618 : (.constant "java/lang/Integer" 265 (1431655765) : Cond) ∈ tbg := tbg_in2 618 (by decide +kernel) rfl
theorem wd_619 : (.constant "java/lang/Integer" 266 (858993459) : Cond) ∈ tbg := tbg_in2 619 (by decide +kernel) rfl
theorem wd_620 : (.constant "java/lang/Integer" 267 (252645135) : Cond) ∈ tbg := tbg_in2 620 (by decide +kernel) rfl
theorem wd_625 : (.methodLink "QuotaLaws" 185 y_Realm_breakOnce : Cond) ∈ tbg := tbg_in2 625 (by decide +kernel) rfl
theorem wd_626 : (.instanceMethod y_Realm_breakOnce : Cond) ∈ tbg := tbg_in2 626 (by decide +kernel) rfl
theorem wd_627 : (.selects "QuotaLaws$Realm" y_Realm_breakOnce y_Realm_breakOnce : Cond) ∈ tbg := tbg_in2 627 (by decide +kernel) rfl
set_option maxRecDepth 100000 in
theorem wd_628 : (.code y_Realm_breakOnce prog_5_method_19_code 4 (some .int) : Cond) ∈ tbg := tbg_in2 628 rfl rfl
theorem wd_629 : (.methodLink "QuotaLaws$Realm" 132 y_Realm_hasBoth : Cond) ∈ tbg := tbg_in2 629 (by decide +kernel) rfl
theorem wd_630 : (.methodLink "QuotaLaws$Realm" 135 y_Realm_mark : Cond) ∈ tbg := tbg_in2 630 (by decide +kernel) rfl
theorem wd_631 : (.instanceMethod y_Realm_mark : Cond) ∈ tbg := tbg_in2 631 (by decide +kernel) rfl
theorem wd_632 : (.selects "QuotaLaws$Realm" y_Realm_mark y_Realm_mark : Cond) ∈ tbg := tbg_in2 632 (by decide +kernel) rfl
set_option maxRecDepth 100000 in
theorem wd_633 : (.code y_Realm_mark prog_5_method_20_code 4 (some .int) : Cond) ∈ tbg := tbg_in2 633 rfl rfl
theorem wd_638 : (.methodLink "QuotaLaws" 188 y_Realm_endYear : Cond) ∈ tbg := tbg_in2 638 (by decide +kernel) rfl
theorem wd_639 : (.instanceMethod y_Realm_endYear : Cond) ∈ tbg := tbg_in2 639 (by decide +kernel) rfl
theorem wd_640 : (.selects "QuotaLaws$Realm" y_Realm_endYear y_Realm_endYear : Cond) ∈ tbg := tbg_in2 640 (by decide +kernel) rfl
set_option maxRecDepth 100000 in
theorem wd_641 : (.code y_Realm_endYear prog_5_method_22_code 2 (some .int) : Cond) ∈ tbg := tbg_in2 641 rfl rfl
theorem wd_642 : (.methodLink "QuotaLaws$Realm" 141 y_Realm_lapsing : Cond) ∈ tbg := tbg_in2 642 (by decide +kernel) rfl
theorem wd_643 : (.instanceMethod y_Realm_lapsing : Cond) ∈ tbg := tbg_in2 643 (by decide +kernel) rfl
theorem wd_644 : (.selects "QuotaLaws$Realm" y_Realm_lapsing y_Realm_lapsing : Cond) ∈ tbg := tbg_in2 644 (by decide +kernel) rfl
set_option maxRecDepth 100000 in
theorem wd_645 : (.code y_Realm_lapsing prog_5_method_21_code 3 (some .int) : Cond) ∈ tbg := tbg_in2 645 rfl rfl
theorem wd_646 : (.methodLink "QuotaLaws$Realm" 117 y_Realm_needOf : Cond) ∈ tbg := tbg_in2 646 (by decide +kernel) rfl
theorem wd_647 : (.methodLink "QuotaLaws$Realm" 138 y_Realm_chainOf : Cond) ∈ tbg := tbg_in2 647 (by decide +kernel) rfl
theorem wd_652 : (.methodLink "QuotaLaws" 192 y_Realm_lapsing : Cond) ∈ tbg := tbg_in2 652 (by decide +kernel) rfl
theorem wd_661 : (.methodLink "QuotaLaws" 195 y_Planner_load : Cond) ∈ tbg := tbg_in2 661 (by decide +kernel) rfl
theorem wd_662 : (.instanceMethod y_Planner_load : Cond) ∈ tbg := tbg_in2 662 (by decide +kernel) rfl
theorem wd_663 : (.selects "QuotaLaws$Planner" y_Planner_load y_Planner_load : Cond) ∈ tbg := tbg_in2 663 (by decide +kernel) rfl
set_option maxRecDepth 100000 in
theorem wd_664 : (.code y_Planner_load prog_3_method_2_code 4 none : Cond) ∈ tbg := tbg_in2 664 rfl rfl
theorem wd_665 : (.methodLink "QuotaLaws$Planner" 40 y_Arrays_fillI : Cond) ∈ tbg := tbg_in2 665 (by decide +kernel) rfl
theorem wd_666 : (.methodLink "QuotaLaws$Planner" 46 y_Realm_hasOne : Cond) ∈ tbg := tbg_in2 666 (by decide +kernel) rfl
theorem wd_667 : (.methodLink "QuotaLaws$Planner" 50 y_Realm_timeLeft : Cond) ∈ tbg := tbg_in2 667 (by decide +kernel) rfl
theorem wd_668 : (.methodLink "QuotaLaws$Planner" 54 y_Realm_needOf : Cond) ∈ tbg := tbg_in2 668 (by decide +kernel) rfl
theorem wd_669 : (.methodLink "QuotaLaws$Planner" 60 y_Realm_roomOf : Cond) ∈ tbg := tbg_in2 669 (by decide +kernel) rfl
theorem wd_670 : (.methodLink "QuotaLaws" 198 y_Planner_leastHarm : Cond) ∈ tbg := tbg_in2 670 (by decide +kernel) rfl
theorem wd_671 : (.instanceMethod y_Planner_leastHarm : Cond) ∈ tbg := tbg_in2 671 (by decide +kernel) rfl
theorem wd_672 : (.selects "QuotaLaws$Planner" y_Planner_leastHarm y_Planner_leastHarm : Cond) ∈ tbg := tbg_in2 672 (by decide +kernel) rfl
set_option maxRecDepth 100000 in
theorem wd_673 : (.code y_Planner_leastHarm prog_3_method_7_code 4 (some .int) : Cond) ∈ tbg := tbg_in2 673 rfl rfl
theorem wd_674 : (.constant "QuotaLaws$Planner" 89 (1000000) : Cond) ∈ tbg := tbg_in2 674 (by decide +kernel) rfl
theorem wd_675 : (.methodLink "QuotaLaws$Planner" 90 y_Planner_leftToLast : Cond) ∈ tbg := tbg_in2 675 (by decide +kernel) rfl
theorem wd_677 : (.instanceMethod y_Planner_leftToLast : Cond) ∈ tbg := tbg_in2 677 (by decide +kernel) rfl
set_option maxRecDepth 100000 in
theorem wd_678 : (.code y_Planner_leftToLast prog_3_method_9_code 4 (some .int) : Cond) ∈ tbg := tbg_in2 678 rfl rfl
theorem wd_679 : (.methodLink "QuotaLaws$Planner" 94 y_Planner_stateOf : Cond) ∈ tbg := tbg_in2 679 (by decide +kernel) rfl
theorem wd_680 : (.static y_Planner_stateOf : Cond) ∈ tbg := tbg_in2 680 (by decide +kernel) rfl
set_option maxRecDepth 100000 in
theorem wd_681 : (.code y_Planner_stateOf prog_3_method_10_code 3 (some .int) : Cond) ∈ tbg := tbg_in2 681 rfl rfl
theorem wd_682 : (.methodLink "QuotaLaws$Planner" 97 y_Planner_search : Cond) ∈ tbg := tbg_in2 682 (by decide +kernel) rfl
theorem wd_684 : (.instanceMethod y_Planner_search : Cond) ∈ tbg := tbg_in2 684 (by decide +kernel) rfl
set_option maxRecDepth 100000 in
theorem wd_685 : (.code y_Planner_search prog_3_method_11_code 12 (some .int) : Cond) ∈ tbg := tbg_in2 685 rfl rfl
theorem wd_686 : (.methodLink "QuotaLaws$Planner" 86 Lib.Math.min.name : Cond) ∈ tbg := tbg_in2 686 (by decide +kernel) rfl
theorem wd_687 : (.methodLinkNest "QuotaLaws$Planner" 100 y_Q_isWithin "QuotaLaws" : Cond) ∈ nests := nests_in2 687 (by decide +kernel) rfl
theorem wd_688 : (.methodLink "QuotaLaws" 201 y_Planner_timesInFirst : Cond) ∈ tbg := tbg_in2 688 (by decide +kernel) rfl
theorem wd_689 : (.instanceMethod y_Planner_timesInFirst : Cond) ∈ tbg := tbg_in2 689 (by decide +kernel) rfl
theorem wd_690 : (.selects "QuotaLaws$Planner" y_Planner_timesInFirst y_Planner_timesInFirst : Cond) ∈ tbg := tbg_in2 690 (by decide +kernel) rfl
set_option maxRecDepth 100000 in
theorem wd_691 : (.code y_Planner_timesInFirst prog_3_method_8_code 6 (some .int) : Cond) ∈ tbg := tbg_in2 691 rfl rfl
theorem wd_696 : (.methodLink "QuotaLaws" 204 y_Planner_grant : Cond) ∈ tbg := tbg_in2 696 (by decide +kernel) rfl
theorem wd_697 : (.instanceMethod y_Planner_grant : Cond) ∈ tbg := tbg_in2 697 (by decide +kernel) rfl
theorem wd_698 : (.selects "QuotaLaws$Planner" y_Planner_grant y_Planner_grant : Cond) ∈ tbg := tbg_in2 698 (by decide +kernel) rfl
set_option maxRecDepth 100000 in
theorem wd_699 : (.code y_Planner_grant prog_3_method_3_code 3 none : Cond) ∈ tbg := tbg_in2 699 rfl rfl
theorem wd_700 : (.methodLink "QuotaLaws$Planner" 68 Lib.Math.max.name : Cond) ∈ tbg := tbg_in2 700 (by decide +kernel) rfl
theorem wd_701 : (.methodLink "QuotaLaws" 208 y_Planner_canMeet : Cond) ∈ tbg := tbg_in2 701 (by decide +kernel) rfl
theorem wd_702 : (.instanceMethod y_Planner_canMeet : Cond) ∈ tbg := tbg_in2 702 (by decide +kernel) rfl
theorem wd_703 : (.selects "QuotaLaws$Planner" y_Planner_canMeet y_Planner_canMeet : Cond) ∈ tbg := tbg_in2 703 (by decide +kernel) rfl
set_option maxRecDepth 100000 in
theorem wd_704 : (.code y_Planner_canMeet prog_3_method_4_code 3 (some .boolean) : Cond) ∈ tbg := tbg_in2 704 rfl rfl
theorem wd_705 : (.methodLinkNest "QuotaLaws$Planner" 73 y_Q_isPart "QuotaLaws" : Cond) ∈ nests := nests_in2 705 (by decide +kernel) rfl
theorem wd_706 : (.methodLink "QuotaLaws$Planner" 77 y_Planner_needOfAll : Cond) ∈ tbg := tbg_in2 706 (by decide +kernel) rfl
theorem wd_708 : (.instanceMethod y_Planner_needOfAll : Cond) ∈ tbg := tbg_in2 708 (by decide +kernel) rfl
set_option maxRecDepth 100000 in
theorem wd_709 : (.code y_Planner_needOfAll prog_3_method_5_code 4 (some .int) : Cond) ∈ tbg := tbg_in2 709 rfl rfl
theorem wd_710 : (.methodLinkNest "QuotaLaws$Planner" 83 y_Q_hasBit "QuotaLaws" : Cond) ∈ nests := nests_in2 710 (by decide +kernel) rfl
theorem wd_711 : (.methodLink "QuotaLaws$Planner" 80 y_Planner_givenTo : Cond) ∈ tbg := tbg_in2 711 (by decide +kernel) rfl
theorem wd_713 : (.instanceMethod y_Planner_givenTo : Cond) ∈ tbg := tbg_in2 713 (by decide +kernel) rfl
set_option maxRecDepth 100000 in
theorem wd_714 : (.code y_Planner_givenTo prog_3_method_6_code 6 (some .int) : Cond) ∈ tbg := tbg_in2 714 rfl rfl
theorem wd_719 : (.methodLink "QuotaLaws" 211 y_Q_isPart : Cond) ∈ tbg := tbg_in2 719 (by decide +kernel) rfl
theorem wd_724 : (.methodLink "QuotaLaws" 214 y_Realm_ableWithout : Cond) ∈ tbg := tbg_in2 724 (by decide +kernel) rfl
theorem wd_725 : (.instanceMethod y_Realm_ableWithout : Cond) ∈ tbg := tbg_in2 725 (by decide +kernel) rfl
theorem wd_726 : (.selects "QuotaLaws$Realm" y_Realm_ableWithout y_Realm_ableWithout : Cond) ∈ tbg := tbg_in2 726 (by decide +kernel) rfl
set_option maxRecDepth 100000 in
theorem wd_727 : (.code y_Realm_ableWithout prog_5_method_17_code 5 (some .int) : Cond) ∈ tbg := tbg_in2 727 rfl rfl
theorem wd_732 : (.methodLink "QuotaLaws" 217 y_Realm_eachForHimself : Cond) ∈ tbg := tbg_in2 732 (by decide +kernel) rfl
theorem wd_733 : (.instanceMethod y_Realm_eachForHimself : Cond) ∈ tbg := tbg_in2 733 (by decide +kernel) rfl
theorem wd_734 : (.selects "QuotaLaws$Realm" y_Realm_eachForHimself y_Realm_eachForHimself : Cond) ∈ tbg := tbg_in2 734 (by decide +kernel) rfl
set_option maxRecDepth 100000 in
theorem wd_735 : (.code y_Realm_eachForHimself prog_5_method_24_code 6 (some .int) : Cond) ∈ tbg := tbg_in2 735 rfl rfl
theorem wd_736 : (.methodLink "QuotaLaws$Realm" 145 y_Realm_mostNeeded : Cond) ∈ tbg := tbg_in2 736 (by decide +kernel) rfl
theorem wd_737 : (.instanceMethod y_Realm_mostNeeded : Cond) ∈ tbg := tbg_in2 737 (by decide +kernel) rfl
theorem wd_738 : (.selects "QuotaLaws$Realm" y_Realm_mostNeeded y_Realm_mostNeeded : Cond) ∈ tbg := tbg_in2 738 (by decide +kernel) rfl
set_option maxRecDepth 100000 in
theorem wd_739 : (.code y_Realm_mostNeeded prog_5_method_25_code 6 (some .int) : Cond) ∈ tbg := tbg_in2 739 rfl rfl
theorem wd_740 : (.methodLink "QuotaLaws$Realm" 148 y_Realm_breakable : Cond) ∈ tbg := tbg_in2 740 (by decide +kernel) rfl
theorem wd_741 : (.methodLink "QuotaLaws" 220 y_Realm_met : Cond) ∈ tbg := tbg_in2 741 (by decide +kernel) rfl
theorem wd_742 : (.instanceMethod y_Realm_met : Cond) ∈ tbg := tbg_in2 742 (by decide +kernel) rfl
theorem wd_743 : (.selects "QuotaLaws$Realm" y_Realm_met y_Realm_met : Cond) ∈ tbg := tbg_in2 743 (by decide +kernel) rfl
set_option maxRecDepth 100000 in
theorem wd_744 : (.code y_Realm_met prog_5_method_23_code 3 (some .int) : Cond) ∈ tbg := tbg_in2 744 rfl rfl
theorem wd_749 : (.constantLong "QuotaLaws" 223 (-1) : Cond) ∈ tbg := tbg_in2 749 (by decide +kernel) rfl
theorem wd_750 : (.methodLink "QuotaLaws" 225 y_Odds_weigh : Cond) ∈ tbg := tbg_in2 750 (by decide +kernel) rfl
theorem wd_751 : (.instanceMethod y_Odds_weigh : Cond) ∈ tbg := tbg_in2 751 (by decide +kernel) rfl
theorem wd_752 : (.selects "QuotaLaws$Odds" y_Odds_weigh y_Odds_weigh : Cond) ∈ tbg := tbg_in2 752 (by decide +kernel) rfl
set_option maxRecDepth 100000 in
theorem wd_753 : (.code y_Odds_weigh prog_2_method_2_code 6 none : Cond) ∈ tbg := tbg_in2 753 rfl rfl
theorem wd_754 : (.methodLink "QuotaLaws$Odds" 15 y_Arrays_fillJ : Cond) ∈ tbg := tbg_in2 754 (by decide +kernel) rfl
theorem wd_755 : (.static y_Arrays_fillJ : Cond) ∈ tbg := tbg_in2 755 (by decide +kernel) rfl
set_option maxRecDepth 100000 in
theorem wd_756 : (.code y_Arrays_fillJ prog_17_method_101_code 5 none : Cond) ∈ tbg := tbg_in2 756 rfl rfl
theorem wd_757 : (.methodLink "QuotaLaws$Odds" 31 y_Realm_ableAlone : Cond) ∈ tbg := tbg_in2 757 (by decide +kernel) rfl
theorem wd_758 : (.methodLink "QuotaLaws$Odds" 39 y_Odds_addTry : Cond) ∈ tbg := tbg_in2 758 (by decide +kernel) rfl
theorem wd_760 : (.instanceMethod y_Odds_addTry : Cond) ∈ tbg := tbg_in2 760 (by decide +kernel) rfl
set_option maxRecDepth 100000 in
theorem wd_761 : (.code y_Odds_addTry prog_2_method_3_code 3 none : Cond) ∈ tbg := tbg_in2 761 rfl rfl
theorem wd_762 : (.constantLong "QuotaLaws$Odds" 53 (10) : Cond) ∈ tbg := tbg_in2 762 (by decide +kernel) rfl
theorem wd_763 : (.methodLink "QuotaLaws$Odds" 46 y_Realm_needOf : Cond) ∈ tbg := tbg_in2 763 (by decide +kernel) rfl
theorem wd_764 : (.methodLink "QuotaLaws$Odds" 50 y_Odds_reduce : Cond) ∈ tbg := tbg_in2 764 (by decide +kernel) rfl
theorem wd_766 : (.instanceMethod y_Odds_reduce : Cond) ∈ tbg := tbg_in2 766 (by decide +kernel) rfl
set_option maxRecDepth 100000 in
theorem wd_767 : (.code y_Odds_reduce prog_2_method_4_code 8 none : Cond) ∈ tbg := tbg_in2 767 rfl rfl
theorem wd_772 : (.methodLink "QuotaLaws" 240 y_Sightings_append : Cond) ∈ tbg := tbg_in2 772 (by decide +kernel) rfl
theorem wd_773 : (.instanceMethod y_Sightings_append : Cond) ∈ tbg := tbg_in2 773 (by decide +kernel) rfl
theorem wd_774 : (.selects "QuotaLaws$Sightings" y_Sightings_append y_Sightings_append : Cond) ∈ tbg := tbg_in2 774 (by decide +kernel) rfl
set_option maxRecDepth 100000 in
theorem wd_775 : (.code y_Sightings_append prog_7_method_2_code 4 (some .boolean) : Cond) ∈ tbg := tbg_in2 775 rfl rfl
theorem wd_784 : (.methodLink "QuotaLaws" 247 y_Tables_load : Cond) ∈ tbg := tbg_in2 784 (by decide +kernel) rfl
theorem wd_785 : (.instanceMethod y_Tables_load : Cond) ∈ tbg := tbg_in2 785 (by decide +kernel) rfl
theorem wd_786 : (.selects "QuotaLaws$Tables" y_Tables_load y_Tables_load : Cond) ∈ tbg := tbg_in2 786 (by decide +kernel) rfl
set_option maxRecDepth 100000 in
theorem wd_787 : (.code y_Tables_load prog_8_method_2_code 6 none : Cond) ∈ tbg := tbg_in2 787 rfl rfl
theorem wd_788 : (.methodLink "QuotaLaws$Tables" 41 y_Arrays_fillI : Cond) ∈ tbg := tbg_in2 788 (by decide +kernel) rfl
theorem wd_789 : (.methodLink "QuotaLaws$Tables" 53 y_Sightings_sumDue : Cond) ∈ tbg := tbg_in2 789 (by decide +kernel) rfl
theorem wd_790 : (.instanceMethod y_Sightings_sumDue : Cond) ∈ tbg := tbg_in2 790 (by decide +kernel) rfl
theorem wd_791 : (.selects "QuotaLaws$Sightings" y_Sightings_sumDue y_Sightings_sumDue : Cond) ∈ tbg := tbg_in2 791 (by decide +kernel) rfl
set_option maxRecDepth 100000 in
theorem wd_792 : (.code y_Sightings_sumDue prog_7_method_3_code 5 (some .int) : Cond) ∈ tbg := tbg_in2 792 rfl rfl
theorem wd_793 : (.methodLink "QuotaLaws$Tables" 57 y_Realm_hasOne : Cond) ∈ tbg := tbg_in2 793 (by decide +kernel) rfl
theorem wd_794 : (.methodLinkNest "QuotaLaws$Tables" 65 y_Q_hasBit "QuotaLaws" : Cond) ∈ nests := nests_in2 794 (by decide +kernel) rfl
theorem wd_795 : (.methodLink "QuotaLaws" 248 y_Tables_fitting : Cond) ∈ tbg := tbg_in2 795 (by decide +kernel) rfl
theorem wd_796 : (.instanceMethod y_Tables_fitting : Cond) ∈ tbg := tbg_in2 796 (by decide +kernel) rfl
theorem wd_797 : (.selects "QuotaLaws$Tables" y_Tables_fitting y_Tables_fitting : Cond) ∈ tbg := tbg_in2 797 (by decide +kernel) rfl
set_option maxRecDepth 100000 in
theorem wd_798 : (.code y_Tables_fitting prog_8_method_4_code 3 (some .long) : Cond) ∈ tbg := tbg_in2 798 rfl rfl
theorem wd_799 : (.methodLink "QuotaLaws$Tables" 76 y_Arrays_fillJ : Cond) ∈ tbg := tbg_in2 799 (by decide +kernel) rfl
theorem wd_800 : (.methodLink "QuotaLaws$Tables" 79 y_Tables_spendAlone : Cond) ∈ tbg := tbg_in2 800 (by decide +kernel) rfl
theorem wd_802 : (.instanceMethod y_Tables_spendAlone : Cond) ∈ tbg := tbg_in2 802 (by decide +kernel) rfl
set_option maxRecDepth 100000 in
theorem wd_803 : (.code y_Tables_spendAlone prog_8_method_5_code 9 none : Cond) ∈ tbg := tbg_in2 803 rfl rfl
theorem wd_804 : (.methodLink "QuotaLaws$Tables" 83 y_Tables_joinAll : Cond) ∈ tbg := tbg_in2 804 (by decide +kernel) rfl
theorem wd_806 : (.instanceMethod y_Tables_joinAll : Cond) ∈ tbg := tbg_in2 806 (by decide +kernel) rfl
set_option maxRecDepth 100000 in
theorem wd_807 : (.code y_Tables_joinAll prog_8_method_6_code 4 none : Cond) ∈ tbg := tbg_in2 807 rfl rfl
theorem wd_808 : (.methodLink "QuotaLaws$Tables" 93 y_Tables_stateOf : Cond) ∈ tbg := tbg_in2 808 (by decide +kernel) rfl
theorem wd_809 : (.static y_Tables_stateOf : Cond) ∈ tbg := tbg_in2 809 (by decide +kernel) rfl
set_option maxRecDepth 100000 in
theorem wd_810 : (.code y_Tables_stateOf prog_8_method_11_code 3 (some .int) : Cond) ∈ tbg := tbg_in2 810 rfl rfl
theorem wd_811 : (.methodLink "QuotaLaws$Tables" 86 y_Tables_spendTogether : Cond) ∈ tbg := tbg_in2 811 (by decide +kernel) rfl
theorem wd_813 : (.instanceMethod y_Tables_spendTogether : Cond) ∈ tbg := tbg_in2 813 (by decide +kernel) rfl
set_option maxRecDepth 100000 in
theorem wd_814 : (.code y_Tables_spendTogether prog_8_method_7_code 5 none : Cond) ∈ tbg := tbg_in2 814 rfl rfl
theorem wd_815 : (.methodLink "QuotaLaws$Tables" 97 y_Tables_waysTo : Cond) ∈ tbg := tbg_in2 815 (by decide +kernel) rfl
theorem wd_817 : (.instanceMethod y_Tables_waysTo : Cond) ∈ tbg := tbg_in2 817 (by decide +kernel) rfl
set_option maxRecDepth 100000 in
theorem wd_818 : (.code y_Tables_waysTo prog_8_method_8_code 13 (some .long) : Cond) ∈ tbg := tbg_in2 818 rfl rfl
theorem wd_819 : (.methodLink "QuotaLaws$Tables" 101 Lib.Math.min.name : Cond) ∈ tbg := tbg_in2 819 (by decide +kernel) rfl
theorem wd_820 : (.methodLinkNest "QuotaLaws$Tables" 106 y_Q_isWithin "QuotaLaws" : Cond) ∈ nests := nests_in2 820 (by decide +kernel) rfl
theorem wd_821 : (.methodLink "QuotaLaws$Tables" 90 y_Tables_sumOfDue : Cond) ∈ tbg := tbg_in2 821 (by decide +kernel) rfl
theorem wd_823 : (.instanceMethod y_Tables_sumOfDue : Cond) ∈ tbg := tbg_in2 823 (by decide +kernel) rfl
set_option maxRecDepth 100000 in
theorem wd_824 : (.code y_Tables_sumOfDue prog_8_method_9_code 6 (some .long) : Cond) ∈ tbg := tbg_in2 824 rfl rfl
theorem wd_825 : (.methodLink "QuotaLaws$Tables" 110 y_Tables_isDueOf : Cond) ∈ tbg := tbg_in2 825 (by decide +kernel) rfl
theorem wd_827 : (.instanceMethod y_Tables_isDueOf : Cond) ∈ tbg := tbg_in2 827 (by decide +kernel) rfl
set_option maxRecDepth 100000 in
theorem wd_828 : (.code y_Tables_isDueOf prog_8_method_10_code 3 (some .boolean) : Cond) ∈ tbg := tbg_in2 828 rfl rfl
theorem wd_833 : (.methodLink "QuotaLaws" 252 y_Tables_firstThatFits : Cond) ∈ tbg := tbg_in2 833 (by decide +kernel) rfl
theorem wd_834 : (.instanceMethod y_Tables_firstThatFits : Cond) ∈ tbg := tbg_in2 834 (by decide +kernel) rfl
theorem wd_835 : (.selects "QuotaLaws$Tables" y_Tables_firstThatFits y_Tables_firstThatFits : Cond) ∈ tbg := tbg_in2 835 (by decide +kernel) rfl
set_option maxRecDepth 100000 in
theorem wd_836 : (.code y_Tables_firstThatFits prog_8_method_3_code 8 (some .int) : Cond) ∈ tbg := tbg_in2 836 rfl rfl
theorem wd_837 : (.methodLink "QuotaLaws$Tables" 72 y_Tables_fitting : Cond) ∈ tbg := tbg_in2 837 (by decide +kernel) rfl
theorem wd_842 : (.methodLink "QuotaLaws" 255 y_Realm_breakBySeed : Cond) ∈ tbg := tbg_in2 842 (by decide +kernel) rfl
theorem wd_843 : (.instanceMethod y_Realm_breakBySeed : Cond) ∈ tbg := tbg_in2 843 (by decide +kernel) rfl
theorem wd_844 : (.selects "QuotaLaws$Realm" y_Realm_breakBySeed y_Realm_breakBySeed : Cond) ∈ tbg := tbg_in2 844 (by decide +kernel) rfl
set_option maxRecDepth 100000 in
theorem wd_845 : (.code y_Realm_breakBySeed prog_5_method_26_code 8 (some .int) : Cond) ∈ tbg := tbg_in2 845 rfl rfl
theorem wd_846 : (.methodLink "QuotaLaws$Realm" 151 y_Realm_nextSeed : Cond) ∈ tbg := tbg_in2 846 (by decide +kernel) rfl
theorem wd_847 : (.static y_Realm_nextSeed : Cond) ∈ tbg := tbg_in2 847 (by decide +kernel) rfl
set_option maxRecDepth 100000 in
theorem wd_848 : (.code y_Realm_nextSeed prog_5_method_27_code 1 (some .int) : Cond) ∈ tbg := tbg_in2 848 rfl rfl
theorem wd_849 : (.constant "QuotaLaws$Realm" 160 (1103515245) : Cond) ∈ tbg := tbg_in2 849 (by decide +kernel) rfl
theorem wd_850 : (.methodLink "QuotaLaws$Realm" 154 y_Realm_drawn : Cond) ∈ tbg := tbg_in2 850 (by decide +kernel) rfl
theorem wd_851 : (.static y_Realm_drawn : Cond) ∈ tbg := tbg_in2 851 (by decide +kernel) rfl
set_option maxRecDepth 100000 in
theorem wd_852 : (.code y_Realm_drawn prog_5_method_28_code 1 (some .int) : Cond) ∈ tbg := tbg_in2 852 rfl rfl
theorem wd_853 : (.methodLink "QuotaLaws$Realm" 157 y_Realm_breakOnce : Cond) ∈ tbg := tbg_in2 853 (by decide +kernel) rfl
theorem wd_866 : (.methodLink "QuotaLaws" 258 y_Sheet_renew : Cond) ∈ tbg := tbg_in2 866 (by decide +kernel) rfl
theorem wd_867 : (.instanceMethod y_Sheet_renew : Cond) ∈ tbg := tbg_in2 867 (by decide +kernel) rfl
theorem wd_868 : (.selects "QuotaLaws$Sheet" y_Sheet_renew y_Sheet_renew : Cond) ∈ tbg := tbg_in2 868 (by decide +kernel) rfl
set_option maxRecDepth 100000 in
theorem wd_869 : (.code y_Sheet_renew prog_6_method_2_code 3 none : Cond) ∈ tbg := tbg_in2 869 rfl rfl
theorem wd_870 : (.methodLink "QuotaLaws$Sheet" 22 y_Arrays_fillI : Cond) ∈ tbg := tbg_in2 870 (by decide +kernel) rfl
theorem wd_875 : (.methodLink "QuotaLaws" 261 y_Sheet_faultAt : Cond) ∈ tbg := tbg_in2 875 (by decide +kernel) rfl
theorem wd_876 : (.instanceMethod y_Sheet_faultAt : Cond) ∈ tbg := tbg_in2 876 (by decide +kernel) rfl
theorem wd_877 : (.selects "QuotaLaws$Sheet" y_Sheet_faultAt y_Sheet_faultAt : Cond) ∈ tbg := tbg_in2 877 (by decide +kernel) rfl
set_option maxRecDepth 100000 in
theorem wd_878 : (.code y_Sheet_faultAt prog_6_method_5_code 3 (some .int) : Cond) ∈ tbg := tbg_in2 878 rfl rfl
theorem wd_879 : (.methodLink "QuotaLaws" 265 y_Sheet_put : Cond) ∈ tbg := tbg_in2 879 (by decide +kernel) rfl
theorem wd_880 : (.instanceMethod y_Sheet_put : Cond) ∈ tbg := tbg_in2 880 (by decide +kernel) rfl
theorem wd_881 : (.selects "QuotaLaws$Sheet" y_Sheet_put y_Sheet_put : Cond) ∈ tbg := tbg_in2 881 (by decide +kernel) rfl
set_option maxRecDepth 100000 in
theorem wd_882 : (.code y_Sheet_put prog_6_method_3_code 3 none : Cond) ∈ tbg := tbg_in2 882 rfl rfl
theorem wd_887 : (.methodLink "QuotaLaws" 268 y_Sheet_faultAs : Cond) ∈ tbg := tbg_in2 887 (by decide +kernel) rfl
theorem wd_888 : (.instanceMethod y_Sheet_faultAs : Cond) ∈ tbg := tbg_in2 888 (by decide +kernel) rfl
theorem wd_889 : (.selects "QuotaLaws$Sheet" y_Sheet_faultAs y_Sheet_faultAs : Cond) ∈ tbg := tbg_in2 889 (by decide +kernel) rfl
set_option maxRecDepth 100000 in
theorem wd_890 : (.code y_Sheet_faultAs prog_6_method_7_code 2 (some .int) : Cond) ∈ tbg := tbg_in2 890 rfl rfl
theorem wd_891 : (.methodLink "QuotaLaws" 271 y_Sheet_faultOfPair : Cond) ∈ tbg := tbg_in2 891 (by decide +kernel) rfl
theorem wd_892 : (.instanceMethod y_Sheet_faultOfPair : Cond) ∈ tbg := tbg_in2 892 (by decide +kernel) rfl
theorem wd_893 : (.selects "QuotaLaws$Sheet" y_Sheet_faultOfPair y_Sheet_faultOfPair : Cond) ∈ tbg := tbg_in2 893 (by decide +kernel) rfl
set_option maxRecDepth 100000 in
theorem wd_894 : (.code y_Sheet_faultOfPair prog_6_method_6_code 4 (some .int) : Cond) ∈ tbg := tbg_in2 894 rfl rfl
theorem wd_895 : (.methodLink "QuotaLaws$Sheet" 28 y_Sheet_faultAt : Cond) ∈ tbg := tbg_in2 895 (by decide +kernel) rfl
theorem wd_896 : (.methodLink "QuotaLaws" 274 y_Sheet_cellAt : Cond) ∈ tbg := tbg_in2 896 (by decide +kernel) rfl
theorem wd_897 : (.instanceMethod y_Sheet_cellAt : Cond) ∈ tbg := tbg_in2 897 (by decide +kernel) rfl
theorem wd_898 : (.selects "QuotaLaws$Sheet" y_Sheet_cellAt y_Sheet_cellAt : Cond) ∈ tbg := tbg_in2 898 (by decide +kernel) rfl
set_option maxRecDepth 100000 in
theorem wd_899 : (.code y_Sheet_cellAt prog_6_method_4_code 3 (some .int) : Cond) ∈ tbg := tbg_in2 899 rfl rfl
theorem wd_908 : (.methodLink "QuotaLaws" 280 y_Realm_brokenInAll : Cond) ∈ tbg := tbg_in2 908 (by decide +kernel) rfl
theorem wd_909 : (.instanceMethod y_Realm_brokenInAll : Cond) ∈ tbg := tbg_in2 909 (by decide +kernel) rfl
theorem wd_910 : (.selects "QuotaLaws$Realm" y_Realm_brokenInAll y_Realm_brokenInAll : Cond) ∈ tbg := tbg_in2 910 (by decide +kernel) rfl
set_option maxRecDepth 100000 in
theorem wd_911 : (.code y_Realm_brokenInAll prog_5_method_9_code 3 (some .int) : Cond) ∈ tbg := tbg_in2 911 rfl rfl
theorem wd_912 : (.methodLink "QuotaLaws" 283 y_Q_countKept : Cond) ∈ tbg := tbg_in2 912 (by decide +kernel) rfl
theorem wd_914 : (.instanceMethod y_Q_countKept : Cond) ∈ tbg := tbg_in2 914 (by decide +kernel) rfl
set_option maxRecDepth 100000 in
theorem wd_915 : (.code y_Q_countKept prog_1_method_40_code 3 (some .int) : Cond) ∈ tbg := tbg_in2 915 rfl rfl
theorem wd_916 : (.methodLink "QuotaLaws" 287 y_Realm_allPurses : Cond) ∈ tbg := tbg_in2 916 (by decide +kernel) rfl
theorem wd_917 : (.instanceMethod y_Realm_allPurses : Cond) ∈ tbg := tbg_in2 917 (by decide +kernel) rfl
theorem wd_918 : (.selects "QuotaLaws$Realm" y_Realm_allPurses y_Realm_allPurses : Cond) ∈ tbg := tbg_in2 918 (by decide +kernel) rfl
set_option maxRecDepth 100000 in
theorem wd_919 : (.code y_Realm_allPurses prog_5_method_12_code 3 (some .int) : Cond) ∈ tbg := tbg_in2 919 rfl rfl
theorem wd_920 : (.methodLink "QuotaLaws" 290 y_Realm_allNeed : Cond) ∈ tbg := tbg_in2 920 (by decide +kernel) rfl
theorem wd_921 : (.instanceMethod y_Realm_allNeed : Cond) ∈ tbg := tbg_in2 921 (by decide +kernel) rfl
theorem wd_922 : (.selects "QuotaLaws$Realm" y_Realm_allNeed y_Realm_allNeed : Cond) ∈ tbg := tbg_in2 922 (by decide +kernel) rfl
set_option maxRecDepth 100000 in
theorem wd_923 : (.code y_Realm_allNeed prog_5_method_11_code 3 (some .int) : Cond) ∈ tbg := tbg_in2 923 rfl rfl
theorem wd_929 : (.methodLink "QuotaLawsModel" 1 Lib.objectInit : Cond) ∈ tbg := tbg_in2 929 (by decide +kernel) rfl
theorem wd_930 : (.methodLink "QuotaLawsModel" 87 y_M_firstDraft : Cond) ∈ tbg := tbg_in2 930 (by decide +kernel) rfl
theorem wd_932 : (.instanceMethod y_M_firstDraft : Cond) ∈ tbg := tbg_in2 932 (by decide +kernel) rfl
set_option maxRecDepth 100000 in
theorem wd_933 : (.code y_M_firstDraft prog_10_method_5_code 2 none : Cond) ∈ tbg := tbg_in2 933 rfl rfl
theorem wd_934 : (.methodLink "QuotaLawsModel" 90 y_M_keepDraft : Cond) ∈ tbg := tbg_in2 934 (by decide +kernel) rfl
theorem wd_936 : (.instanceMethod y_M_keepDraft : Cond) ∈ tbg := tbg_in2 936 (by decide +kernel) rfl
set_option maxRecDepth 100000 in
theorem wd_937 : (.code y_M_keepDraft prog_10_method_6_code 2 none : Cond) ∈ tbg := tbg_in2 937 rfl rfl
theorem wd_938 : (.fieldLink "QuotaLawsModel" 7 "QuotaLawsModel" "st" "[I" : Cond) ∈ tbg := tbg_in2 938 (by decide +kernel) rfl
theorem wd_939 : (.fieldLink "QuotaLawsModel" 13 "QuotaLawsModel" "isKept" "[Z" : Cond) ∈ tbg := tbg_in2 939 (by decide +kernel) rfl
theorem wd_940 : (.fieldLink "QuotaLawsModel" 106 "QuotaLawsModel" "laws" "I" : Cond) ∈ tbg := tbg_in2 940 (by decide +kernel) rfl
theorem wd_941 : (.fieldLink "QuotaLawsModel" 109 "QuotaLawsModel" "people" "I" : Cond) ∈ tbg := tbg_in2 941 (by decide +kernel) rfl
theorem wd_942 : (.fieldLink "QuotaLawsModel" 17 "QuotaLawsModel" "cap" "[I" : Cond) ∈ tbg := tbg_in2 942 (by decide +kernel) rfl
theorem wd_943 : (.fieldLink "QuotaLawsModel" 20 "QuotaLawsModel" "harm" "[I" : Cond) ∈ tbg := tbg_in2 943 (by decide +kernel) rfl
theorem wd_944 : (.fieldLink "QuotaLawsModel" 23 "QuotaLawsModel" "fine" "[I" : Cond) ∈ tbg := tbg_in2 944 (by decide +kernel) rfl
theorem wd_945 : (.fieldLink "QuotaLawsModel" 26 "QuotaLawsModel" "clumsy" "[I" : Cond) ∈ tbg := tbg_in2 945 (by decide +kernel) rfl
theorem wd_946 : (.fieldLink "QuotaLawsModel" 29 "QuotaLawsModel" "nerve" "[I" : Cond) ∈ tbg := tbg_in2 946 (by decide +kernel) rfl
theorem wd_947 : (.fieldLink "QuotaLawsModel" 32 "QuotaLawsModel" "draft" "[I" : Cond) ∈ tbg := tbg_in2 947 (by decide +kernel) rfl
theorem wd_948 : (.fieldLink "QuotaLawsModel" 93 "QuotaLawsModel" "dLaws" "I" : Cond) ∈ tbg := tbg_in2 948 (by decide +kernel) rfl
theorem wd_949 : (.fieldLink "QuotaLawsModel" 97 "QuotaLawsModel" "dPeople" "I" : Cond) ∈ tbg := tbg_in2 949 (by decide +kernel) rfl
theorem wd_950 : (.fieldLink "QuotaLawsModel" 35 "QuotaLawsModel" "dCap" "[I" : Cond) ∈ tbg := tbg_in2 950 (by decide +kernel) rfl
theorem wd_951 : (.fieldLink "QuotaLawsModel" 38 "QuotaLawsModel" "dHarm" "[I" : Cond) ∈ tbg := tbg_in2 951 (by decide +kernel) rfl
theorem wd_952 : (.fieldLink "QuotaLawsModel" 41 "QuotaLawsModel" "dFine" "[I" : Cond) ∈ tbg := tbg_in2 952 (by decide +kernel) rfl
theorem wd_953 : (.fieldLink "QuotaLawsModel" 44 "QuotaLawsModel" "dClumsy" "[I" : Cond) ∈ tbg := tbg_in2 953 (by decide +kernel) rfl
theorem wd_954 : (.fieldLink "QuotaLawsModel" 47 "QuotaLawsModel" "dNerve" "[I" : Cond) ∈ tbg := tbg_in2 954 (by decide +kernel) rfl
theorem wd_955 : (.fieldLink "QuotaLawsModel" 100 "QuotaLawsModel" "highestLaw" "I" : Cond) ∈ tbg := tbg_in2 955 (by decide +kernel) rfl
theorem wd_956 : (.fieldLink "QuotaLawsModel" 103 "QuotaLawsModel" "highestOne" "I" : Cond) ∈ tbg := tbg_in2 956 (by decide +kernel) rfl
theorem wd_957 : (.fieldLink "QuotaLawsModel" 50 "QuotaLawsModel" "tape" "[I" : Cond) ∈ tbg := tbg_in2 957 (by decide +kernel) rfl
theorem wd_958 : (.fieldLink "QuotaLawsModel" 118 "QuotaLawsModel" "taped" "I" : Cond) ∈ tbg := tbg_in2 958 (by decide +kernel) rfl
theorem wd_959 : (.fieldLink "QuotaLawsModel" 130 "QuotaLawsModel" "pos" "I" : Cond) ∈ tbg := tbg_in2 959 (by decide +kernel) rfl
theorem wd_960 : (.fieldLink "QuotaLawsModel" 124 "QuotaLawsModel" "from" "I" : Cond) ∈ tbg := tbg_in2 960 (by decide +kernel) rfl
theorem wd_961 : (.fieldLink "QuotaLawsModel" 141 "QuotaLawsModel" "sort" "I" : Cond) ∈ tbg := tbg_in2 961 (by decide +kernel) rfl
theorem wd_962 : (.fieldLink "QuotaLawsModel" 152 "QuotaLawsModel" "value" "I" : Cond) ∈ tbg := tbg_in2 962 (by decide +kernel) rfl
theorem wd_963 : (.fieldLink "QuotaLawsModel" 121 "QuotaLawsModel" "fault" "I" : Cond) ∈ tbg := tbg_in2 963 (by decide +kernel) rfl
theorem wd_964 : (.fieldLink "QuotaLawsModel" 127 "QuotaLawsModel" "wrongAt" "I" : Cond) ∈ tbg := tbg_in2 964 (by decide +kernel) rfl
theorem wd_965 : (.fieldLink "QuotaLawsModel" 53 "QuotaLawsModel" "least" "[I" : Cond) ∈ tbg := tbg_in2 965 (by decide +kernel) rfl
theorem wd_966 : (.fieldLink "QuotaLawsModel" 56 "QuotaLawsModel" "needs" "[I" : Cond) ∈ tbg := tbg_in2 966 (by decide +kernel) rfl
theorem wd_967 : (.fieldLink "QuotaLawsModel" 59 "QuotaLawsModel" "lefts" "[I" : Cond) ∈ tbg := tbg_in2 967 (by decide +kernel) rfl
theorem wd_968 : (.fieldLink "QuotaLawsModel" 62 "QuotaLawsModel" "shares" "[I" : Cond) ∈ tbg := tbg_in2 968 (by decide +kernel) rfl
theorem wd_969 : (.fieldLink "QuotaLawsModel" 65 "QuotaLawsModel" "saved" "[I" : Cond) ∈ tbg := tbg_in2 969 (by decide +kernel) rfl
theorem wd_970 : (.fieldLink "QuotaLawsModel" 68 "QuotaLawsModel" "ways" "[J" : Cond) ∈ tbg := tbg_in2 970 (by decide +kernel) rfl
theorem wd_971 : (.fieldLink "QuotaLawsModel" 72 "QuotaLawsModel" "tables" "[J" : Cond) ∈ tbg := tbg_in2 971 (by decide +kernel) rfl
theorem wd_972 : (.fieldLink "QuotaLawsModel" 75 "QuotaLawsModel" "then" "[J" : Cond) ∈ tbg := tbg_in2 972 (by decide +kernel) rfl
theorem wd_973 : (.fieldLink "QuotaLawsModel" 78 "QuotaLawsModel" "lanes" "[I" : Cond) ∈ tbg := tbg_in2 973 (by decide +kernel) rfl
theorem wd_974 : (.fieldLink "QuotaLawsModel" 81 "QuotaLawsModel" "sizes" "[I" : Cond) ∈ tbg := tbg_in2 974 (by decide +kernel) rfl
theorem wd_975 : (.fieldLink "QuotaLawsModel" 84 "QuotaLawsModel" "cells" "[I" : Cond) ∈ tbg := tbg_in2 975 (by decide +kernel) rfl
theorem wd_976 : (.fieldLink "QuotaLawsModel" 332 "QuotaLawsModel" "torn" "I" : Cond) ∈ tbg := tbg_in2 976 (by decide +kernel) rfl
theorem wd_1060 : (.constantLong "QuotaLawsModel" 112 (127) : Cond) ∈ tbg := tbg_in2 1060 (by decide +kernel) rfl
theorem wd_1061 : (.methodLink "QuotaLawsModel" 114 y_M_in : Cond) ∈ tbg := tbg_in2 1061 (by decide +kernel) rfl
theorem wd_1062 : (.static y_M_in : Cond) ∈ tbg := tbg_in2 1062 (by decide +kernel) rfl
set_option maxRecDepth 100000 in
theorem wd_1063 : (.code y_M_in prog_10_method_3_code 6 (some .boolean) : Cond) ∈ tbg := tbg_in2 1063 rfl rfl
theorem wd_1072 : (.methodLink "QuotaLawsModel" 162 y_M_next : Cond) ∈ tbg := tbg_in2 1072 (by decide +kernel) rfl
theorem wd_1074 : (.instanceMethod y_M_next : Cond) ∈ tbg := tbg_in2 1074 (by decide +kernel) rfl
set_option maxRecDepth 100000 in
theorem wd_1075 : (.code y_M_next prog_10_method_13_code 2 none : Cond) ∈ tbg := tbg_in2 1075 rfl rfl
theorem wd_1076 : (.methodLink "QuotaLawsModel" 133 y_M_look : Cond) ∈ tbg := tbg_in2 1076 (by decide +kernel) rfl
theorem wd_1078 : (.instanceMethod y_M_look : Cond) ∈ tbg := tbg_in2 1078 (by decide +kernel) rfl
set_option maxRecDepth 100000 in
theorem wd_1079 : (.code y_M_look prog_10_method_10_code 2 (some .int) : Cond) ∈ tbg := tbg_in2 1079 rfl rfl
theorem wd_1080 : (.constantLong "QuotaLawsModel" 144 (97) : Cond) ∈ tbg := tbg_in2 1080 (by decide +kernel) rfl
theorem wd_1081 : (.constantLong "QuotaLawsModel" 146 (122) : Cond) ∈ tbg := tbg_in2 1081 (by decide +kernel) rfl
theorem wd_1082 : (.constantLong "QuotaLawsModel" 148 (48) : Cond) ∈ tbg := tbg_in2 1082 (by decide +kernel) rfl
theorem wd_1083 : (.constantLong "QuotaLawsModel" 150 (57) : Cond) ∈ tbg := tbg_in2 1083 (by decide +kernel) rfl
theorem wd_1084 : (.methodLink "QuotaLawsModel" 155 y_M_needs : Cond) ∈ tbg := tbg_in2 1084 (by decide +kernel) rfl
theorem wd_1086 : (.instanceMethod y_M_needs : Cond) ∈ tbg := tbg_in2 1086 (by decide +kernel) rfl
set_option maxRecDepth 100000 in
theorem wd_1087 : (.code y_M_needs prog_10_method_9_code 3 none : Cond) ∈ tbg := tbg_in2 1087 rfl rfl
theorem wd_1088 : (.methodLink "QuotaLawsModel" 185 y_M_readLine : Cond) ∈ tbg := tbg_in2 1088 (by decide +kernel) rfl
theorem wd_1090 : (.instanceMethod y_M_readLine : Cond) ∈ tbg := tbg_in2 1090 (by decide +kernel) rfl
set_option maxRecDepth 100000 in
theorem wd_1091 : (.code y_M_readLine prog_10_method_20_code 2 none : Cond) ∈ tbg := tbg_in2 1091 rfl rfl
theorem wd_1092 : (.methodLink "QuotaLawsModel" 177 y_M_lineNow : Cond) ∈ tbg := tbg_in2 1092 (by decide +kernel) rfl
theorem wd_1094 : (.instanceMethod y_M_lineNow : Cond) ∈ tbg := tbg_in2 1094 (by decide +kernel) rfl
set_option maxRecDepth 100000 in
theorem wd_1095 : (.code y_M_lineNow prog_10_method_12_code 1 (some .int) : Cond) ∈ tbg := tbg_in2 1095 rfl rfl
theorem wd_1096 : (.methodLink "QuotaLawsModel" 137 y_M_is : Cond) ∈ tbg := tbg_in2 1096 (by decide +kernel) rfl
theorem wd_1098 : (.instanceMethod y_M_is : Cond) ∈ tbg := tbg_in2 1098 (by decide +kernel) rfl
set_option maxRecDepth 100000 in
theorem wd_1099 : (.code y_M_is prog_10_method_11_code 5 (some .boolean) : Cond) ∈ tbg := tbg_in2 1099 rfl rfl
theorem wd_1100 : (.methodLink "QuotaLawsModel" 181 y_M_readLineOf : Cond) ∈ tbg := tbg_in2 1100 (by decide +kernel) rfl
theorem wd_1102 : (.instanceMethod y_M_readLineOf : Cond) ∈ tbg := tbg_in2 1102 (by decide +kernel) rfl
set_option maxRecDepth 100000 in
theorem wd_1103 : (.code y_M_readLineOf prog_10_method_19_code 3 none : Cond) ∈ tbg := tbg_in2 1103 rfl rfl
theorem wd_1104 : (.methodLink "QuotaLawsModel" 171 y_M_readLaw : Cond) ∈ tbg := tbg_in2 1104 (by decide +kernel) rfl
theorem wd_1106 : (.instanceMethod y_M_readLaw : Cond) ∈ tbg := tbg_in2 1106 (by decide +kernel) rfl
set_option maxRecDepth 100000 in
theorem wd_1107 : (.code y_M_readLaw prog_10_method_17_code 4 none : Cond) ∈ tbg := tbg_in2 1107 rfl rfl
theorem wd_1108 : (.methodLink "QuotaLawsModel" 165 y_M_readNumber : Cond) ∈ tbg := tbg_in2 1108 (by decide +kernel) rfl
theorem wd_1110 : (.instanceMethod y_M_readNumber : Cond) ∈ tbg := tbg_in2 1110 (by decide +kernel) rfl
set_option maxRecDepth 100000 in
theorem wd_1111 : (.code y_M_readNumber prog_10_method_15_code 4 (some .int) : Cond) ∈ tbg := tbg_in2 1111 rfl rfl
theorem wd_1112 : (.methodLink "QuotaLawsModel" 158 y_M_looked : Cond) ∈ tbg := tbg_in2 1112 (by decide +kernel) rfl
theorem wd_1114 : (.instanceMethod y_M_looked : Cond) ∈ tbg := tbg_in2 1114 (by decide +kernel) rfl
set_option maxRecDepth 100000 in
theorem wd_1115 : (.code y_M_looked prog_10_method_14_code 3 (some .int) : Cond) ∈ tbg := tbg_in2 1115 rfl rfl
theorem wd_1116 : (.methodLink "QuotaLawsModel" 168 y_M_readLawOf : Cond) ∈ tbg := tbg_in2 1116 (by decide +kernel) rfl
theorem wd_1118 : (.instanceMethod y_M_readLawOf : Cond) ∈ tbg := tbg_in2 1118 (by decide +kernel) rfl
set_option maxRecDepth 100000 in
theorem wd_1119 : (.code y_M_readLawOf prog_10_method_16_code 3 (some .int) : Cond) ∈ tbg := tbg_in2 1119 rfl rfl
theorem wd_1120 : (.methodLink "QuotaLawsModel" 174 y_M_readOne : Cond) ∈ tbg := tbg_in2 1120 (by decide +kernel) rfl
theorem wd_1122 : (.instanceMethod y_M_readOne : Cond) ∈ tbg := tbg_in2 1122 (by decide +kernel) rfl
set_option maxRecDepth 100000 in
theorem wd_1123 : (.code y_M_readOne prog_10_method_18_code 2 none : Cond) ∈ tbg := tbg_in2 1123 rfl rfl
theorem wd_1136 : (.methodLink "QuotaLawsModel" 210 y_M_isLaw : Cond) ∈ tbg := tbg_in2 1136 (by decide +kernel) rfl
theorem wd_1138 : (.instanceMethod y_M_isLaw : Cond) ∈ tbg := tbg_in2 1138 (by decide +kernel) rfl
set_option maxRecDepth 100000 in
theorem wd_1139 : (.code y_M_isLaw prog_10_method_23_code 2 (some .boolean) : Cond) ∈ tbg := tbg_in2 1139 rfl rfl
theorem wd_1140 : (.methodLink "QuotaLawsModel" 204 y_M_needOf : Cond) ∈ tbg := tbg_in2 1140 (by decide +kernel) rfl
theorem wd_1142 : (.instanceMethod y_M_needOf : Cond) ∈ tbg := tbg_in2 1142 (by decide +kernel) rfl
set_option maxRecDepth 100000 in
theorem wd_1143 : (.code y_M_needOf prog_10_method_29_code 4 (some .int) : Cond) ∈ tbg := tbg_in2 1143 rfl rfl
theorem wd_1144 : (.methodLink "QuotaLawsModel" 191 y_M_doesStand : Cond) ∈ tbg := tbg_in2 1144 (by decide +kernel) rfl
theorem wd_1146 : (.instanceMethod y_M_doesStand : Cond) ∈ tbg := tbg_in2 1146 (by decide +kernel) rfl
set_option maxRecDepth 100000 in
theorem wd_1147 : (.code y_M_doesStand prog_10_method_26_code 2 (some .boolean) : Cond) ∈ tbg := tbg_in2 1147 rfl rfl
theorem wd_1148 : (.methodLink "QuotaLawsModel" 188 y_M_brokenBy : Cond) ∈ tbg := tbg_in2 1148 (by decide +kernel) rfl
theorem wd_1150 : (.instanceMethod y_M_brokenBy : Cond) ∈ tbg := tbg_in2 1150 (by decide +kernel) rfl
set_option maxRecDepth 100000 in
theorem wd_1151 : (.code y_M_brokenBy prog_10_method_27_code 3 (some .int) : Cond) ∈ tbg := tbg_in2 1151 rfl rfl
theorem wd_1152 : (.methodLink "QuotaLawsModel" 207 y_M_chainOf : Cond) ∈ tbg := tbg_in2 1152 (by decide +kernel) rfl
theorem wd_1154 : (.instanceMethod y_M_chainOf : Cond) ∈ tbg := tbg_in2 1154 (by decide +kernel) rfl
set_option maxRecDepth 100000 in
theorem wd_1155 : (.code y_M_chainOf prog_10_method_30_code 4 (some .int) : Cond) ∈ tbg := tbg_in2 1155 rfl rfl
theorem wd_1160 : (.methodLink "QuotaLawsModel" 213 y_M_isOne : Cond) ∈ tbg := tbg_in2 1160 (by decide +kernel) rfl
theorem wd_1162 : (.instanceMethod y_M_isOne : Cond) ∈ tbg := tbg_in2 1162 (by decide +kernel) rfl
set_option maxRecDepth 100000 in
theorem wd_1163 : (.code y_M_isOne prog_10_method_24_code 2 (some .boolean) : Cond) ∈ tbg := tbg_in2 1163 rfl rfl
theorem wd_1164 : (.methodLink "QuotaLawsModel" 216 y_M_canBreak : Cond) ∈ tbg := tbg_in2 1164 (by decide +kernel) rfl
theorem wd_1166 : (.instanceMethod y_M_canBreak : Cond) ∈ tbg := tbg_in2 1166 (by decide +kernel) rfl
set_option maxRecDepth 100000 in
theorem wd_1167 : (.code y_M_canBreak prog_10_method_33_code 3 (some .boolean) : Cond) ∈ tbg := tbg_in2 1167 rfl rfl
theorem wd_1168 : (.methodLink "QuotaLawsModel" 198 y_M_roomOf : Cond) ∈ tbg := tbg_in2 1168 (by decide +kernel) rfl
theorem wd_1170 : (.instanceMethod y_M_roomOf : Cond) ∈ tbg := tbg_in2 1170 (by decide +kernel) rfl
set_option maxRecDepth 100000 in
theorem wd_1171 : (.code y_M_roomOf prog_10_method_31_code 5 (some .int) : Cond) ∈ tbg := tbg_in2 1171 rfl rfl
theorem wd_1172 : (.methodLink "QuotaLawsModel" 201 y_M_timeLeft : Cond) ∈ tbg := tbg_in2 1172 (by decide +kernel) rfl
theorem wd_1174 : (.instanceMethod y_M_timeLeft : Cond) ∈ tbg := tbg_in2 1174 (by decide +kernel) rfl
set_option maxRecDepth 100000 in
theorem wd_1175 : (.code y_M_timeLeft prog_10_method_32_code 3 (some .int) : Cond) ∈ tbg := tbg_in2 1175 rfl rfl
theorem wd_1176 : (.methodLink "QuotaLawsModel" 195 y_M_allBy : Cond) ∈ tbg := tbg_in2 1176 (by decide +kernel) rfl
theorem wd_1178 : (.instanceMethod y_M_allBy : Cond) ∈ tbg := tbg_in2 1178 (by decide +kernel) rfl
set_option maxRecDepth 100000 in
theorem wd_1179 : (.code y_M_allBy prog_10_method_28_code 4 (some .int) : Cond) ∈ tbg := tbg_in2 1179 rfl rfl
theorem wd_1180 : (.methodLink "QuotaLawsModel" 220 y_M_flag : Cond) ∈ tbg := tbg_in2 1180 (by decide +kernel) rfl
theorem wd_1181 : (.static y_M_flag : Cond) ∈ tbg := tbg_in2 1181 (by decide +kernel) rfl
set_option maxRecDepth 100000 in
theorem wd_1182 : (.code y_M_flag prog_10_method_4_code 1 (some .int) : Cond) ∈ tbg := tbg_in2 1182 rfl rfl
theorem wd_1191 : (.constantLong "QuotaLawsModel" 224 (9) : Cond) ∈ tbg := tbg_in2 1191 (by decide +kernel) rfl
theorem wd_1192 : (.methodLink "QuotaLawsModel" 226 y_M_becomes : Cond) ∈ tbg := tbg_in2 1192 (by decide +kernel) rfl
theorem wd_1194 : (.instanceMethod y_M_becomes : Cond) ∈ tbg := tbg_in2 1194 (by decide +kernel) rfl
set_option maxRecDepth 100000 in
theorem wd_1195 : (.code y_M_becomes prog_10_method_39_code 4 (some .int) : Cond) ∈ tbg := tbg_in2 1195 rfl rfl
theorem wd_1204 : (.methodLink "QuotaLawsModel" 229 y_M_becomesBit : Cond) ∈ tbg := tbg_in2 1204 (by decide +kernel) rfl
theorem wd_1206 : (.instanceMethod y_M_becomesBit : Cond) ∈ tbg := tbg_in2 1206 (by decide +kernel) rfl
set_option maxRecDepth 100000 in
theorem wd_1207 : (.code y_M_becomesBit prog_10_method_40_code 5 (some .int) : Cond) ∈ tbg := tbg_in2 1207 rfl rfl
theorem wd_1212 : (.constantLong "QuotaLawsModel" 233 (5) : Cond) ∈ tbg := tbg_in2 1212 (by decide +kernel) rfl
theorem wd_1225 : (.constantLong "QuotaLawsModel" 235 (99) : Cond) ∈ tbg := tbg_in2 1225 (by decide +kernel) rfl
theorem wd_1230 : (.methodLink "QuotaLawsModel" 237 y_M_bitsOf : Cond) ∈ tbg := tbg_in2 1230 (by decide +kernel) rfl
theorem wd_1231 : (.static y_M_bitsOf : Cond) ∈ tbg := tbg_in2 1231 (by decide +kernel) rfl
set_option maxRecDepth 100000 in
theorem wd_1232 : (.code y_M_bitsOf prog_10_method_25_code 3 (some .int) : Cond) ∈ tbg := tbg_in2 1232 rfl rfl
theorem wd_1234 : (.instanceMethod y_M_breaks : Cond) ∈ tbg := tbg_in2 1234 (by decide +kernel) rfl
theorem wd_1235 : (.selects "QuotaLawsModel" y_M_breaks y_M_breaks : Cond) ∈ tbg := tbg_in2 1235 (by decide +kernel) rfl
set_option maxRecDepth 100000 in
theorem wd_1236 : (.code y_M_breaks prog_10_method_49_code 5 (some .int) : Cond) ∈ tbg := tbg_in2 1236 rfl rfl
theorem wd_1241 : (.methodLink "QuotaLawsModel" 240 y_M_fallsNow : Cond) ∈ tbg := tbg_in2 1241 (by decide +kernel) rfl
theorem wd_1243 : (.instanceMethod y_M_fallsNow : Cond) ∈ tbg := tbg_in2 1243 (by decide +kernel) rfl
set_option maxRecDepth 100000 in
theorem wd_1244 : (.code y_M_fallsNow prog_10_method_34_code 3 (some .int) : Cond) ∈ tbg := tbg_in2 1244 rfl rfl
theorem wd_1257 : (.methodLink "QuotaLawsModel" 260 y_M_startsRota : Cond) ∈ tbg := tbg_in2 1257 (by decide +kernel) rfl
theorem wd_1259 : (.instanceMethod y_M_startsRota : Cond) ∈ tbg := tbg_in2 1259 (by decide +kernel) rfl
set_option maxRecDepth 100000 in
theorem wd_1260 : (.code y_M_startsRota prog_10_method_58_code 3 none : Cond) ∈ tbg := tbg_in2 1260 rfl rfl
theorem wd_1261 : (.methodLink "QuotaLawsModel" 263 y_M_findRota : Cond) ∈ tbg := tbg_in2 1261 (by decide +kernel) rfl
theorem wd_1263 : (.instanceMethod y_M_findRota : Cond) ∈ tbg := tbg_in2 1263 (by decide +kernel) rfl
set_option maxRecDepth 100000 in
theorem wd_1264 : (.code y_M_findRota prog_10_method_57_code 5 (some .int) : Cond) ∈ tbg := tbg_in2 1264 rfl rfl
theorem wd_1265 : (.methodLink "QuotaLawsModel" 247 y_M_at : Cond) ∈ tbg := tbg_in2 1265 (by decide +kernel) rfl
theorem wd_1266 : (.static y_M_at : Cond) ∈ tbg := tbg_in2 1266 (by decide +kernel) rfl
set_option maxRecDepth 100000 in
theorem wd_1267 : (.code y_M_at prog_10_method_53_code 4 (some .int) : Cond) ∈ tbg := tbg_in2 1267 rfl rfl
theorem wd_1268 : (.methodLink "QuotaLawsModel" 257 y_M_leastOf : Cond) ∈ tbg := tbg_in2 1268 (by decide +kernel) rfl
theorem wd_1270 : (.instanceMethod y_M_leastOf : Cond) ∈ tbg := tbg_in2 1270 (by decide +kernel) rfl
set_option maxRecDepth 100000 in
theorem wd_1271 : (.code y_M_leastOf prog_10_method_56_code 10 (some .int) : Cond) ∈ tbg := tbg_in2 1271 rfl rfl
theorem wd_1272 : (.constant "QuotaLawsModel" 246 (1000000) : Cond) ∈ tbg := tbg_in2 1272 (by decide +kernel) rfl
theorem wd_1273 : (.constantLong "QuotaLawsModel" 251 (3) : Cond) ∈ tbg := tbg_in2 1273 (by decide +kernel) rfl
theorem wd_1274 : (.methodLink "QuotaLawsModel" 253 y_M_harmBy : Cond) ∈ tbg := tbg_in2 1274 (by decide +kernel) rfl
theorem wd_1276 : (.instanceMethod y_M_harmBy : Cond) ∈ tbg := tbg_in2 1276 (by decide +kernel) rfl
set_option maxRecDepth 100000 in
theorem wd_1277 : (.code y_M_harmBy prog_10_method_55_code 10 (some .int) : Cond) ∈ tbg := tbg_in2 1277 rfl rfl
theorem wd_1278 : (.methodLink "QuotaLawsModel" 243 y_M_roomAt : Cond) ∈ tbg := tbg_in2 1278 (by decide +kernel) rfl
theorem wd_1280 : (.instanceMethod y_M_roomAt : Cond) ∈ tbg := tbg_in2 1280 (by decide +kernel) rfl
set_option maxRecDepth 100000 in
theorem wd_1281 : (.code y_M_roomAt prog_10_method_54_code 3 (some .int) : Cond) ∈ tbg := tbg_in2 1281 rfl rfl
theorem wd_1282 : (.methodLink "QuotaLawsModel" 266 y_M_sharesOf : Cond) ∈ tbg := tbg_in2 1282 (by decide +kernel) rfl
theorem wd_1284 : (.instanceMethod y_M_sharesOf : Cond) ∈ tbg := tbg_in2 1284 (by decide +kernel) rfl
set_option maxRecDepth 100000 in
theorem wd_1285 : (.code y_M_sharesOf prog_10_method_59_code 10 none : Cond) ∈ tbg := tbg_in2 1285 rfl rfl
theorem wd_1298 : (.methodLink "QuotaLawsModel" 270 y_M_triesOf : Cond) ∈ tbg := tbg_in2 1298 (by decide +kernel) rfl
theorem wd_1300 : (.instanceMethod y_M_triesOf : Cond) ∈ tbg := tbg_in2 1300 (by decide +kernel) rfl
set_option maxRecDepth 100000 in
theorem wd_1301 : (.code y_M_triesOf prog_10_method_63_code 4 (some .int) : Cond) ∈ tbg := tbg_in2 1301 rfl rfl
theorem wd_1306 : (.constantLong "QuotaLawsModel" 273 (2) : Cond) ∈ tbg := tbg_in2 1306 (by decide +kernel) rfl
theorem wd_1307 : (.methodLink "QuotaLawsModel" 275 y_M_saves : Cond) ∈ tbg := tbg_in2 1307 (by decide +kernel) rfl
theorem wd_1309 : (.instanceMethod y_M_saves : Cond) ∈ tbg := tbg_in2 1309 (by decide +kernel) rfl
set_option maxRecDepth 100000 in
theorem wd_1310 : (.code y_M_saves prog_10_method_65_code 2 none : Cond) ∈ tbg := tbg_in2 1310 rfl rfl
theorem wd_1311 : (.methodLink "QuotaLawsModel" 278 y_M_wantedBy : Cond) ∈ tbg := tbg_in2 1311 (by decide +kernel) rfl
theorem wd_1313 : (.instanceMethod y_M_wantedBy : Cond) ∈ tbg := tbg_in2 1313 (by decide +kernel) rfl
set_option maxRecDepth 100000 in
theorem wd_1314 : (.code y_M_wantedBy prog_10_method_67_code 5 (some .int) : Cond) ∈ tbg := tbg_in2 1314 rfl rfl
theorem wd_1315 : (.methodLink "QuotaLawsModel" 281 y_M_returns : Cond) ∈ tbg := tbg_in2 1315 (by decide +kernel) rfl
theorem wd_1317 : (.instanceMethod y_M_returns : Cond) ∈ tbg := tbg_in2 1317 (by decide +kernel) rfl
set_option maxRecDepth 100000 in
theorem wd_1318 : (.code y_M_returns prog_10_method_66_code 2 none : Cond) ∈ tbg := tbg_in2 1318 rfl rfl
theorem wd_1323 : (.constantLong "QuotaLawsModel" 284 (-1) : Cond) ∈ tbg := tbg_in2 1323 (by decide +kernel) rfl
theorem wd_1324 : (.constantLong "QuotaLawsModel" 286 (10) : Cond) ∈ tbg := tbg_in2 1324 (by decide +kernel) rfl
theorem wd_1325 : (.methodLink "QuotaLawsModel" 288 y_M_common : Cond) ∈ tbg := tbg_in2 1325 (by decide +kernel) rfl
theorem wd_1326 : (.static y_M_common : Cond) ∈ tbg := tbg_in2 1326 (by decide +kernel) rfl
set_option maxRecDepth 100000 in
theorem wd_1327 : (.code y_M_common prog_10_method_69_code 10 (some .long) : Cond) ∈ tbg := tbg_in2 1327 rfl rfl
theorem wd_1332 : (.constantLong "QuotaLawsModel" 292 (20) : Cond) ∈ tbg := tbg_in2 1332 (by decide +kernel) rfl
theorem wd_1341 : (.methodLink "QuotaLawsModel" 315 y_M_tablesBy : Cond) ∈ tbg := tbg_in2 1341 (by decide +kernel) rfl
theorem wd_1343 : (.instanceMethod y_M_tablesBy : Cond) ∈ tbg := tbg_in2 1343 (by decide +kernel) rfl
set_option maxRecDepth 100000 in
theorem wd_1344 : (.code y_M_tablesBy prog_10_method_79_code 7 (some .long) : Cond) ∈ tbg := tbg_in2 1344 rfl rfl
theorem wd_1345 : (.methodLink "QuotaLawsModel" 309 y_M_addsLaw : Cond) ∈ tbg := tbg_in2 1345 (by decide +kernel) rfl
theorem wd_1347 : (.instanceMethod y_M_addsLaw : Cond) ∈ tbg := tbg_in2 1347 (by decide +kernel) rfl
set_option maxRecDepth 100000 in
theorem wd_1348 : (.code y_M_addsLaw prog_10_method_76_code 9 none : Cond) ∈ tbg := tbg_in2 1348 rfl rfl
theorem wd_1349 : (.methodLink "QuotaLawsModel" 294 y_M_mostOf : Cond) ∈ tbg := tbg_in2 1349 (by decide +kernel) rfl
theorem wd_1351 : (.instanceMethod y_M_mostOf : Cond) ∈ tbg := tbg_in2 1351 (by decide +kernel) rfl
set_option maxRecDepth 100000 in
theorem wd_1352 : (.code y_M_mostOf prog_10_method_74_code 3 (some .int) : Cond) ∈ tbg := tbg_in2 1352 rfl rfl
theorem wd_1353 : (.methodLink "QuotaLawsModel" 297 y_M_isSo : Cond) ∈ tbg := tbg_in2 1353 (by decide +kernel) rfl
theorem wd_1355 : (.instanceMethod y_M_isSo : Cond) ∈ tbg := tbg_in2 1355 (by decide +kernel) rfl
set_option maxRecDepth 100000 in
theorem wd_1356 : (.code y_M_isSo prog_10_method_73_code 7 (some .boolean) : Cond) ∈ tbg := tbg_in2 1356 rfl rfl
theorem wd_1357 : (.methodLink "QuotaLawsModel" 301 y_M_isAsked : Cond) ∈ tbg := tbg_in2 1357 (by decide +kernel) rfl
theorem wd_1359 : (.instanceMethod y_M_isAsked : Cond) ∈ tbg := tbg_in2 1359 (by decide +kernel) rfl
set_option maxRecDepth 100000 in
theorem wd_1360 : (.code y_M_isAsked prog_10_method_75_code 7 (some .boolean) : Cond) ∈ tbg := tbg_in2 1360 rfl rfl
theorem wd_1361 : (.methodLink "QuotaLawsModel" 305 y_M_addsTables : Cond) ∈ tbg := tbg_in2 1361 (by decide +kernel) rfl
theorem wd_1363 : (.instanceMethod y_M_addsTables : Cond) ∈ tbg := tbg_in2 1363 (by decide +kernel) rfl
set_option maxRecDepth 100000 in
theorem wd_1364 : (.code y_M_addsTables prog_10_method_77_code 8 none : Cond) ∈ tbg := tbg_in2 1364 rfl rfl
theorem wd_1365 : (.methodLink "QuotaLawsModel" 312 y_M_isTime : Cond) ∈ tbg := tbg_in2 1365 (by decide +kernel) rfl
theorem wd_1367 : (.instanceMethod y_M_isTime : Cond) ∈ tbg := tbg_in2 1367 (by decide +kernel) rfl
set_option maxRecDepth 100000 in
theorem wd_1368 : (.code y_M_isTime prog_10_method_78_code 3 (some .boolean) : Cond) ∈ tbg := tbg_in2 1368 rfl rfl
theorem wd_1377 : (.constantLong "QuotaLawsModel" 319 (60) : Cond) ∈ tbg := tbg_in2 1377 (by decide +kernel) rfl
theorem wd_1378 : (.constant "QuotaLawsModel" 321 (1103515245) : Cond) ∈ tbg := tbg_in2 1378 (by decide +kernel) rfl
theorem wd_1379 : (.methodLink "QuotaLawsModel" 322 y_M_breaks : Cond) ∈ tbg := tbg_in2 1379 (by decide +kernel) rfl
theorem wd_1384 : (.methodLink "QuotaLawsModel" 325 y_M_copies : Cond) ∈ tbg := tbg_in2 1384 (by decide +kernel) rfl
theorem wd_1386 : (.instanceMethod y_M_copies : Cond) ∈ tbg := tbg_in2 1386 (by decide +kernel) rfl
set_option maxRecDepth 100000 in
theorem wd_1387 : (.code y_M_copies prog_10_method_83_code 4 none : Cond) ∈ tbg := tbg_in2 1387 rfl rfl
theorem wd_1396 : (.methodLink "QuotaLawsModel" 329 y_M_isSheet : Cond) ∈ tbg := tbg_in2 1396 (by decide +kernel) rfl
theorem wd_1397 : (.static y_M_isSheet : Cond) ∈ tbg := tbg_in2 1397 (by decide +kernel) rfl
set_option maxRecDepth 100000 in
theorem wd_1398 : (.code y_M_isSheet prog_10_method_86_code 2 (some .boolean) : Cond) ∈ tbg := tbg_in2 1398 rfl rfl
theorem wd_1415 : (.fieldLink "java/lang/String" 9 "java/lang/String" "value" "[B" : Cond) ∈ tbg := tbg_in2 1415 (by decide +kernel) rfl
theorem wd_1416 : (.fieldLink "java/lang/String" 15 "java/lang/String" "coder" "B" : Cond) ∈ tbg := tbg_in2 1416 (by decide +kernel) rfl
theorem wp_0 : (.selects "QuotaLaws$Reader" y_Reader_takeToken y_Reader_takeToken : Cond) ∈ tbg := tbg_in3 0 (by decide +kernel) rfl
theorem wp_1 : (.selects "QuotaLaws$Reader" y_Reader_passRun y_Reader_passRun : Cond) ∈ tbg := tbg_in3 1 (by decide +kernel) rfl
theorem wp_2 : (.selects "QuotaLaws$Reader" y_Reader_kindHere y_Reader_kindHere : Cond) ∈ tbg := tbg_in3 2 (by decide +kernel) rfl
theorem wp_3 : (.selects "QuotaLaws$Reader" y_Reader_valueOfRun y_Reader_valueOfRun : Cond) ∈ tbg := tbg_in3 3 (by decide +kernel) rfl
theorem wp_4 : (.selects "QuotaLaws$Reader" y_Reader_fail y_Reader_fail : Cond) ∈ tbg := tbg_in3 4 (by decide +kernel) rfl
theorem wp_5 : (.selects "QuotaLaws$Reader" y_Reader_takeLine y_Reader_takeLine : Cond) ∈ tbg := tbg_in3 5 (by decide +kernel) rfl
theorem wp_6 : (.selects "QuotaLaws$Reader" y_Reader_isWord y_Reader_isWord : Cond) ∈ tbg := tbg_in3 6 (by decide +kernel) rfl
theorem wp_7 : (.selects "QuotaLaws$Reader" y_Reader_takeLaw y_Reader_takeLaw : Cond) ∈ tbg := tbg_in3 7 (by decide +kernel) rfl
theorem wp_8 : (.selects "QuotaLaws$Reader" y_Reader_takeNumber y_Reader_takeNumber : Cond) ∈ tbg := tbg_in3 8 (by decide +kernel) rfl
theorem wp_9 : (.selects "QuotaLaws$Reader" y_Reader_isBounded y_Reader_isBounded : Cond) ∈ tbg := tbg_in3 9 (by decide +kernel) rfl
theorem wp_10 : (.selects "QuotaLaws$Reader" y_Reader_putInto y_Reader_putInto : Cond) ∈ tbg := tbg_in3 10 (by decide +kernel) rfl
theorem wp_11 : (.selects "QuotaLaws$Reader" y_Reader_takeCarried y_Reader_takeCarried : Cond) ∈ tbg := tbg_in3 11 (by decide +kernel) rfl
theorem wp_12 : (.selects "QuotaLaws$Reader" y_Reader_isStop y_Reader_isStop : Cond) ∈ tbg := tbg_in3 12 (by decide +kernel) rfl
theorem wp_13 : (.selects "QuotaLaws$Reader" y_Reader_takeOne y_Reader_takeOne : Cond) ∈ tbg := tbg_in3 13 (by decide +kernel) rfl
theorem wp_14 : (.selects "QuotaLaws$Reader" y_Reader_addLaw y_Reader_addLaw : Cond) ∈ tbg := tbg_in3 14 (by decide +kernel) rfl
theorem wp_15 : (.selects "QuotaLaws$Reader" y_Reader_takeWant y_Reader_takeWant : Cond) ∈ tbg := tbg_in3 15 (by decide +kernel) rfl
theorem wp_16 : (.selects "QuotaLaws$Reader" y_Reader_takeWatch y_Reader_takeWatch : Cond) ∈ tbg := tbg_in3 16 (by decide +kernel) rfl
theorem wp_17 : (.selects "QuotaLaws$Planner" y_Planner_leftToLast y_Planner_leftToLast : Cond) ∈ tbg := tbg_in3 17 (by decide +kernel) rfl
theorem wp_18 : (.selects "QuotaLaws$Planner" y_Planner_search y_Planner_search : Cond) ∈ tbg := tbg_in3 18 (by decide +kernel) rfl
theorem wp_19 : (.selects "QuotaLaws$Planner" y_Planner_needOfAll y_Planner_needOfAll : Cond) ∈ tbg := tbg_in3 19 (by decide +kernel) rfl
theorem wp_20 : (.selects "QuotaLaws$Planner" y_Planner_givenTo y_Planner_givenTo : Cond) ∈ tbg := tbg_in3 20 (by decide +kernel) rfl
theorem wp_21 : (.selects "QuotaLaws$Odds" y_Odds_addTry y_Odds_addTry : Cond) ∈ tbg := tbg_in3 21 (by decide +kernel) rfl
theorem wp_22 : (.selects "QuotaLaws$Odds" y_Odds_reduce y_Odds_reduce : Cond) ∈ tbg := tbg_in3 22 (by decide +kernel) rfl
theorem wp_23 : (.selects "QuotaLaws$Tables" y_Tables_spendAlone y_Tables_spendAlone : Cond) ∈ tbg := tbg_in3 23 (by decide +kernel) rfl
theorem wp_24 : (.selects "QuotaLaws$Tables" y_Tables_joinAll y_Tables_joinAll : Cond) ∈ tbg := tbg_in3 24 (by decide +kernel) rfl
theorem wp_25 : (.selects "QuotaLaws$Tables" y_Tables_spendTogether y_Tables_spendTogether : Cond) ∈ tbg := tbg_in3 25 (by decide +kernel) rfl
theorem wp_26 : (.selects "QuotaLaws$Tables" y_Tables_waysTo y_Tables_waysTo : Cond) ∈ tbg := tbg_in3 26 (by decide +kernel) rfl
theorem wp_27 : (.selects "QuotaLaws$Tables" y_Tables_sumOfDue y_Tables_sumOfDue : Cond) ∈ tbg := tbg_in3 27 (by decide +kernel) rfl
theorem wp_28 : (.selects "QuotaLaws$Tables" y_Tables_isDueOf y_Tables_isDueOf : Cond) ∈ tbg := tbg_in3 28 (by decide +kernel) rfl
theorem wp_29 : (.selects "QuotaLaws" y_Q_countKept y_Q_countKept : Cond) ∈ tbg := tbg_in3 29 (by decide +kernel) rfl
theorem wp_30 : (.selects "QuotaLawsModel" y_M_firstDraft y_M_firstDraft : Cond) ∈ tbg := tbg_in3 30 (by decide +kernel) rfl
theorem wp_31 : (.selects "QuotaLawsModel" y_M_keepDraft y_M_keepDraft : Cond) ∈ tbg := tbg_in3 31 (by decide +kernel) rfl
theorem wp_32 : (.selects "QuotaLawsModel" y_M_next y_M_next : Cond) ∈ tbg := tbg_in3 32 (by decide +kernel) rfl
theorem wp_33 : (.selects "QuotaLawsModel" y_M_look y_M_look : Cond) ∈ tbg := tbg_in3 33 (by decide +kernel) rfl
theorem wp_34 : (.selects "QuotaLawsModel" y_M_needs y_M_needs : Cond) ∈ tbg := tbg_in3 34 (by decide +kernel) rfl
theorem wp_35 : (.selects "QuotaLawsModel" y_M_readLine y_M_readLine : Cond) ∈ tbg := tbg_in3 35 (by decide +kernel) rfl
theorem wp_36 : (.selects "QuotaLawsModel" y_M_lineNow y_M_lineNow : Cond) ∈ tbg := tbg_in3 36 (by decide +kernel) rfl
theorem wp_37 : (.selects "QuotaLawsModel" y_M_is y_M_is : Cond) ∈ tbg := tbg_in3 37 (by decide +kernel) rfl
theorem wp_38 : (.selects "QuotaLawsModel" y_M_readLineOf y_M_readLineOf : Cond) ∈ tbg := tbg_in3 38 (by decide +kernel) rfl
theorem wp_39 : (.selects "QuotaLawsModel" y_M_readLaw y_M_readLaw : Cond) ∈ tbg := tbg_in3 39 (by decide +kernel) rfl
theorem wp_40 : (.selects "QuotaLawsModel" y_M_readNumber y_M_readNumber : Cond) ∈ tbg := tbg_in3 40 (by decide +kernel) rfl
theorem wp_41 : (.selects "QuotaLawsModel" y_M_looked y_M_looked : Cond) ∈ tbg := tbg_in3 41 (by decide +kernel) rfl
theorem wp_42 : (.selects "QuotaLawsModel" y_M_readLawOf y_M_readLawOf : Cond) ∈ tbg := tbg_in3 42 (by decide +kernel) rfl
theorem wp_43 : (.selects "QuotaLawsModel" y_M_readOne y_M_readOne : Cond) ∈ tbg := tbg_in3 43 (by decide +kernel) rfl
theorem wp_44 : (.selects "QuotaLawsModel" y_M_isLaw y_M_isLaw : Cond) ∈ tbg := tbg_in3 44 (by decide +kernel) rfl
theorem wp_45 : (.selects "QuotaLawsModel" y_M_needOf y_M_needOf : Cond) ∈ tbg := tbg_in3 45 (by decide +kernel) rfl
theorem wp_46 : (.selects "QuotaLawsModel" y_M_doesStand y_M_doesStand : Cond) ∈ tbg := tbg_in3 46 (by decide +kernel) rfl
theorem wp_47 : (.selects "QuotaLawsModel" y_M_brokenBy y_M_brokenBy : Cond) ∈ tbg := tbg_in3 47 (by decide +kernel) rfl
theorem wp_48 : (.selects "QuotaLawsModel" y_M_chainOf y_M_chainOf : Cond) ∈ tbg := tbg_in3 48 (by decide +kernel) rfl
theorem wp_49 : (.selects "QuotaLawsModel" y_M_isOne y_M_isOne : Cond) ∈ tbg := tbg_in3 49 (by decide +kernel) rfl
theorem wp_50 : (.selects "QuotaLawsModel" y_M_canBreak y_M_canBreak : Cond) ∈ tbg := tbg_in3 50 (by decide +kernel) rfl
theorem wp_51 : (.selects "QuotaLawsModel" y_M_roomOf y_M_roomOf : Cond) ∈ tbg := tbg_in3 51 (by decide +kernel) rfl
theorem wp_52 : (.selects "QuotaLawsModel" y_M_timeLeft y_M_timeLeft : Cond) ∈ tbg := tbg_in3 52 (by decide +kernel) rfl
theorem wp_53 : (.selects "QuotaLawsModel" y_M_allBy y_M_allBy : Cond) ∈ tbg := tbg_in3 53 (by decide +kernel) rfl
theorem wp_54 : (.selects "QuotaLawsModel" y_M_becomes y_M_becomes : Cond) ∈ tbg := tbg_in3 54 (by decide +kernel) rfl
theorem wp_55 : (.selects "QuotaLawsModel" y_M_becomesBit y_M_becomesBit : Cond) ∈ tbg := tbg_in3 55 (by decide +kernel) rfl
theorem wp_56 : (.selects "QuotaLawsModel" y_M_fallsNow y_M_fallsNow : Cond) ∈ tbg := tbg_in3 56 (by decide +kernel) rfl
theorem wp_57 : (.selects "QuotaLawsModel" y_M_startsRota y_M_startsRota : Cond) ∈ tbg := tbg_in3 57 (by decide +kernel) rfl
theorem wp_58 : (.selects "QuotaLawsModel" y_M_findRota y_M_findRota : Cond) ∈ tbg := tbg_in3 58 (by decide +kernel) rfl
theorem wp_59 : (.selects "QuotaLawsModel" y_M_leastOf y_M_leastOf : Cond) ∈ tbg := tbg_in3 59 (by decide +kernel) rfl
theorem wp_60 : (.selects "QuotaLawsModel" y_M_harmBy y_M_harmBy : Cond) ∈ tbg := tbg_in3 60 (by decide +kernel) rfl
theorem wp_61 : (.selects "QuotaLawsModel" y_M_roomAt y_M_roomAt : Cond) ∈ tbg := tbg_in3 61 (by decide +kernel) rfl
theorem wp_62 : (.selects "QuotaLawsModel" y_M_sharesOf y_M_sharesOf : Cond) ∈ tbg := tbg_in3 62 (by decide +kernel) rfl
theorem wp_63 : (.selects "QuotaLawsModel" y_M_triesOf y_M_triesOf : Cond) ∈ tbg := tbg_in3 63 (by decide +kernel) rfl
theorem wp_64 : (.selects "QuotaLawsModel" y_M_saves y_M_saves : Cond) ∈ tbg := tbg_in3 64 (by decide +kernel) rfl
theorem wp_65 : (.selects "QuotaLawsModel" y_M_wantedBy y_M_wantedBy : Cond) ∈ tbg := tbg_in3 65 (by decide +kernel) rfl
theorem wp_66 : (.selects "QuotaLawsModel" y_M_returns y_M_returns : Cond) ∈ tbg := tbg_in3 66 (by decide +kernel) rfl
theorem wp_67 : (.selects "QuotaLawsModel" y_M_tablesBy y_M_tablesBy : Cond) ∈ tbg := tbg_in3 67 (by decide +kernel) rfl
theorem wp_68 : (.selects "QuotaLawsModel" y_M_addsLaw y_M_addsLaw : Cond) ∈ tbg := tbg_in3 68 (by decide +kernel) rfl
theorem wp_69 : (.selects "QuotaLawsModel" y_M_mostOf y_M_mostOf : Cond) ∈ tbg := tbg_in3 69 (by decide +kernel) rfl
theorem wp_70 : (.selects "QuotaLawsModel" y_M_isSo y_M_isSo : Cond) ∈ tbg := tbg_in3 70 (by decide +kernel) rfl
theorem wp_71 : (.selects "QuotaLawsModel" y_M_isAsked y_M_isAsked : Cond) ∈ tbg := tbg_in3 71 (by decide +kernel) rfl
theorem wp_72 : (.selects "QuotaLawsModel" y_M_addsTables y_M_addsTables : Cond) ∈ tbg := tbg_in3 72 (by decide +kernel) rfl
theorem wp_73 : (.selects "QuotaLawsModel" y_M_isTime y_M_isTime : Cond) ∈ tbg := tbg_in3 73 (by decide +kernel) rfl
theorem wp_74 : (.selects "QuotaLawsModel" y_M_copies y_M_copies : Cond) ∈ tbg := tbg_in3 74 (by decide +kernel) rfl
theorem si_Sightings_new : site0 y_Sightings_new prog_7_method_1_code 1 none 0 := ⟨wd_75, wd_4, ⟨by decide, by decide⟩, by decide +kernel⟩
theorem si_Reader_new : site0 y_Reader_new prog_4_method_1_code 1 none 0 := ⟨wd_30, wd_2, ⟨by decide, by decide⟩, by decide +kernel⟩
theorem si_Realm_new : site0 y_Realm_new prog_5_method_1_code 1 none 0 := ⟨wd_69, wd_3, ⟨by decide, by decide⟩, by decide +kernel⟩
theorem si_Planner_new : site0 y_Planner_new prog_3_method_1_code 1 none 0 := ⟨wd_202, wd_5, ⟨by decide, by decide⟩, by decide +kernel⟩
theorem si_Tables_new : site0 y_Tables_new prog_8_method_1_code 1 none 0 := ⟨wd_234, wd_6, ⟨by decide, by decide⟩, by decide +kernel⟩
theorem si_Odds_new : site0 y_Odds_new prog_2_method_1_code 1 none 0 := ⟨wd_266, wd_7, ⟨by decide, by decide⟩, by decide +kernel⟩
theorem si_Sheet_new : site0 y_Sheet_new prog_6_method_1_code 1 none 0 := ⟨wd_283, wd_8, ⟨by decide, by decide⟩, by decide +kernel⟩
theorem si_Q_isWithin : site0 y_Q_isWithin prog_1_method_41_code 3 (some .boolean) 3 := ⟨wd_333, wd_1, ⟨by decide, by decide⟩, by decide +kernel⟩
theorem si_Reader_append : site0 y_Reader_append prog_4_method_2_code 2 (some .boolean) 1 := ⟨wd_337, wd_2, ⟨by decide, by decide⟩, by decide +kernel⟩
theorem si_Arrays_fillI : site0 y_Arrays_fillI prog_17_method_103_code 4 none 2 := ⟨wd_356, wd_10, ⟨by decide, by decide⟩, by decide +kernel⟩
theorem si_Reader_passRun : site0 y_Reader_passRun prog_4_method_19_code 3 none 2 := ⟨wd_364, wd_2, ⟨by decide, by decide⟩, by decide +kernel⟩
theorem si_Reader_kindHere : site0 y_Reader_kindHere prog_4_method_18_code 2 (some .int) 0 := ⟨wd_368, wd_2, ⟨by decide, by decide⟩, by decide +kernel⟩
theorem si_Reader_valueOfRun : site0 y_Reader_valueOfRun prog_4_method_20_code 3 (some .int) 0 := ⟨wd_372, wd_2, ⟨by decide, by decide⟩, by decide +kernel⟩
theorem si_Reader_fail : site0 y_Reader_fail prog_4_method_21_code 3 (some .boolean) 2 := ⟨wd_376, wd_2, ⟨by decide, by decide⟩, by decide +kernel⟩
theorem si_String_length : site0 y_String_length prog_13_method_54_code 1 (some .int) 0 := ⟨wd_389, wd_11, ⟨by decide, by decide⟩, by decide +kernel⟩
theorem si_String_charAt : site0 y_String_charAt prog_13_method_56_code 2 (some .char) 1 := ⟨wd_399, wd_11, ⟨by decide, by decide⟩, by decide +kernel⟩
theorem si_Reader_takeToken : site0 y_Reader_takeToken prog_4_method_17_code 1 (some .boolean) 0 := ⟨wd_360, wd_2, ⟨by decide, by decide⟩, by decide +kernel⟩
theorem si_Reader_isBounded : site0 y_Reader_isBounded prog_4_method_14_code 3 (some .boolean) 2 := ⟨wd_445, wd_2, ⟨by decide, by decide⟩, by decide +kernel⟩
theorem si_Reader_takeNumber : site0 y_Reader_takeNumber prog_4_method_13_code 3 (some .boolean) 2 := ⟨wd_441, wd_2, ⟨by decide, by decide⟩, by decide +kernel⟩
theorem si_Reader_putInto : site0 y_Reader_putInto prog_4_method_12_code 3 (some .boolean) 2 := ⟨wd_450, wd_2, ⟨by decide, by decide⟩, by decide +kernel⟩
theorem si_Reader_takeCarried : site0 y_Reader_takeCarried prog_4_method_6_code 3 (some .boolean) 2 := ⟨wd_454, wd_2, ⟨by decide, by decide⟩, by decide +kernel⟩
theorem si_Reader_isStop : site0 y_Reader_isStop prog_4_method_15_code 1 (some .boolean) 0 := ⟨wd_458, wd_2, ⟨by decide, by decide⟩, by decide +kernel⟩
theorem si_Q_hasBit : site0 y_Q_hasBit prog_1_method_42_code 2 (some .boolean) 2 := ⟨wd_470, wd_1, ⟨by decide, by decide⟩, by decide +kernel⟩
theorem si_Reader_addLaw : site0 y_Reader_addLaw prog_4_method_10_code 3 (some .boolean) 2 := ⟨wd_467, wd_2, ⟨by decide, by decide⟩, by decide +kernel⟩
theorem si_Reader_isWord : site0 y_Reader_isWord prog_4_method_16_code 3 (some .boolean) 1 := ⟨wd_385, wd_2, ⟨by decide, by decide⟩, by decide +kernel⟩
theorem si_Reader_takeWatch : site0 y_Reader_takeWatch prog_4_method_9_code 2 (some .boolean) 1 := ⟨wd_480, wd_2, ⟨by decide, by decide⟩, by decide +kernel⟩
theorem si_Reader_takeWant : site0 y_Reader_takeWant prog_4_method_8_code 3 (some .boolean) 1 := ⟨wd_475, wd_2, ⟨by decide, by decide⟩, by decide +kernel⟩
theorem si_Reader_takeOne : site0 y_Reader_takeOne prog_4_method_7_code 5 (some .boolean) 2 := ⟨wd_463, wd_2, ⟨by decide, by decide⟩, by decide +kernel⟩
theorem si_Reader_takeLaw : site0 y_Reader_takeLaw prog_4_method_5_code 3 (some .boolean) 2 := ⟨wd_437, wd_2, ⟨by decide, by decide⟩, by decide +kernel⟩
theorem si_Q_isPart : site0 y_Q_isPart prog_1_method_45_code 2 (some .boolean) 2 := ⟨wd_486, wd_1, ⟨by decide, by decide⟩, by decide +kernel⟩
theorem si_Realm_hasLaw : site0 y_Realm_hasLaw prog_5_method_4_code 2 (some .boolean) 1 := ⟨wd_490, wd_3, ⟨by decide, by decide⟩, by decide +kernel⟩
theorem si_Realm_hasOne : site0 y_Realm_hasOne prog_5_method_5_code 2 (some .boolean) 1 := ⟨wd_494, wd_3, ⟨by decide, by decide⟩, by decide +kernel⟩
theorem si_Realm_empty : site0 y_Realm_empty prog_5_method_2_code 1 none 0 := ⟨wd_353, wd_3, ⟨by decide, by decide⟩, by decide +kernel⟩
theorem si_Reader_takeLine : site0 y_Reader_takeLine prog_4_method_4_code 2 (some .boolean) 1 := ⟨wd_380, wd_2, ⟨by decide, by decide⟩, by decide +kernel⟩
theorem si_Reader_allThere : site0 y_Reader_allThere prog_4_method_11_code 4 (some .boolean) 1 := ⟨wd_483, wd_2, ⟨by decide, by decide⟩, by decide +kernel⟩
theorem si_Sightings_copyFrom : site0 y_Sightings_copyFrom prog_7_method_4_code 2 none 1 := ⟨wd_505, wd_4, ⟨by decide, by decide⟩, by decide +kernel⟩
theorem si_Reader_readInto : site0 y_Reader_readInto prog_4_method_3_code 4 (some .boolean) 1 := ⟨wd_349, wd_2, ⟨by decide, by decide⟩, by decide +kernel⟩
theorem si_Realm_copyFrom : site0 y_Realm_copyFrom prog_5_method_3_code 2 none 1 := ⟨wd_498, wd_3, ⟨by decide, by decide⟩, by decide +kernel⟩
theorem si_Realm_brokenBy : site0 y_Realm_brokenBy prog_5_method_7_code 3 (some .int) 2 := ⟨wd_528, wd_3, ⟨by decide, by decide⟩, by decide +kernel⟩
theorem si_Realm_needOf : site0 y_Realm_needOf prog_5_method_10_code 4 (some .int) 1 := ⟨wd_523, wd_3, ⟨by decide, by decide⟩, by decide +kernel⟩
theorem si_Realm_chainOf : site0 y_Realm_chainOf prog_5_method_13_code 5 (some .int) 1 := ⟨wd_535, wd_3, ⟨by decide, by decide⟩, by decide +kernel⟩
theorem si_Realm_brokenByOne : site0 y_Realm_brokenByOne prog_5_method_8_code 4 (some .int) 1 := ⟨wd_545, wd_3, ⟨by decide, by decide⟩, by decide +kernel⟩
theorem si_Realm_roomOf : site0 y_Realm_roomOf prog_5_method_14_code 4 (some .int) 2 := ⟨wd_557, wd_3, ⟨by decide, by decide⟩, by decide +kernel⟩
theorem si_Realm_timeLeft : site0 y_Realm_timeLeft prog_5_method_15_code 2 (some .int) 1 := ⟨wd_561, wd_3, ⟨by decide, by decide⟩, by decide +kernel⟩
theorem si_Realm_ableAlone : site0 y_Realm_ableAlone prog_5_method_16_code 3 (some .int) 2 := ⟨wd_553, wd_3, ⟨by decide, by decide⟩, by decide +kernel⟩
theorem si_Realm_breakable : site0 y_Realm_breakable prog_5_method_18_code 4 (some .int) 1 := ⟨wd_549, wd_3, ⟨by decide, by decide⟩, by decide +kernel⟩
theorem si_Realm_hasBoth : site0 y_Realm_hasBoth prog_5_method_6_code 3 (some .boolean) 2 := ⟨wd_573, wd_3, ⟨by decide, by decide⟩, by decide +kernel⟩
theorem si_Q_bitOf : site0 y_Q_bitOf prog_1_method_43_code 2 (some .int) 2 := ⟨wd_590, wd_1, ⟨by decide, by decide⟩, by decide +kernel⟩
theorem si_Q_withBit : site0 y_Q_withBit prog_1_method_44_code 3 (some .int) 3 := ⟨wd_593, wd_1, ⟨by decide, by decide⟩, by decide +kernel⟩
theorem si_Integer_bitCount : site0 y_Integer_bitCount prog_11_method_49_code 1 (some .int) 1 := ⟨wd_617, wd_17, ⟨by decide, by decide⟩, by decide +kernel⟩
theorem si_Realm_mark : site0 y_Realm_mark prog_5_method_20_code 4 (some .int) 2 := ⟨wd_633, wd_3, ⟨by decide, by decide⟩, by decide +kernel⟩
theorem si_Realm_breakOnce : site0 y_Realm_breakOnce prog_5_method_19_code 4 (some .int) 2 := ⟨wd_628, wd_3, ⟨by decide, by decide⟩, by decide +kernel⟩
theorem si_Realm_lapsing : site0 y_Realm_lapsing prog_5_method_21_code 3 (some .int) 0 := ⟨wd_645, wd_3, ⟨by decide, by decide⟩, by decide +kernel⟩
theorem si_Realm_endYear : site0 y_Realm_endYear prog_5_method_22_code 2 (some .int) 0 := ⟨wd_641, wd_3, ⟨by decide, by decide⟩, by decide +kernel⟩
theorem si_Planner_leftToLast : site0 y_Planner_leftToLast prog_3_method_9_code 4 (some .int) 3 := ⟨wd_678, wd_5, ⟨by decide, by decide⟩, by decide +kernel⟩
theorem si_Planner_stateOf : site0 y_Planner_stateOf prog_3_method_10_code 3 (some .int) 3 := ⟨wd_681, wd_5, ⟨by decide, by decide⟩, by decide +kernel⟩
theorem si_Planner_search : site0 y_Planner_search prog_3_method_11_code 12 (some .int) 3 := ⟨wd_685, wd_5, ⟨by decide, by decide⟩, by decide +kernel⟩
theorem si_Planner_load : site0 y_Planner_load prog_3_method_2_code 4 none 1 := ⟨wd_664, wd_5, ⟨by decide, by decide⟩, by decide +kernel⟩
theorem si_Planner_leastHarm : site0 y_Planner_leastHarm prog_3_method_7_code 4 (some .int) 0 := ⟨wd_673, wd_5, ⟨by decide, by decide⟩, by decide +kernel⟩
theorem si_Planner_timesInFirst : site0 y_Planner_timesInFirst prog_3_method_8_code 6 (some .int) 2 := ⟨wd_691, wd_5, ⟨by decide, by decide⟩, by decide +kernel⟩
theorem si_Planner_needOfAll : site0 y_Planner_needOfAll prog_3_method_5_code 4 (some .int) 1 := ⟨wd_709, wd_5, ⟨by decide, by decide⟩, by decide +kernel⟩
theorem si_Planner_givenTo : site0 y_Planner_givenTo prog_3_method_6_code 6 (some .int) 1 := ⟨wd_714, wd_5, ⟨by decide, by decide⟩, by decide +kernel⟩
theorem si_Planner_grant : site0 y_Planner_grant prog_3_method_3_code 3 none 2 := ⟨wd_699, wd_5, ⟨by decide, by decide⟩, by decide +kernel⟩
theorem si_Planner_canMeet : site0 y_Planner_canMeet prog_3_method_4_code 3 (some .boolean) 1 := ⟨wd_704, wd_5, ⟨by decide, by decide⟩, by decide +kernel⟩
theorem si_Realm_ableWithout : site0 y_Realm_ableWithout prog_5_method_17_code 5 (some .int) 2 := ⟨wd_727, wd_3, ⟨by decide, by decide⟩, by decide +kernel⟩
theorem si_Realm_mostNeeded : site0 y_Realm_mostNeeded prog_5_method_25_code 6 (some .int) 1 := ⟨wd_739, wd_3, ⟨by decide, by decide⟩, by decide +kernel⟩
theorem si_Realm_eachForHimself : site0 y_Realm_eachForHimself prog_5_method_24_code 6 (some .int) 0 := ⟨wd_735, wd_3, ⟨by decide, by decide⟩, by decide +kernel⟩
theorem si_Realm_met : site0 y_Realm_met prog_5_method_23_code 3 (some .int) 0 := ⟨wd_744, wd_3, ⟨by decide, by decide⟩, by decide +kernel⟩
theorem si_Arrays_fillJ : site0 y_Arrays_fillJ prog_17_method_101_code 5 none 2 := ⟨wd_756, wd_10, ⟨by decide, by decide⟩, by decide +kernel⟩
theorem si_Odds_addTry : site0 y_Odds_addTry prog_2_method_3_code 3 none 1 := ⟨wd_761, wd_7, ⟨by decide, by decide⟩, by decide +kernel⟩
theorem si_Odds_reduce : site0 y_Odds_reduce prog_2_method_4_code 8 none 0 := ⟨wd_767, wd_7, ⟨by decide, by decide⟩, by decide +kernel⟩
theorem si_Odds_weigh : site0 y_Odds_weigh prog_2_method_2_code 6 none 2 := ⟨wd_753, wd_7, ⟨by decide, by decide⟩, by decide +kernel⟩
theorem si_Sightings_append : site0 y_Sightings_append prog_7_method_2_code 4 (some .boolean) 3 := ⟨wd_775, wd_4, ⟨by decide, by decide⟩, by decide +kernel⟩
theorem si_Sightings_sumDue : site0 y_Sightings_sumDue prog_7_method_3_code 5 (some .int) 2 := ⟨wd_792, wd_4, ⟨by decide, by decide⟩, by decide +kernel⟩
theorem si_Tables_stateOf : site0 y_Tables_stateOf prog_8_method_11_code 3 (some .int) 3 := ⟨wd_810, wd_6, ⟨by decide, by decide⟩, by decide +kernel⟩
theorem si_Tables_waysTo : site0 y_Tables_waysTo prog_8_method_8_code 13 (some .long) 4 := ⟨wd_818, wd_6, ⟨by decide, by decide⟩, by decide +kernel⟩
theorem si_Tables_isDueOf : site0 y_Tables_isDueOf prog_8_method_10_code 3 (some .boolean) 2 := ⟨wd_828, wd_6, ⟨by decide, by decide⟩, by decide +kernel⟩
theorem si_Tables_joinAll : site0 y_Tables_joinAll prog_8_method_6_code 4 none 0 := ⟨wd_807, wd_6, ⟨by decide, by decide⟩, by decide +kernel⟩
theorem si_Tables_spendAlone : site0 y_Tables_spendAlone prog_8_method_5_code 9 none 2 := ⟨wd_803, wd_6, ⟨by decide, by decide⟩, by decide +kernel⟩
theorem si_Tables_sumOfDue : site0 y_Tables_sumOfDue prog_8_method_9_code 6 (some .long) 0 := ⟨wd_824, wd_6, ⟨by decide, by decide⟩, by decide +kernel⟩
theorem si_Tables_spendTogether : site0 y_Tables_spendTogether prog_8_method_7_code 5 none 1 := ⟨wd_814, wd_6, ⟨by decide, by decide⟩, by decide +kernel⟩
theorem si_Tables_load : site0 y_Tables_load prog_8_method_2_code 6 none 1 := ⟨wd_787, wd_6, ⟨by decide, by decide⟩, by decide +kernel⟩
theorem si_Tables_fitting : site0 y_Tables_fitting prog_8_method_4_code 3 (some .long) 0 := ⟨wd_798, wd_6, ⟨by decide, by decide⟩, by decide +kernel⟩
theorem si_Tables_firstThatFits : site0 y_Tables_firstThatFits prog_8_method_3_code 8 (some .int) 3 := ⟨wd_836, wd_6, ⟨by decide, by decide⟩, by decide +kernel⟩
theorem si_Realm_nextSeed : site0 y_Realm_nextSeed prog_5_method_27_code 1 (some .int) 1 := ⟨wd_848, wd_3, ⟨by decide, by decide⟩, by decide +kernel⟩
theorem si_Realm_drawn : site0 y_Realm_drawn prog_5_method_28_code 1 (some .int) 1 := ⟨wd_852, wd_3, ⟨by decide, by decide⟩, by decide +kernel⟩
theorem si_Realm_breakBySeed : site0 y_Realm_breakBySeed prog_5_method_26_code 8 (some .int) 2 := ⟨wd_845, wd_3, ⟨by decide, by decide⟩, by decide +kernel⟩
theorem si_Sheet_renew : site0 y_Sheet_renew prog_6_method_2_code 3 none 2 := ⟨wd_869, wd_8, ⟨by decide, by decide⟩, by decide +kernel⟩
theorem si_Sheet_faultAt : site0 y_Sheet_faultAt prog_6_method_5_code 3 (some .int) 1 := ⟨wd_878, wd_8, ⟨by decide, by decide⟩, by decide +kernel⟩
theorem si_Sheet_put : site0 y_Sheet_put prog_6_method_3_code 3 none 2 := ⟨wd_882, wd_8, ⟨by decide, by decide⟩, by decide +kernel⟩
theorem si_Sheet_faultAs : site0 y_Sheet_faultAs prog_6_method_7_code 2 (some .int) 1 := ⟨wd_890, wd_8, ⟨by decide, by decide⟩, by decide +kernel⟩
theorem si_Sheet_faultOfPair : site0 y_Sheet_faultOfPair prog_6_method_6_code 4 (some .int) 1 := ⟨wd_894, wd_8, ⟨by decide, by decide⟩, by decide +kernel⟩
theorem si_Sheet_cellAt : site0 y_Sheet_cellAt prog_6_method_4_code 3 (some .int) 1 := ⟨wd_899, wd_8, ⟨by decide, by decide⟩, by decide +kernel⟩
theorem si_Realm_brokenInAll : site0 y_Realm_brokenInAll prog_5_method_9_code 3 (some .int) 0 := ⟨wd_911, wd_3, ⟨by decide, by decide⟩, by decide +kernel⟩
theorem si_Q_countKept : site0 y_Q_countKept prog_1_method_40_code 3 (some .int) 0 := ⟨wd_915, wd_1, ⟨by decide, by decide⟩, by decide +kernel⟩
theorem si_Realm_allPurses : site0 y_Realm_allPurses prog_5_method_12_code 3 (some .int) 0 := ⟨wd_919, wd_3, ⟨by decide, by decide⟩, by decide +kernel⟩
theorem si_Realm_allNeed : site0 y_Realm_allNeed prog_5_method_11_code 3 (some .int) 0 := ⟨wd_923, wd_3, ⟨by decide, by decide⟩, by decide +kernel⟩
theorem si_M_firstDraft : site0 y_M_firstDraft prog_10_method_5_code 2 none 0 := ⟨wd_933, wd_9, ⟨by decide, by decide⟩, by decide +kernel⟩
theorem si_M_keepDraft : site0 y_M_keepDraft prog_10_method_6_code 2 none 0 := ⟨wd_937, wd_9, ⟨by decide, by decide⟩, by decide +kernel⟩
theorem si_M_in : site0 y_M_in prog_10_method_3_code 6 (some .boolean) 3 := ⟨wd_1063, wd_9, ⟨by decide, by decide⟩, by decide +kernel⟩
theorem si_M_look : site0 y_M_look prog_10_method_10_code 2 (some .int) 1 := ⟨wd_1079, wd_9, ⟨by decide, by decide⟩, by decide +kernel⟩
theorem si_M_needs : site0 y_M_needs prog_10_method_9_code 3 none 2 := ⟨wd_1087, wd_9, ⟨by decide, by decide⟩, by decide +kernel⟩
theorem si_M_is : site0 y_M_is prog_10_method_11_code 5 (some .boolean) 4 := ⟨wd_1099, wd_9, ⟨by decide, by decide⟩, by decide +kernel⟩
theorem si_M_looked : site0 y_M_looked prog_10_method_14_code 3 (some .int) 2 := ⟨wd_1115, wd_9, ⟨by decide, by decide⟩, by decide +kernel⟩
theorem si_M_next : site0 y_M_next prog_10_method_13_code 2 none 0 := ⟨wd_1075, wd_9, ⟨by decide, by decide⟩, by decide +kernel⟩
theorem si_M_readNumber : site0 y_M_readNumber prog_10_method_15_code 4 (some .int) 2 := ⟨wd_1111, wd_9, ⟨by decide, by decide⟩, by decide +kernel⟩
theorem si_M_readLawOf : site0 y_M_readLawOf prog_10_method_16_code 3 (some .int) 1 := ⟨wd_1119, wd_9, ⟨by decide, by decide⟩, by decide +kernel⟩
theorem si_M_readLaw : site0 y_M_readLaw prog_10_method_17_code 4 none 0 := ⟨wd_1107, wd_9, ⟨by decide, by decide⟩, by decide +kernel⟩
theorem si_M_readOne : site0 y_M_readOne prog_10_method_18_code 2 none 0 := ⟨wd_1123, wd_9, ⟨by decide, by decide⟩, by decide +kernel⟩
theorem si_M_lineNow : site0 y_M_lineNow prog_10_method_12_code 1 (some .int) 0 := ⟨wd_1095, wd_9, ⟨by decide, by decide⟩, by decide +kernel⟩
theorem si_M_readLineOf : site0 y_M_readLineOf prog_10_method_19_code 3 none 1 := ⟨wd_1103, wd_9, ⟨by decide, by decide⟩, by decide +kernel⟩
theorem si_M_readLine : site0 y_M_readLine prog_10_method_20_code 2 none 0 := ⟨wd_1091, wd_9, ⟨by decide, by decide⟩, by decide +kernel⟩
theorem si_M_doesStand : site0 y_M_doesStand prog_10_method_26_code 2 (some .boolean) 1 := ⟨wd_1147, wd_9, ⟨by decide, by decide⟩, by decide +kernel⟩
theorem si_M_brokenBy : site0 y_M_brokenBy prog_10_method_27_code 3 (some .int) 2 := ⟨wd_1151, wd_9, ⟨by decide, by decide⟩, by decide +kernel⟩
theorem si_M_isLaw : site0 y_M_isLaw prog_10_method_23_code 2 (some .boolean) 1 := ⟨wd_1139, wd_9, ⟨by decide, by decide⟩, by decide +kernel⟩
theorem si_M_needOf : site0 y_M_needOf prog_10_method_29_code 4 (some .int) 1 := ⟨wd_1143, wd_9, ⟨by decide, by decide⟩, by decide +kernel⟩
theorem si_M_chainOf : site0 y_M_chainOf prog_10_method_30_code 4 (some .int) 1 := ⟨wd_1155, wd_9, ⟨by decide, by decide⟩, by decide +kernel⟩
theorem si_M_allBy : site0 y_M_allBy prog_10_method_28_code 4 (some .int) 1 := ⟨wd_1179, wd_9, ⟨by decide, by decide⟩, by decide +kernel⟩
theorem si_M_roomOf : site0 y_M_roomOf prog_10_method_31_code 5 (some .int) 2 := ⟨wd_1171, wd_9, ⟨by decide, by decide⟩, by decide +kernel⟩
theorem si_M_timeLeft : site0 y_M_timeLeft prog_10_method_32_code 3 (some .int) 1 := ⟨wd_1175, wd_9, ⟨by decide, by decide⟩, by decide +kernel⟩
theorem si_M_isOne : site0 y_M_isOne prog_10_method_24_code 2 (some .boolean) 1 := ⟨wd_1163, wd_9, ⟨by decide, by decide⟩, by decide +kernel⟩
theorem si_M_canBreak : site0 y_M_canBreak prog_10_method_33_code 3 (some .boolean) 2 := ⟨wd_1167, wd_9, ⟨by decide, by decide⟩, by decide +kernel⟩
theorem si_M_flag : site0 y_M_flag prog_10_method_4_code 1 (some .int) 1 := ⟨wd_1182, wd_9, ⟨by decide, by decide⟩, by decide +kernel⟩
theorem si_M_becomes : site0 y_M_becomes prog_10_method_39_code 4 (some .int) 2 := ⟨wd_1195, wd_9, ⟨by decide, by decide⟩, by decide +kernel⟩
theorem si_M_becomesBit : site0 y_M_becomesBit prog_10_method_40_code 5 (some .int) 3 := ⟨wd_1207, wd_9, ⟨by decide, by decide⟩, by decide +kernel⟩
theorem si_M_bitsOf : site0 y_M_bitsOf prog_10_method_25_code 3 (some .int) 1 := ⟨wd_1232, wd_9, ⟨by decide, by decide⟩, by decide +kernel⟩
theorem si_M_fallsNow : site0 y_M_fallsNow prog_10_method_34_code 3 (some .int) 0 := ⟨wd_1244, wd_9, ⟨by decide, by decide⟩, by decide +kernel⟩
theorem si_M_roomAt : site0 y_M_roomAt prog_10_method_54_code 3 (some .int) 2 := ⟨wd_1281, wd_9, ⟨by decide, by decide⟩, by decide +kernel⟩
theorem si_M_at : site0 y_M_at prog_10_method_53_code 4 (some .int) 4 := ⟨wd_1267, wd_9, ⟨by decide, by decide⟩, by decide +kernel⟩
theorem si_M_harmBy : site0 y_M_harmBy prog_10_method_55_code 10 (some .int) 7 := ⟨wd_1277, wd_9, ⟨by decide, by decide⟩, by decide +kernel⟩
theorem si_M_leastOf : site0 y_M_leastOf prog_10_method_56_code 10 (some .int) 4 := ⟨wd_1271, wd_9, ⟨by decide, by decide⟩, by decide +kernel⟩
theorem si_M_startsRota : site0 y_M_startsRota prog_10_method_58_code 3 none 1 := ⟨wd_1260, wd_9, ⟨by decide, by decide⟩, by decide +kernel⟩
theorem si_M_findRota : site0 y_M_findRota prog_10_method_57_code 5 (some .int) 0 := ⟨wd_1264, wd_9, ⟨by decide, by decide⟩, by decide +kernel⟩
theorem si_M_sharesOf : site0 y_M_sharesOf prog_10_method_59_code 10 none 4 := ⟨wd_1285, wd_9, ⟨by decide, by decide⟩, by decide +kernel⟩
theorem si_M_triesOf : site0 y_M_triesOf prog_10_method_63_code 4 (some .int) 2 := ⟨wd_1301, wd_9, ⟨by decide, by decide⟩, by decide +kernel⟩
theorem si_M_saves : site0 y_M_saves prog_10_method_65_code 2 none 0 := ⟨wd_1310, wd_9, ⟨by decide, by decide⟩, by decide +kernel⟩
theorem si_M_wantedBy : site0 y_M_wantedBy prog_10_method_67_code 5 (some .int) 1 := ⟨wd_1314, wd_9, ⟨by decide, by decide⟩, by decide +kernel⟩
theorem si_M_returns : site0 y_M_returns prog_10_method_66_code 2 none 0 := ⟨wd_1318, wd_9, ⟨by decide, by decide⟩, by decide +kernel⟩
theorem si_M_common : site0 y_M_common prog_10_method_69_code 10 (some .long) 2 := ⟨wd_1327, wd_9, ⟨by decide, by decide⟩, by decide +kernel⟩
theorem si_M_mostOf : site0 y_M_mostOf prog_10_method_74_code 3 (some .int) 2 := ⟨wd_1352, wd_9, ⟨by decide, by decide⟩, by decide +kernel⟩
theorem si_M_isSo : site0 y_M_isSo prog_10_method_73_code 7 (some .boolean) 3 := ⟨wd_1356, wd_9, ⟨by decide, by decide⟩, by decide +kernel⟩
theorem si_M_isAsked : site0 y_M_isAsked prog_10_method_75_code 7 (some .boolean) 6 := ⟨wd_1360, wd_9, ⟨by decide, by decide⟩, by decide +kernel⟩
theorem si_M_addsTables : site0 y_M_addsTables prog_10_method_77_code 8 none 3 := ⟨wd_1364, wd_9, ⟨by decide, by decide⟩, by decide +kernel⟩
theorem si_M_addsLaw : site0 y_M_addsLaw prog_10_method_76_code 9 none 4 := ⟨wd_1348, wd_9, ⟨by decide, by decide⟩, by decide +kernel⟩
theorem si_M_isTime : site0 y_M_isTime prog_10_method_78_code 3 (some .boolean) 2 := ⟨wd_1368, wd_9, ⟨by decide, by decide⟩, by decide +kernel⟩
theorem si_M_tablesBy : site0 y_M_tablesBy prog_10_method_79_code 7 (some .long) 3 := ⟨wd_1344, wd_9, ⟨by decide, by decide⟩, by decide +kernel⟩
theorem si_M_breaks : site0 y_M_breaks prog_10_method_49_code 5 (some .int) 2 := ⟨wd_1236, wd_9, ⟨by decide, by decide⟩, by decide +kernel⟩
theorem si_M_copies : site0 y_M_copies prog_10_method_83_code 4 none 2 := ⟨wd_1387, wd_9, ⟨by decide, by decide⟩, by decide +kernel⟩
theorem si_M_isSheet : site0 y_M_isSheet prog_10_method_86_code 2 (some .boolean) 2 := ⟨wd_1398, wd_9, ⟨by decide, by decide⟩, by decide +kernel⟩
theorem si_String_coder : site0 y_String_coder prog_13_method_152_code 1 (some .byte) 0 := ⟨wd_393, wd_11, ⟨by decide, by decide⟩, by decide +kernel⟩
theorem si_String_isLatin1 : site0 y_String_isLatin1 prog_13_method_154_code 1 (some .boolean) 0 := ⟨wd_403, wd_11, ⟨by decide, by decide⟩, by decide +kernel⟩
theorem si_String_checkIndex : site0 y_String_checkIndex prog_13_method_155_code 2 none 2 := ⟨wd_409, wd_11, ⟨by decide, by decide⟩, by decide +kernel⟩
theorem si_StringLatin1_charAt : site0 y_StringLatin1_charAt prog_14_method_2_code 2 (some .char) 2 := ⟨wd_406, wd_12, ⟨by decide, by decide⟩, by decide +kernel⟩
theorem si_Preconditions_checkIndex : site0 y_Preconditions_checkIndex prog_18_method_11_code 3 (some .int) 3 := ⟨wd_414, wd_13, ⟨by decide, by decide⟩, by decide +kernel⟩
end
section
/-! String constants: length() and charAt(), over the model -/
def strLen (o : Nat) : Option Int32 := if 1000 ≤ o ∧ o < 1000 + strK.length then some (Int32.ofNat (strL.getD (o - 1000) 0)) else none
def strAt (o : Nat) (i : Int32) : Option Int32 := if (1000 ≤ o ∧ o < 1000 + strK.length) ∧ ¬ (i < 0 ∨ strL.getD (o - 1000) 0 ≤ i.toNatClampNeg) then some ((strB.getD (o - 1000) []).getD i.toNatClampNeg 0) else none
def f_String_length (o : Nat) (h : mH) : Option (Int32 × mH) := bd1 (strLen o) fun n => some (n >>> ((0 : Int32) &&& 31), h)
def f_String_charAt (o : Nat) (i : Int32) (h : mH) : Option (Int32 × mH) := bd1 (strAt o i) fun b => some (((b &&& 255).toUInt32 % 65536).toInt32, h)
section
variable {y : MethodName} {cc : ByteArray} {mL : Nat} {ret : Option FieldType} {fr lo pc : Nat} {lv lv' : List (Nat × Value)} {stk rest : List Value} {h h1 h' : mH} {r r1 : Option Value}
theorem Sr.out {dC : Nat → ClassId} {dI : Nat → Nat → Nat} {dA : Nat → ClassId} {ad0 : Nat → Nat} {n0 s0 : Nat} {A : Nat → Prop} {s : State} {ad : Nat → Nat} {H : Heap} {locs : List Loc} {ls : Array Slot} (S : Sr mL dC dI dA ad0 n0 s0 A s h lv ad H locs ls) {k : Nat} (hk : 1000 ≤ k) : ad k = ad0 k := S.2.2.2.2.1 k (Or.inr (Nat.le_trans S.2.2.2.2.2.2.2.1 hk))
theorem g_strV {index i : Nat} (hi : i < strK.length) (hd : decode cc pc = .ok (.getfield index, 3)) (hlink : Cond.fieldLink y.cls index "java/lang/String" "value" "[B" ∈ tbg) (k : G y cc mL ret fr lo (pc + 3) lv (.ref (1100 + i) :: stk) h r h') : G y cc mL ret fr lo pc lv (.ref (1000 + i) :: stk) h r h' :=
  ⟨k.1, k.2.1, fun l p e R s m args below meth c dC dI dA ad0 n0 s0 A Qc C q f1 f2 f3 f4 ad H locs ls S => by
    have key := k.2.2 l p e R s m args below meth c dC dI dA ad0 n0 s0 A Qc C q f1 f2 f3 f4 ad H locs ls S
    have hz := (C.2.2.2.2.2.2.2.2.2.1.2.2.1.1 i hi).2.2.1
    dsimp only at hz
    rw [← S.out (k := 1000 + i) (by omega), ← S.out (k := 1100 + i) (by omega)] at hz
    exact vk_getf C.1 C.2.1 hz S.2.2.1 C.2.2.2.2.2.1 (C.2.2.2.2.2.2.2.1 _ hlink) (fun _ z => z) hd key⟩
theorem g_strC {index i : Nat} (hi : i < strK.length) (hd : decode cc pc = .ok (.getfield index, 3)) (hlink : Cond.fieldLink y.cls index "java/lang/String" "coder" "B" ∈ tbg) (k : G y cc mL ret fr lo (pc + 3) lv (.int 0 :: stk) h r h') : G y cc mL ret fr lo pc lv (.ref (1000 + i) :: stk) h r h' :=
  ⟨k.1, k.2.1, fun l p e R s m args below meth c dC dI dA ad0 n0 s0 A Qc C q f1 f2 f3 f4 ad H locs ls S => by
    have key := k.2.2 l p e R s m args below meth c dC dI dA ad0 n0 s0 A Qc C q f1 f2 f3 f4 ad H locs ls S
    have hz := (C.2.2.2.2.2.2.2.2.2.1.2.2.1.1 i hi).2.1
    dsimp only at hz
    rw [← S.out (k := 1000 + i) (by omega)] at hz
    exact vk_getf C.1 C.2.1 hz S.2.2.1 C.2.2.2.2.2.1 (C.2.2.2.2.2.2.2.1 _ hlink) (fun _ z => z) hd key⟩
theorem g_strN {i : Nat} (hi : i < strK.length) (hd : decode cc pc = .ok (.arraylength, 1)) (k : G y cc mL ret fr lo (pc + 1) lv (.int (Int32.ofNat (strL.getD i 0)) :: stk) h r h') : G y cc mL ret fr lo pc lv (.ref (1100 + i) :: stk) h r h' :=
  ⟨k.1, k.2.1, fun l p e R s m args below meth c dC dI dA ad0 n0 s0 A Qc C q f1 f2 f3 f4 ad H locs ls S => by
    have key := k.2.2 l p e R s m args below meth c dC dI dA ad0 n0 s0 A Qc C q f1 f2 f3 f4 ad H locs ls S
    have hz := (C.2.2.2.2.2.2.2.2.2.1.2.2.1.1 i hi).2.2.2
    dsimp only at hz
    rw [← S.out (k := 1100 + i) (by omega)] at hz
    exact va_tlen C.1 C.2.1 hz S.2.2.1 rfl hd key⟩
theorem g_strB {i : Nat} {j : Int32} (hi : i < strK.length) (hj : vp_in j (strL.getD i 0)) (hd : decode cc pc = .ok (.baload, 1)) (k : G y cc mL ret fr lo (pc + 1) lv (.int ((strB.getD i []).getD j.toNatClampNeg 0) :: stk) h r h') : G y cc mL ret fr lo pc lv (.int j :: .ref (1100 + i) :: stk) h r h' :=
  ⟨k.1, k.2.1, fun l p e R s m args below meth c dC dI dA ad0 n0 s0 A Qc C q f1 f2 f3 f4 ad H locs ls S => by
    have key := k.2.2 l p e R s m args below meth c dC dI dA ad0 n0 s0 A Qc C q f1 f2 f3 f4 ad H locs ls S
    have hz := (C.2.2.2.2.2.2.2.2.2.1.2.2.1.1 i hi).2.2.2
    dsimp only at hz
    rw [← S.out (k := 1100 + i) (by omega)] at hz
    exact va_tb C.1 C.2.1 hz S.2.2.1 hj rfl hd key⟩
theorem g_getsC {index : Nat} (hd : decode cc pc = .ok (.getstatic index, 3)) (hlink : Cond.fieldLink y.cls index "java/lang/String" "COMPACT_STRINGS" "Z" ∈ tbg) (k : G y cc mL ret fr lo (pc + 3) lv (.int 1 :: stk) h r h') : G y cc mL ret fr lo pc lv stk h r h' :=
  ⟨k.1, k.2.1, fun l p e R s m args below meth c dC dI dA ad0 n0 s0 A Qc C q f1 f2 f3 f4 ad H locs ls S =>
    va_gets C.1 C.2.1 C.2.2.2.2.2.2.2.2.2.1.2.2.2.1 S.2.2.1 C.2.2.2.2.2.1 (C.2.2.2.2.2.2.2.1 _ hlink) (fun _ z => z) hd (k.2.2 l p e R s m args below meth c dC dI dA ad0 n0 s0 A Qc C q f1 f2 f3 f4 ad H locs ls S)⟩
theorem g_getsF {index : Nat} (hd : decode cc pc = .ok (.getstatic index, 3)) (hlink : Cond.fieldLink y.cls index "jdk/internal/util/Preconditions" "SIOOBE_FORMATTER" "Ljava/util/function/BiFunction;" ∈ tbg) (k : ∀ v : Value, v = .null ∨ v = .ref 1200 → G y cc mL ret fr lo (pc + 3) lv (v :: stk) h r h') : G y cc mL ret fr lo pc lv stk h r h' :=
  ⟨(k .null (Or.inl rfl)).1, (k .null (Or.inl rfl)).2.1, fun l p e R s m args below meth c dC dI dA ad0 n0 s0 A Qc C q f1 f2 f3 f4 ad H locs ls S => by
    rcases C.2.2.2.2.2.2.2.2.2.1.2.2.2.2.1 with hz | hz
    · exact va_gets C.1 C.2.1 hz S.2.2.1 C.2.2.2.2.2.1 (C.2.2.2.2.2.2.2.1 _ hlink) (fun _ z => z) hd ((k .null (Or.inl rfl)).2.2 l p e R s m args below meth c dC dI dA ad0 n0 s0 A Qc C q f1 f2 f3 f4 ad H locs ls S)
    · rw [← S.out (k := 1200) (by omega)] at hz
      exact va_gets C.1 C.2.1 hz S.2.2.1 C.2.2.2.2.2.1 (C.2.2.2.2.2.2.2.1 _ hlink) (fun _ z => z) hd ((k (.ref 1200) (Or.inr rfl)).2.2 l p e R s m args below meth c dC dI dA ad0 n0 s0 A Qc C q f1 f2 f3 f4 ad H locs ls S)⟩
theorem g_i2c {a : Int32} (hd : decode cc pc = .ok (.i2c, 1)) (k : G y cc mL ret fr lo (pc + 1) lv (.int (a.toUInt32 % 65536).toInt32 :: stk) h r h') : G y cc mL ret fr lo pc lv (.int a :: stk) h r h' :=
  g_pure (fun hx hb _ _ _ k => lv_i2c hx hb hd rfl k) k
theorem g_callT {y2 : MethodName} {cc2 : ByteArray} {mL2 : Nat} {ret2 : Option FieldType} {fr2 lo2 index i : Nat} (As : List Value) (hi : i < strK.length) (hs : site y y2 cc2 mL2 ret2 fr lo fr2 lo2 As.length) (hlink : Cond.methodLink y.cls index y2 ∈ tbg) (hin : Cond.instanceMethod y2 ∈ tbg) (hsel : Cond.selects "java/lang/String" y2 y2 ∈ tbg) (hd : decode cc pc = .ok (.invokevirtual index, 3)) (hcat : (rest.map fun v => v.category).sum ≤ 8) (hal : al y2 = true → al y = true) (hlv : al y2 = true → ∀ q ∈ lv, okv h.1 h1.1 q.2) (hst : al y2 = true → ∀ v ∈ rest, okv h.1 h1.1 v) (M : MM y2 cc2 mL2 ret2 fr2 lo2 (.ref (1000 + i) :: As) h r1 h1) (hk : stk = As.reverse ++ .ref (1000 + i) :: rest)
    (k : G y cc mL ret fr lo (pc + 3) lv (r1.toList ++ rest) h1 r h') : G y cc mL ret fr lo pc lv stk h r h' := by
  obtain ⟨s1, s2, s3, s4, s5, s6⟩ := hs
  subst hk
  refine g_run ⟨M.1, M.2.1⟩ hal hlv hst (fun l p e R s m args below meth c dC dI dA ad0 n0 s0 A C f1 f2 f3 f4 ad H locs ls S hpm => ?_) k
  have hts := C.2.2.2.2.2.2.2.1
  have z1 := M.1.1
  have z2 := M.2.1.1
  have z3 := S.2.2.2.2.2.1
  have z4 := S.2.2.2.2.2.2.1
  have hrc := vk_recv C.2.2.2.2.2.2.2.2.2.1.2.2.1 hi S.2.2.1
  try dsimp only at hrc
  rw [← S.out (k := 1000 + i) (by omega)] at hrc
  exact ⟨_, va_runV (C := "java/lang/String") (b := ad (1000 + i)) (As := As.map (cv ad)) (rest := rest.map (cv ad)) (Ts := tbg) (own := y.cls) (nL := mL) ⟨C.1, C.2.1, C.2.2.2.1, C.2.2.2.2.2.1, hts⟩ (M.2.2 l dC dI dA ad H.size)
    ⟨⟨rfl, rfl, by show fr2 + 1 ≤ _; omega, by show 8 + (mL2 + 11) + lo2 ≤ _; omega, pay_in hts (ws_good s1), List.mem_cons_self, hts _ s1, hts _ s2, s3, len_of s4, hts _ hlink⟩, hts _ hin, hts _ hsel⟩
    ⟨PM_blind, hrc, fun U hU hW => ⟨rfl, hpm U hU hW⟩⟩ rfl (by rw [List.length_map]) S.2.2.2.1.1 (by simp [cv]) (lv_room (by rw [cat_cv]; exact hcat)) hd ⟨by omega, by omega⟩⟩
theorem g_callTo {y2 : MethodName} {cc2 : ByteArray} {mL2 : Nat} {ret2 : Option FieldType} {fr2 lo2 index o : Nat} (As : List Value) (ho : ∃ i, i < strK.length ∧ o = 1000 + i) (hs : site y y2 cc2 mL2 ret2 fr lo fr2 lo2 As.length) (hlink : Cond.methodLink y.cls index y2 ∈ tbg) (hin : Cond.instanceMethod y2 ∈ tbg) (hsel : Cond.selects "java/lang/String" y2 y2 ∈ tbg) (hd : decode cc pc = .ok (.invokevirtual index, 3)) (hcat : (rest.map fun v => v.category).sum ≤ 8) (hal : al y2 = true → al y = true) (hlv : al y2 = true → ∀ q ∈ lv, okv h.1 h1.1 q.2) (hst : al y2 = true → ∀ v ∈ rest, okv h.1 h1.1 v) (M : MM y2 cc2 mL2 ret2 fr2 lo2 (.ref o :: As) h r1 h1) (hk : stk = As.reverse ++ .ref o :: rest)
    (k : G y cc mL ret fr lo (pc + 3) lv (r1.toList ++ rest) h1 r h') : G y cc mL ret fr lo pc lv stk h r h' := by
  obtain ⟨i, hi, rfl⟩ := ho
  exact g_callT As hi hs hlink hin hsel hd hcat hal hlv hst M hk k
end
theorem d_String_length_0 : decode prog_13_method_54_code 0 = .ok (.aload_n 0, 1) := by decide +kernel
theorem d_String_length_1 : decode prog_13_method_54_code 1 = .ok (.getfield 9, 3) := by decide +kernel
theorem d_String_length_4 : decode prog_13_method_54_code 4 = .ok (.arraylength, 1) := by decide +kernel
theorem d_String_length_5 : decode prog_13_method_54_code 5 = .ok (.aload_n 0, 1) := by decide +kernel
theorem d_String_length_6 : decode prog_13_method_54_code 6 = .ok (.invokevirtual 335, 3) := by decide +kernel
theorem d_String_length_9 : decode prog_13_method_54_code 9 = .ok (.ishr, 1) := by decide +kernel
theorem d_String_length_10 : decode prog_13_method_54_code 10 = .ok (.ireturn, 1) := by decide +kernel
theorem d_String_coder_0 : decode prog_13_method_152_code 0 = .ok (.getstatic 38, 3) := by decide +kernel
theorem d_String_coder_3 : decode prog_13_method_152_code 3 = .ok (.ifCond .eq 10, 3) := by decide +kernel
theorem d_String_coder_6 : decode prog_13_method_152_code 6 = .ok (.aload_n 0, 1) := by decide +kernel
theorem d_String_coder_7 : decode prog_13_method_152_code 7 = .ok (.getfield 15, 3) := by decide +kernel
theorem d_String_coder_10 : decode prog_13_method_152_code 10 = .ok (.goto 4, 3) := by decide +kernel
theorem d_String_coder_13 : decode prog_13_method_152_code 13 = .ok (.iconst 1, 1) := by decide +kernel
theorem d_String_coder_14 : decode prog_13_method_152_code 14 = .ok (.ireturn, 1) := by decide +kernel
theorem d_String_charAt_0 : decode prog_13_method_56_code 0 = .ok (.aload_n 0, 1) := by decide +kernel
theorem d_String_charAt_1 : decode prog_13_method_56_code 1 = .ok (.invokevirtual 492, 3) := by decide +kernel
theorem d_String_charAt_4 : decode prog_13_method_56_code 4 = .ok (.ifCond .eq 12, 3) := by decide +kernel
theorem d_String_charAt_7 : decode prog_13_method_56_code 7 = .ok (.aload_n 0, 1) := by decide +kernel
theorem d_String_charAt_8 : decode prog_13_method_56_code 8 = .ok (.getfield 9, 3) := by decide +kernel
theorem d_String_charAt_11 : decode prog_13_method_56_code 11 = .ok (.iload_n 1, 1) := by decide +kernel
theorem d_String_charAt_12 : decode prog_13_method_56_code 12 = .ok (.invokestatic 495, 3) := by decide +kernel
theorem d_String_charAt_15 : decode prog_13_method_56_code 15 = .ok (.ireturn, 1) := by decide +kernel
theorem d_String_charAt_16 : decode prog_13_method_56_code 16 = .ok (.aload_n 0, 1) := by decide +kernel
theorem d_String_charAt_17 : decode prog_13_method_56_code 17 = .ok (.getfield 9, 3) := by decide +kernel
theorem d_String_charAt_20 : decode prog_13_method_56_code 20 = .ok (.iload_n 1, 1) := by decide +kernel
theorem d_String_charAt_21 : decode prog_13_method_56_code 21 = .ok (.invokestatic 498, 3) := by decide +kernel
theorem d_String_charAt_24 : decode prog_13_method_56_code 24 = .ok (.ireturn, 1) := by decide +kernel
theorem d_String_isLatin1_0 : decode prog_13_method_154_code 0 = .ok (.getstatic 38, 3) := by decide +kernel
theorem d_String_isLatin1_3 : decode prog_13_method_154_code 3 = .ok (.ifCond .eq 14, 3) := by decide +kernel
theorem d_String_isLatin1_6 : decode prog_13_method_154_code 6 = .ok (.aload_n 0, 1) := by decide +kernel
theorem d_String_isLatin1_7 : decode prog_13_method_154_code 7 = .ok (.getfield 15, 3) := by decide +kernel
theorem d_String_isLatin1_10 : decode prog_13_method_154_code 10 = .ok (.ifCond .ne 7, 3) := by decide +kernel
theorem d_String_isLatin1_13 : decode prog_13_method_154_code 13 = .ok (.iconst 1, 1) := by decide +kernel
theorem d_String_isLatin1_14 : decode prog_13_method_154_code 14 = .ok (.goto 4, 3) := by decide +kernel
theorem d_String_isLatin1_17 : decode prog_13_method_154_code 17 = .ok (.iconst 0, 1) := by decide +kernel
theorem d_String_isLatin1_18 : decode prog_13_method_154_code 18 = .ok (.ireturn, 1) := by decide +kernel
theorem d_String_checkIndex_0 : decode prog_13_method_155_code 0 = .ok (.iload_n 0, 1) := by decide +kernel
theorem d_String_checkIndex_1 : decode prog_13_method_155_code 1 = .ok (.iload_n 1, 1) := by decide +kernel
theorem d_String_checkIndex_2 : decode prog_13_method_155_code 2 = .ok (.getstatic 1053, 3) := by decide +kernel
theorem d_String_checkIndex_5 : decode prog_13_method_155_code 5 = .ok (.invokestatic 1059, 3) := by decide +kernel
theorem d_String_checkIndex_8 : decode prog_13_method_155_code 8 = .ok (.pop, 1) := by decide +kernel
theorem d_String_checkIndex_9 : decode prog_13_method_155_code 9 = .ok (.return_, 1) := by decide +kernel
theorem d_StringLatin1_charAt_0 : decode prog_14_method_2_code 0 = .ok (.iload_n 1, 1) := by decide +kernel
theorem d_StringLatin1_charAt_1 : decode prog_14_method_2_code 1 = .ok (.aload_n 0, 1) := by decide +kernel
theorem d_StringLatin1_charAt_2 : decode prog_14_method_2_code 2 = .ok (.arraylength, 1) := by decide +kernel
theorem d_StringLatin1_charAt_3 : decode prog_14_method_2_code 3 = .ok (.invokestatic 9, 3) := by decide +kernel
theorem d_StringLatin1_charAt_6 : decode prog_14_method_2_code 6 = .ok (.aload_n 0, 1) := by decide +kernel
theorem d_StringLatin1_charAt_7 : decode prog_14_method_2_code 7 = .ok (.iload_n 1, 1) := by decide +kernel
theorem d_StringLatin1_charAt_8 : decode prog_14_method_2_code 8 = .ok (.baload, 1) := by decide +kernel
theorem d_StringLatin1_charAt_9 : decode prog_14_method_2_code 9 = .ok (.sipush 255, 3) := by decide +kernel
theorem d_StringLatin1_charAt_12 : decode prog_14_method_2_code 12 = .ok (.iand, 1) := by decide +kernel
theorem d_StringLatin1_charAt_13 : decode prog_14_method_2_code 13 = .ok (.i2c, 1) := by decide +kernel
theorem d_StringLatin1_charAt_14 : decode prog_14_method_2_code 14 = .ok (.ireturn, 1) := by decide +kernel
theorem d_Preconditions_checkIndex_0 : decode prog_18_method_11_code 0 = .ok (.iload_n 0, 1) := by decide +kernel
theorem d_Preconditions_checkIndex_1 : decode prog_18_method_11_code 1 = .ok (.ifCond .lt 8, 3) := by decide +kernel
theorem d_Preconditions_checkIndex_4 : decode prog_18_method_11_code 4 = .ok (.iload_n 0, 1) := by decide +kernel
theorem d_Preconditions_checkIndex_5 : decode prog_18_method_11_code 5 = .ok (.iload_n 1, 1) := by decide +kernel
theorem d_Preconditions_checkIndex_6 : decode prog_18_method_11_code 6 = .ok (.if_icmp .lt 10, 3) := by decide +kernel
theorem d_Preconditions_checkIndex_9 : decode prog_18_method_11_code 9 = .ok (.aload_n 2, 1) := by decide +kernel
theorem d_Preconditions_checkIndex_10 : decode prog_18_method_11_code 10 = .ok (.iload_n 0, 1) := by decide +kernel
theorem d_Preconditions_checkIndex_11 : decode prog_18_method_11_code 11 = .ok (.iload_n 1, 1) := by decide +kernel
theorem d_Preconditions_checkIndex_12 : decode prog_18_method_11_code 12 = .ok (.invokestatic 95, 3) := by decide +kernel
theorem d_Preconditions_checkIndex_15 : decode prog_18_method_11_code 15 = .ok (.athrow, 1) := by decide +kernel
theorem d_Preconditions_checkIndex_16 : decode prog_18_method_11_code 16 = .ok (.iload_n 0, 1) := by decide +kernel
theorem d_Preconditions_checkIndex_17 : decode prog_18_method_11_code 17 = .ok (.ireturn, 1) := by decide +kernel
theorem c_String_coder {i : Nat} {h : mH} (hi : i < strK.length) : MM y_String_coder prog_13_method_152_code 1 (some .byte) 0 0 [.ref (1000 + i)] h (some (.int 0)) h := by
  refine mm_of_G (by decide) (Nat.le_of_ble_eq_true rfl) ?_
  refine g_getsC (pc := 0) d_String_coder_0 wd_394 ?_
  refine g_ifeq (pc := 3) 13 d_String_coder_3 (by decide) (fun c => absurd c (by decide)) (fun _ => ?_)
  refine g_aload_n (pc := 6) 0 d_String_coder_6 rfl rfl ?_
  refine g_strC (pc := 7) hi d_String_coder_7 wd_1416 ?_
  refine g_goto (pc := 10) 14 d_String_coder_10 (by decide) ?_
  exact g_zret (pc := 14) rfl rfl d_String_coder_14
theorem c_String_isLatin1 {i : Nat} {h : mH} (hi : i < strK.length) : MM y_String_isLatin1 prog_13_method_154_code 1 (some .boolean) 0 0 [.ref (1000 + i)] h (some (.int 1)) h := by
  refine mm_of_G (by decide) (Nat.le_of_ble_eq_true rfl) ?_
  refine g_getsC (pc := 0) d_String_isLatin1_0 wd_394 ?_
  refine g_ifeq (pc := 3) 17 d_String_isLatin1_3 (by decide) (fun c => absurd c (by decide)) (fun _ => ?_)
  refine g_aload_n (pc := 6) 0 d_String_isLatin1_6 rfl rfl ?_
  refine g_strC (pc := 7) hi d_String_isLatin1_7 wd_1416 ?_
  refine g_ifne (pc := 10) 17 d_String_isLatin1_10 (by decide) (fun c => absurd rfl c) (fun _ => ?_)
  refine g_iconst (pc := 13) 1 d_String_isLatin1_13 (by decide) ?_
  refine g_goto (pc := 14) 18 d_String_isLatin1_14 (by decide) ?_
  exact g_zret (pc := 18) rfl rfl d_String_isLatin1_18
theorem c_String_length {o : Nat} {h : mH} {r : Int32} {h' : mH} (hf : f_String_length o h = some (r, h')) : MM y_String_length prog_13_method_54_code 1 (some .int) 1 20 [.ref o] h (some (.int r)) h' := by
  obtain ⟨n, e, hf⟩ := bd1_e hf
  unfold strLen at e
  split at e
  · next q =>
    obtain ⟨i, rfl⟩ : ∃ i, o = 1000 + i := ⟨o - 1000, by omega⟩
    have hi : i < strK.length := by omega
    rw [show 1000 + i - 1000 = i by omega] at e
    obtain rfl := ret1 e
    obtain ⟨rfl, rfl⟩ := ret2 hf
    refine mm_of_G (by decide) (Nat.le_of_ble_eq_true rfl) ?_
    refine g_aload_n (pc := 0) 0 d_String_length_0 rfl rfl ?_
    refine g_strV (pc := 1) hi d_String_length_1 wd_1415 ?_
    refine g_strN (pc := 4) hi d_String_length_4 ?_
    refine g_aload_n (pc := 5) 0 d_String_length_5 rfl rfl ?_
    refine g_callT (pc := 6) [] hi (site_of si_String_coder (by decide) (by decide)) wd_390 wd_391 wd_392 d_String_length_6 (Nat.le_of_ble_eq_true rfl) (fun z => absurd z (by decide)) (fun z => absurd z (by decide)) (fun z => absurd z (by decide)) (c_String_coder hi) rfl ?_
    refine g_st [.int 0, .int (Int32.ofNat (strL.getD i 0))] rfl ?_
    refine g_ishr (pc := 9) d_String_length_9 ?_
    exact g_iret (pc := 10) rfl d_String_length_10
  · cases e
theorem c_Preconditions_checkIndex {i n : Int32} {v : Value} {h : mH} (h0 : ¬ i < 0) (h1 : i < n) (hv : v = .null ∨ v = .ref 1200) : MM y_Preconditions_checkIndex prog_18_method_11_code 3 (some .int) 0 0 [.int i, .int n, v] h (some (.int i)) h := by
  rcases hv with rfl | rfl <;>
  · refine mm_of_G (by decide) (Nat.le_of_ble_eq_true rfl) ?_
    refine g_iload_n (pc := 0) 0 d_Preconditions_checkIndex_0 rfl rfl ?_
    refine g_iflt (pc := 1) 9 d_Preconditions_checkIndex_1 (by decide) (fun c => absurd c h0) (fun _ => ?_)
    refine g_iload_n (pc := 4) 0 d_Preconditions_checkIndex_4 rfl rfl ?_
    refine g_iload_n (pc := 5) 1 d_Preconditions_checkIndex_5 rfl rfl ?_
    refine g_icmplt (pc := 6) 16 d_Preconditions_checkIndex_6 (by decide) (fun _ => ?_) (fun c => absurd h1 c)
    refine g_iload_n (pc := 16) 0 d_Preconditions_checkIndex_16 rfl rfl ?_
    exact g_iret (pc := 17) rfl d_Preconditions_checkIndex_17
theorem c_String_checkIndex {i n : Int32} {h : mH} (h0 : ¬ i < 0) (h1 : i < n) : MM y_String_checkIndex prog_13_method_155_code 2 none 1 22 [.int i, .int n] h none h := by
  refine mm_of_G (by decide) (Nat.le_of_ble_eq_true rfl) ?_
  refine g_iload_n (pc := 0) 0 d_String_checkIndex_0 rfl rfl ?_
  refine g_iload_n (pc := 1) 1 d_String_checkIndex_1 rfl rfl ?_
  refine g_getsF (pc := 2) d_String_checkIndex_2 wd_410 (fun v hv => ?_)
  refine g_callS (pc := 5) (rest := []) [.int i, .int n, v] (site_of si_Preconditions_checkIndex (by decide) (by decide)) wd_412 wd_413 d_String_checkIndex_5 (Nat.le_of_ble_eq_true rfl) (fun z => absurd z (by decide)) (fun z => absurd z (by decide)) (fun z => absurd z (by decide)) (c_Preconditions_checkIndex h0 h1 hv) rfl ?_
  refine g_st [.int i] rfl ?_
  refine g_pop (pc := 8) d_String_checkIndex_8 rfl ?_
  exact g_vret (pc := 9) rfl d_String_checkIndex_9
theorem c_StringLatin1_charAt {i : Nat} {j : Int32} {h : mH} (hi : i < strK.length) (hj : vp_in j (strL.getD i 0)) (hn : strL.getD i 0 < 2 ^ 31) : MM y_StringLatin1_charAt prog_14_method_2_code 2 (some .char) 2 43 [.ref (1100 + i), .int j] h (some (.int ((((strB.getD i []).getD j.toNatClampNeg 0) &&& 255).toUInt32 % 65536).toInt32)) h := by
  obtain ⟨q, hq, hjq⟩ := vp_in_of hj hn
  have h0 : ¬ j < 0 := fun z => hj (Or.inl z)
  have h1 : j < Int32.ofNat (strL.getD i 0) := by rw [hjq]; exact nI_lt hq hn
  refine mm_of_G (by decide) (Nat.le_of_ble_eq_true rfl) ?_
  refine g_iload_n (pc := 0) 1 d_StringLatin1_charAt_0 rfl rfl ?_
  refine g_aload_n (pc := 1) 0 d_StringLatin1_charAt_1 rfl rfl ?_
  refine g_strN (pc := 2) hi d_StringLatin1_charAt_2 ?_
  refine g_callS (pc := 3) (rest := []) [.int j, .int (Int32.ofNat (strL.getD i 0))] (site_of si_String_checkIndex (by decide) (by decide)) wd_407 wd_408 d_StringLatin1_charAt_3 (Nat.le_of_ble_eq_true rfl) (fun z => absurd z (by decide)) (fun z => absurd z (by decide)) (fun z => absurd z (by decide)) (c_String_checkIndex h0 h1) rfl ?_
  refine g_st [] rfl ?_
  refine g_aload_n (pc := 6) 0 d_StringLatin1_charAt_6 rfl rfl ?_
  refine g_iload_n (pc := 7) 1 d_StringLatin1_charAt_7 rfl rfl ?_
  refine g_strB (pc := 8) hi hj d_StringLatin1_charAt_8 ?_
  refine g_sipush (pc := 9) 255 d_StringLatin1_charAt_9 (by decide) ?_
  refine g_iand (pc := 12) d_StringLatin1_charAt_12 ?_
  refine g_i2c (pc := 13) d_StringLatin1_charAt_13 ?_
  exact g_zret (pc := 14) rfl (pk_nc _) d_StringLatin1_charAt_14
theorem strL_small : ∀ i, strL.getD i 0 < 2 ^ 31 := by
  intro i
  by_cases h : i < strL.length
  · have hd : ∀ n ∈ strL, n < 2 ^ 31 := by decide
    rw [List.getD_eq_getElem?_getD, List.getElem?_eq_getElem h]
    exact hd _ (List.getElem_mem h)
  · rw [List.getD_eq_getElem?_getD, List.getElem?_eq_none (by omega)]
    decide
theorem c_String_charAt {o : Nat} {j : Int32} {h : mH} {r : Int32} {h' : mH} (hf : f_String_charAt o j h = some (r, h')) : MM y_String_charAt prog_13_method_56_code 2 (some .char) 3 64 [.ref o, .int j] h (some (.int r)) h' := by
  obtain ⟨n, e, hf⟩ := bd1_e hf
  unfold strAt at e
  split at e
  · next q =>
    obtain ⟨i, rfl⟩ : ∃ i, o = 1000 + i := ⟨o - 1000, by omega⟩
    have hi : i < strK.length := by omega
    rw [show 1000 + i - 1000 = i by omega] at e q
    obtain rfl := ret1 e
    obtain ⟨rfl, rfl⟩ := ret2 hf
    refine mm_of_G (by decide) (Nat.le_of_ble_eq_true rfl) ?_
    refine g_aload_n (pc := 0) 0 d_String_charAt_0 rfl rfl ?_
    refine g_callT (pc := 1) [] hi (site_of si_String_isLatin1 (by decide) (by decide)) wd_400 wd_401 wd_402 d_String_charAt_1 (Nat.le_of_ble_eq_true rfl) (fun z => absurd z (by decide)) (fun z => absurd z (by decide)) (fun z => absurd z (by decide)) (c_String_isLatin1 hi) rfl ?_
    refine g_st [.int 1] rfl ?_
    refine g_ifeq (pc := 4) 16 d_String_charAt_4 (by decide) (fun c => absurd c (by decide)) (fun _ => ?_)
    refine g_aload_n (pc := 7) 0 d_String_charAt_7 rfl rfl ?_
    refine g_strV (pc := 8) hi d_String_charAt_8 wd_1415 ?_
    refine g_iload_n (pc := 11) 1 d_String_charAt_11 rfl rfl ?_
    refine g_callS (pc := 12) (rest := []) [.ref (1100 + i), .int j] (site_of si_StringLatin1_charAt (by decide) (by decide)) wd_404 wd_405 d_String_charAt_12 (Nat.le_of_ble_eq_true rfl) (fun z => absurd z (by decide)) (fun z => absurd z (by decide)) (fun z => absurd z (by decide)) (c_StringLatin1_charAt hi q.2 (strL_small i)) rfl ?_
    refine g_st [.int ((((strB.getD i []).getD j.toNatClampNeg 0) &&& 255).toUInt32 % 65536).toInt32] rfl ?_
    exact g_zret (pc := 15) rfl (pk_nc _) d_String_charAt_15
  · cases e
theorem str_of_len {o : Nat} {h : mH} {r : Int32} {h' : mH} (hf : f_String_length o h = some (r, h')) : ∃ i, i < strK.length ∧ o = 1000 + i := by
  obtain ⟨n, e, hf⟩ := bd1_e hf
  unfold strLen at e
  split at e
  · next q => exact ⟨o - 1000, by omega, by omega⟩
  · cases e
theorem str_of_at {o : Nat} {j : Int32} {h : mH} {r : Int32} {h' : mH} (hf : f_String_charAt o j h = some (r, h')) : ∃ i, i < strK.length ∧ o = 1000 + i := by
  obtain ⟨n, e, hf⟩ := bd1_e hf
  unfold strAt at e
  split at e
  · next q => exact ⟨o - 1000, by omega, by omega⟩
  · cases e
end
section
/-! what the constructors' functions are made of -/
def grd {α : Type} (p : Prop) [Decidable p] (x : Option α) : Option α := if p then x else none
theorem grd_e {α : Type} {p : Prop} [Decidable p] {x : Option α} {b : α} (h : grd p x = some b) : p ∧ x = some b := by
  unfold grd at h
  split at h
  · next q => exact ⟨q, h⟩
  · cases h
def mkn (h : mH) (sl : Nat) (c : mCell) : Option mH := if h.1 < 1000 then some (mnew h sl c) else none
theorem mkn_e {h h2 : mH} {sl : Nat} {c : mCell} (e : mkn h sl c = some h2) : h.1 < 1000 ∧ h2 = mnew h sl c := by
  unfold mkn at e
  split at e
  · next q => exact ⟨q, (Option.some.inj e).symm⟩
  · cases e
theorem okv_r {n n1 k : Nat} (h : k < n ∨ n1 ≤ k) : okv n n1 (.ref k) := fun j z => by cases z; exact h
theorem okl_nil {n n1 : Nat} : ∀ q ∈ ([] : List (Nat × Value)), okv n n1 q.2 := fun _ h => by cases h
theorem okl_cons {n n1 k : Nat} {v : Value} {l : List (Nat × Value)} (hv : okv n n1 v) (hl : ∀ q ∈ l, okv n n1 q.2) : ∀ q ∈ (k, v) :: l, okv n n1 q.2 := by
  intro q hq
  rcases List.mem_cons.mp hq with rfl | hq
  · exact hv
  · exact hl q hq
theorem oks_nil {n n1 : Nat} : ∀ v ∈ ([] : List Value), okv n n1 v := fun _ h => by cases h
theorem oks_cons {n n1 : Nat} {v : Value} {l : List Value} (hv : okv n n1 v) (hl : ∀ q ∈ l, okv n n1 q) : ∀ q ∈ v :: l, okv n n1 q := by
  intro q hq
  rcases List.mem_cons.mp hq with rfl | hq
  · exact hv
  · exact hl q hq
end
section
/-! Arrays fill ([II)V -/
theorem d_Arrays_fillI_0 : decode prog_17_method_103_code 0 = .ok (.iconst 0, 1) := by decide +kernel
theorem d_Arrays_fillI_1 : decode prog_17_method_103_code 1 = .ok (.istore_n 2, 1) := by decide +kernel
theorem d_Arrays_fillI_2 : decode prog_17_method_103_code 2 = .ok (.aload_n 0, 1) := by decide +kernel
theorem d_Arrays_fillI_3 : decode prog_17_method_103_code 3 = .ok (.arraylength, 1) := by decide +kernel
theorem d_Arrays_fillI_4 : decode prog_17_method_103_code 4 = .ok (.istore_n 3, 1) := by decide +kernel
theorem d_Arrays_fillI_5 : decode prog_17_method_103_code 5 = .ok (.iload_n 2, 1) := by decide +kernel
theorem d_Arrays_fillI_6 : decode prog_17_method_103_code 6 = .ok (.iload_n 3, 1) := by decide +kernel
theorem d_Arrays_fillI_7 : decode prog_17_method_103_code 7 = .ok (.if_icmp .ge 13, 3) := by decide +kernel
theorem d_Arrays_fillI_10 : decode prog_17_method_103_code 10 = .ok (.aload_n 0, 1) := by decide +kernel
theorem d_Arrays_fillI_11 : decode prog_17_method_103_code 11 = .ok (.iload_n 2, 1) := by decide +kernel
theorem d_Arrays_fillI_12 : decode prog_17_method_103_code 12 = .ok (.iload_n 1, 1) := by decide +kernel
theorem d_Arrays_fillI_13 : decode prog_17_method_103_code 13 = .ok (.iastore, 1) := by decide +kernel
theorem d_Arrays_fillI_14 : decode prog_17_method_103_code 14 = .ok (.iinc 2 1, 3) := by decide +kernel
theorem d_Arrays_fillI_17 : decode prog_17_method_103_code 17 = .ok (.goto (-12), 3) := by decide +kernel
theorem d_Arrays_fillI_20 : decode prog_17_method_103_code 20 = .ok (.return_, 1) := by decide +kernel
def f_Arrays_fillI_5b (rec5 : Nat → Int32 → Int32 → Int32 → mH → Option mH) (b0 : Nat) (b1 : Int32) (b2 : Int32) (b3 : Int32) (h : mH) : Option mH :=
  if b3 ≤ b2 then
    some h
  else
    bd1 (sI h 0 b0 b2 b1) fun h3 =>
    rec5 b0 b1 (b2 + (1 : Int32)) b3 h3
set_option maxRecDepth 20000 in
theorem t_Arrays_fillI_5b (rec5 : Nat → Int32 → Int32 → Int32 → mH → Option mH) (hrec5 : ∀ (b0 : Nat) (b1 : Int32) (b2 : Int32) (b3 : Int32) (h : mH) (h' : mH), rec5 b0 b1 b2 b3 h = some h' → G y_Arrays_fillI prog_17_method_103_code 4 none 0 0 5 [(0, .ref b0), (1, .int b1), (2, .int b2), (3, .int b3)] [] h none h') (b0 : Nat) (b1 : Int32) (b2 : Int32) (b3 : Int32) (h : mH) (h' : mH) (hf : f_Arrays_fillI_5b rec5 b0 b1 b2 b3 h = some h') : G y_Arrays_fillI prog_17_method_103_code 4 none 0 0 5 [(0, .ref b0), (1, .int b1), (2, .int b2), (3, .int b3)] [] h none h' := by
  unfold f_Arrays_fillI_5b at hf
  refine g_iload_n (pc := 5) 2 d_Arrays_fillI_5 rfl rfl ?_
  refine g_iload_n (pc := 6) 3 d_Arrays_fillI_6 rfl rfl ?_
  refine g_icmpge (pc := 7) 20 d_Arrays_fillI_7 (by decide) (fun c5 => ?_) (fun c5 => ?_)
  · replace hf := (if_pos c5).symm.trans hf
    obtain rfl := ret1 hf
    exact g_vret (pc := 20) rfl d_Arrays_fillI_20
  · replace hf := (if_neg c5).symm.trans hf
    refine g_aload_n (pc := 10) 0 d_Arrays_fillI_10 rfl rfl ?_
    refine g_iload_n (pc := 11) 2 d_Arrays_fillI_11 rfl rfl ?_
    refine g_iload_n (pc := 12) 1 d_Arrays_fillI_12 rfl rfl ?_
    obtain ⟨h3, e4, hf⟩ := bd1_e hf
    refine g_iast (pc := 13) d_Arrays_fillI_13 e4 ?_
    refine g_iinc (pc := 14) 2 (b2 + (1 : Int32)) [(2, .int (b2 + (1 : Int32))), (0, .ref b0), (1, .int b1), (3, .int b3)] d_Arrays_fillI_14 rfl rfl (Nat.le_of_ble_eq_true rfl) rfl ?_
    refine g_goto (pc := 17) 5 d_Arrays_fillI_17 (by decide) ?_
    refine g_lv [1, 2, 0, 3] rfl ?_
    exact hrec5 _ _ _ _ _ _  hf
def f_Arrays_fillI_5  : Nat → Nat → Int32 → Int32 → Int32 → mH → Option mH
  | 0 => fun _ _ _ _ _ => none
  | n + 1 => f_Arrays_fillI_5b  (f_Arrays_fillI_5  n)
theorem t_Arrays_fillI_5  : ∀ (n : Nat) (b0 : Nat) (b1 : Int32) (b2 : Int32) (b3 : Int32) (h : mH) (h' : mH) (hf : f_Arrays_fillI_5  n b0 b1 b2 b3 h = some h'), G y_Arrays_fillI prog_17_method_103_code 4 none 0 0 5 [(0, .ref b0), (1, .int b1), (2, .int b2), (3, .int b3)] [] h none h'
  | 0, _, _, _, _, _, _, hf => by cases hf
  | n + 1, _, _, _, _, _, _, hf => t_Arrays_fillI_5b  (f_Arrays_fillI_5  n) (t_Arrays_fillI_5  n) _ _ _ _ _ _ hf
def f_Arrays_fillI_0  (a0 : Nat) (a1 : Int32) (h : mH) : Option mH :=
  bd1 (aN h 0 a0) fun x1 =>
  f_Arrays_fillI_5  FU a0 a1 (0 : Int32) x1 h
set_option maxRecDepth 20000 in
theorem t_Arrays_fillI_0  (a0 : Nat) (a1 : Int32) (h : mH) (h' : mH) (hf : f_Arrays_fillI_0  a0 a1 h = some h') : G y_Arrays_fillI prog_17_method_103_code 4 none 0 0 0 [(0, .ref a0), (1, .int a1)] [] h none h' := by
  unfold f_Arrays_fillI_0 at hf
  refine g_iconst (pc := 0) (0 : Int32) d_Arrays_fillI_0 (by decide) ?_
  refine g_istore_n (pc := 1) [(2, .int (0 : Int32)), (0, .ref a0), (1, .int a1)] d_Arrays_fillI_1 rfl (Nat.le_of_ble_eq_true rfl) rfl ?_
  refine g_aload_n (pc := 2) 1 d_Arrays_fillI_2 rfl rfl ?_
  obtain ⟨x1, e2, hf⟩ := bd1_e hf
  refine g_alen (pc := 3) (.int) d_Arrays_fillI_3 (fun _ => rfl) e2 ?_
  refine g_istore_n (pc := 4) [(3, .int x1), (2, .int (0 : Int32)), (0, .ref a0), (1, .int a1)] d_Arrays_fillI_4 rfl (Nat.le_of_ble_eq_true rfl) rfl ?_
  refine g_lv [2, 3, 1, 0] rfl ?_
  exact t_Arrays_fillI_5  FU _ _ _ _ _ _  hf
def f_Arrays_fillI (a0 : Nat) (a1 : Int32) (h : mH) : Option mH := f_Arrays_fillI_0 a0 a1 h
theorem c_Arrays_fillI {a0 : Nat} {a1 : Int32} {h : mH} {h' : mH} (hf : f_Arrays_fillI a0 a1 h = some h') : MM y_Arrays_fillI prog_17_method_103_code 4 none 0 0 [.ref a0, .int a1] h none h' :=
  mm_of_G (by decide) (Nat.le_of_ble_eq_true rfl) (t_Arrays_fillI_0 _ _ _ _ hf)
/-! Integer bitCount (I)I -/
theorem d_Integer_bitCount_0 : decode prog_11_method_49_code 0 = .ok (.iload_n 0, 1) := by decide +kernel
theorem d_Integer_bitCount_1 : decode prog_11_method_49_code 1 = .ok (.iload_n 0, 1) := by decide +kernel
theorem d_Integer_bitCount_2 : decode prog_11_method_49_code 2 = .ok (.iconst 1, 1) := by decide +kernel
theorem d_Integer_bitCount_3 : decode prog_11_method_49_code 3 = .ok (.iushr, 1) := by decide +kernel
theorem d_Integer_bitCount_4 : decode prog_11_method_49_code 4 = .ok (.ldc_w 265, 3) := by decide +kernel
theorem d_Integer_bitCount_7 : decode prog_11_method_49_code 7 = .ok (.iand, 1) := by decide +kernel
theorem d_Integer_bitCount_8 : decode prog_11_method_49_code 8 = .ok (.isub, 1) := by decide +kernel
theorem d_Integer_bitCount_9 : decode prog_11_method_49_code 9 = .ok (.istore_n 0, 1) := by decide +kernel
theorem d_Integer_bitCount_10 : decode prog_11_method_49_code 10 = .ok (.iload_n 0, 1) := by decide +kernel
theorem d_Integer_bitCount_11 : decode prog_11_method_49_code 11 = .ok (.ldc_w 266, 3) := by decide +kernel
theorem d_Integer_bitCount_14 : decode prog_11_method_49_code 14 = .ok (.iand, 1) := by decide +kernel
theorem d_Integer_bitCount_15 : decode prog_11_method_49_code 15 = .ok (.iload_n 0, 1) := by decide +kernel
theorem d_Integer_bitCount_16 : decode prog_11_method_49_code 16 = .ok (.iconst 2, 1) := by decide +kernel
theorem d_Integer_bitCount_17 : decode prog_11_method_49_code 17 = .ok (.iushr, 1) := by decide +kernel
theorem d_Integer_bitCount_18 : decode prog_11_method_49_code 18 = .ok (.ldc_w 266, 3) := by decide +kernel
theorem d_Integer_bitCount_21 : decode prog_11_method_49_code 21 = .ok (.iand, 1) := by decide +kernel
theorem d_Integer_bitCount_22 : decode prog_11_method_49_code 22 = .ok (.iadd, 1) := by decide +kernel
theorem d_Integer_bitCount_23 : decode prog_11_method_49_code 23 = .ok (.istore_n 0, 1) := by decide +kernel
theorem d_Integer_bitCount_24 : decode prog_11_method_49_code 24 = .ok (.iload_n 0, 1) := by decide +kernel
theorem d_Integer_bitCount_25 : decode prog_11_method_49_code 25 = .ok (.iload_n 0, 1) := by decide +kernel
theorem d_Integer_bitCount_26 : decode prog_11_method_49_code 26 = .ok (.iconst 4, 1) := by decide +kernel
theorem d_Integer_bitCount_27 : decode prog_11_method_49_code 27 = .ok (.iushr, 1) := by decide +kernel
theorem d_Integer_bitCount_28 : decode prog_11_method_49_code 28 = .ok (.iadd, 1) := by decide +kernel
theorem d_Integer_bitCount_29 : decode prog_11_method_49_code 29 = .ok (.ldc_w 267, 3) := by decide +kernel
theorem d_Integer_bitCount_32 : decode prog_11_method_49_code 32 = .ok (.iand, 1) := by decide +kernel
theorem d_Integer_bitCount_33 : decode prog_11_method_49_code 33 = .ok (.istore_n 0, 1) := by decide +kernel
theorem d_Integer_bitCount_34 : decode prog_11_method_49_code 34 = .ok (.iload_n 0, 1) := by decide +kernel
theorem d_Integer_bitCount_35 : decode prog_11_method_49_code 35 = .ok (.iload_n 0, 1) := by decide +kernel
theorem d_Integer_bitCount_36 : decode prog_11_method_49_code 36 = .ok (.bipush 8, 2) := by decide +kernel
theorem d_Integer_bitCount_38 : decode prog_11_method_49_code 38 = .ok (.iushr, 1) := by decide +kernel
theorem d_Integer_bitCount_39 : decode prog_11_method_49_code 39 = .ok (.iadd, 1) := by decide +kernel
theorem d_Integer_bitCount_40 : decode prog_11_method_49_code 40 = .ok (.istore_n 0, 1) := by decide +kernel
theorem d_Integer_bitCount_41 : decode prog_11_method_49_code 41 = .ok (.iload_n 0, 1) := by decide +kernel
theorem d_Integer_bitCount_42 : decode prog_11_method_49_code 42 = .ok (.iload_n 0, 1) := by decide +kernel
theorem d_Integer_bitCount_43 : decode prog_11_method_49_code 43 = .ok (.bipush 16, 2) := by decide +kernel
theorem d_Integer_bitCount_45 : decode prog_11_method_49_code 45 = .ok (.iushr, 1) := by decide +kernel
theorem d_Integer_bitCount_46 : decode prog_11_method_49_code 46 = .ok (.iadd, 1) := by decide +kernel
theorem d_Integer_bitCount_47 : decode prog_11_method_49_code 47 = .ok (.istore_n 0, 1) := by decide +kernel
theorem d_Integer_bitCount_48 : decode prog_11_method_49_code 48 = .ok (.iload_n 0, 1) := by decide +kernel
theorem d_Integer_bitCount_49 : decode prog_11_method_49_code 49 = .ok (.bipush 63, 2) := by decide +kernel
theorem d_Integer_bitCount_51 : decode prog_11_method_49_code 51 = .ok (.iand, 1) := by decide +kernel
theorem d_Integer_bitCount_52 : decode prog_11_method_49_code 52 = .ok (.ireturn, 1) := by decide +kernel
def f_Integer_bitCount_0  (a0 : Int32) (h : mH) : Option (Int32 × mH) :=
  some ((((((((a0 - (((a0.toUInt32 >>> ((1 : Int32).toUInt32 &&& Int32.toUInt32 31)).toInt32) &&& (1431655765 : Int32))) &&& (858993459 : Int32)) + ((((a0 - (((a0.toUInt32 >>> ((1 : Int32).toUInt32 &&& Int32.toUInt32 31)).toInt32) &&& (1431655765 : Int32))).toUInt32 >>> ((2 : Int32).toUInt32 &&& Int32.toUInt32 31)).toInt32) &&& (858993459 : Int32))) + (((((a0 - (((a0.toUInt32 >>> ((1 : Int32).toUInt32 &&& Int32.toUInt32 31)).toInt32) &&& (1431655765 : Int32))) &&& (858993459 : Int32)) + ((((a0 - (((a0.toUInt32 >>> ((1 : Int32).toUInt32 &&& Int32.toUInt32 31)).toInt32) &&& (1431655765 : Int32))).toUInt32 >>> ((2 : Int32).toUInt32 &&& Int32.toUInt32 31)).toInt32) &&& (858993459 : Int32))).toUInt32 >>> ((4 : Int32).toUInt32 &&& Int32.toUInt32 31)).toInt32)) &&& (252645135 : Int32)) + (((((((a0 - (((a0.toUInt32 >>> ((1 : Int32).toUInt32 &&& Int32.toUInt32 31)).toInt32) &&& (1431655765 : Int32))) &&& (858993459 : Int32)) + ((((a0 - (((a0.toUInt32 >>> ((1 : Int32).toUInt32 &&& Int32.toUInt32 31)).toInt32) &&& (1431655765 : Int32))).toUInt32 >>> ((2 : Int32).toUInt32 &&& Int32.toUInt32 31)).toInt32) &&& (858993459 : Int32))) + (((((a0 - (((a0.toUInt32 >>> ((1 : Int32).toUInt32 &&& Int32.toUInt32 31)).toInt32) &&& (1431655765 : Int32))) &&& (858993459 : Int32)) + ((((a0 - (((a0.toUInt32 >>> ((1 : Int32).toUInt32 &&& Int32.toUInt32 31)).toInt32) &&& (1431655765 : Int32))).toUInt32 >>> ((2 : Int32).toUInt32 &&& Int32.toUInt32 31)).toInt32) &&& (858993459 : Int32))).toUInt32 >>> ((4 : Int32).toUInt32 &&& Int32.toUInt32 31)).toInt32)) &&& (252645135 : Int32)).toUInt32 >>> ((8 : Int32).toUInt32 &&& Int32.toUInt32 31)).toInt32)) + ((((((((a0 - (((a0.toUInt32 >>> ((1 : Int32).toUInt32 &&& Int32.toUInt32 31)).toInt32) &&& (1431655765 : Int32))) &&& (858993459 : Int32)) + ((((a0 - (((a0.toUInt32 >>> ((1 : Int32).toUInt32 &&& Int32.toUInt32 31)).toInt32) &&& (1431655765 : Int32))).toUInt32 >>> ((2 : Int32).toUInt32 &&& Int32.toUInt32 31)).toInt32) &&& (858993459 : Int32))) + (((((a0 - (((a0.toUInt32 >>> ((1 : Int32).toUInt32 &&& Int32.toUInt32 31)).toInt32) &&& (1431655765 : Int32))) &&& (858993459 : Int32)) + ((((a0 - (((a0.toUInt32 >>> ((1 : Int32).toUInt32 &&& Int32.toUInt32 31)).toInt32) &&& (1431655765 : Int32))).toUInt32 >>> ((2 : Int32).toUInt32 &&& Int32.toUInt32 31)).toInt32) &&& (858993459 : Int32))).toUInt32 >>> ((4 : Int32).toUInt32 &&& Int32.toUInt32 31)).toInt32)) &&& (252645135 : Int32)) + (((((((a0 - (((a0.toUInt32 >>> ((1 : Int32).toUInt32 &&& Int32.toUInt32 31)).toInt32) &&& (1431655765 : Int32))) &&& (858993459 : Int32)) + ((((a0 - (((a0.toUInt32 >>> ((1 : Int32).toUInt32 &&& Int32.toUInt32 31)).toInt32) &&& (1431655765 : Int32))).toUInt32 >>> ((2 : Int32).toUInt32 &&& Int32.toUInt32 31)).toInt32) &&& (858993459 : Int32))) + (((((a0 - (((a0.toUInt32 >>> ((1 : Int32).toUInt32 &&& Int32.toUInt32 31)).toInt32) &&& (1431655765 : Int32))) &&& (858993459 : Int32)) + ((((a0 - (((a0.toUInt32 >>> ((1 : Int32).toUInt32 &&& Int32.toUInt32 31)).toInt32) &&& (1431655765 : Int32))).toUInt32 >>> ((2 : Int32).toUInt32 &&& Int32.toUInt32 31)).toInt32) &&& (858993459 : Int32))).toUInt32 >>> ((4 : Int32).toUInt32 &&& Int32.toUInt32 31)).toInt32)) &&& (252645135 : Int32)).toUInt32 >>> ((8 : Int32).toUInt32 &&& Int32.toUInt32 31)).toInt32)).toUInt32 >>> ((16 : Int32).toUInt32 &&& Int32.toUInt32 31)).toInt32)) &&& (63 : Int32), h)
set_option maxRecDepth 20000 in
theorem t_Integer_bitCount_0  (a0 : Int32) (h : mH) (r : Int32) (h' : mH) (hf : f_Integer_bitCount_0  a0 h = some (r, h')) : G y_Integer_bitCount prog_11_method_49_code 1 (some .int) 0 0 0 [(0, .int a0)] [] h (some (.int r)) h' := by
  unfold f_Integer_bitCount_0 at hf
  refine g_iload_n (pc := 0) 0 d_Integer_bitCount_0 rfl rfl ?_
  refine g_iload_n (pc := 1) 0 d_Integer_bitCount_1 rfl rfl ?_
  refine g_iconst (pc := 2) (1 : Int32) d_Integer_bitCount_2 (by decide) ?_
  refine g_iushr (pc := 3) d_Integer_bitCount_3 ?_
  refine g_ldcw (pc := 4) (1431655765 : Int32) d_Integer_bitCount_4 wd_618 ?_
  refine g_iand (pc := 7) d_Integer_bitCount_7 ?_
  refine g_isub (pc := 8) d_Integer_bitCount_8 ?_
  refine g_istore_n (pc := 9) [(0, .int (a0 - (((a0.toUInt32 >>> ((1 : Int32).toUInt32 &&& Int32.toUInt32 31)).toInt32) &&& (1431655765 : Int32))))] d_Integer_bitCount_9 rfl (Nat.le_of_ble_eq_true rfl) rfl ?_
  refine g_iload_n (pc := 10) 0 d_Integer_bitCount_10 rfl rfl ?_
  refine g_ldcw (pc := 11) (858993459 : Int32) d_Integer_bitCount_11 wd_619 ?_
  refine g_iand (pc := 14) d_Integer_bitCount_14 ?_
  refine g_iload_n (pc := 15) 0 d_Integer_bitCount_15 rfl rfl ?_
  refine g_iconst (pc := 16) (2 : Int32) d_Integer_bitCount_16 (by decide) ?_
  refine g_iushr (pc := 17) d_Integer_bitCount_17 ?_
  refine g_ldcw (pc := 18) (858993459 : Int32) d_Integer_bitCount_18 wd_619 ?_
  refine g_iand (pc := 21) d_Integer_bitCount_21 ?_
  refine g_iadd (pc := 22) d_Integer_bitCount_22 ?_
  refine g_istore_n (pc := 23) [(0, .int (((a0 - (((a0.toUInt32 >>> ((1 : Int32).toUInt32 &&& Int32.toUInt32 31)).toInt32) &&& (1431655765 : Int32))) &&& (858993459 : Int32)) + ((((a0 - (((a0.toUInt32 >>> ((1 : Int32).toUInt32 &&& Int32.toUInt32 31)).toInt32) &&& (1431655765 : Int32))).toUInt32 >>> ((2 : Int32).toUInt32 &&& Int32.toUInt32 31)).toInt32) &&& (858993459 : Int32))))] d_Integer_bitCount_23 rfl (Nat.le_of_ble_eq_true rfl) rfl ?_
  refine g_iload_n (pc := 24) 0 d_Integer_bitCount_24 rfl rfl ?_
  refine g_iload_n (pc := 25) 0 d_Integer_bitCount_25 rfl rfl ?_
  refine g_iconst (pc := 26) (4 : Int32) d_Integer_bitCount_26 (by decide) ?_
  refine g_iushr (pc := 27) d_Integer_bitCount_27 ?_
  refine g_iadd (pc := 28) d_Integer_bitCount_28 ?_
  refine g_ldcw (pc := 29) (252645135 : Int32) d_Integer_bitCount_29 wd_620 ?_
  refine g_iand (pc := 32) d_Integer_bitCount_32 ?_
  refine g_istore_n (pc := 33) [(0, .int (((((a0 - (((a0.toUInt32 >>> ((1 : Int32).toUInt32 &&& Int32.toUInt32 31)).toInt32) &&& (1431655765 : Int32))) &&& (858993459 : Int32)) + ((((a0 - (((a0.toUInt32 >>> ((1 : Int32).toUInt32 &&& Int32.toUInt32 31)).toInt32) &&& (1431655765 : Int32))).toUInt32 >>> ((2 : Int32).toUInt32 &&& Int32.toUInt32 31)).toInt32) &&& (858993459 : Int32))) + (((((a0 - (((a0.toUInt32 >>> ((1 : Int32).toUInt32 &&& Int32.toUInt32 31)).toInt32) &&& (1431655765 : Int32))) &&& (858993459 : Int32)) + ((((a0 - (((a0.toUInt32 >>> ((1 : Int32).toUInt32 &&& Int32.toUInt32 31)).toInt32) &&& (1431655765 : Int32))).toUInt32 >>> ((2 : Int32).toUInt32 &&& Int32.toUInt32 31)).toInt32) &&& (858993459 : Int32))).toUInt32 >>> ((4 : Int32).toUInt32 &&& Int32.toUInt32 31)).toInt32)) &&& (252645135 : Int32)))] d_Integer_bitCount_33 rfl (Nat.le_of_ble_eq_true rfl) rfl ?_
  refine g_iload_n (pc := 34) 0 d_Integer_bitCount_34 rfl rfl ?_
  refine g_iload_n (pc := 35) 0 d_Integer_bitCount_35 rfl rfl ?_
  refine g_bipush (pc := 36) (8 : Int32) d_Integer_bitCount_36 (by decide) ?_
  refine g_iushr (pc := 38) d_Integer_bitCount_38 ?_
  refine g_iadd (pc := 39) d_Integer_bitCount_39 ?_
  refine g_istore_n (pc := 40) [(0, .int ((((((a0 - (((a0.toUInt32 >>> ((1 : Int32).toUInt32 &&& Int32.toUInt32 31)).toInt32) &&& (1431655765 : Int32))) &&& (858993459 : Int32)) + ((((a0 - (((a0.toUInt32 >>> ((1 : Int32).toUInt32 &&& Int32.toUInt32 31)).toInt32) &&& (1431655765 : Int32))).toUInt32 >>> ((2 : Int32).toUInt32 &&& Int32.toUInt32 31)).toInt32) &&& (858993459 : Int32))) + (((((a0 - (((a0.toUInt32 >>> ((1 : Int32).toUInt32 &&& Int32.toUInt32 31)).toInt32) &&& (1431655765 : Int32))) &&& (858993459 : Int32)) + ((((a0 - (((a0.toUInt32 >>> ((1 : Int32).toUInt32 &&& Int32.toUInt32 31)).toInt32) &&& (1431655765 : Int32))).toUInt32 >>> ((2 : Int32).toUInt32 &&& Int32.toUInt32 31)).toInt32) &&& (858993459 : Int32))).toUInt32 >>> ((4 : Int32).toUInt32 &&& Int32.toUInt32 31)).toInt32)) &&& (252645135 : Int32)) + (((((((a0 - (((a0.toUInt32 >>> ((1 : Int32).toUInt32 &&& Int32.toUInt32 31)).toInt32) &&& (1431655765 : Int32))) &&& (858993459 : Int32)) + ((((a0 - (((a0.toUInt32 >>> ((1 : Int32).toUInt32 &&& Int32.toUInt32 31)).toInt32) &&& (1431655765 : Int32))).toUInt32 >>> ((2 : Int32).toUInt32 &&& Int32.toUInt32 31)).toInt32) &&& (858993459 : Int32))) + (((((a0 - (((a0.toUInt32 >>> ((1 : Int32).toUInt32 &&& Int32.toUInt32 31)).toInt32) &&& (1431655765 : Int32))) &&& (858993459 : Int32)) + ((((a0 - (((a0.toUInt32 >>> ((1 : Int32).toUInt32 &&& Int32.toUInt32 31)).toInt32) &&& (1431655765 : Int32))).toUInt32 >>> ((2 : Int32).toUInt32 &&& Int32.toUInt32 31)).toInt32) &&& (858993459 : Int32))).toUInt32 >>> ((4 : Int32).toUInt32 &&& Int32.toUInt32 31)).toInt32)) &&& (252645135 : Int32)).toUInt32 >>> ((8 : Int32).toUInt32 &&& Int32.toUInt32 31)).toInt32)))] d_Integer_bitCount_40 rfl (Nat.le_of_ble_eq_true rfl) rfl ?_
  refine g_iload_n (pc := 41) 0 d_Integer_bitCount_41 rfl rfl ?_
  refine g_iload_n (pc := 42) 0 d_Integer_bitCount_42 rfl rfl ?_
  refine g_bipush (pc := 43) (16 : Int32) d_Integer_bitCount_43 (by decide) ?_
  refine g_iushr (pc := 45) d_Integer_bitCount_45 ?_
  refine g_iadd (pc := 46) d_Integer_bitCount_46 ?_
  refine g_istore_n (pc := 47) [(0, .int (((((((a0 - (((a0.toUInt32 >>> ((1 : Int32).toUInt32 &&& Int32.toUInt32 31)).toInt32) &&& (1431655765 : Int32))) &&& (858993459 : Int32)) + ((((a0 - (((a0.toUInt32 >>> ((1 : Int32).toUInt32 &&& Int32.toUInt32 31)).toInt32) &&& (1431655765 : Int32))).toUInt32 >>> ((2 : Int32).toUInt32 &&& Int32.toUInt32 31)).toInt32) &&& (858993459 : Int32))) + (((((a0 - (((a0.toUInt32 >>> ((1 : Int32).toUInt32 &&& Int32.toUInt32 31)).toInt32) &&& (1431655765 : Int32))) &&& (858993459 : Int32)) + ((((a0 - (((a0.toUInt32 >>> ((1 : Int32).toUInt32 &&& Int32.toUInt32 31)).toInt32) &&& (1431655765 : Int32))).toUInt32 >>> ((2 : Int32).toUInt32 &&& Int32.toUInt32 31)).toInt32) &&& (858993459 : Int32))).toUInt32 >>> ((4 : Int32).toUInt32 &&& Int32.toUInt32 31)).toInt32)) &&& (252645135 : Int32)) + (((((((a0 - (((a0.toUInt32 >>> ((1 : Int32).toUInt32 &&& Int32.toUInt32 31)).toInt32) &&& (1431655765 : Int32))) &&& (858993459 : Int32)) + ((((a0 - (((a0.toUInt32 >>> ((1 : Int32).toUInt32 &&& Int32.toUInt32 31)).toInt32) &&& (1431655765 : Int32))).toUInt32 >>> ((2 : Int32).toUInt32 &&& Int32.toUInt32 31)).toInt32) &&& (858993459 : Int32))) + (((((a0 - (((a0.toUInt32 >>> ((1 : Int32).toUInt32 &&& Int32.toUInt32 31)).toInt32) &&& (1431655765 : Int32))) &&& (858993459 : Int32)) + ((((a0 - (((a0.toUInt32 >>> ((1 : Int32).toUInt32 &&& Int32.toUInt32 31)).toInt32) &&& (1431655765 : Int32))).toUInt32 >>> ((2 : Int32).toUInt32 &&& Int32.toUInt32 31)).toInt32) &&& (858993459 : Int32))).toUInt32 >>> ((4 : Int32).toUInt32 &&& Int32.toUInt32 31)).toInt32)) &&& (252645135 : Int32)).toUInt32 >>> ((8 : Int32).toUInt32 &&& Int32.toUInt32 31)).toInt32)) + ((((((((a0 - (((a0.toUInt32 >>> ((1 : Int32).toUInt32 &&& Int32.toUInt32 31)).toInt32) &&& (1431655765 : Int32))) &&& (858993459 : Int32)) + ((((a0 - (((a0.toUInt32 >>> ((1 : Int32).toUInt32 &&& Int32.toUInt32 31)).toInt32) &&& (1431655765 : Int32))).toUInt32 >>> ((2 : Int32).toUInt32 &&& Int32.toUInt32 31)).toInt32) &&& (858993459 : Int32))) + (((((a0 - (((a0.toUInt32 >>> ((1 : Int32).toUInt32 &&& Int32.toUInt32 31)).toInt32) &&& (1431655765 : Int32))) &&& (858993459 : Int32)) + ((((a0 - (((a0.toUInt32 >>> ((1 : Int32).toUInt32 &&& Int32.toUInt32 31)).toInt32) &&& (1431655765 : Int32))).toUInt32 >>> ((2 : Int32).toUInt32 &&& Int32.toUInt32 31)).toInt32) &&& (858993459 : Int32))).toUInt32 >>> ((4 : Int32).toUInt32 &&& Int32.toUInt32 31)).toInt32)) &&& (252645135 : Int32)) + (((((((a0 - (((a0.toUInt32 >>> ((1 : Int32).toUInt32 &&& Int32.toUInt32 31)).toInt32) &&& (1431655765 : Int32))) &&& (858993459 : Int32)) + ((((a0 - (((a0.toUInt32 >>> ((1 : Int32).toUInt32 &&& Int32.toUInt32 31)).toInt32) &&& (1431655765 : Int32))).toUInt32 >>> ((2 : Int32).toUInt32 &&& Int32.toUInt32 31)).toInt32) &&& (858993459 : Int32))) + (((((a0 - (((a0.toUInt32 >>> ((1 : Int32).toUInt32 &&& Int32.toUInt32 31)).toInt32) &&& (1431655765 : Int32))) &&& (858993459 : Int32)) + ((((a0 - (((a0.toUInt32 >>> ((1 : Int32).toUInt32 &&& Int32.toUInt32 31)).toInt32) &&& (1431655765 : Int32))).toUInt32 >>> ((2 : Int32).toUInt32 &&& Int32.toUInt32 31)).toInt32) &&& (858993459 : Int32))).toUInt32 >>> ((4 : Int32).toUInt32 &&& Int32.toUInt32 31)).toInt32)) &&& (252645135 : Int32)).toUInt32 >>> ((8 : Int32).toUInt32 &&& Int32.toUInt32 31)).toInt32)).toUInt32 >>> ((16 : Int32).toUInt32 &&& Int32.toUInt32 31)).toInt32)))] d_Integer_bitCount_47 rfl (Nat.le_of_ble_eq_true rfl) rfl ?_
  refine g_iload_n (pc := 48) 0 d_Integer_bitCount_48 rfl rfl ?_
  refine g_bipush (pc := 49) (63 : Int32) d_Integer_bitCount_49 (by decide) ?_
  refine g_iand (pc := 51) d_Integer_bitCount_51 ?_
  obtain ⟨rfl, rfl⟩ := ret2 hf
  exact g_iret (pc := 52) rfl d_Integer_bitCount_52
def f_Integer_bitCount (a0 : Int32) (h : mH) : Option (Int32 × mH) := f_Integer_bitCount_0 a0 h
theorem c_Integer_bitCount {a0 : Int32} {h : mH} {r : Int32} {h' : mH} (hf : f_Integer_bitCount a0 h = some (r, h')) : MM y_Integer_bitCount prog_11_method_49_code 1 (some .int) 0 0 [.int a0] h (some (.int r)) h' :=
  mm_of_G (by decide) (Nat.le_of_ble_eq_true rfl) (t_Integer_bitCount_0 _ _ _ _ hf)
/-! Arrays fill ([JJ)V -/
theorem d_Arrays_fillJ_0 : decode prog_17_method_101_code 0 = .ok (.iconst 0, 1) := by decide +kernel
theorem d_Arrays_fillJ_1 : decode prog_17_method_101_code 1 = .ok (.istore_n 3, 1) := by decide +kernel
theorem d_Arrays_fillJ_2 : decode prog_17_method_101_code 2 = .ok (.aload_n 0, 1) := by decide +kernel
theorem d_Arrays_fillJ_3 : decode prog_17_method_101_code 3 = .ok (.arraylength, 1) := by decide +kernel
theorem d_Arrays_fillJ_4 : decode prog_17_method_101_code 4 = .ok (.istore 4, 2) := by decide +kernel
theorem d_Arrays_fillJ_6 : decode prog_17_method_101_code 6 = .ok (.iload_n 3, 1) := by decide +kernel
theorem d_Arrays_fillJ_7 : decode prog_17_method_101_code 7 = .ok (.iload 4, 2) := by decide +kernel
theorem d_Arrays_fillJ_9 : decode prog_17_method_101_code 9 = .ok (.if_icmp .ge 13, 3) := by decide +kernel
theorem d_Arrays_fillJ_12 : decode prog_17_method_101_code 12 = .ok (.aload_n 0, 1) := by decide +kernel
theorem d_Arrays_fillJ_13 : decode prog_17_method_101_code 13 = .ok (.iload_n 3, 1) := by decide +kernel
theorem d_Arrays_fillJ_14 : decode prog_17_method_101_code 14 = .ok (.lload_n 1, 1) := by decide +kernel
theorem d_Arrays_fillJ_15 : decode prog_17_method_101_code 15 = .ok (.lastore, 1) := by decide +kernel
theorem d_Arrays_fillJ_16 : decode prog_17_method_101_code 16 = .ok (.iinc 3 1, 3) := by decide +kernel
theorem d_Arrays_fillJ_19 : decode prog_17_method_101_code 19 = .ok (.goto (-13), 3) := by decide +kernel
theorem d_Arrays_fillJ_22 : decode prog_17_method_101_code 22 = .ok (.return_, 1) := by decide +kernel
def f_Arrays_fillJ_6b (rec6 : Nat → Int64 → Int32 → Int32 → mH → Option mH) (b0 : Nat) (b1 : Int64) (b3 : Int32) (b4 : Int32) (h : mH) : Option mH :=
  if b4 ≤ b3 then
    some h
  else
    bd1 (sL h b0 b3 b1) fun h3 =>
    rec6 b0 b1 (b3 + (1 : Int32)) b4 h3
set_option maxRecDepth 20000 in
theorem t_Arrays_fillJ_6b (rec6 : Nat → Int64 → Int32 → Int32 → mH → Option mH) (hrec6 : ∀ (b0 : Nat) (b1 : Int64) (b3 : Int32) (b4 : Int32) (h : mH) (h' : mH), rec6 b0 b1 b3 b4 h = some h' → G y_Arrays_fillJ prog_17_method_101_code 5 none 0 0 6 [(0, .ref b0), (1, .long b1), (3, .int b3), (4, .int b4)] [] h none h') (b0 : Nat) (b1 : Int64) (b3 : Int32) (b4 : Int32) (h : mH) (h' : mH) (hf : f_Arrays_fillJ_6b rec6 b0 b1 b3 b4 h = some h') : G y_Arrays_fillJ prog_17_method_101_code 5 none 0 0 6 [(0, .ref b0), (1, .long b1), (3, .int b3), (4, .int b4)] [] h none h' := by
  unfold f_Arrays_fillJ_6b at hf
  refine g_iload_n (pc := 6) 2 d_Arrays_fillJ_6 rfl rfl ?_
  refine g_iload (pc := 7) 3 d_Arrays_fillJ_7 rfl ?_
  refine g_icmpge (pc := 9) 22 d_Arrays_fillJ_9 (by decide) (fun c5 => ?_) (fun c5 => ?_)
  · replace hf := (if_pos c5).symm.trans hf
    obtain rfl := ret1 hf
    exact g_vret (pc := 22) rfl d_Arrays_fillJ_22
  · replace hf := (if_neg c5).symm.trans hf
    refine g_aload_n (pc := 12) 0 d_Arrays_fillJ_12 rfl rfl ?_
    refine g_iload_n (pc := 13) 2 d_Arrays_fillJ_13 rfl rfl ?_
    refine g_lload_n (pc := 14) 1 d_Arrays_fillJ_14 rfl rfl ?_
    obtain ⟨h3, e4, hf⟩ := bd1_e hf
    refine g_last (pc := 15) d_Arrays_fillJ_15 e4 ?_
    refine g_iinc (pc := 16) 2 (b3 + (1 : Int32)) [(3, .int (b3 + (1 : Int32))), (0, .ref b0), (1, .long b1), (4, .int b4)] d_Arrays_fillJ_16 rfl rfl (Nat.le_of_ble_eq_true rfl) rfl ?_
    refine g_goto (pc := 19) 6 d_Arrays_fillJ_19 (by decide) ?_
    refine g_lv [1, 2, 0, 3] rfl ?_
    exact hrec6 _ _ _ _ _ _  hf
def f_Arrays_fillJ_6  : Nat → Nat → Int64 → Int32 → Int32 → mH → Option mH
  | 0 => fun _ _ _ _ _ => none
  | n + 1 => f_Arrays_fillJ_6b  (f_Arrays_fillJ_6  n)
theorem t_Arrays_fillJ_6  : ∀ (n : Nat) (b0 : Nat) (b1 : Int64) (b3 : Int32) (b4 : Int32) (h : mH) (h' : mH) (hf : f_Arrays_fillJ_6  n b0 b1 b3 b4 h = some h'), G y_Arrays_fillJ prog_17_method_101_code 5 none 0 0 6 [(0, .ref b0), (1, .long b1), (3, .int b3), (4, .int b4)] [] h none h'
  | 0, _, _, _, _, _, _, hf => by cases hf
  | n + 1, _, _, _, _, _, _, hf => t_Arrays_fillJ_6b  (f_Arrays_fillJ_6  n) (t_Arrays_fillJ_6  n) _ _ _ _ _ _ hf
def f_Arrays_fillJ_0  (a0 : Nat) (a1 : Int64) (h : mH) : Option mH :=
  bd1 (aN h 3 a0) fun x1 =>
  f_Arrays_fillJ_6  FU a0 a1 (0 : Int32) x1 h
set_option maxRecDepth 20000 in
theorem t_Arrays_fillJ_0  (a0 : Nat) (a1 : Int64) (h : mH) (h' : mH) (hf : f_Arrays_fillJ_0  a0 a1 h = some h') : G y_Arrays_fillJ prog_17_method_101_code 5 none 0 0 0 [(0, .ref a0), (1, .long a1)] [] h none h' := by
  unfold f_Arrays_fillJ_0 at hf
  refine g_iconst (pc := 0) (0 : Int32) d_Arrays_fillJ_0 (by decide) ?_
  refine g_istore_n (pc := 1) [(3, .int (0 : Int32)), (0, .ref a0), (1, .long a1)] d_Arrays_fillJ_1 rfl (Nat.le_of_ble_eq_true rfl) rfl ?_
  refine g_aload_n (pc := 2) 1 d_Arrays_fillJ_2 rfl rfl ?_
  obtain ⟨x1, e2, hf⟩ := bd1_e hf
  refine g_alen (pc := 3) (.long) d_Arrays_fillJ_3 (fun _ => rfl) e2 ?_
  refine g_istore (pc := 4) [(4, .int x1), (3, .int (0 : Int32)), (0, .ref a0), (1, .long a1)] d_Arrays_fillJ_4 (Nat.le_of_ble_eq_true rfl) rfl ?_
  refine g_lv [2, 3, 1, 0] rfl ?_
  exact t_Arrays_fillJ_6  FU _ _ _ _ _ _  hf
def f_Arrays_fillJ (a0 : Nat) (a1 : Int64) (h : mH) : Option mH := f_Arrays_fillJ_0 a0 a1 h
theorem c_Arrays_fillJ {a0 : Nat} {a1 : Int64} {h : mH} {h' : mH} (hf : f_Arrays_fillJ a0 a1 h = some h') : MM y_Arrays_fillJ prog_17_method_101_code 5 none 0 0 [.ref a0, .long a1] h none h' :=
  mm_of_G (by decide) (Nat.le_of_ble_eq_true rfl) (t_Arrays_fillJ_0 _ _ _ _ hf)
end
section
/-! M firstDraft ()V -/
theorem d_M_firstDraft_0 : decode prog_10_method_5_code 0 = .ok (.iconst 0, 1) := by decide +kernel
theorem d_M_firstDraft_1 : decode prog_10_method_5_code 1 = .ok (.istore_n 1, 1) := by decide +kernel
theorem d_M_firstDraft_2 : decode prog_10_method_5_code 2 = .ok (.iload_n 1, 1) := by decide +kernel
theorem d_M_firstDraft_3 : decode prog_10_method_5_code 3 = .ok (.bipush 66, 2) := by decide +kernel
theorem d_M_firstDraft_5 : decode prog_10_method_5_code 5 = .ok (.if_icmp .ge 16, 3) := by decide +kernel
theorem d_M_firstDraft_8 : decode prog_10_method_5_code 8 = .ok (.aload_n 0, 1) := by decide +kernel
theorem d_M_firstDraft_9 : decode prog_10_method_5_code 9 = .ok (.getfield 32, 3) := by decide +kernel
theorem d_M_firstDraft_12 : decode prog_10_method_5_code 12 = .ok (.iload_n 1, 1) := by decide +kernel
theorem d_M_firstDraft_13 : decode prog_10_method_5_code 13 = .ok (.iconst 0, 1) := by decide +kernel
theorem d_M_firstDraft_14 : decode prog_10_method_5_code 14 = .ok (.iastore, 1) := by decide +kernel
theorem d_M_firstDraft_15 : decode prog_10_method_5_code 15 = .ok (.iinc 1 1, 3) := by decide +kernel
theorem d_M_firstDraft_18 : decode prog_10_method_5_code 18 = .ok (.goto (-16), 3) := by decide +kernel
theorem d_M_firstDraft_21 : decode prog_10_method_5_code 21 = .ok (.iconst 0, 1) := by decide +kernel
theorem d_M_firstDraft_22 : decode prog_10_method_5_code 22 = .ok (.istore_n 1, 1) := by decide +kernel
theorem d_M_firstDraft_23 : decode prog_10_method_5_code 23 = .ok (.iload_n 1, 1) := by decide +kernel
theorem d_M_firstDraft_24 : decode prog_10_method_5_code 24 = .ok (.iconst 5, 1) := by decide +kernel
theorem d_M_firstDraft_25 : decode prog_10_method_5_code 25 = .ok (.if_icmp .ge 19, 3) := by decide +kernel
theorem d_M_firstDraft_28 : decode prog_10_method_5_code 28 = .ok (.aload_n 0, 1) := by decide +kernel
theorem d_M_firstDraft_29 : decode prog_10_method_5_code 29 = .ok (.getfield 32, 3) := by decide +kernel
theorem d_M_firstDraft_32 : decode prog_10_method_5_code 32 = .ok (.iconst 5, 1) := by decide +kernel
theorem d_M_firstDraft_33 : decode prog_10_method_5_code 33 = .ok (.iload_n 1, 1) := by decide +kernel
theorem d_M_firstDraft_34 : decode prog_10_method_5_code 34 = .ok (.iadd, 1) := by decide +kernel
theorem d_M_firstDraft_35 : decode prog_10_method_5_code 35 = .ok (.bipush (-4), 2) := by decide +kernel
theorem d_M_firstDraft_37 : decode prog_10_method_5_code 37 = .ok (.iastore, 1) := by decide +kernel
theorem d_M_firstDraft_38 : decode prog_10_method_5_code 38 = .ok (.iinc 1 1, 3) := by decide +kernel
theorem d_M_firstDraft_41 : decode prog_10_method_5_code 41 = .ok (.goto (-18), 3) := by decide +kernel
theorem d_M_firstDraft_44 : decode prog_10_method_5_code 44 = .ok (.aload_n 0, 1) := by decide +kernel
theorem d_M_firstDraft_45 : decode prog_10_method_5_code 45 = .ok (.iconst 0, 1) := by decide +kernel
theorem d_M_firstDraft_46 : decode prog_10_method_5_code 46 = .ok (.putfield 93, 3) := by decide +kernel
theorem d_M_firstDraft_49 : decode prog_10_method_5_code 49 = .ok (.aload_n 0, 1) := by decide +kernel
theorem d_M_firstDraft_50 : decode prog_10_method_5_code 50 = .ok (.iconst 0, 1) := by decide +kernel
theorem d_M_firstDraft_51 : decode prog_10_method_5_code 51 = .ok (.putfield 97, 3) := by decide +kernel
theorem d_M_firstDraft_54 : decode prog_10_method_5_code 54 = .ok (.aload_n 0, 1) := by decide +kernel
theorem d_M_firstDraft_55 : decode prog_10_method_5_code 55 = .ok (.bipush (-4), 2) := by decide +kernel
theorem d_M_firstDraft_57 : decode prog_10_method_5_code 57 = .ok (.putfield 100, 3) := by decide +kernel
theorem d_M_firstDraft_60 : decode prog_10_method_5_code 60 = .ok (.aload_n 0, 1) := by decide +kernel
theorem d_M_firstDraft_61 : decode prog_10_method_5_code 61 = .ok (.bipush (-4), 2) := by decide +kernel
theorem d_M_firstDraft_63 : decode prog_10_method_5_code 63 = .ok (.putfield 103, 3) := by decide +kernel
theorem d_M_firstDraft_66 : decode prog_10_method_5_code 66 = .ok (.return_, 1) := by decide +kernel
def f_M_firstDraft_23b (rec23 : Nat → Int32 → mH → Option mH) (b0 : Nat) (b1 : Int32) (h : mH) : Option mH :=
  if (5 : Int32) ≤ b1 then
    bd1 (pV h b0 8 10 (.int (0 : Int32))) fun h6 =>
    bd1 (pV h6 b0 8 11 (.int (0 : Int32))) fun h8 =>
    bd1 (pV h8 b0 8 17 (.int ((-4) : Int32))) fun h10 =>
    bd1 (pV h10 b0 8 18 (.int ((-4) : Int32))) fun h12 =>
    some h12
  else
    bd1 (gR h b0 8 9) fun x14 =>
    bd1 (sI h 0 x14 ((5 : Int32) + b1) ((-4) : Int32)) fun h16 =>
    rec23 b0 (b1 + (1 : Int32)) h16
set_option maxRecDepth 20000 in
theorem t_M_firstDraft_23b (rec23 : Nat → Int32 → mH → Option mH) (hrec23 : ∀ (b0 : Nat) (b1 : Int32) (h : mH) (h' : mH), rec23 b0 b1 h = some h' → G y_M_firstDraft prog_10_method_5_code 2 none 0 0 23 [(0, .ref b0), (1, .int b1)] [] h none h') (b0 : Nat) (b1 : Int32) (h : mH) (h' : mH) (hf : f_M_firstDraft_23b rec23 b0 b1 h = some h') : G y_M_firstDraft prog_10_method_5_code 2 none 0 0 23 [(0, .ref b0), (1, .int b1)] [] h none h' := by
  unfold f_M_firstDraft_23b at hf
  refine g_iload_n (pc := 23) 1 d_M_firstDraft_23 rfl rfl ?_
  refine g_iconst (pc := 24) (5 : Int32) d_M_firstDraft_24 (by decide) ?_
  refine g_icmpge (pc := 25) 44 d_M_firstDraft_25 (by decide) (fun c18 => ?_) (fun c18 => ?_)
  · replace hf := (if_pos c18).symm.trans hf
    refine g_aload_n (pc := 44) 0 d_M_firstDraft_44 rfl rfl ?_
    refine g_iconst (pc := 45) (0 : Int32) d_M_firstDraft_45 (by decide) ?_
    obtain ⟨h6, e7, hf⟩ := bd1_e hf
    refine g_put (pc := 46) (ci := 8) (kk := 10) ty_M tyok_M nm_M d_M_firstDraft_46 rfl in_M (by decide) wd_948 rfl (fun _ => rfl) (fun _ => rfl) (fun _ z => by cases z) e7 ?_
    refine g_aload_n (pc := 49) 0 d_M_firstDraft_49 rfl rfl ?_
    refine g_iconst (pc := 50) (0 : Int32) d_M_firstDraft_50 (by decide) ?_
    obtain ⟨h8, e9, hf⟩ := bd1_e hf
    refine g_put (pc := 51) (ci := 8) (kk := 11) ty_M tyok_M nm_M d_M_firstDraft_51 rfl in_M (by decide) wd_949 rfl (fun _ => rfl) (fun _ => rfl) (fun _ z => by cases z) e9 ?_
    refine g_aload_n (pc := 54) 0 d_M_firstDraft_54 rfl rfl ?_
    refine g_bipush (pc := 55) ((-4) : Int32) d_M_firstDraft_55 (by decide) ?_
    obtain ⟨h10, e11, hf⟩ := bd1_e hf
    refine g_put (pc := 57) (ci := 8) (kk := 17) ty_M tyok_M nm_M d_M_firstDraft_57 rfl in_M (by decide) wd_955 rfl (fun _ => rfl) (fun _ => rfl) (fun _ z => by cases z) e11 ?_
    refine g_aload_n (pc := 60) 0 d_M_firstDraft_60 rfl rfl ?_
    refine g_bipush (pc := 61) ((-4) : Int32) d_M_firstDraft_61 (by decide) ?_
    obtain ⟨h12, e13, hf⟩ := bd1_e hf
    refine g_put (pc := 63) (ci := 8) (kk := 18) ty_M tyok_M nm_M d_M_firstDraft_63 rfl in_M (by decide) wd_956 rfl (fun _ => rfl) (fun _ => rfl) (fun _ z => by cases z) e13 ?_
    obtain rfl := ret1 hf
    exact g_vret (pc := 66) rfl d_M_firstDraft_66
  · replace hf := (if_neg c18).symm.trans hf
    refine g_aload_n (pc := 28) 0 d_M_firstDraft_28 rfl rfl ?_
    obtain ⟨x14, e15, hf⟩ := bd1_e hf
    refine g_get (pc := 29) (ci := 8) (kk := 9) d_M_firstDraft_29 rfl in_M (by decide) wd_947 (gR_spec e15) ?_
    refine g_iconst (pc := 32) (5 : Int32) d_M_firstDraft_32 (by decide) ?_
    refine g_iload_n (pc := 33) 1 d_M_firstDraft_33 rfl rfl ?_
    refine g_iadd (pc := 34) d_M_firstDraft_34 ?_
    refine g_bipush (pc := 35) ((-4) : Int32) d_M_firstDraft_35 (by decide) ?_
    obtain ⟨h16, e17, hf⟩ := bd1_e hf
    refine g_iast (pc := 37) d_M_firstDraft_37 e17 ?_
    refine g_iinc (pc := 38) 1 (b1 + (1 : Int32)) [(1, .int (b1 + (1 : Int32))), (0, .ref b0)] d_M_firstDraft_38 rfl rfl (Nat.le_of_ble_eq_true rfl) rfl ?_
    refine g_goto (pc := 41) 23 d_M_firstDraft_41 (by decide) ?_
    refine g_lv [1, 0] rfl ?_
    exact hrec23 _ _ _ _  hf
def f_M_firstDraft_23  : Nat → Nat → Int32 → mH → Option mH
  | 0 => fun _ _ _ => none
  | n + 1 => f_M_firstDraft_23b  (f_M_firstDraft_23  n)
theorem t_M_firstDraft_23  : ∀ (n : Nat) (b0 : Nat) (b1 : Int32) (h : mH) (h' : mH) (hf : f_M_firstDraft_23  n b0 b1 h = some h'), G y_M_firstDraft prog_10_method_5_code 2 none 0 0 23 [(0, .ref b0), (1, .int b1)] [] h none h'
  | 0, _, _, _, _, hf => by cases hf
  | n + 1, _, _, _, _, hf => t_M_firstDraft_23b  (f_M_firstDraft_23  n) (t_M_firstDraft_23  n) _ _ _ _ hf
def f_M_firstDraft_2b (rec2 : Nat → Int32 → mH → Option mH) (b0 : Nat) (b1 : Int32) (h : mH) : Option mH :=
  if (66 : Int32) ≤ b1 then
    f_M_firstDraft_23  FU b0 (0 : Int32) h
  else
    bd1 (gR h b0 8 9) fun x1 =>
    bd1 (sI h 0 x1 b1 (0 : Int32)) fun h3 =>
    rec2 b0 (b1 + (1 : Int32)) h3
set_option maxRecDepth 20000 in
theorem t_M_firstDraft_2b (rec2 : Nat → Int32 → mH → Option mH) (hrec2 : ∀ (b0 : Nat) (b1 : Int32) (h : mH) (h' : mH), rec2 b0 b1 h = some h' → G y_M_firstDraft prog_10_method_5_code 2 none 0 0 2 [(0, .ref b0), (1, .int b1)] [] h none h') (b0 : Nat) (b1 : Int32) (h : mH) (h' : mH) (hf : f_M_firstDraft_2b rec2 b0 b1 h = some h') : G y_M_firstDraft prog_10_method_5_code 2 none 0 0 2 [(0, .ref b0), (1, .int b1)] [] h none h' := by
  unfold f_M_firstDraft_2b at hf
  refine g_iload_n (pc := 2) 1 d_M_firstDraft_2 rfl rfl ?_
  refine g_bipush (pc := 3) (66 : Int32) d_M_firstDraft_3 (by decide) ?_
  refine g_icmpge (pc := 5) 21 d_M_firstDraft_5 (by decide) (fun c5 => ?_) (fun c5 => ?_)
  · replace hf := (if_pos c5).symm.trans hf
    refine g_iconst (pc := 21) (0 : Int32) d_M_firstDraft_21 (by decide) ?_
    refine g_istore_n (pc := 22) [(1, .int (0 : Int32)), (0, .ref b0)] d_M_firstDraft_22 rfl (Nat.le_of_ble_eq_true rfl) rfl ?_
    refine g_lv [1, 0] rfl ?_
    exact t_M_firstDraft_23  FU _ _ _ _  hf
  · replace hf := (if_neg c5).symm.trans hf
    refine g_aload_n (pc := 8) 0 d_M_firstDraft_8 rfl rfl ?_
    obtain ⟨x1, e2, hf⟩ := bd1_e hf
    refine g_get (pc := 9) (ci := 8) (kk := 9) d_M_firstDraft_9 rfl in_M (by decide) wd_947 (gR_spec e2) ?_
    refine g_iload_n (pc := 12) 1 d_M_firstDraft_12 rfl rfl ?_
    refine g_iconst (pc := 13) (0 : Int32) d_M_firstDraft_13 (by decide) ?_
    obtain ⟨h3, e4, hf⟩ := bd1_e hf
    refine g_iast (pc := 14) d_M_firstDraft_14 e4 ?_
    refine g_iinc (pc := 15) 1 (b1 + (1 : Int32)) [(1, .int (b1 + (1 : Int32))), (0, .ref b0)] d_M_firstDraft_15 rfl rfl (Nat.le_of_ble_eq_true rfl) rfl ?_
    refine g_goto (pc := 18) 2 d_M_firstDraft_18 (by decide) ?_
    refine g_lv [1, 0] rfl ?_
    exact hrec2 _ _ _ _  hf
def f_M_firstDraft_2  : Nat → Nat → Int32 → mH → Option mH
  | 0 => fun _ _ _ => none
  | n + 1 => f_M_firstDraft_2b  (f_M_firstDraft_2  n)
theorem t_M_firstDraft_2  : ∀ (n : Nat) (b0 : Nat) (b1 : Int32) (h : mH) (h' : mH) (hf : f_M_firstDraft_2  n b0 b1 h = some h'), G y_M_firstDraft prog_10_method_5_code 2 none 0 0 2 [(0, .ref b0), (1, .int b1)] [] h none h'
  | 0, _, _, _, _, hf => by cases hf
  | n + 1, _, _, _, _, hf => t_M_firstDraft_2b  (f_M_firstDraft_2  n) (t_M_firstDraft_2  n) _ _ _ _ hf
def f_M_firstDraft_0  (a0 : Nat) (h : mH) : Option mH :=
  f_M_firstDraft_2  FU a0 (0 : Int32) h
set_option maxRecDepth 20000 in
theorem t_M_firstDraft_0  (a0 : Nat) (h : mH) (h' : mH) (hf : f_M_firstDraft_0  a0 h = some h') : G y_M_firstDraft prog_10_method_5_code 2 none 0 0 0 [(0, .ref a0)] [] h none h' := by
  unfold f_M_firstDraft_0 at hf
  refine g_iconst (pc := 0) (0 : Int32) d_M_firstDraft_0 (by decide) ?_
  refine g_istore_n (pc := 1) [(1, .int (0 : Int32)), (0, .ref a0)] d_M_firstDraft_1 rfl (Nat.le_of_ble_eq_true rfl) rfl ?_
  refine g_lv [1, 0] rfl ?_
  exact t_M_firstDraft_2  FU _ _ _ _  hf
def f_M_firstDraft (a0 : Nat) (h : mH) : Option mH := f_M_firstDraft_0 a0 h
theorem c_M_firstDraft {a0 : Nat} {h : mH} {h' : mH} (hf : f_M_firstDraft a0 h = some h') : MM y_M_firstDraft prog_10_method_5_code 2 none 0 0 [.ref a0] h none h' :=
  mm_of_G (by decide) (Nat.le_of_ble_eq_true rfl) (t_M_firstDraft_0 _ _ _ hf)
/-! M keepDraft ()V -/
theorem d_M_keepDraft_0 : decode prog_10_method_6_code 0 = .ok (.iconst 0, 1) := by decide +kernel
theorem d_M_keepDraft_1 : decode prog_10_method_6_code 1 = .ok (.istore_n 1, 1) := by decide +kernel
theorem d_M_keepDraft_2 : decode prog_10_method_6_code 2 = .ok (.iload_n 1, 1) := by decide +kernel
theorem d_M_keepDraft_3 : decode prog_10_method_6_code 3 = .ok (.bipush 66, 2) := by decide +kernel
theorem d_M_keepDraft_5 : decode prog_10_method_6_code 5 = .ok (.if_icmp .ge 21, 3) := by decide +kernel
theorem d_M_keepDraft_8 : decode prog_10_method_6_code 8 = .ok (.aload_n 0, 1) := by decide +kernel
theorem d_M_keepDraft_9 : decode prog_10_method_6_code 9 = .ok (.getfield 7, 3) := by decide +kernel
theorem d_M_keepDraft_12 : decode prog_10_method_6_code 12 = .ok (.iload_n 1, 1) := by decide +kernel
theorem d_M_keepDraft_13 : decode prog_10_method_6_code 13 = .ok (.aload_n 0, 1) := by decide +kernel
theorem d_M_keepDraft_14 : decode prog_10_method_6_code 14 = .ok (.getfield 32, 3) := by decide +kernel
theorem d_M_keepDraft_17 : decode prog_10_method_6_code 17 = .ok (.iload_n 1, 1) := by decide +kernel
theorem d_M_keepDraft_18 : decode prog_10_method_6_code 18 = .ok (.iaload, 1) := by decide +kernel
theorem d_M_keepDraft_19 : decode prog_10_method_6_code 19 = .ok (.iastore, 1) := by decide +kernel
theorem d_M_keepDraft_20 : decode prog_10_method_6_code 20 = .ok (.iinc 1 1, 3) := by decide +kernel
theorem d_M_keepDraft_23 : decode prog_10_method_6_code 23 = .ok (.goto (-21), 3) := by decide +kernel
theorem d_M_keepDraft_26 : decode prog_10_method_6_code 26 = .ok (.aload_n 0, 1) := by decide +kernel
theorem d_M_keepDraft_27 : decode prog_10_method_6_code 27 = .ok (.aload_n 0, 1) := by decide +kernel
theorem d_M_keepDraft_28 : decode prog_10_method_6_code 28 = .ok (.getfield 93, 3) := by decide +kernel
theorem d_M_keepDraft_31 : decode prog_10_method_6_code 31 = .ok (.putfield 106, 3) := by decide +kernel
theorem d_M_keepDraft_34 : decode prog_10_method_6_code 34 = .ok (.aload_n 0, 1) := by decide +kernel
theorem d_M_keepDraft_35 : decode prog_10_method_6_code 35 = .ok (.aload_n 0, 1) := by decide +kernel
theorem d_M_keepDraft_36 : decode prog_10_method_6_code 36 = .ok (.getfield 97, 3) := by decide +kernel
theorem d_M_keepDraft_39 : decode prog_10_method_6_code 39 = .ok (.putfield 109, 3) := by decide +kernel
theorem d_M_keepDraft_42 : decode prog_10_method_6_code 42 = .ok (.aload_n 0, 1) := by decide +kernel
theorem d_M_keepDraft_43 : decode prog_10_method_6_code 43 = .ok (.getfield 7, 3) := by decide +kernel
theorem d_M_keepDraft_46 : decode prog_10_method_6_code 46 = .ok (.bipush 10, 2) := by decide +kernel
theorem d_M_keepDraft_48 : decode prog_10_method_6_code 48 = .ok (.iconst 1, 1) := by decide +kernel
theorem d_M_keepDraft_49 : decode prog_10_method_6_code 49 = .ok (.aload_n 0, 1) := by decide +kernel
theorem d_M_keepDraft_50 : decode prog_10_method_6_code 50 = .ok (.getfield 106, 3) := by decide +kernel
theorem d_M_keepDraft_53 : decode prog_10_method_6_code 53 = .ok (.ishl, 1) := by decide +kernel
theorem d_M_keepDraft_54 : decode prog_10_method_6_code 54 = .ok (.iconst 1, 1) := by decide +kernel
theorem d_M_keepDraft_55 : decode prog_10_method_6_code 55 = .ok (.isub, 1) := by decide +kernel
theorem d_M_keepDraft_56 : decode prog_10_method_6_code 56 = .ok (.iastore, 1) := by decide +kernel
theorem d_M_keepDraft_57 : decode prog_10_method_6_code 57 = .ok (.iconst 0, 1) := by decide +kernel
theorem d_M_keepDraft_58 : decode prog_10_method_6_code 58 = .ok (.istore_n 1, 1) := by decide +kernel
theorem d_M_keepDraft_59 : decode prog_10_method_6_code 59 = .ok (.iload_n 1, 1) := by decide +kernel
theorem d_M_keepDraft_60 : decode prog_10_method_6_code 60 = .ok (.aload_n 0, 1) := by decide +kernel
theorem d_M_keepDraft_61 : decode prog_10_method_6_code 61 = .ok (.getfield 106, 3) := by decide +kernel
theorem d_M_keepDraft_64 : decode prog_10_method_6_code 64 = .ok (.if_icmp .ge 45, 3) := by decide +kernel
theorem d_M_keepDraft_67 : decode prog_10_method_6_code 67 = .ok (.aload_n 0, 1) := by decide +kernel
theorem d_M_keepDraft_68 : decode prog_10_method_6_code 68 = .ok (.getfield 17, 3) := by decide +kernel
theorem d_M_keepDraft_71 : decode prog_10_method_6_code 71 = .ok (.iload_n 1, 1) := by decide +kernel
theorem d_M_keepDraft_72 : decode prog_10_method_6_code 72 = .ok (.aload_n 0, 1) := by decide +kernel
theorem d_M_keepDraft_73 : decode prog_10_method_6_code 73 = .ok (.getfield 35, 3) := by decide +kernel
theorem d_M_keepDraft_76 : decode prog_10_method_6_code 76 = .ok (.iload_n 1, 1) := by decide +kernel
theorem d_M_keepDraft_77 : decode prog_10_method_6_code 77 = .ok (.iaload, 1) := by decide +kernel
theorem d_M_keepDraft_78 : decode prog_10_method_6_code 78 = .ok (.iastore, 1) := by decide +kernel
theorem d_M_keepDraft_79 : decode prog_10_method_6_code 79 = .ok (.aload_n 0, 1) := by decide +kernel
theorem d_M_keepDraft_80 : decode prog_10_method_6_code 80 = .ok (.getfield 20, 3) := by decide +kernel
theorem d_M_keepDraft_83 : decode prog_10_method_6_code 83 = .ok (.iload_n 1, 1) := by decide +kernel
theorem d_M_keepDraft_84 : decode prog_10_method_6_code 84 = .ok (.aload_n 0, 1) := by decide +kernel
theorem d_M_keepDraft_85 : decode prog_10_method_6_code 85 = .ok (.getfield 38, 3) := by decide +kernel
theorem d_M_keepDraft_88 : decode prog_10_method_6_code 88 = .ok (.iload_n 1, 1) := by decide +kernel
theorem d_M_keepDraft_89 : decode prog_10_method_6_code 89 = .ok (.iaload, 1) := by decide +kernel
theorem d_M_keepDraft_90 : decode prog_10_method_6_code 90 = .ok (.iastore, 1) := by decide +kernel
theorem d_M_keepDraft_91 : decode prog_10_method_6_code 91 = .ok (.aload_n 0, 1) := by decide +kernel
theorem d_M_keepDraft_92 : decode prog_10_method_6_code 92 = .ok (.getfield 23, 3) := by decide +kernel
theorem d_M_keepDraft_95 : decode prog_10_method_6_code 95 = .ok (.iload_n 1, 1) := by decide +kernel
theorem d_M_keepDraft_96 : decode prog_10_method_6_code 96 = .ok (.aload_n 0, 1) := by decide +kernel
theorem d_M_keepDraft_97 : decode prog_10_method_6_code 97 = .ok (.getfield 41, 3) := by decide +kernel
theorem d_M_keepDraft_100 : decode prog_10_method_6_code 100 = .ok (.iload_n 1, 1) := by decide +kernel
theorem d_M_keepDraft_101 : decode prog_10_method_6_code 101 = .ok (.iaload, 1) := by decide +kernel
theorem d_M_keepDraft_102 : decode prog_10_method_6_code 102 = .ok (.iastore, 1) := by decide +kernel
theorem d_M_keepDraft_103 : decode prog_10_method_6_code 103 = .ok (.iinc 1 1, 3) := by decide +kernel
theorem d_M_keepDraft_106 : decode prog_10_method_6_code 106 = .ok (.goto (-47), 3) := by decide +kernel
theorem d_M_keepDraft_109 : decode prog_10_method_6_code 109 = .ok (.iconst 0, 1) := by decide +kernel
theorem d_M_keepDraft_110 : decode prog_10_method_6_code 110 = .ok (.istore_n 1, 1) := by decide +kernel
theorem d_M_keepDraft_111 : decode prog_10_method_6_code 111 = .ok (.iload_n 1, 1) := by decide +kernel
theorem d_M_keepDraft_112 : decode prog_10_method_6_code 112 = .ok (.aload_n 0, 1) := by decide +kernel
theorem d_M_keepDraft_113 : decode prog_10_method_6_code 113 = .ok (.getfield 109, 3) := by decide +kernel
theorem d_M_keepDraft_116 : decode prog_10_method_6_code 116 = .ok (.if_icmp .ge 33, 3) := by decide +kernel
theorem d_M_keepDraft_119 : decode prog_10_method_6_code 119 = .ok (.aload_n 0, 1) := by decide +kernel
theorem d_M_keepDraft_120 : decode prog_10_method_6_code 120 = .ok (.getfield 26, 3) := by decide +kernel
theorem d_M_keepDraft_123 : decode prog_10_method_6_code 123 = .ok (.iload_n 1, 1) := by decide +kernel
theorem d_M_keepDraft_124 : decode prog_10_method_6_code 124 = .ok (.aload_n 0, 1) := by decide +kernel
theorem d_M_keepDraft_125 : decode prog_10_method_6_code 125 = .ok (.getfield 44, 3) := by decide +kernel
theorem d_M_keepDraft_128 : decode prog_10_method_6_code 128 = .ok (.iload_n 1, 1) := by decide +kernel
theorem d_M_keepDraft_129 : decode prog_10_method_6_code 129 = .ok (.iaload, 1) := by decide +kernel
theorem d_M_keepDraft_130 : decode prog_10_method_6_code 130 = .ok (.iastore, 1) := by decide +kernel
theorem d_M_keepDraft_131 : decode prog_10_method_6_code 131 = .ok (.aload_n 0, 1) := by decide +kernel
theorem d_M_keepDraft_132 : decode prog_10_method_6_code 132 = .ok (.getfield 29, 3) := by decide +kernel
theorem d_M_keepDraft_135 : decode prog_10_method_6_code 135 = .ok (.iload_n 1, 1) := by decide +kernel
theorem d_M_keepDraft_136 : decode prog_10_method_6_code 136 = .ok (.aload_n 0, 1) := by decide +kernel
theorem d_M_keepDraft_137 : decode prog_10_method_6_code 137 = .ok (.getfield 47, 3) := by decide +kernel
theorem d_M_keepDraft_140 : decode prog_10_method_6_code 140 = .ok (.iload_n 1, 1) := by decide +kernel
theorem d_M_keepDraft_141 : decode prog_10_method_6_code 141 = .ok (.iaload, 1) := by decide +kernel
theorem d_M_keepDraft_142 : decode prog_10_method_6_code 142 = .ok (.iastore, 1) := by decide +kernel
theorem d_M_keepDraft_143 : decode prog_10_method_6_code 143 = .ok (.iinc 1 1, 3) := by decide +kernel
theorem d_M_keepDraft_146 : decode prog_10_method_6_code 146 = .ok (.goto (-35), 3) := by decide +kernel
theorem d_M_keepDraft_149 : decode prog_10_method_6_code 149 = .ok (.aload_n 0, 1) := by decide +kernel
theorem d_M_keepDraft_150 : decode prog_10_method_6_code 150 = .ok (.getfield 13, 3) := by decide +kernel
theorem d_M_keepDraft_153 : decode prog_10_method_6_code 153 = .ok (.iconst 0, 1) := by decide +kernel
theorem d_M_keepDraft_154 : decode prog_10_method_6_code 154 = .ok (.iconst 0, 1) := by decide +kernel
theorem d_M_keepDraft_155 : decode prog_10_method_6_code 155 = .ok (.bastore, 1) := by decide +kernel
theorem d_M_keepDraft_156 : decode prog_10_method_6_code 156 = .ok (.aload_n 0, 1) := by decide +kernel
theorem d_M_keepDraft_157 : decode prog_10_method_6_code 157 = .ok (.getfield 13, 3) := by decide +kernel
theorem d_M_keepDraft_160 : decode prog_10_method_6_code 160 = .ok (.iconst 1, 1) := by decide +kernel
theorem d_M_keepDraft_161 : decode prog_10_method_6_code 161 = .ok (.iconst 0, 1) := by decide +kernel
theorem d_M_keepDraft_162 : decode prog_10_method_6_code 162 = .ok (.bastore, 1) := by decide +kernel
theorem d_M_keepDraft_163 : decode prog_10_method_6_code 163 = .ok (.return_, 1) := by decide +kernel
def f_M_keepDraft_111b (rec111 : Nat → Int32 → mH → Option mH) (b0 : Nat) (b1 : Int32) (h : mH) : Option mH :=
  bd1 (gI h b0 8 3) fun x51 =>
  if x51 ≤ b1 then
    bd1 (gR h b0 8 1) fun x53 =>
    bd1 (sI h 2 x53 (0 : Int32) (vp_nar .boolean (0 : Int32))) fun h55 =>
    bd1 (gR h55 b0 8 1) fun x57 =>
    bd1 (sI h55 2 x57 (1 : Int32) (vp_nar .boolean (0 : Int32))) fun h59 =>
    some h59
  else
    bd1 (gR h b0 8 7) fun x61 =>
    bd1 (gR h b0 8 15) fun x63 =>
    bd1 (aI h 0 x63 b1) fun x65 =>
    bd1 (sI h 0 x61 b1 x65) fun h67 =>
    bd1 (gR h67 b0 8 8) fun x69 =>
    bd1 (gR h67 b0 8 16) fun x71 =>
    bd1 (aI h67 0 x71 b1) fun x73 =>
    bd1 (sI h67 0 x69 b1 x73) fun h75 =>
    rec111 b0 (b1 + (1 : Int32)) h75
set_option maxRecDepth 20000 in
theorem t_M_keepDraft_111b (rec111 : Nat → Int32 → mH → Option mH) (hrec111 : ∀ (b0 : Nat) (b1 : Int32) (h : mH) (h' : mH), rec111 b0 b1 h = some h' → G y_M_keepDraft prog_10_method_6_code 2 none 0 0 111 [(0, .ref b0), (1, .int b1)] [] h none h') (b0 : Nat) (b1 : Int32) (h : mH) (h' : mH) (hf : f_M_keepDraft_111b rec111 b0 b1 h = some h') : G y_M_keepDraft prog_10_method_6_code 2 none 0 0 111 [(0, .ref b0), (1, .int b1)] [] h none h' := by
  unfold f_M_keepDraft_111b at hf
  refine g_iload_n (pc := 111) 1 d_M_keepDraft_111 rfl rfl ?_
  refine g_aload_n (pc := 112) 0 d_M_keepDraft_112 rfl rfl ?_
  obtain ⟨x51, e52, hf⟩ := bd1_e hf
  refine g_get (pc := 113) (ci := 8) (kk := 3) d_M_keepDraft_113 rfl in_M (by decide) wd_941 (gI_spec e52) ?_
  refine g_icmpge (pc := 116) 149 d_M_keepDraft_116 (by decide) (fun c77 => ?_) (fun c77 => ?_)
  · replace hf := (if_pos c77).symm.trans hf
    refine g_aload_n (pc := 149) 0 d_M_keepDraft_149 rfl rfl ?_
    obtain ⟨x53, e54, hf⟩ := bd1_e hf
    refine g_get (pc := 150) (ci := 8) (kk := 1) d_M_keepDraft_150 rfl in_M (by decide) wd_939 (gR_spec e54) ?_
    refine g_iconst (pc := 153) (0 : Int32) d_M_keepDraft_153 (by decide) ?_
    refine g_iconst (pc := 154) (0 : Int32) d_M_keepDraft_154 (by decide) ?_
    obtain ⟨h55, e56, hf⟩ := bd1_e hf
    refine g_zast (pc := 155) d_M_keepDraft_155 e56 ?_
    refine g_aload_n (pc := 156) 0 d_M_keepDraft_156 rfl rfl ?_
    obtain ⟨x57, e58, hf⟩ := bd1_e hf
    refine g_get (pc := 157) (ci := 8) (kk := 1) d_M_keepDraft_157 rfl in_M (by decide) wd_939 (gR_spec e58) ?_
    refine g_iconst (pc := 160) (1 : Int32) d_M_keepDraft_160 (by decide) ?_
    refine g_iconst (pc := 161) (0 : Int32) d_M_keepDraft_161 (by decide) ?_
    obtain ⟨h59, e60, hf⟩ := bd1_e hf
    refine g_zast (pc := 162) d_M_keepDraft_162 e60 ?_
    obtain rfl := ret1 hf
    exact g_vret (pc := 163) rfl d_M_keepDraft_163
  · replace hf := (if_neg c77).symm.trans hf
    refine g_aload_n (pc := 119) 0 d_M_keepDraft_119 rfl rfl ?_
    obtain ⟨x61, e62, hf⟩ := bd1_e hf
    refine g_get (pc := 120) (ci := 8) (kk := 7) d_M_keepDraft_120 rfl in_M (by decide) wd_945 (gR_spec e62) ?_
    refine g_iload_n (pc := 123) 1 d_M_keepDraft_123 rfl rfl ?_
    refine g_aload_n (pc := 124) 0 d_M_keepDraft_124 rfl rfl ?_
    obtain ⟨x63, e64, hf⟩ := bd1_e hf
    refine g_get (pc := 125) (ci := 8) (kk := 15) d_M_keepDraft_125 rfl in_M (by decide) wd_953 (gR_spec e64) ?_
    refine g_iload_n (pc := 128) 1 d_M_keepDraft_128 rfl rfl ?_
    obtain ⟨x65, e66, hf⟩ := bd1_e hf
    refine g_iald (pc := 129) d_M_keepDraft_129 e66 ?_
    obtain ⟨h67, e68, hf⟩ := bd1_e hf
    refine g_iast (pc := 130) d_M_keepDraft_130 e68 ?_
    refine g_aload_n (pc := 131) 0 d_M_keepDraft_131 rfl rfl ?_
    obtain ⟨x69, e70, hf⟩ := bd1_e hf
    refine g_get (pc := 132) (ci := 8) (kk := 8) d_M_keepDraft_132 rfl in_M (by decide) wd_946 (gR_spec e70) ?_
    refine g_iload_n (pc := 135) 1 d_M_keepDraft_135 rfl rfl ?_
    refine g_aload_n (pc := 136) 0 d_M_keepDraft_136 rfl rfl ?_
    obtain ⟨x71, e72, hf⟩ := bd1_e hf
    refine g_get (pc := 137) (ci := 8) (kk := 16) d_M_keepDraft_137 rfl in_M (by decide) wd_954 (gR_spec e72) ?_
    refine g_iload_n (pc := 140) 1 d_M_keepDraft_140 rfl rfl ?_
    obtain ⟨x73, e74, hf⟩ := bd1_e hf
    refine g_iald (pc := 141) d_M_keepDraft_141 e74 ?_
    obtain ⟨h75, e76, hf⟩ := bd1_e hf
    refine g_iast (pc := 142) d_M_keepDraft_142 e76 ?_
    refine g_iinc (pc := 143) 1 (b1 + (1 : Int32)) [(1, .int (b1 + (1 : Int32))), (0, .ref b0)] d_M_keepDraft_143 rfl rfl (Nat.le_of_ble_eq_true rfl) rfl ?_
    refine g_goto (pc := 146) 111 d_M_keepDraft_146 (by decide) ?_
    refine g_lv [1, 0] rfl ?_
    exact hrec111 _ _ _ _  hf
def f_M_keepDraft_111  : Nat → Nat → Int32 → mH → Option mH
  | 0 => fun _ _ _ => none
  | n + 1 => f_M_keepDraft_111b  (f_M_keepDraft_111  n)
theorem t_M_keepDraft_111  : ∀ (n : Nat) (b0 : Nat) (b1 : Int32) (h : mH) (h' : mH) (hf : f_M_keepDraft_111  n b0 b1 h = some h'), G y_M_keepDraft prog_10_method_6_code 2 none 0 0 111 [(0, .ref b0), (1, .int b1)] [] h none h'
  | 0, _, _, _, _, hf => by cases hf
  | n + 1, _, _, _, _, hf => t_M_keepDraft_111b  (f_M_keepDraft_111  n) (t_M_keepDraft_111  n) _ _ _ _ hf
def f_M_keepDraft_59b (rec59 : Nat → Int32 → mH → Option mH) (b0 : Nat) (b1 : Int32) (h : mH) : Option mH :=
  bd1 (gI h b0 8 2) fun x24 =>
  if x24 ≤ b1 then
    f_M_keepDraft_111  FU b0 (0 : Int32) h
  else
    bd1 (gR h b0 8 4) fun x26 =>
    bd1 (gR h b0 8 12) fun x28 =>
    bd1 (aI h 0 x28 b1) fun x30 =>
    bd1 (sI h 0 x26 b1 x30) fun h32 =>
    bd1 (gR h32 b0 8 5) fun x34 =>
    bd1 (gR h32 b0 8 13) fun x36 =>
    bd1 (aI h32 0 x36 b1) fun x38 =>
    bd1 (sI h32 0 x34 b1 x38) fun h40 =>
    bd1 (gR h40 b0 8 6) fun x42 =>
    bd1 (gR h40 b0 8 14) fun x44 =>
    bd1 (aI h40 0 x44 b1) fun x46 =>
    bd1 (sI h40 0 x42 b1 x46) fun h48 =>
    rec59 b0 (b1 + (1 : Int32)) h48
set_option maxRecDepth 20000 in
theorem t_M_keepDraft_59b (rec59 : Nat → Int32 → mH → Option mH) (hrec59 : ∀ (b0 : Nat) (b1 : Int32) (h : mH) (h' : mH), rec59 b0 b1 h = some h' → G y_M_keepDraft prog_10_method_6_code 2 none 0 0 59 [(0, .ref b0), (1, .int b1)] [] h none h') (b0 : Nat) (b1 : Int32) (h : mH) (h' : mH) (hf : f_M_keepDraft_59b rec59 b0 b1 h = some h') : G y_M_keepDraft prog_10_method_6_code 2 none 0 0 59 [(0, .ref b0), (1, .int b1)] [] h none h' := by
  unfold f_M_keepDraft_59b at hf
  refine g_iload_n (pc := 59) 1 d_M_keepDraft_59 rfl rfl ?_
  refine g_aload_n (pc := 60) 0 d_M_keepDraft_60 rfl rfl ?_
  obtain ⟨x24, e25, hf⟩ := bd1_e hf
  refine g_get (pc := 61) (ci := 8) (kk := 2) d_M_keepDraft_61 rfl in_M (by decide) wd_940 (gI_spec e25) ?_
  refine g_icmpge (pc := 64) 109 d_M_keepDraft_64 (by decide) (fun c50 => ?_) (fun c50 => ?_)
  · replace hf := (if_pos c50).symm.trans hf
    refine g_iconst (pc := 109) (0 : Int32) d_M_keepDraft_109 (by decide) ?_
    refine g_istore_n (pc := 110) [(1, .int (0 : Int32)), (0, .ref b0)] d_M_keepDraft_110 rfl (Nat.le_of_ble_eq_true rfl) rfl ?_
    refine g_lv [1, 0] rfl ?_
    exact t_M_keepDraft_111  FU _ _ _ _  hf
  · replace hf := (if_neg c50).symm.trans hf
    refine g_aload_n (pc := 67) 0 d_M_keepDraft_67 rfl rfl ?_
    obtain ⟨x26, e27, hf⟩ := bd1_e hf
    refine g_get (pc := 68) (ci := 8) (kk := 4) d_M_keepDraft_68 rfl in_M (by decide) wd_942 (gR_spec e27) ?_
    refine g_iload_n (pc := 71) 1 d_M_keepDraft_71 rfl rfl ?_
    refine g_aload_n (pc := 72) 0 d_M_keepDraft_72 rfl rfl ?_
    obtain ⟨x28, e29, hf⟩ := bd1_e hf
    refine g_get (pc := 73) (ci := 8) (kk := 12) d_M_keepDraft_73 rfl in_M (by decide) wd_950 (gR_spec e29) ?_
    refine g_iload_n (pc := 76) 1 d_M_keepDraft_76 rfl rfl ?_
    obtain ⟨x30, e31, hf⟩ := bd1_e hf
    refine g_iald (pc := 77) d_M_keepDraft_77 e31 ?_
    obtain ⟨h32, e33, hf⟩ := bd1_e hf
    refine g_iast (pc := 78) d_M_keepDraft_78 e33 ?_
    refine g_aload_n (pc := 79) 0 d_M_keepDraft_79 rfl rfl ?_
    obtain ⟨x34, e35, hf⟩ := bd1_e hf
    refine g_get (pc := 80) (ci := 8) (kk := 5) d_M_keepDraft_80 rfl in_M (by decide) wd_943 (gR_spec e35) ?_
    refine g_iload_n (pc := 83) 1 d_M_keepDraft_83 rfl rfl ?_
    refine g_aload_n (pc := 84) 0 d_M_keepDraft_84 rfl rfl ?_
    obtain ⟨x36, e37, hf⟩ := bd1_e hf
    refine g_get (pc := 85) (ci := 8) (kk := 13) d_M_keepDraft_85 rfl in_M (by decide) wd_951 (gR_spec e37) ?_
    refine g_iload_n (pc := 88) 1 d_M_keepDraft_88 rfl rfl ?_
    obtain ⟨x38, e39, hf⟩ := bd1_e hf
    refine g_iald (pc := 89) d_M_keepDraft_89 e39 ?_
    obtain ⟨h40, e41, hf⟩ := bd1_e hf
    refine g_iast (pc := 90) d_M_keepDraft_90 e41 ?_
    refine g_aload_n (pc := 91) 0 d_M_keepDraft_91 rfl rfl ?_
    obtain ⟨x42, e43, hf⟩ := bd1_e hf
    refine g_get (pc := 92) (ci := 8) (kk := 6) d_M_keepDraft_92 rfl in_M (by decide) wd_944 (gR_spec e43) ?_
    refine g_iload_n (pc := 95) 1 d_M_keepDraft_95 rfl rfl ?_
    refine g_aload_n (pc := 96) 0 d_M_keepDraft_96 rfl rfl ?_
    obtain ⟨x44, e45, hf⟩ := bd1_e hf
    refine g_get (pc := 97) (ci := 8) (kk := 14) d_M_keepDraft_97 rfl in_M (by decide) wd_952 (gR_spec e45) ?_
    refine g_iload_n (pc := 100) 1 d_M_keepDraft_100 rfl rfl ?_
    obtain ⟨x46, e47, hf⟩ := bd1_e hf
    refine g_iald (pc := 101) d_M_keepDraft_101 e47 ?_
    obtain ⟨h48, e49, hf⟩ := bd1_e hf
    refine g_iast (pc := 102) d_M_keepDraft_102 e49 ?_
    refine g_iinc (pc := 103) 1 (b1 + (1 : Int32)) [(1, .int (b1 + (1 : Int32))), (0, .ref b0)] d_M_keepDraft_103 rfl rfl (Nat.le_of_ble_eq_true rfl) rfl ?_
    refine g_goto (pc := 106) 59 d_M_keepDraft_106 (by decide) ?_
    refine g_lv [1, 0] rfl ?_
    exact hrec59 _ _ _ _  hf
def f_M_keepDraft_59  : Nat → Nat → Int32 → mH → Option mH
  | 0 => fun _ _ _ => none
  | n + 1 => f_M_keepDraft_59b  (f_M_keepDraft_59  n)
theorem t_M_keepDraft_59  : ∀ (n : Nat) (b0 : Nat) (b1 : Int32) (h : mH) (h' : mH) (hf : f_M_keepDraft_59  n b0 b1 h = some h'), G y_M_keepDraft prog_10_method_6_code 2 none 0 0 59 [(0, .ref b0), (1, .int b1)] [] h none h'
  | 0, _, _, _, _, hf => by cases hf
  | n + 1, _, _, _, _, hf => t_M_keepDraft_59b  (f_M_keepDraft_59  n) (t_M_keepDraft_59  n) _ _ _ _ hf
def f_M_keepDraft_2b (rec2 : Nat → Int32 → mH → Option mH) (b0 : Nat) (b1 : Int32) (h : mH) : Option mH :=
  if (66 : Int32) ≤ b1 then
    bd1 (gI h b0 8 10) fun x1 =>
    bd1 (pV h b0 8 2 (.int x1)) fun h3 =>
    bd1 (gI h3 b0 8 11) fun x5 =>
    bd1 (pV h3 b0 8 3 (.int x5)) fun h7 =>
    bd1 (gR h7 b0 8 0) fun x9 =>
    bd1 (gI h7 b0 8 2) fun x11 =>
    bd1 (sI h7 0 x9 (10 : Int32) (((1 : Int32) <<< (x11 &&& 31)) - (1 : Int32))) fun h13 =>
    f_M_keepDraft_59  FU b0 (0 : Int32) h13
  else
    bd1 (gR h b0 8 0) fun x15 =>
    bd1 (gR h b0 8 9) fun x17 =>
    bd1 (aI h 0 x17 b1) fun x19 =>
    bd1 (sI h 0 x15 b1 x19) fun h21 =>
    rec2 b0 (b1 + (1 : Int32)) h21
set_option maxRecDepth 20000 in
theorem t_M_keepDraft_2b (rec2 : Nat → Int32 → mH → Option mH) (hrec2 : ∀ (b0 : Nat) (b1 : Int32) (h : mH) (h' : mH), rec2 b0 b1 h = some h' → G y_M_keepDraft prog_10_method_6_code 2 none 0 0 2 [(0, .ref b0), (1, .int b1)] [] h none h') (b0 : Nat) (b1 : Int32) (h : mH) (h' : mH) (hf : f_M_keepDraft_2b rec2 b0 b1 h = some h') : G y_M_keepDraft prog_10_method_6_code 2 none 0 0 2 [(0, .ref b0), (1, .int b1)] [] h none h' := by
  unfold f_M_keepDraft_2b at hf
  refine g_iload_n (pc := 2) 1 d_M_keepDraft_2 rfl rfl ?_
  refine g_bipush (pc := 3) (66 : Int32) d_M_keepDraft_3 (by decide) ?_
  refine g_icmpge (pc := 5) 26 d_M_keepDraft_5 (by decide) (fun c23 => ?_) (fun c23 => ?_)
  · replace hf := (if_pos c23).symm.trans hf
    refine g_aload_n (pc := 26) 0 d_M_keepDraft_26 rfl rfl ?_
    refine g_aload_n (pc := 27) 0 d_M_keepDraft_27 rfl rfl ?_
    obtain ⟨x1, e2, hf⟩ := bd1_e hf
    refine g_get (pc := 28) (ci := 8) (kk := 10) d_M_keepDraft_28 rfl in_M (by decide) wd_948 (gI_spec e2) ?_
    obtain ⟨h3, e4, hf⟩ := bd1_e hf
    refine g_put (pc := 31) (ci := 8) (kk := 2) ty_M tyok_M nm_M d_M_keepDraft_31 rfl in_M (by decide) wd_940 rfl (fun _ => rfl) (fun _ => rfl) (fun _ z => by cases z) e4 ?_
    refine g_aload_n (pc := 34) 0 d_M_keepDraft_34 rfl rfl ?_
    refine g_aload_n (pc := 35) 0 d_M_keepDraft_35 rfl rfl ?_
    obtain ⟨x5, e6, hf⟩ := bd1_e hf
    refine g_get (pc := 36) (ci := 8) (kk := 11) d_M_keepDraft_36 rfl in_M (by decide) wd_949 (gI_spec e6) ?_
    obtain ⟨h7, e8, hf⟩ := bd1_e hf
    refine g_put (pc := 39) (ci := 8) (kk := 3) ty_M tyok_M nm_M d_M_keepDraft_39 rfl in_M (by decide) wd_941 rfl (fun _ => rfl) (fun _ => rfl) (fun _ z => by cases z) e8 ?_
    refine g_aload_n (pc := 42) 0 d_M_keepDraft_42 rfl rfl ?_
    obtain ⟨x9, e10, hf⟩ := bd1_e hf
    refine g_get (pc := 43) (ci := 8) (kk := 0) d_M_keepDraft_43 rfl in_M (by decide) wd_938 (gR_spec e10) ?_
    refine g_bipush (pc := 46) (10 : Int32) d_M_keepDraft_46 (by decide) ?_
    refine g_iconst (pc := 48) (1 : Int32) d_M_keepDraft_48 (by decide) ?_
    refine g_aload_n (pc := 49) 0 d_M_keepDraft_49 rfl rfl ?_
    obtain ⟨x11, e12, hf⟩ := bd1_e hf
    refine g_get (pc := 50) (ci := 8) (kk := 2) d_M_keepDraft_50 rfl in_M (by decide) wd_940 (gI_spec e12) ?_
    refine g_ishl (pc := 53) d_M_keepDraft_53 ?_
    refine g_iconst (pc := 54) (1 : Int32) d_M_keepDraft_54 (by decide) ?_
    refine g_isub (pc := 55) d_M_keepDraft_55 ?_
    obtain ⟨h13, e14, hf⟩ := bd1_e hf
    refine g_iast (pc := 56) d_M_keepDraft_56 e14 ?_
    refine g_iconst (pc := 57) (0 : Int32) d_M_keepDraft_57 (by decide) ?_
    refine g_istore_n (pc := 58) [(1, .int (0 : Int32)), (0, .ref b0)] d_M_keepDraft_58 rfl (Nat.le_of_ble_eq_true rfl) rfl ?_
    refine g_lv [1, 0] rfl ?_
    exact t_M_keepDraft_59  FU _ _ _ _  hf
  · replace hf := (if_neg c23).symm.trans hf
    refine g_aload_n (pc := 8) 0 d_M_keepDraft_8 rfl rfl ?_
    obtain ⟨x15, e16, hf⟩ := bd1_e hf
    refine g_get (pc := 9) (ci := 8) (kk := 0) d_M_keepDraft_9 rfl in_M (by decide) wd_938 (gR_spec e16) ?_
    refine g_iload_n (pc := 12) 1 d_M_keepDraft_12 rfl rfl ?_
    refine g_aload_n (pc := 13) 0 d_M_keepDraft_13 rfl rfl ?_
    obtain ⟨x17, e18, hf⟩ := bd1_e hf
    refine g_get (pc := 14) (ci := 8) (kk := 9) d_M_keepDraft_14 rfl in_M (by decide) wd_947 (gR_spec e18) ?_
    refine g_iload_n (pc := 17) 1 d_M_keepDraft_17 rfl rfl ?_
    obtain ⟨x19, e20, hf⟩ := bd1_e hf
    refine g_iald (pc := 18) d_M_keepDraft_18 e20 ?_
    obtain ⟨h21, e22, hf⟩ := bd1_e hf
    refine g_iast (pc := 19) d_M_keepDraft_19 e22 ?_
    refine g_iinc (pc := 20) 1 (b1 + (1 : Int32)) [(1, .int (b1 + (1 : Int32))), (0, .ref b0)] d_M_keepDraft_20 rfl rfl (Nat.le_of_ble_eq_true rfl) rfl ?_
    refine g_goto (pc := 23) 2 d_M_keepDraft_23 (by decide) ?_
    refine g_lv [1, 0] rfl ?_
    exact hrec2 _ _ _ _  hf
def f_M_keepDraft_2  : Nat → Nat → Int32 → mH → Option mH
  | 0 => fun _ _ _ => none
  | n + 1 => f_M_keepDraft_2b  (f_M_keepDraft_2  n)
theorem t_M_keepDraft_2  : ∀ (n : Nat) (b0 : Nat) (b1 : Int32) (h : mH) (h' : mH) (hf : f_M_keepDraft_2  n b0 b1 h = some h'), G y_M_keepDraft prog_10_method_6_code 2 none 0 0 2 [(0, .ref b0), (1, .int b1)] [] h none h'
  | 0, _, _, _, _, hf => by cases hf
  | n + 1, _, _, _, _, hf => t_M_keepDraft_2b  (f_M_keepDraft_2  n) (t_M_keepDraft_2  n) _ _ _ _ hf
def f_M_keepDraft_0  (a0 : Nat) (h : mH) : Option mH :=
  f_M_keepDraft_2  FU a0 (0 : Int32) h
set_option maxRecDepth 20000 in
theorem t_M_keepDraft_0  (a0 : Nat) (h : mH) (h' : mH) (hf : f_M_keepDraft_0  a0 h = some h') : G y_M_keepDraft prog_10_method_6_code 2 none 0 0 0 [(0, .ref a0)] [] h none h' := by
  unfold f_M_keepDraft_0 at hf
  refine g_iconst (pc := 0) (0 : Int32) d_M_keepDraft_0 (by decide) ?_
  refine g_istore_n (pc := 1) [(1, .int (0 : Int32)), (0, .ref a0)] d_M_keepDraft_1 rfl (Nat.le_of_ble_eq_true rfl) rfl ?_
  refine g_lv [1, 0] rfl ?_
  exact t_M_keepDraft_2  FU _ _ _ _  hf
def f_M_keepDraft (a0 : Nat) (h : mH) : Option mH := f_M_keepDraft_0 a0 h
theorem c_M_keepDraft {a0 : Nat} {h : mH} {h' : mH} (hf : f_M_keepDraft a0 h = some h') : MM y_M_keepDraft prog_10_method_6_code 2 none 0 0 [.ref a0] h none h' :=
  mm_of_G (by decide) (Nat.le_of_ble_eq_true rfl) (t_M_keepDraft_0 _ _ _ hf)
/-! M in (JJJ)Z -/
theorem d_M_in_0 : decode prog_10_method_3_code 0 = .ok (.lload_n 0, 1) := by decide +kernel
theorem d_M_in_1 : decode prog_10_method_3_code 1 = .ok (.lload_n 2, 1) := by decide +kernel
theorem d_M_in_2 : decode prog_10_method_3_code 2 = .ok (.lcmp, 1) := by decide +kernel
theorem d_M_in_3 : decode prog_10_method_3_code 3 = .ok (.ifCond .lt 14, 3) := by decide +kernel
theorem d_M_in_6 : decode prog_10_method_3_code 6 = .ok (.lload_n 0, 1) := by decide +kernel
theorem d_M_in_7 : decode prog_10_method_3_code 7 = .ok (.lload 4, 2) := by decide +kernel
theorem d_M_in_9 : decode prog_10_method_3_code 9 = .ok (.lcmp, 1) := by decide +kernel
theorem d_M_in_10 : decode prog_10_method_3_code 10 = .ok (.ifCond .gt 7, 3) := by decide +kernel
theorem d_M_in_13 : decode prog_10_method_3_code 13 = .ok (.iconst 1, 1) := by decide +kernel
theorem d_M_in_14 : decode prog_10_method_3_code 14 = .ok (.goto 4, 3) := by decide +kernel
theorem d_M_in_17 : decode prog_10_method_3_code 17 = .ok (.iconst 0, 1) := by decide +kernel
theorem d_M_in_18 : decode prog_10_method_3_code 18 = .ok (.ireturn, 1) := by decide +kernel
def f_M_in_17   (h : mH) : Option (Int32 × mH) :=
  some ((0 : Int32), h)
set_option maxRecDepth 20000 in
theorem t_M_in_17   (h : mH) (r : Int32) (h' : mH) (hf : f_M_in_17   h = some (r, h')) : G y_M_in prog_10_method_3_code 6 (some .boolean) 0 0 17 [] [] h (some (.int r)) h' := by
  unfold f_M_in_17 at hf
  refine g_iconst (pc := 17) (0 : Int32) d_M_in_17 (by decide) ?_
  obtain ⟨rfl, rfl⟩ := ret2 hf
  exact g_zret (pc := 18) rfl rfl d_M_in_18
def f_M_in_0  (a0 : Int64) (a1 : Int64) (a2 : Int64) (h : mH) : Option (Int32 × mH) :=
  if (lg_cmp a0 a1) < 0 then
    f_M_in_17  h
  else
    if 0 < (lg_cmp a0 a2) then
      f_M_in_17  h
    else
      some ((1 : Int32), h)
set_option maxRecDepth 20000 in
theorem t_M_in_0  (a0 : Int64) (a1 : Int64) (a2 : Int64) (h : mH) (r : Int32) (h' : mH) (hf : f_M_in_0  a0 a1 a2 h = some (r, h')) : G y_M_in prog_10_method_3_code 6 (some .boolean) 0 0 0 [(0, .long a0), (2, .long a1), (4, .long a2)] [] h (some (.int r)) h' := by
  unfold f_M_in_0 at hf
  refine g_lload_n (pc := 0) 0 d_M_in_0 rfl rfl ?_
  refine g_lload_n (pc := 1) 1 d_M_in_1 rfl rfl ?_
  refine g_lcmp (pc := 2) d_M_in_2 ?_
  refine g_iflt (pc := 3) 17 d_M_in_3 (by decide) (fun c2 => ?_) (fun c2 => ?_)
  · replace hf := (if_pos c2).symm.trans hf
    refine g_lv [] rfl ?_
    exact t_M_in_17  _ _ _  hf
  · replace hf := (if_neg c2).symm.trans hf
    refine g_lload_n (pc := 6) 0 d_M_in_6 rfl rfl ?_
    refine g_lload (pc := 7) 2 d_M_in_7 rfl ?_
    refine g_lcmp (pc := 9) d_M_in_9 ?_
    refine g_ifgt (pc := 10) 17 d_M_in_10 (by decide) (fun c1 => ?_) (fun c1 => ?_)
    · replace hf := (if_pos c1).symm.trans hf
      refine g_lv [] rfl ?_
      exact t_M_in_17  _ _ _  hf
    · replace hf := (if_neg c1).symm.trans hf
      refine g_iconst (pc := 13) (1 : Int32) d_M_in_13 (by decide) ?_
      refine g_goto (pc := 14) 18 d_M_in_14 (by decide) ?_
      obtain ⟨rfl, rfl⟩ := ret2 hf
      exact g_zret (pc := 18) rfl rfl d_M_in_18
def f_M_in (a0 : Int64) (a1 : Int64) (a2 : Int64) (h : mH) : Option (Int32 × mH) := f_M_in_0 a0 a1 a2 h
theorem c_M_in {a0 : Int64} {a1 : Int64} {a2 : Int64} {h : mH} {r : Int32} {h' : mH} (hf : f_M_in a0 a1 a2 h = some (r, h')) : MM y_M_in prog_10_method_3_code 6 (some .boolean) 0 0 [.long a0, .long a1, .long a2] h (some (.int r)) h' :=
  mm_of_G (by decide) (Nat.le_of_ble_eq_true rfl) (t_M_in_0 _ _ _ _ _ _ hf)
/-! M feed (I)I -/
theorem d_M_feed_0 : decode prog_10_method_7_code 0 = .ok (.iload_n 1, 1) := by decide +kernel
theorem d_M_feed_1 : decode prog_10_method_7_code 1 = .ok (.i2l, 1) := by decide +kernel
theorem d_M_feed_2 : decode prog_10_method_7_code 2 = .ok (.lconst 0, 1) := by decide +kernel
theorem d_M_feed_3 : decode prog_10_method_7_code 3 = .ok (.ldc2_w 112, 3) := by decide +kernel
theorem d_M_feed_6 : decode prog_10_method_7_code 6 = .ok (.invokestatic 114, 3) := by decide +kernel
theorem d_M_feed_9 : decode prog_10_method_7_code 9 = .ok (.ifCond .ne 5, 3) := by decide +kernel
theorem d_M_feed_12 : decode prog_10_method_7_code 12 = .ok (.iconst (-1), 1) := by decide +kernel
theorem d_M_feed_13 : decode prog_10_method_7_code 13 = .ok (.ireturn, 1) := by decide +kernel
theorem d_M_feed_14 : decode prog_10_method_7_code 14 = .ok (.aload_n 0, 1) := by decide +kernel
theorem d_M_feed_15 : decode prog_10_method_7_code 15 = .ok (.getfield 118, 3) := by decide +kernel
theorem d_M_feed_18 : decode prog_10_method_7_code 18 = .ok (.sipush 160, 3) := by decide +kernel
theorem d_M_feed_21 : decode prog_10_method_7_code 21 = .ok (.if_icmp .ne 6, 3) := by decide +kernel
theorem d_M_feed_24 : decode prog_10_method_7_code 24 = .ok (.bipush (-3), 2) := by decide +kernel
theorem d_M_feed_26 : decode prog_10_method_7_code 26 = .ok (.ireturn, 1) := by decide +kernel
theorem d_M_feed_27 : decode prog_10_method_7_code 27 = .ok (.aload_n 0, 1) := by decide +kernel
theorem d_M_feed_28 : decode prog_10_method_7_code 28 = .ok (.getfield 50, 3) := by decide +kernel
theorem d_M_feed_31 : decode prog_10_method_7_code 31 = .ok (.aload_n 0, 1) := by decide +kernel
theorem d_M_feed_32 : decode prog_10_method_7_code 32 = .ok (.getfield 118, 3) := by decide +kernel
theorem d_M_feed_35 : decode prog_10_method_7_code 35 = .ok (.iload_n 1, 1) := by decide +kernel
theorem d_M_feed_36 : decode prog_10_method_7_code 36 = .ok (.iastore, 1) := by decide +kernel
theorem d_M_feed_37 : decode prog_10_method_7_code 37 = .ok (.aload_n 0, 1) := by decide +kernel
theorem d_M_feed_38 : decode prog_10_method_7_code 38 = .ok (.dup, 1) := by decide +kernel
theorem d_M_feed_39 : decode prog_10_method_7_code 39 = .ok (.getfield 118, 3) := by decide +kernel
theorem d_M_feed_42 : decode prog_10_method_7_code 42 = .ok (.iconst 1, 1) := by decide +kernel
theorem d_M_feed_43 : decode prog_10_method_7_code 43 = .ok (.iadd, 1) := by decide +kernel
theorem d_M_feed_44 : decode prog_10_method_7_code 44 = .ok (.putfield 118, 3) := by decide +kernel
theorem d_M_feed_47 : decode prog_10_method_7_code 47 = .ok (.aload_n 0, 1) := by decide +kernel
theorem d_M_feed_48 : decode prog_10_method_7_code 48 = .ok (.getfield 118, 3) := by decide +kernel
theorem d_M_feed_51 : decode prog_10_method_7_code 51 = .ok (.ireturn, 1) := by decide +kernel
def f_M_feed_0  (a0 : Nat) (a1 : Int32) (h : mH) : Option (Int32 × mH) :=
  bd2 (f_M_in a1.toInt64 (0 : Int64) (127 : Int64) h) fun x3 h1 =>
  if x3 = 0 then
    some (((-1) : Int32), h1)
  else
    bd1 (gI h1 a0 8 20) fun x4 =>
    if x4 = (160 : Int32) then
      some (((-3) : Int32), h1)
    else
      bd1 (gR h1 a0 8 19) fun x6 =>
      bd1 (gI h1 a0 8 20) fun x8 =>
      bd1 (sI h1 0 x6 x8 a1) fun h10 =>
      bd1 (gI h10 a0 8 20) fun x12 =>
      bd1 (pV h10 a0 8 20 (.int (x12 + (1 : Int32)))) fun h14 =>
      bd1 (gI h14 a0 8 20) fun x16 =>
      some (x16, h14)
set_option maxRecDepth 20000 in
theorem t_M_feed_0  (a0 : Nat) (a1 : Int32) (h : mH) (r : Int32) (h' : mH) (hf : f_M_feed_0  a0 a1 h = some (r, h')) : G y_M_feed prog_10_method_7_code 2 (some .int) 1 25 0 [(0, .ref a0), (1, .int a1)] [] h (some (.int r)) h' := by
  unfold f_M_feed_0 at hf
  refine g_iload_n (pc := 0) 1 d_M_feed_0 rfl rfl ?_
  refine g_i2l (pc := 1) d_M_feed_1 ?_
  refine g_lconst (pc := 2) (0 : Int64) d_M_feed_2 (by decide) ?_
  refine g_ldc2 (pc := 3) (127 : Int64) d_M_feed_3 wd_1060 ?_
  obtain ⟨x3, h1, e2, hf⟩ := bd2_e hf
  refine g_callS (pc := 6) [.long a1.toInt64, .long (0 : Int64), .long (127 : Int64)] (site_of si_M_in (by decide) (by decide)) wd_1061 wd_1062 d_M_feed_6 (Nat.le_of_ble_eq_true rfl) (fun z => absurd z (by decide)) (fun z => absurd z (by decide)) (fun z => absurd z (by decide)) (c_M_in e2) rfl ?_
  refine g_st [.int x3] rfl ?_
  refine g_ifne (pc := 9) 14 d_M_feed_9 (by decide) (fun c19 => ?_) (fun c19 => ?_)
  · replace hf := (if_neg c19).symm.trans hf
    refine g_aload_n (pc := 14) 0 d_M_feed_14 rfl rfl ?_
    obtain ⟨x4, e5, hf⟩ := bd1_e hf
    refine g_get (pc := 15) (ci := 8) (kk := 20) d_M_feed_15 rfl in_M (by decide) wd_958 (gI_spec e5) ?_
    refine g_sipush (pc := 18) (160 : Int32) d_M_feed_18 (by decide) ?_
    refine g_icmpne (pc := 21) 27 d_M_feed_21 (by decide) (fun c18 => ?_) (fun c18 => ?_)
    · replace hf := (if_neg c18).symm.trans hf
      refine g_aload_n (pc := 27) 0 d_M_feed_27 rfl rfl ?_
      obtain ⟨x6, e7, hf⟩ := bd1_e hf
      refine g_get (pc := 28) (ci := 8) (kk := 19) d_M_feed_28 rfl in_M (by decide) wd_957 (gR_spec e7) ?_
      refine g_aload_n (pc := 31) 0 d_M_feed_31 rfl rfl ?_
      obtain ⟨x8, e9, hf⟩ := bd1_e hf
      refine g_get (pc := 32) (ci := 8) (kk := 20) d_M_feed_32 rfl in_M (by decide) wd_958 (gI_spec e9) ?_
      refine g_iload_n (pc := 35) 1 d_M_feed_35 rfl rfl ?_
      obtain ⟨h10, e11, hf⟩ := bd1_e hf
      refine g_iast (pc := 36) d_M_feed_36 e11 ?_
      refine g_aload_n (pc := 37) 0 d_M_feed_37 rfl rfl ?_
      refine g_dup (pc := 38) d_M_feed_38 rfl ?_
      obtain ⟨x12, e13, hf⟩ := bd1_e hf
      refine g_get (pc := 39) (ci := 8) (kk := 20) d_M_feed_39 rfl in_M (by decide) wd_958 (gI_spec e13) ?_
      refine g_iconst (pc := 42) (1 : Int32) d_M_feed_42 (by decide) ?_
      refine g_iadd (pc := 43) d_M_feed_43 ?_
      obtain ⟨h14, e15, hf⟩ := bd1_e hf
      refine g_put (pc := 44) (ci := 8) (kk := 20) ty_M tyok_M nm_M d_M_feed_44 rfl in_M (by decide) wd_958 rfl (fun _ => rfl) (fun _ => rfl) (fun _ z => by cases z) e15 ?_
      refine g_aload_n (pc := 47) 0 d_M_feed_47 rfl rfl ?_
      obtain ⟨x16, e17, hf⟩ := bd1_e hf
      refine g_get (pc := 48) (ci := 8) (kk := 20) d_M_feed_48 rfl in_M (by decide) wd_958 (gI_spec e17) ?_
      obtain ⟨rfl, rfl⟩ := ret2 hf
      exact g_iret (pc := 51) rfl d_M_feed_51
    · replace hf := (if_pos c18).symm.trans hf
      refine g_bipush (pc := 24) ((-3) : Int32) d_M_feed_24 (by decide) ?_
      obtain ⟨rfl, rfl⟩ := ret2 hf
      exact g_iret (pc := 26) rfl d_M_feed_26
  · replace hf := (if_pos c19).symm.trans hf
    refine g_iconst (pc := 12) ((-1) : Int32) d_M_feed_12 (by decide) ?_
    obtain ⟨rfl, rfl⟩ := ret2 hf
    exact g_iret (pc := 13) rfl d_M_feed_13
def f_M_feed (a0 : Nat) (a1 : Int32) (h : mH) : Option (Int32 × mH) := f_M_feed_0 a0 a1 h
theorem c_M_feed {a0 : Nat} {a1 : Int32} {h : mH} {r : Int32} {h' : mH} (hf : f_M_feed a0 a1 h = some (r, h')) : MM y_M_feed prog_10_method_7_code 2 (some .int) 1 25 [.ref a0, .int a1] h (some (.int r)) h' :=
  mm_of_G (by decide) (Nat.le_of_ble_eq_true rfl) (t_M_feed_0 _ _ _ _ _ hf)
/-! M end (I)I -/
theorem d_M_end_0 : decode prog_10_method_8_code 0 = .ok (.iload_n 1, 1) := by decide +kernel
theorem d_M_end_1 : decode prog_10_method_8_code 1 = .ok (.i2l, 1) := by decide +kernel
theorem d_M_end_2 : decode prog_10_method_8_code 2 = .ok (.lconst 0, 1) := by decide +kernel
theorem d_M_end_3 : decode prog_10_method_8_code 3 = .ok (.aload_n 0, 1) := by decide +kernel
theorem d_M_end_4 : decode prog_10_method_8_code 4 = .ok (.getfield 118, 3) := by decide +kernel
theorem d_M_end_7 : decode prog_10_method_8_code 7 = .ok (.i2l, 1) := by decide +kernel
theorem d_M_end_8 : decode prog_10_method_8_code 8 = .ok (.invokestatic 114, 3) := by decide +kernel
theorem d_M_end_11 : decode prog_10_method_8_code 11 = .ok (.ifCond .ne 5, 3) := by decide +kernel
theorem d_M_end_14 : decode prog_10_method_8_code 14 = .ok (.iconst (-1), 1) := by decide +kernel
theorem d_M_end_15 : decode prog_10_method_8_code 15 = .ok (.ireturn, 1) := by decide +kernel
theorem d_M_end_16 : decode prog_10_method_8_code 16 = .ok (.aload_n 0, 1) := by decide +kernel
theorem d_M_end_17 : decode prog_10_method_8_code 17 = .ok (.getfield 118, 3) := by decide +kernel
theorem d_M_end_20 : decode prog_10_method_8_code 20 = .ok (.istore_n 2, 1) := by decide +kernel
theorem d_M_end_21 : decode prog_10_method_8_code 21 = .ok (.aload_n 0, 1) := by decide +kernel
theorem d_M_end_22 : decode prog_10_method_8_code 22 = .ok (.iload_n 1, 1) := by decide +kernel
theorem d_M_end_23 : decode prog_10_method_8_code 23 = .ok (.putfield 118, 3) := by decide +kernel
theorem d_M_end_26 : decode prog_10_method_8_code 26 = .ok (.iload_n 2, 1) := by decide +kernel
theorem d_M_end_27 : decode prog_10_method_8_code 27 = .ok (.ireturn, 1) := by decide +kernel
def f_M_end_0  (a0 : Nat) (a1 : Int32) (h : mH) : Option (Int32 × mH) :=
  bd1 (gI h a0 8 20) fun x1 =>
  bd2 (f_M_in a1.toInt64 (0 : Int64) x1.toInt64 h) fun x5 h3 =>
  if x5 = 0 then
    some (((-1) : Int32), h3)
  else
    bd1 (gI h3 a0 8 20) fun x6 =>
    bd1 (pV h3 a0 8 20 (.int a1)) fun h8 =>
    some (x6, h8)
set_option maxRecDepth 20000 in
theorem t_M_end_0  (a0 : Nat) (a1 : Int32) (h : mH) (r : Int32) (h' : mH) (hf : f_M_end_0  a0 a1 h = some (r, h')) : G y_M_end prog_10_method_8_code 3 (some .int) 1 25 0 [(0, .ref a0), (1, .int a1)] [] h (some (.int r)) h' := by
  unfold f_M_end_0 at hf
  refine g_iload_n (pc := 0) 1 d_M_end_0 rfl rfl ?_
  refine g_i2l (pc := 1) d_M_end_1 ?_
  refine g_lconst (pc := 2) (0 : Int64) d_M_end_2 (by decide) ?_
  refine g_aload_n (pc := 3) 0 d_M_end_3 rfl rfl ?_
  obtain ⟨x1, e2, hf⟩ := bd1_e hf
  refine g_get (pc := 4) (ci := 8) (kk := 20) d_M_end_4 rfl in_M (by decide) wd_958 (gI_spec e2) ?_
  refine g_i2l (pc := 7) d_M_end_7 ?_
  obtain ⟨x5, h3, e4, hf⟩ := bd2_e hf
  refine g_callS (pc := 8) [.long a1.toInt64, .long (0 : Int64), .long x1.toInt64] (site_of si_M_in (by decide) (by decide)) wd_1061 wd_1062 d_M_end_8 (Nat.le_of_ble_eq_true rfl) (fun z => absurd z (by decide)) (fun z => absurd z (by decide)) (fun z => absurd z (by decide)) (c_M_in e4) rfl ?_
  refine g_st [.int x5] rfl ?_
  refine g_ifne (pc := 11) 16 d_M_end_11 (by decide) (fun c10 => ?_) (fun c10 => ?_)
  · replace hf := (if_neg c10).symm.trans hf
    refine g_aload_n (pc := 16) 0 d_M_end_16 rfl rfl ?_
    obtain ⟨x6, e7, hf⟩ := bd1_e hf
    refine g_get (pc := 17) (ci := 8) (kk := 20) d_M_end_17 rfl in_M (by decide) wd_958 (gI_spec e7) ?_
    refine g_istore_n (pc := 20) [(2, .int x6), (0, .ref a0), (1, .int a1)] d_M_end_20 rfl (Nat.le_of_ble_eq_true rfl) rfl ?_
    refine g_aload_n (pc := 21) 1 d_M_end_21 rfl rfl ?_
    refine g_iload_n (pc := 22) 2 d_M_end_22 rfl rfl ?_
    obtain ⟨h8, e9, hf⟩ := bd1_e hf
    refine g_put (pc := 23) (ci := 8) (kk := 20) ty_M tyok_M nm_M d_M_end_23 rfl in_M (by decide) wd_958 rfl (fun _ => rfl) (fun _ => rfl) (fun _ z => by cases z) e9 ?_
    refine g_iload_n (pc := 26) 0 d_M_end_26 rfl rfl ?_
    obtain ⟨rfl, rfl⟩ := ret2 hf
    exact g_iret (pc := 27) rfl d_M_end_27
  · replace hf := (if_pos c10).symm.trans hf
    refine g_iconst (pc := 14) ((-1) : Int32) d_M_end_14 (by decide) ?_
    obtain ⟨rfl, rfl⟩ := ret2 hf
    exact g_iret (pc := 15) rfl d_M_end_15
def f_M_end (a0 : Nat) (a1 : Int32) (h : mH) : Option (Int32 × mH) := f_M_end_0 a0 a1 h
theorem c_M_end {a0 : Nat} {a1 : Int32} {h : mH} {r : Int32} {h' : mH} (hf : f_M_end a0 a1 h = some (r, h')) : MM y_M_end prog_10_method_8_code 3 (some .int) 1 25 [.ref a0, .int a1] h (some (.int r)) h' :=
  mm_of_G (by decide) (Nat.le_of_ble_eq_true rfl) (t_M_end_0 _ _ _ _ _ hf)
/-! M look (I)I -/
theorem d_M_look_0 : decode prog_10_method_10_code 0 = .ok (.iload_n 1, 1) := by decide +kernel
theorem d_M_look_1 : decode prog_10_method_10_code 1 = .ok (.aload_n 0, 1) := by decide +kernel
theorem d_M_look_2 : decode prog_10_method_10_code 2 = .ok (.getfield 118, 3) := by decide +kernel
theorem d_M_look_5 : decode prog_10_method_10_code 5 = .ok (.if_icmp .ge 12, 3) := by decide +kernel
theorem d_M_look_8 : decode prog_10_method_10_code 8 = .ok (.aload_n 0, 1) := by decide +kernel
theorem d_M_look_9 : decode prog_10_method_10_code 9 = .ok (.getfield 50, 3) := by decide +kernel
theorem d_M_look_12 : decode prog_10_method_10_code 12 = .ok (.iload_n 1, 1) := by decide +kernel
theorem d_M_look_13 : decode prog_10_method_10_code 13 = .ok (.iaload, 1) := by decide +kernel
theorem d_M_look_14 : decode prog_10_method_10_code 14 = .ok (.goto 4, 3) := by decide +kernel
theorem d_M_look_17 : decode prog_10_method_10_code 17 = .ok (.iconst (-1), 1) := by decide +kernel
theorem d_M_look_18 : decode prog_10_method_10_code 18 = .ok (.ireturn, 1) := by decide +kernel
def f_M_look_0  (a0 : Nat) (a1 : Int32) (h : mH) : Option (Int32 × mH) :=
  bd1 (gI h a0 8 20) fun x1 =>
  if x1 ≤ a1 then
    some (((-1) : Int32), h)
  else
    bd1 (gR h a0 8 19) fun x3 =>
    bd1 (aI h 0 x3 a1) fun x5 =>
    some (x5, h)
set_option maxRecDepth 20000 in
theorem t_M_look_0  (a0 : Nat) (a1 : Int32) (h : mH) (r : Int32) (h' : mH) (hf : f_M_look_0  a0 a1 h = some (r, h')) : G y_M_look prog_10_method_10_code 2 (some .int) 0 0 0 [(0, .ref a0), (1, .int a1)] [] h (some (.int r)) h' := by
  unfold f_M_look_0 at hf
  refine g_iload_n (pc := 0) 1 d_M_look_0 rfl rfl ?_
  refine g_aload_n (pc := 1) 0 d_M_look_1 rfl rfl ?_
  obtain ⟨x1, e2, hf⟩ := bd1_e hf
  refine g_get (pc := 2) (ci := 8) (kk := 20) d_M_look_2 rfl in_M (by decide) wd_958 (gI_spec e2) ?_
  refine g_icmpge (pc := 5) 17 d_M_look_5 (by decide) (fun c7 => ?_) (fun c7 => ?_)
  · replace hf := (if_pos c7).symm.trans hf
    refine g_iconst (pc := 17) ((-1) : Int32) d_M_look_17 (by decide) ?_
    obtain ⟨rfl, rfl⟩ := ret2 hf
    exact g_iret (pc := 18) rfl d_M_look_18
  · replace hf := (if_neg c7).symm.trans hf
    refine g_aload_n (pc := 8) 0 d_M_look_8 rfl rfl ?_
    obtain ⟨x3, e4, hf⟩ := bd1_e hf
    refine g_get (pc := 9) (ci := 8) (kk := 19) d_M_look_9 rfl in_M (by decide) wd_957 (gR_spec e4) ?_
    refine g_iload_n (pc := 12) 1 d_M_look_12 rfl rfl ?_
    obtain ⟨x5, e6, hf⟩ := bd1_e hf
    refine g_iald (pc := 13) d_M_look_13 e6 ?_
    refine g_goto (pc := 14) 18 d_M_look_14 (by decide) ?_
    obtain ⟨rfl, rfl⟩ := ret2 hf
    exact g_iret (pc := 18) rfl d_M_look_18
def f_M_look (a0 : Nat) (a1 : Int32) (h : mH) : Option (Int32 × mH) := f_M_look_0 a0 a1 h
theorem c_M_look {a0 : Nat} {a1 : Int32} {h : mH} {r : Int32} {h' : mH} (hf : f_M_look a0 a1 h = some (r, h')) : MM y_M_look prog_10_method_10_code 2 (some .int) 0 0 [.ref a0, .int a1] h (some (.int r)) h' :=
  mm_of_G (by decide) (Nat.le_of_ble_eq_true rfl) (t_M_look_0 _ _ _ _ _ hf)
/-! M needs (ZI)V -/
theorem d_M_needs_0 : decode prog_10_method_9_code 0 = .ok (.iload_n 1, 1) := by decide +kernel
theorem d_M_needs_1 : decode prog_10_method_9_code 1 = .ok (.ifCond .ne 23, 3) := by decide +kernel
theorem d_M_needs_4 : decode prog_10_method_9_code 4 = .ok (.aload_n 0, 1) := by decide +kernel
theorem d_M_needs_5 : decode prog_10_method_9_code 5 = .ok (.getfield 121, 3) := by decide +kernel
theorem d_M_needs_8 : decode prog_10_method_9_code 8 = .ok (.ifCond .ne 16, 3) := by decide +kernel
theorem d_M_needs_11 : decode prog_10_method_9_code 11 = .ok (.aload_n 0, 1) := by decide +kernel
theorem d_M_needs_12 : decode prog_10_method_9_code 12 = .ok (.iload_n 2, 1) := by decide +kernel
theorem d_M_needs_13 : decode prog_10_method_9_code 13 = .ok (.putfield 121, 3) := by decide +kernel
theorem d_M_needs_16 : decode prog_10_method_9_code 16 = .ok (.aload_n 0, 1) := by decide +kernel
theorem d_M_needs_17 : decode prog_10_method_9_code 17 = .ok (.aload_n 0, 1) := by decide +kernel
theorem d_M_needs_18 : decode prog_10_method_9_code 18 = .ok (.getfield 124, 3) := by decide +kernel
theorem d_M_needs_21 : decode prog_10_method_9_code 21 = .ok (.putfield 127, 3) := by decide +kernel
theorem d_M_needs_24 : decode prog_10_method_9_code 24 = .ok (.return_, 1) := by decide +kernel
def f_M_needs_0  (a0 : Nat) (a1 : Int32) (a2 : Int32) (h : mH) : Option mH :=
  if a1 = 0 then
    bd1 (gI h a0 8 25) fun x1 =>
    if x1 = 0 then
      bd1 (pV h a0 8 25 (.int a2)) fun h3 =>
      bd1 (gI h3 a0 8 22) fun x5 =>
      bd1 (pV h3 a0 8 26 (.int x5)) fun h7 =>
      some h7
    else
      some h
  else
    some h
set_option maxRecDepth 20000 in
theorem t_M_needs_0  (a0 : Nat) (a1 : Int32) (a2 : Int32) (h : mH) (h' : mH) (hf : f_M_needs_0  a0 a1 a2 h = some h') : G y_M_needs prog_10_method_9_code 3 none 0 0 0 [(0, .ref a0), (1, .int a1), (2, .int a2)] [] h none h' := by
  unfold f_M_needs_0 at hf
  refine g_iload_n (pc := 0) 1 d_M_needs_0 rfl rfl ?_
  refine g_ifne (pc := 1) 24 d_M_needs_1 (by decide) (fun c10 => ?_) (fun c10 => ?_)
  · replace hf := (if_neg c10).symm.trans hf
    obtain rfl := ret1 hf
    exact g_vret (pc := 24) rfl d_M_needs_24
  · replace hf := (if_pos c10).symm.trans hf
    refine g_aload_n (pc := 4) 0 d_M_needs_4 rfl rfl ?_
    obtain ⟨x1, e2, hf⟩ := bd1_e hf
    refine g_get (pc := 5) (ci := 8) (kk := 25) d_M_needs_5 rfl in_M (by decide) wd_963 (gI_spec e2) ?_
    refine g_ifne (pc := 8) 24 d_M_needs_8 (by decide) (fun c9 => ?_) (fun c9 => ?_)
    · replace hf := (if_neg c9).symm.trans hf
      obtain rfl := ret1 hf
      exact g_vret (pc := 24) rfl d_M_needs_24
    · replace hf := (if_pos c9).symm.trans hf
      refine g_aload_n (pc := 11) 0 d_M_needs_11 rfl rfl ?_
      refine g_iload_n (pc := 12) 2 d_M_needs_12 rfl rfl ?_
      obtain ⟨h3, e4, hf⟩ := bd1_e hf
      refine g_put (pc := 13) (ci := 8) (kk := 25) ty_M tyok_M nm_M d_M_needs_13 rfl in_M (by decide) wd_963 rfl (fun _ => rfl) (fun _ => rfl) (fun _ z => by cases z) e4 ?_
      refine g_aload_n (pc := 16) 0 d_M_needs_16 rfl rfl ?_
      refine g_aload_n (pc := 17) 0 d_M_needs_17 rfl rfl ?_
      obtain ⟨x5, e6, hf⟩ := bd1_e hf
      refine g_get (pc := 18) (ci := 8) (kk := 22) d_M_needs_18 rfl in_M (by decide) wd_960 (gI_spec e6) ?_
      obtain ⟨h7, e8, hf⟩ := bd1_e hf
      refine g_put (pc := 21) (ci := 8) (kk := 26) ty_M tyok_M nm_M d_M_needs_21 rfl in_M (by decide) wd_964 rfl (fun _ => rfl) (fun _ => rfl) (fun _ z => by cases z) e8 ?_
      obtain rfl := ret1 hf
      exact g_vret (pc := 24) rfl d_M_needs_24
def f_M_needs (a0 : Nat) (a1 : Int32) (a2 : Int32) (h : mH) : Option mH := f_M_needs_0 a0 a1 a2 h
theorem c_M_needs {a0 : Nat} {a1 : Int32} {a2 : Int32} {h : mH} {h' : mH} (hf : f_M_needs a0 a1 a2 h = some h') : MM y_M_needs prog_10_method_9_code 3 none 0 0 [.ref a0, .int a1, .int a2] h none h' :=
  mm_of_G (by decide) (Nat.le_of_ble_eq_true rfl) (t_M_needs_0 _ _ _ _ _ hf)
/-! M next ()V -/
theorem d_M_next_0 : decode prog_10_method_13_code 0 = .ok (.aload_n 0, 1) := by decide +kernel
theorem d_M_next_1 : decode prog_10_method_13_code 1 = .ok (.getfield 121, 3) := by decide +kernel
theorem d_M_next_4 : decode prog_10_method_13_code 4 = .ok (.ifCond .le 4, 3) := by decide +kernel
theorem d_M_next_7 : decode prog_10_method_13_code 7 = .ok (.return_, 1) := by decide +kernel
theorem d_M_next_8 : decode prog_10_method_13_code 8 = .ok (.aload_n 0, 1) := by decide +kernel
theorem d_M_next_9 : decode prog_10_method_13_code 9 = .ok (.aload_n 0, 1) := by decide +kernel
theorem d_M_next_10 : decode prog_10_method_13_code 10 = .ok (.getfield 130, 3) := by decide +kernel
theorem d_M_next_13 : decode prog_10_method_13_code 13 = .ok (.invokevirtual 133, 3) := by decide +kernel
theorem d_M_next_16 : decode prog_10_method_13_code 16 = .ok (.bipush 32, 2) := by decide +kernel
theorem d_M_next_18 : decode prog_10_method_13_code 18 = .ok (.if_icmp .ne 16, 3) := by decide +kernel
theorem d_M_next_21 : decode prog_10_method_13_code 21 = .ok (.aload_n 0, 1) := by decide +kernel
theorem d_M_next_22 : decode prog_10_method_13_code 22 = .ok (.dup, 1) := by decide +kernel
theorem d_M_next_23 : decode prog_10_method_13_code 23 = .ok (.getfield 130, 3) := by decide +kernel
theorem d_M_next_26 : decode prog_10_method_13_code 26 = .ok (.iconst 1, 1) := by decide +kernel
theorem d_M_next_27 : decode prog_10_method_13_code 27 = .ok (.iadd, 1) := by decide +kernel
theorem d_M_next_28 : decode prog_10_method_13_code 28 = .ok (.putfield 130, 3) := by decide +kernel
theorem d_M_next_31 : decode prog_10_method_13_code 31 = .ok (.goto (-23), 3) := by decide +kernel
theorem d_M_next_34 : decode prog_10_method_13_code 34 = .ok (.aload_n 0, 1) := by decide +kernel
theorem d_M_next_35 : decode prog_10_method_13_code 35 = .ok (.aload_n 0, 1) := by decide +kernel
theorem d_M_next_36 : decode prog_10_method_13_code 36 = .ok (.getfield 130, 3) := by decide +kernel
theorem d_M_next_39 : decode prog_10_method_13_code 39 = .ok (.putfield 124, 3) := by decide +kernel
theorem d_M_next_42 : decode prog_10_method_13_code 42 = .ok (.aload_n 0, 1) := by decide +kernel
theorem d_M_next_43 : decode prog_10_method_13_code 43 = .ok (.aload_n 0, 1) := by decide +kernel
theorem d_M_next_44 : decode prog_10_method_13_code 44 = .ok (.getfield 130, 3) := by decide +kernel
theorem d_M_next_47 : decode prog_10_method_13_code 47 = .ok (.invokevirtual 133, 3) := by decide +kernel
theorem d_M_next_50 : decode prog_10_method_13_code 50 = .ok (.istore_n 1, 1) := by decide +kernel
theorem d_M_next_51 : decode prog_10_method_13_code 51 = .ok (.iload_n 1, 1) := by decide +kernel
theorem d_M_next_52 : decode prog_10_method_13_code 52 = .ok (.ifCond .ge 11, 3) := by decide +kernel
theorem d_M_next_55 : decode prog_10_method_13_code 55 = .ok (.aload_n 0, 1) := by decide +kernel
theorem d_M_next_56 : decode prog_10_method_13_code 56 = .ok (.iconst 0, 1) := by decide +kernel
theorem d_M_next_57 : decode prog_10_method_13_code 57 = .ok (.putfield 141, 3) := by decide +kernel
theorem d_M_next_60 : decode prog_10_method_13_code 60 = .ok (.goto 214, 3) := by decide +kernel
theorem d_M_next_63 : decode prog_10_method_13_code 63 = .ok (.iload_n 1, 1) := by decide +kernel
theorem d_M_next_64 : decode prog_10_method_13_code 64 = .ok (.i2l, 1) := by decide +kernel
theorem d_M_next_65 : decode prog_10_method_13_code 65 = .ok (.ldc2_w 144, 3) := by decide +kernel
theorem d_M_next_68 : decode prog_10_method_13_code 68 = .ok (.ldc2_w 146, 3) := by decide +kernel
theorem d_M_next_71 : decode prog_10_method_13_code 71 = .ok (.invokestatic 114, 3) := by decide +kernel
theorem d_M_next_74 : decode prog_10_method_13_code 74 = .ok (.ifCond .eq 42, 3) := by decide +kernel
theorem d_M_next_77 : decode prog_10_method_13_code 77 = .ok (.aload_n 0, 1) := by decide +kernel
theorem d_M_next_78 : decode prog_10_method_13_code 78 = .ok (.iconst 1, 1) := by decide +kernel
theorem d_M_next_79 : decode prog_10_method_13_code 79 = .ok (.putfield 141, 3) := by decide +kernel
theorem d_M_next_82 : decode prog_10_method_13_code 82 = .ok (.aload_n 0, 1) := by decide +kernel
theorem d_M_next_83 : decode prog_10_method_13_code 83 = .ok (.aload_n 0, 1) := by decide +kernel
theorem d_M_next_84 : decode prog_10_method_13_code 84 = .ok (.getfield 130, 3) := by decide +kernel
theorem d_M_next_87 : decode prog_10_method_13_code 87 = .ok (.invokevirtual 133, 3) := by decide +kernel
theorem d_M_next_90 : decode prog_10_method_13_code 90 = .ok (.i2l, 1) := by decide +kernel
theorem d_M_next_91 : decode prog_10_method_13_code 91 = .ok (.ldc2_w 144, 3) := by decide +kernel
theorem d_M_next_94 : decode prog_10_method_13_code 94 = .ok (.ldc2_w 146, 3) := by decide +kernel
theorem d_M_next_97 : decode prog_10_method_13_code 97 = .ok (.invokestatic 114, 3) := by decide +kernel
theorem d_M_next_100 : decode prog_10_method_13_code 100 = .ok (.ifCond .eq 174, 3) := by decide +kernel
theorem d_M_next_103 : decode prog_10_method_13_code 103 = .ok (.aload_n 0, 1) := by decide +kernel
theorem d_M_next_104 : decode prog_10_method_13_code 104 = .ok (.dup, 1) := by decide +kernel
theorem d_M_next_105 : decode prog_10_method_13_code 105 = .ok (.getfield 130, 3) := by decide +kernel
theorem d_M_next_108 : decode prog_10_method_13_code 108 = .ok (.iconst 1, 1) := by decide +kernel
theorem d_M_next_109 : decode prog_10_method_13_code 109 = .ok (.iadd, 1) := by decide +kernel
theorem d_M_next_110 : decode prog_10_method_13_code 110 = .ok (.putfield 130, 3) := by decide +kernel
theorem d_M_next_113 : decode prog_10_method_13_code 113 = .ok (.goto (-31), 3) := by decide +kernel
theorem d_M_next_116 : decode prog_10_method_13_code 116 = .ok (.iload_n 1, 1) := by decide +kernel
theorem d_M_next_117 : decode prog_10_method_13_code 117 = .ok (.i2l, 1) := by decide +kernel
theorem d_M_next_118 : decode prog_10_method_13_code 118 = .ok (.ldc2_w 148, 3) := by decide +kernel
theorem d_M_next_121 : decode prog_10_method_13_code 121 = .ok (.ldc2_w 150, 3) := by decide +kernel
theorem d_M_next_124 : decode prog_10_method_13_code 124 = .ok (.invokestatic 114, 3) := by decide +kernel
theorem d_M_next_127 : decode prog_10_method_13_code 127 = .ok (.ifCond .eq 116, 3) := by decide +kernel
theorem d_M_next_130 : decode prog_10_method_13_code 130 = .ok (.aload_n 0, 1) := by decide +kernel
theorem d_M_next_131 : decode prog_10_method_13_code 131 = .ok (.iconst 2, 1) := by decide +kernel
theorem d_M_next_132 : decode prog_10_method_13_code 132 = .ok (.putfield 141, 3) := by decide +kernel
theorem d_M_next_135 : decode prog_10_method_13_code 135 = .ok (.aload_n 0, 1) := by decide +kernel
theorem d_M_next_136 : decode prog_10_method_13_code 136 = .ok (.iconst 0, 1) := by decide +kernel
theorem d_M_next_137 : decode prog_10_method_13_code 137 = .ok (.putfield 152, 3) := by decide +kernel
theorem d_M_next_140 : decode prog_10_method_13_code 140 = .ok (.aload_n 0, 1) := by decide +kernel
theorem d_M_next_141 : decode prog_10_method_13_code 141 = .ok (.aload_n 0, 1) := by decide +kernel
theorem d_M_next_142 : decode prog_10_method_13_code 142 = .ok (.getfield 130, 3) := by decide +kernel
theorem d_M_next_145 : decode prog_10_method_13_code 145 = .ok (.invokevirtual 133, 3) := by decide +kernel
theorem d_M_next_148 : decode prog_10_method_13_code 148 = .ok (.i2l, 1) := by decide +kernel
theorem d_M_next_149 : decode prog_10_method_13_code 149 = .ok (.ldc2_w 148, 3) := by decide +kernel
theorem d_M_next_152 : decode prog_10_method_13_code 152 = .ok (.ldc2_w 150, 3) := by decide +kernel
theorem d_M_next_155 : decode prog_10_method_13_code 155 = .ok (.invokestatic 114, 3) := by decide +kernel
theorem d_M_next_158 : decode prog_10_method_13_code 158 = .ok (.ifCond .eq 59, 3) := by decide +kernel
theorem d_M_next_161 : decode prog_10_method_13_code 161 = .ok (.aload_n 0, 1) := by decide +kernel
theorem d_M_next_162 : decode prog_10_method_13_code 162 = .ok (.aload_n 0, 1) := by decide +kernel
theorem d_M_next_163 : decode prog_10_method_13_code 163 = .ok (.getfield 130, 3) := by decide +kernel
theorem d_M_next_166 : decode prog_10_method_13_code 166 = .ok (.aload_n 0, 1) := by decide +kernel
theorem d_M_next_167 : decode prog_10_method_13_code 167 = .ok (.getfield 124, 3) := by decide +kernel
theorem d_M_next_170 : decode prog_10_method_13_code 170 = .ok (.isub, 1) := by decide +kernel
theorem d_M_next_171 : decode prog_10_method_13_code 171 = .ok (.iconst 2, 1) := by decide +kernel
theorem d_M_next_172 : decode prog_10_method_13_code 172 = .ok (.if_icmp .ge 25, 3) := by decide +kernel
theorem d_M_next_175 : decode prog_10_method_13_code 175 = .ok (.bipush 10, 2) := by decide +kernel
theorem d_M_next_177 : decode prog_10_method_13_code 177 = .ok (.aload_n 0, 1) := by decide +kernel
theorem d_M_next_178 : decode prog_10_method_13_code 178 = .ok (.getfield 152, 3) := by decide +kernel
theorem d_M_next_181 : decode prog_10_method_13_code 181 = .ok (.imul, 1) := by decide +kernel
theorem d_M_next_182 : decode prog_10_method_13_code 182 = .ok (.aload_n 0, 1) := by decide +kernel
theorem d_M_next_183 : decode prog_10_method_13_code 183 = .ok (.aload_n 0, 1) := by decide +kernel
theorem d_M_next_184 : decode prog_10_method_13_code 184 = .ok (.getfield 130, 3) := by decide +kernel
theorem d_M_next_187 : decode prog_10_method_13_code 187 = .ok (.invokevirtual 133, 3) := by decide +kernel
theorem d_M_next_190 : decode prog_10_method_13_code 190 = .ok (.iadd, 1) := by decide +kernel
theorem d_M_next_191 : decode prog_10_method_13_code 191 = .ok (.bipush 48, 2) := by decide +kernel
theorem d_M_next_193 : decode prog_10_method_13_code 193 = .ok (.isub, 1) := by decide +kernel
theorem d_M_next_194 : decode prog_10_method_13_code 194 = .ok (.goto 7, 3) := by decide +kernel
theorem d_M_next_197 : decode prog_10_method_13_code 197 = .ok (.aload_n 0, 1) := by decide +kernel
theorem d_M_next_198 : decode prog_10_method_13_code 198 = .ok (.getfield 152, 3) := by decide +kernel
theorem d_M_next_201 : decode prog_10_method_13_code 201 = .ok (.putfield 152, 3) := by decide +kernel
theorem d_M_next_204 : decode prog_10_method_13_code 204 = .ok (.aload_n 0, 1) := by decide +kernel
theorem d_M_next_205 : decode prog_10_method_13_code 205 = .ok (.dup, 1) := by decide +kernel
theorem d_M_next_206 : decode prog_10_method_13_code 206 = .ok (.getfield 130, 3) := by decide +kernel
theorem d_M_next_209 : decode prog_10_method_13_code 209 = .ok (.iconst 1, 1) := by decide +kernel
theorem d_M_next_210 : decode prog_10_method_13_code 210 = .ok (.iadd, 1) := by decide +kernel
theorem d_M_next_211 : decode prog_10_method_13_code 211 = .ok (.putfield 130, 3) := by decide +kernel
theorem d_M_next_214 : decode prog_10_method_13_code 214 = .ok (.goto (-74), 3) := by decide +kernel
theorem d_M_next_217 : decode prog_10_method_13_code 217 = .ok (.aload_n 0, 1) := by decide +kernel
theorem d_M_next_218 : decode prog_10_method_13_code 218 = .ok (.aload_n 0, 1) := by decide +kernel
theorem d_M_next_219 : decode prog_10_method_13_code 219 = .ok (.getfield 130, 3) := by decide +kernel
theorem d_M_next_222 : decode prog_10_method_13_code 222 = .ok (.aload_n 0, 1) := by decide +kernel
theorem d_M_next_223 : decode prog_10_method_13_code 223 = .ok (.getfield 124, 3) := by decide +kernel
theorem d_M_next_226 : decode prog_10_method_13_code 226 = .ok (.isub, 1) := by decide +kernel
theorem d_M_next_227 : decode prog_10_method_13_code 227 = .ok (.iconst 2, 1) := by decide +kernel
theorem d_M_next_228 : decode prog_10_method_13_code 228 = .ok (.if_icmp .gt 7, 3) := by decide +kernel
theorem d_M_next_231 : decode prog_10_method_13_code 231 = .ok (.iconst 1, 1) := by decide +kernel
theorem d_M_next_232 : decode prog_10_method_13_code 232 = .ok (.goto 4, 3) := by decide +kernel
theorem d_M_next_235 : decode prog_10_method_13_code 235 = .ok (.iconst 0, 1) := by decide +kernel
theorem d_M_next_236 : decode prog_10_method_13_code 236 = .ok (.iconst 1, 1) := by decide +kernel
theorem d_M_next_237 : decode prog_10_method_13_code 237 = .ok (.invokevirtual 155, 3) := by decide +kernel
theorem d_M_next_240 : decode prog_10_method_13_code 240 = .ok (.goto 34, 3) := by decide +kernel
theorem d_M_next_243 : decode prog_10_method_13_code 243 = .ok (.aload_n 0, 1) := by decide +kernel
theorem d_M_next_244 : decode prog_10_method_13_code 244 = .ok (.iconst 3, 1) := by decide +kernel
theorem d_M_next_245 : decode prog_10_method_13_code 245 = .ok (.putfield 141, 3) := by decide +kernel
theorem d_M_next_248 : decode prog_10_method_13_code 248 = .ok (.aload_n 0, 1) := by decide +kernel
theorem d_M_next_249 : decode prog_10_method_13_code 249 = .ok (.iload_n 1, 1) := by decide +kernel
theorem d_M_next_250 : decode prog_10_method_13_code 250 = .ok (.bipush 59, 2) := by decide +kernel
theorem d_M_next_252 : decode prog_10_method_13_code 252 = .ok (.if_icmp .ne 7, 3) := by decide +kernel
theorem d_M_next_255 : decode prog_10_method_13_code 255 = .ok (.iconst 1, 1) := by decide +kernel
theorem d_M_next_256 : decode prog_10_method_13_code 256 = .ok (.goto 4, 3) := by decide +kernel
theorem d_M_next_259 : decode prog_10_method_13_code 259 = .ok (.iconst 0, 1) := by decide +kernel
theorem d_M_next_260 : decode prog_10_method_13_code 260 = .ok (.iconst 1, 1) := by decide +kernel
theorem d_M_next_261 : decode prog_10_method_13_code 261 = .ok (.invokevirtual 155, 3) := by decide +kernel
theorem d_M_next_264 : decode prog_10_method_13_code 264 = .ok (.aload_n 0, 1) := by decide +kernel
theorem d_M_next_265 : decode prog_10_method_13_code 265 = .ok (.dup, 1) := by decide +kernel
theorem d_M_next_266 : decode prog_10_method_13_code 266 = .ok (.getfield 130, 3) := by decide +kernel
theorem d_M_next_269 : decode prog_10_method_13_code 269 = .ok (.iconst 1, 1) := by decide +kernel
theorem d_M_next_270 : decode prog_10_method_13_code 270 = .ok (.iadd, 1) := by decide +kernel
theorem d_M_next_271 : decode prog_10_method_13_code 271 = .ok (.putfield 130, 3) := by decide +kernel
theorem d_M_next_274 : decode prog_10_method_13_code 274 = .ok (.return_, 1) := by decide +kernel
def f_M_next_260  (b0 : Nat) (s0 : Nat) (s1 : Int32) (h : mH) : Option mH :=
  bd1 (kC h s0 8) fun _ =>
  bd1 (f_M_needs s0 s1 (1 : Int32) h) fun h106 =>
  bd1 (gI h106 b0 8 21) fun x108 =>
  bd1 (pV h106 b0 8 21 (.int (x108 + (1 : Int32)))) fun h110 =>
  some h110
set_option maxRecDepth 20000 in
theorem t_M_next_260  (b0 : Nat) (s0 : Nat) (s1 : Int32) (h : mH) (h' : mH) (hf : f_M_next_260  b0 s0 s1 h = some h') : G y_M_next prog_10_method_13_code 2 none 1 25 260 [(0, .ref b0)] [.int s1, .ref s0] h none h' := by
  unfold f_M_next_260 at hf
  refine g_iconst (pc := 260) (1 : Int32) d_M_next_260 (by decide) ?_
  obtain ⟨u105, e104, hf⟩ := bd1_e hf
  obtain ⟨h106, e107, hf⟩ := bd1_e hf
  refine g_callV (pc := 261) (ci := 8) [.int s1, .int (1 : Int32)] (site_of si_M_needs (by decide) (by decide)) wd_1084 wd_1086 wp_34 d_M_next_261 rfl e104 (Nat.le_of_ble_eq_true rfl) (fun z => absurd z (by decide)) (fun z => absurd z (by decide)) (fun z => absurd z (by decide)) (c_M_needs e107) rfl ?_
  refine g_st [] rfl ?_
  refine g_aload_n (pc := 264) 0 d_M_next_264 rfl rfl ?_
  refine g_dup (pc := 265) d_M_next_265 rfl ?_
  obtain ⟨x108, e109, hf⟩ := bd1_e hf
  refine g_get (pc := 266) (ci := 8) (kk := 21) d_M_next_266 rfl in_M (by decide) wd_959 (gI_spec e109) ?_
  refine g_iconst (pc := 269) (1 : Int32) d_M_next_269 (by decide) ?_
  refine g_iadd (pc := 270) d_M_next_270 ?_
  obtain ⟨h110, e111, hf⟩ := bd1_e hf
  refine g_put (pc := 271) (ci := 8) (kk := 21) ty_M tyok_M nm_M d_M_next_271 rfl in_M (by decide) wd_959 rfl (fun _ => rfl) (fun _ => rfl) (fun _ z => by cases z) e111 ?_
  obtain rfl := ret1 hf
  exact g_vret (pc := 274) rfl d_M_next_274
def f_M_next_236  (s0 : Nat) (s1 : Int32) (h : mH) : Option mH :=
  bd1 (kC h s0 8) fun _ =>
  bd1 (f_M_needs s0 s1 (1 : Int32) h) fun h102 =>
  some h102
set_option maxRecDepth 20000 in
theorem t_M_next_236  (s0 : Nat) (s1 : Int32) (h : mH) (h' : mH) (hf : f_M_next_236  s0 s1 h = some h') : G y_M_next prog_10_method_13_code 2 none 1 25 236 [] [.int s1, .ref s0] h none h' := by
  unfold f_M_next_236 at hf
  refine g_iconst (pc := 236) (1 : Int32) d_M_next_236 (by decide) ?_
  obtain ⟨u101, e100, hf⟩ := bd1_e hf
  obtain ⟨h102, e103, hf⟩ := bd1_e hf
  refine g_callV (pc := 237) (ci := 8) [.int s1, .int (1 : Int32)] (site_of si_M_needs (by decide) (by decide)) wd_1084 wd_1086 wp_34 d_M_next_237 rfl e100 (Nat.le_of_ble_eq_true rfl) (fun z => absurd z (by decide)) (fun z => absurd z (by decide)) (fun z => absurd z (by decide)) (c_M_needs e103) rfl ?_
  refine g_st [] rfl ?_
  refine g_goto (pc := 240) 274 d_M_next_240 (by decide) ?_
  obtain rfl := ret1 hf
  exact g_vret (pc := 274) rfl d_M_next_274
def f_M_next_201 (rec140 : Nat → mH → Option mH) (b0 : Nat) (s0 : Nat) (s1 : Int32) (h : mH) : Option mH :=
  bd1 (pV h s0 8 24 (.int s1)) fun h94 =>
  bd1 (gI h94 b0 8 21) fun x96 =>
  bd1 (pV h94 b0 8 21 (.int (x96 + (1 : Int32)))) fun h98 =>
  rec140 b0 h98
set_option maxRecDepth 20000 in
theorem t_M_next_201 (rec140 : Nat → mH → Option mH) (hrec140 : ∀ (b0 : Nat) (h : mH) (h' : mH), rec140 b0 h = some h' → G y_M_next prog_10_method_13_code 2 none 1 25 140 [(0, .ref b0)] [] h none h') (b0 : Nat) (s0 : Nat) (s1 : Int32) (h : mH) (h' : mH) (hf : f_M_next_201 rec140 b0 s0 s1 h = some h') : G y_M_next prog_10_method_13_code 2 none 1 25 201 [(0, .ref b0)] [.int s1, .ref s0] h none h' := by
  unfold f_M_next_201 at hf
  obtain ⟨h94, e95, hf⟩ := bd1_e hf
  refine g_put (pc := 201) (ci := 8) (kk := 24) ty_M tyok_M nm_M d_M_next_201 rfl in_M (by decide) wd_962 rfl (fun _ => rfl) (fun _ => rfl) (fun _ z => by cases z) e95 ?_
  refine g_aload_n (pc := 204) 0 d_M_next_204 rfl rfl ?_
  refine g_dup (pc := 205) d_M_next_205 rfl ?_
  obtain ⟨x96, e97, hf⟩ := bd1_e hf
  refine g_get (pc := 206) (ci := 8) (kk := 21) d_M_next_206 rfl in_M (by decide) wd_959 (gI_spec e97) ?_
  refine g_iconst (pc := 209) (1 : Int32) d_M_next_209 (by decide) ?_
  refine g_iadd (pc := 210) d_M_next_210 ?_
  obtain ⟨h98, e99, hf⟩ := bd1_e hf
  refine g_put (pc := 211) (ci := 8) (kk := 21) ty_M tyok_M nm_M d_M_next_211 rfl in_M (by decide) wd_959 rfl (fun _ => rfl) (fun _ => rfl) (fun _ z => by cases z) e99 ?_
  refine g_goto (pc := 214) 140 d_M_next_214 (by decide) ?_
  refine g_lv [0] rfl ?_
  exact hrec140 _ _ _  hf
def f_M_next_140b (rec140 : Nat → mH → Option mH) (b0 : Nat) (h : mH) : Option mH :=
  bd1 (gI h b0 8 21) fun x62 =>
  bd1 (kC h b0 8) fun _ =>
  bd2 (f_M_look b0 x62 h) fun x68 h66 =>
  bd2 (f_M_in x68.toInt64 (48 : Int64) (57 : Int64) h66) fun x71 h69 =>
  if x71 = 0 then
    bd1 (gI h69 b0 8 21) fun x72 =>
    bd1 (gI h69 b0 8 22) fun x74 =>
    if (2 : Int32) < (x72 - x74) then
      f_M_next_236  b0 (0 : Int32) h69
    else
      f_M_next_236  b0 (1 : Int32) h69
  else
    bd1 (gI h69 b0 8 21) fun x77 =>
    bd1 (gI h69 b0 8 22) fun x79 =>
    if (2 : Int32) ≤ (x77 - x79) then
      bd1 (gI h69 b0 8 24) fun x81 =>
      f_M_next_201 rec140 b0 b0 x81 h69
    else
      bd1 (gI h69 b0 8 24) fun x83 =>
      bd1 (gI h69 b0 8 21) fun x85 =>
      bd1 (kC h69 b0 8) fun _ =>
      bd2 (f_M_look b0 x85 h69) fun x91 h89 =>
      f_M_next_201 rec140 b0 b0 ((((10 : Int32) * x83) + x91) - (48 : Int32)) h89
set_option maxRecDepth 20000 in
theorem t_M_next_140b (rec140 : Nat → mH → Option mH) (hrec140 : ∀ (b0 : Nat) (h : mH) (h' : mH), rec140 b0 h = some h' → G y_M_next prog_10_method_13_code 2 none 1 25 140 [(0, .ref b0)] [] h none h') (b0 : Nat) (h : mH) (h' : mH) (hf : f_M_next_140b rec140 b0 h = some h') : G y_M_next prog_10_method_13_code 2 none 1 25 140 [(0, .ref b0)] [] h none h' := by
  unfold f_M_next_140b at hf
  refine g_aload_n (pc := 140) 0 d_M_next_140 rfl rfl ?_
  refine g_aload_n (pc := 141) 0 d_M_next_141 rfl rfl ?_
  obtain ⟨x62, e63, hf⟩ := bd1_e hf
  refine g_get (pc := 142) (ci := 8) (kk := 21) d_M_next_142 rfl in_M (by decide) wd_959 (gI_spec e63) ?_
  obtain ⟨u65, e64, hf⟩ := bd1_e hf
  obtain ⟨x68, h66, e67, hf⟩ := bd2_e hf
  refine g_callV (pc := 145) (ci := 8) [.int x62] (site_of si_M_look (by decide) (by decide)) wd_1076 wd_1078 wp_33 d_M_next_145 rfl e64 (Nat.le_of_ble_eq_true rfl) (fun z => absurd z (by decide)) (fun z => absurd z (by decide)) (fun z => absurd z (by decide)) (c_M_look e67) rfl ?_
  refine g_st [.int x68] rfl ?_
  refine g_i2l (pc := 148) d_M_next_148 ?_
  refine g_ldc2 (pc := 149) (48 : Int64) d_M_next_149 wd_1082 ?_
  refine g_ldc2 (pc := 152) (57 : Int64) d_M_next_152 wd_1083 ?_
  obtain ⟨x71, h69, e70, hf⟩ := bd2_e hf
  refine g_callS (pc := 155) [.long x68.toInt64, .long (48 : Int64), .long (57 : Int64)] (site_of si_M_in (by decide) (by decide)) wd_1061 wd_1062 d_M_next_155 (Nat.le_of_ble_eq_true rfl) (fun z => absurd z (by decide)) (fun z => absurd z (by decide)) (fun z => absurd z (by decide)) (c_M_in e70) rfl ?_
  refine g_st [.int x71] rfl ?_
  refine g_ifeq (pc := 158) 217 d_M_next_158 (by decide) (fun c93 => ?_) (fun c93 => ?_)
  · replace hf := (if_pos c93).symm.trans hf
    refine g_aload_n (pc := 217) 0 d_M_next_217 rfl rfl ?_
    refine g_aload_n (pc := 218) 0 d_M_next_218 rfl rfl ?_
    obtain ⟨x72, e73, hf⟩ := bd1_e hf
    refine g_get (pc := 219) (ci := 8) (kk := 21) d_M_next_219 rfl in_M (by decide) wd_959 (gI_spec e73) ?_
    refine g_aload_n (pc := 222) 0 d_M_next_222 rfl rfl ?_
    obtain ⟨x74, e75, hf⟩ := bd1_e hf
    refine g_get (pc := 223) (ci := 8) (kk := 22) d_M_next_223 rfl in_M (by decide) wd_960 (gI_spec e75) ?_
    refine g_isub (pc := 226) d_M_next_226 ?_
    refine g_iconst (pc := 227) (2 : Int32) d_M_next_227 (by decide) ?_
    refine g_icmpgt (pc := 228) 235 d_M_next_228 (by decide) (fun c76 => ?_) (fun c76 => ?_)
    · replace hf := (if_pos c76).symm.trans hf
      refine g_iconst (pc := 235) (0 : Int32) d_M_next_235 (by decide) ?_
      refine g_lv [] rfl ?_
      exact t_M_next_236  _ _ _ _  hf
    · replace hf := (if_neg c76).symm.trans hf
      refine g_iconst (pc := 231) (1 : Int32) d_M_next_231 (by decide) ?_
      refine g_goto (pc := 232) 236 d_M_next_232 (by decide) ?_
      refine g_lv [] rfl ?_
      exact t_M_next_236  _ _ _ _  hf
  · replace hf := (if_neg c93).symm.trans hf
    refine g_aload_n (pc := 161) 0 d_M_next_161 rfl rfl ?_
    refine g_aload_n (pc := 162) 0 d_M_next_162 rfl rfl ?_
    obtain ⟨x77, e78, hf⟩ := bd1_e hf
    refine g_get (pc := 163) (ci := 8) (kk := 21) d_M_next_163 rfl in_M (by decide) wd_959 (gI_spec e78) ?_
    refine g_aload_n (pc := 166) 0 d_M_next_166 rfl rfl ?_
    obtain ⟨x79, e80, hf⟩ := bd1_e hf
    refine g_get (pc := 167) (ci := 8) (kk := 22) d_M_next_167 rfl in_M (by decide) wd_960 (gI_spec e80) ?_
    refine g_isub (pc := 170) d_M_next_170 ?_
    refine g_iconst (pc := 171) (2 : Int32) d_M_next_171 (by decide) ?_
    refine g_icmpge (pc := 172) 197 d_M_next_172 (by decide) (fun c92 => ?_) (fun c92 => ?_)
    · replace hf := (if_pos c92).symm.trans hf
      refine g_aload_n (pc := 197) 0 d_M_next_197 rfl rfl ?_
      obtain ⟨x81, e82, hf⟩ := bd1_e hf
      refine g_get (pc := 198) (ci := 8) (kk := 24) d_M_next_198 rfl in_M (by decide) wd_962 (gI_spec e82) ?_
      refine g_lv [0] rfl ?_
      exact t_M_next_201 rec140 hrec140 _ _ _ _ _  hf
    · replace hf := (if_neg c92).symm.trans hf
      refine g_bipush (pc := 175) (10 : Int32) d_M_next_175 (by decide) ?_
      refine g_aload_n (pc := 177) 0 d_M_next_177 rfl rfl ?_
      obtain ⟨x83, e84, hf⟩ := bd1_e hf
      refine g_get (pc := 178) (ci := 8) (kk := 24) d_M_next_178 rfl in_M (by decide) wd_962 (gI_spec e84) ?_
      refine g_imul (pc := 181) d_M_next_181 ?_
      refine g_aload_n (pc := 182) 0 d_M_next_182 rfl rfl ?_
      refine g_aload_n (pc := 183) 0 d_M_next_183 rfl rfl ?_
      obtain ⟨x85, e86, hf⟩ := bd1_e hf
      refine g_get (pc := 184) (ci := 8) (kk := 21) d_M_next_184 rfl in_M (by decide) wd_959 (gI_spec e86) ?_
      obtain ⟨u88, e87, hf⟩ := bd1_e hf
      obtain ⟨x91, h89, e90, hf⟩ := bd2_e hf
      refine g_callV (pc := 187) (ci := 8) [.int x85] (site_of si_M_look (by decide) (by decide)) wd_1076 wd_1078 wp_33 d_M_next_187 rfl e87 (Nat.le_of_ble_eq_true rfl) (fun z => absurd z (by decide)) (fun z => absurd z (by decide)) (fun z => absurd z (by decide)) (c_M_look e90) rfl ?_
      refine g_st [.int x91, .int ((10 : Int32) * x83), .ref b0] rfl ?_
      refine g_iadd (pc := 190) d_M_next_190 ?_
      refine g_bipush (pc := 191) (48 : Int32) d_M_next_191 (by decide) ?_
      refine g_isub (pc := 193) d_M_next_193 ?_
      refine g_goto (pc := 194) 201 d_M_next_194 (by decide) ?_
      refine g_lv [0] rfl ?_
      exact t_M_next_201 rec140 hrec140 _ _ _ _ _  hf
def f_M_next_140  : Nat → Nat → mH → Option mH
  | 0 => fun _ _ => none
  | n + 1 => f_M_next_140b  (f_M_next_140  n)
theorem t_M_next_140  : ∀ (n : Nat) (b0 : Nat) (h : mH) (h' : mH) (hf : f_M_next_140  n b0 h = some h'), G y_M_next prog_10_method_13_code 2 none 1 25 140 [(0, .ref b0)] [] h none h'
  | 0, _, _, _, hf => by cases hf
  | n + 1, _, _, _, hf => t_M_next_140b  (f_M_next_140  n) (t_M_next_140  n) _ _ _ hf
def f_M_next_82b (rec82 : Nat → mH → Option mH) (b0 : Nat) (h : mH) : Option mH :=
  bd1 (gI h b0 8 21) fun x47 =>
  bd1 (kC h b0 8) fun _ =>
  bd2 (f_M_look b0 x47 h) fun x53 h51 =>
  bd2 (f_M_in x53.toInt64 (97 : Int64) (122 : Int64) h51) fun x56 h54 =>
  if x56 = 0 then
    some h54
  else
    bd1 (gI h54 b0 8 21) fun x57 =>
    bd1 (pV h54 b0 8 21 (.int (x57 + (1 : Int32)))) fun h59 =>
    rec82 b0 h59
set_option maxRecDepth 20000 in
theorem t_M_next_82b (rec82 : Nat → mH → Option mH) (hrec82 : ∀ (b0 : Nat) (h : mH) (h' : mH), rec82 b0 h = some h' → G y_M_next prog_10_method_13_code 2 none 1 25 82 [(0, .ref b0)] [] h none h') (b0 : Nat) (h : mH) (h' : mH) (hf : f_M_next_82b rec82 b0 h = some h') : G y_M_next prog_10_method_13_code 2 none 1 25 82 [(0, .ref b0)] [] h none h' := by
  unfold f_M_next_82b at hf
  refine g_aload_n (pc := 82) 0 d_M_next_82 rfl rfl ?_
  refine g_aload_n (pc := 83) 0 d_M_next_83 rfl rfl ?_
  obtain ⟨x47, e48, hf⟩ := bd1_e hf
  refine g_get (pc := 84) (ci := 8) (kk := 21) d_M_next_84 rfl in_M (by decide) wd_959 (gI_spec e48) ?_
  obtain ⟨u50, e49, hf⟩ := bd1_e hf
  obtain ⟨x53, h51, e52, hf⟩ := bd2_e hf
  refine g_callV (pc := 87) (ci := 8) [.int x47] (site_of si_M_look (by decide) (by decide)) wd_1076 wd_1078 wp_33 d_M_next_87 rfl e49 (Nat.le_of_ble_eq_true rfl) (fun z => absurd z (by decide)) (fun z => absurd z (by decide)) (fun z => absurd z (by decide)) (c_M_look e52) rfl ?_
  refine g_st [.int x53] rfl ?_
  refine g_i2l (pc := 90) d_M_next_90 ?_
  refine g_ldc2 (pc := 91) (97 : Int64) d_M_next_91 wd_1080 ?_
  refine g_ldc2 (pc := 94) (122 : Int64) d_M_next_94 wd_1081 ?_
  obtain ⟨x56, h54, e55, hf⟩ := bd2_e hf
  refine g_callS (pc := 97) [.long x53.toInt64, .long (97 : Int64), .long (122 : Int64)] (site_of si_M_in (by decide) (by decide)) wd_1061 wd_1062 d_M_next_97 (Nat.le_of_ble_eq_true rfl) (fun z => absurd z (by decide)) (fun z => absurd z (by decide)) (fun z => absurd z (by decide)) (c_M_in e55) rfl ?_
  refine g_st [.int x56] rfl ?_
  refine g_ifeq (pc := 100) 274 d_M_next_100 (by decide) (fun c61 => ?_) (fun c61 => ?_)
  · replace hf := (if_pos c61).symm.trans hf
    obtain rfl := ret1 hf
    exact g_vret (pc := 274) rfl d_M_next_274
  · replace hf := (if_neg c61).symm.trans hf
    refine g_aload_n (pc := 103) 0 d_M_next_103 rfl rfl ?_
    refine g_dup (pc := 104) d_M_next_104 rfl ?_
    obtain ⟨x57, e58, hf⟩ := bd1_e hf
    refine g_get (pc := 105) (ci := 8) (kk := 21) d_M_next_105 rfl in_M (by decide) wd_959 (gI_spec e58) ?_
    refine g_iconst (pc := 108) (1 : Int32) d_M_next_108 (by decide) ?_
    refine g_iadd (pc := 109) d_M_next_109 ?_
    obtain ⟨h59, e60, hf⟩ := bd1_e hf
    refine g_put (pc := 110) (ci := 8) (kk := 21) ty_M tyok_M nm_M d_M_next_110 rfl in_M (by decide) wd_959 rfl (fun _ => rfl) (fun _ => rfl) (fun _ z => by cases z) e60 ?_
    refine g_goto (pc := 113) 82 d_M_next_113 (by decide) ?_
    refine g_lv [0] rfl ?_
    exact hrec82 _ _ _  hf
def f_M_next_82  : Nat → Nat → mH → Option mH
  | 0 => fun _ _ => none
  | n + 1 => f_M_next_82b  (f_M_next_82  n)
theorem t_M_next_82  : ∀ (n : Nat) (b0 : Nat) (h : mH) (h' : mH) (hf : f_M_next_82  n b0 h = some h'), G y_M_next prog_10_method_13_code 2 none 1 25 82 [(0, .ref b0)] [] h none h'
  | 0, _, _, _, hf => by cases hf
  | n + 1, _, _, _, hf => t_M_next_82b  (f_M_next_82  n) (t_M_next_82  n) _ _ _ hf
def f_M_next_8b (rec8 : Nat → mH → Option mH) (b0 : Nat) (h : mH) : Option mH :=
  bd1 (gI h b0 8 21) fun x4 =>
  bd1 (kC h b0 8) fun _ =>
  bd2 (f_M_look b0 x4 h) fun x10 h8 =>
  if x10 = (32 : Int32) then
    bd1 (gI h8 b0 8 21) fun x42 =>
    bd1 (pV h8 b0 8 21 (.int (x42 + (1 : Int32)))) fun h44 =>
    rec8 b0 h44
  else
    bd1 (gI h8 b0 8 21) fun x11 =>
    bd1 (pV h8 b0 8 22 (.int x11)) fun h13 =>
    bd1 (gI h13 b0 8 21) fun x15 =>
    bd1 (kC h13 b0 8) fun _ =>
    bd2 (f_M_look b0 x15 h13) fun x21 h19 =>
    if 0 ≤ x21 then
      bd2 (f_M_in x21.toInt64 (97 : Int64) (122 : Int64) h19) fun x24 h22 =>
      if x24 = 0 then
        bd2 (f_M_in x21.toInt64 (48 : Int64) (57 : Int64) h22) fun x27 h25 =>
        if x27 = 0 then
          bd1 (pV h25 b0 8 23 (.int (3 : Int32))) fun h28 =>
          if x21 = (59 : Int32) then
            f_M_next_260  b0 b0 (1 : Int32) h28
          else
            f_M_next_260  b0 b0 (0 : Int32) h28
        else
          bd1 (pV h25 b0 8 23 (.int (2 : Int32))) fun h31 =>
          bd1 (pV h31 b0 8 24 (.int (0 : Int32))) fun h33 =>
          f_M_next_140  FU b0 h33
      else
        bd1 (pV h22 b0 8 23 (.int (1 : Int32))) fun h36 =>
        f_M_next_82  FU b0 h36
    else
      bd1 (pV h19 b0 8 23 (.int (0 : Int32))) fun h39 =>
      some h39
set_option maxRecDepth 20000 in
theorem t_M_next_8b (rec8 : Nat → mH → Option mH) (hrec8 : ∀ (b0 : Nat) (h : mH) (h' : mH), rec8 b0 h = some h' → G y_M_next prog_10_method_13_code 2 none 1 25 8 [(0, .ref b0)] [] h none h') (b0 : Nat) (h : mH) (h' : mH) (hf : f_M_next_8b rec8 b0 h = some h') : G y_M_next prog_10_method_13_code 2 none 1 25 8 [(0, .ref b0)] [] h none h' := by
  unfold f_M_next_8b at hf
  refine g_aload_n (pc := 8) 0 d_M_next_8 rfl rfl ?_
  refine g_aload_n (pc := 9) 0 d_M_next_9 rfl rfl ?_
  obtain ⟨x4, e5, hf⟩ := bd1_e hf
  refine g_get (pc := 10) (ci := 8) (kk := 21) d_M_next_10 rfl in_M (by decide) wd_959 (gI_spec e5) ?_
  obtain ⟨u7, e6, hf⟩ := bd1_e hf
  obtain ⟨x10, h8, e9, hf⟩ := bd2_e hf
  refine g_callV (pc := 13) (ci := 8) [.int x4] (site_of si_M_look (by decide) (by decide)) wd_1076 wd_1078 wp_33 d_M_next_13 rfl e6 (Nat.le_of_ble_eq_true rfl) (fun z => absurd z (by decide)) (fun z => absurd z (by decide)) (fun z => absurd z (by decide)) (c_M_look e9) rfl ?_
  refine g_st [.int x10] rfl ?_
  refine g_bipush (pc := 16) (32 : Int32) d_M_next_16 (by decide) ?_
  refine g_icmpne (pc := 18) 34 d_M_next_18 (by decide) (fun c46 => ?_) (fun c46 => ?_)
  · replace hf := (if_neg c46).symm.trans hf
    refine g_aload_n (pc := 34) 0 d_M_next_34 rfl rfl ?_
    refine g_aload_n (pc := 35) 0 d_M_next_35 rfl rfl ?_
    obtain ⟨x11, e12, hf⟩ := bd1_e hf
    refine g_get (pc := 36) (ci := 8) (kk := 21) d_M_next_36 rfl in_M (by decide) wd_959 (gI_spec e12) ?_
    obtain ⟨h13, e14, hf⟩ := bd1_e hf
    refine g_put (pc := 39) (ci := 8) (kk := 22) ty_M tyok_M nm_M d_M_next_39 rfl in_M (by decide) wd_960 rfl (fun _ => rfl) (fun _ => rfl) (fun _ z => by cases z) e14 ?_
    refine g_aload_n (pc := 42) 0 d_M_next_42 rfl rfl ?_
    refine g_aload_n (pc := 43) 0 d_M_next_43 rfl rfl ?_
    obtain ⟨x15, e16, hf⟩ := bd1_e hf
    refine g_get (pc := 44) (ci := 8) (kk := 21) d_M_next_44 rfl in_M (by decide) wd_959 (gI_spec e16) ?_
    obtain ⟨u18, e17, hf⟩ := bd1_e hf
    obtain ⟨x21, h19, e20, hf⟩ := bd2_e hf
    refine g_callV (pc := 47) (ci := 8) [.int x15] (site_of si_M_look (by decide) (by decide)) wd_1076 wd_1078 wp_33 d_M_next_47 rfl e17 (Nat.le_of_ble_eq_true rfl) (fun z => absurd z (by decide)) (fun z => absurd z (by decide)) (fun z => absurd z (by decide)) (c_M_look e20) rfl ?_
    refine g_st [.int x21] rfl ?_
    refine g_istore_n (pc := 50) [(1, .int x21), (0, .ref b0)] d_M_next_50 rfl (Nat.le_of_ble_eq_true rfl) rfl ?_
    refine g_iload_n (pc := 51) 0 d_M_next_51 rfl rfl ?_
    refine g_ifge (pc := 52) 63 d_M_next_52 (by decide) (fun c41 => ?_) (fun c41 => ?_)
    · replace hf := (if_pos c41).symm.trans hf
      refine g_iload_n (pc := 63) 0 d_M_next_63 rfl rfl ?_
      refine g_i2l (pc := 64) d_M_next_64 ?_
      refine g_ldc2 (pc := 65) (97 : Int64) d_M_next_65 wd_1080 ?_
      refine g_ldc2 (pc := 68) (122 : Int64) d_M_next_68 wd_1081 ?_
      obtain ⟨x24, h22, e23, hf⟩ := bd2_e hf
      refine g_callS (pc := 71) [.long x21.toInt64, .long (97 : Int64), .long (122 : Int64)] (site_of si_M_in (by decide) (by decide)) wd_1061 wd_1062 d_M_next_71 (Nat.le_of_ble_eq_true rfl) (fun z => absurd z (by decide)) (fun z => absurd z (by decide)) (fun z => absurd z (by decide)) (c_M_in e23) rfl ?_
      refine g_st [.int x24] rfl ?_
      refine g_ifeq (pc := 74) 116 d_M_next_74 (by decide) (fun c38 => ?_) (fun c38 => ?_)
      · replace hf := (if_pos c38).symm.trans hf
        refine g_iload_n (pc := 116) 0 d_M_next_116 rfl rfl ?_
        refine g_i2l (pc := 117) d_M_next_117 ?_
        refine g_ldc2 (pc := 118) (48 : Int64) d_M_next_118 wd_1082 ?_
        refine g_ldc2 (pc := 121) (57 : Int64) d_M_next_121 wd_1083 ?_
        obtain ⟨x27, h25, e26, hf⟩ := bd2_e hf
        refine g_callS (pc := 124) [.long x21.toInt64, .long (48 : Int64), .long (57 : Int64)] (site_of si_M_in (by decide) (by decide)) wd_1061 wd_1062 d_M_next_124 (Nat.le_of_ble_eq_true rfl) (fun z => absurd z (by decide)) (fun z => absurd z (by decide)) (fun z => absurd z (by decide)) (c_M_in e26) rfl ?_
        refine g_st [.int x27] rfl ?_
        refine g_ifeq (pc := 127) 243 d_M_next_127 (by decide) (fun c35 => ?_) (fun c35 => ?_)
        · replace hf := (if_pos c35).symm.trans hf
          refine g_aload_n (pc := 243) 1 d_M_next_243 rfl rfl ?_
          refine g_iconst (pc := 244) (3 : Int32) d_M_next_244 (by decide) ?_
          obtain ⟨h28, e29, hf⟩ := bd1_e hf
          refine g_put (pc := 245) (ci := 8) (kk := 23) ty_M tyok_M nm_M d_M_next_245 rfl in_M (by decide) wd_961 rfl (fun _ => rfl) (fun _ => rfl) (fun _ z => by cases z) e29 ?_
          refine g_aload_n (pc := 248) 1 d_M_next_248 rfl rfl ?_
          refine g_iload_n (pc := 249) 0 d_M_next_249 rfl rfl ?_
          refine g_bipush (pc := 250) (59 : Int32) d_M_next_250 (by decide) ?_
          refine g_icmpne (pc := 252) 259 d_M_next_252 (by decide) (fun c30 => ?_) (fun c30 => ?_)
          · replace hf := (if_neg c30).symm.trans hf
            refine g_iconst (pc := 259) (0 : Int32) d_M_next_259 (by decide) ?_
            refine g_lv [1] rfl ?_
            exact t_M_next_260  _ _ _ _ _  hf
          · replace hf := (if_pos c30).symm.trans hf
            refine g_iconst (pc := 255) (1 : Int32) d_M_next_255 (by decide) ?_
            refine g_goto (pc := 256) 260 d_M_next_256 (by decide) ?_
            refine g_lv [1] rfl ?_
            exact t_M_next_260  _ _ _ _ _  hf
        · replace hf := (if_neg c35).symm.trans hf
          refine g_aload_n (pc := 130) 1 d_M_next_130 rfl rfl ?_
          refine g_iconst (pc := 131) (2 : Int32) d_M_next_131 (by decide) ?_
          obtain ⟨h31, e32, hf⟩ := bd1_e hf
          refine g_put (pc := 132) (ci := 8) (kk := 23) ty_M tyok_M nm_M d_M_next_132 rfl in_M (by decide) wd_961 rfl (fun _ => rfl) (fun _ => rfl) (fun _ z => by cases z) e32 ?_
          refine g_aload_n (pc := 135) 1 d_M_next_135 rfl rfl ?_
          refine g_iconst (pc := 136) (0 : Int32) d_M_next_136 (by decide) ?_
          obtain ⟨h33, e34, hf⟩ := bd1_e hf
          refine g_put (pc := 137) (ci := 8) (kk := 24) ty_M tyok_M nm_M d_M_next_137 rfl in_M (by decide) wd_962 rfl (fun _ => rfl) (fun _ => rfl) (fun _ z => by cases z) e34 ?_
          refine g_lv [1] rfl ?_
          exact t_M_next_140  FU _ _ _  hf
      · replace hf := (if_neg c38).symm.trans hf
        refine g_aload_n (pc := 77) 1 d_M_next_77 rfl rfl ?_
        refine g_iconst (pc := 78) (1 : Int32) d_M_next_78 (by decide) ?_
        obtain ⟨h36, e37, hf⟩ := bd1_e hf
        refine g_put (pc := 79) (ci := 8) (kk := 23) ty_M tyok_M nm_M d_M_next_79 rfl in_M (by decide) wd_961 rfl (fun _ => rfl) (fun _ => rfl) (fun _ z => by cases z) e37 ?_
        refine g_lv [1] rfl ?_
        exact t_M_next_82  FU _ _ _  hf
    · replace hf := (if_neg c41).symm.trans hf
      refine g_aload_n (pc := 55) 1 d_M_next_55 rfl rfl ?_
      refine g_iconst (pc := 56) (0 : Int32) d_M_next_56 (by decide) ?_
      obtain ⟨h39, e40, hf⟩ := bd1_e hf
      refine g_put (pc := 57) (ci := 8) (kk := 23) ty_M tyok_M nm_M d_M_next_57 rfl in_M (by decide) wd_961 rfl (fun _ => rfl) (fun _ => rfl) (fun _ z => by cases z) e40 ?_
      refine g_goto (pc := 60) 274 d_M_next_60 (by decide) ?_
      obtain rfl := ret1 hf
      exact g_vret (pc := 274) rfl d_M_next_274
  · replace hf := (if_pos c46).symm.trans hf
    refine g_aload_n (pc := 21) 0 d_M_next_21 rfl rfl ?_
    refine g_dup (pc := 22) d_M_next_22 rfl ?_
    obtain ⟨x42, e43, hf⟩ := bd1_e hf
    refine g_get (pc := 23) (ci := 8) (kk := 21) d_M_next_23 rfl in_M (by decide) wd_959 (gI_spec e43) ?_
    refine g_iconst (pc := 26) (1 : Int32) d_M_next_26 (by decide) ?_
    refine g_iadd (pc := 27) d_M_next_27 ?_
    obtain ⟨h44, e45, hf⟩ := bd1_e hf
    refine g_put (pc := 28) (ci := 8) (kk := 21) ty_M tyok_M nm_M d_M_next_28 rfl in_M (by decide) wd_959 rfl (fun _ => rfl) (fun _ => rfl) (fun _ z => by cases z) e45 ?_
    refine g_goto (pc := 31) 8 d_M_next_31 (by decide) ?_
    refine g_lv [0] rfl ?_
    exact hrec8 _ _ _  hf
def f_M_next_8  : Nat → Nat → mH → Option mH
  | 0 => fun _ _ => none
  | n + 1 => f_M_next_8b  (f_M_next_8  n)
theorem t_M_next_8  : ∀ (n : Nat) (b0 : Nat) (h : mH) (h' : mH) (hf : f_M_next_8  n b0 h = some h'), G y_M_next prog_10_method_13_code 2 none 1 25 8 [(0, .ref b0)] [] h none h'
  | 0, _, _, _, hf => by cases hf
  | n + 1, _, _, _, hf => t_M_next_8b  (f_M_next_8  n) (t_M_next_8  n) _ _ _ hf
def f_M_next_0  (a0 : Nat) (h : mH) : Option mH :=
  bd1 (gI h a0 8 25) fun x1 =>
  if x1 ≤ 0 then
    f_M_next_8  FU a0 h
  else
    some h
set_option maxRecDepth 20000 in
theorem t_M_next_0  (a0 : Nat) (h : mH) (h' : mH) (hf : f_M_next_0  a0 h = some h') : G y_M_next prog_10_method_13_code 2 none 1 25 0 [(0, .ref a0)] [] h none h' := by
  unfold f_M_next_0 at hf
  refine g_aload_n (pc := 0) 0 d_M_next_0 rfl rfl ?_
  obtain ⟨x1, e2, hf⟩ := bd1_e hf
  refine g_get (pc := 1) (ci := 8) (kk := 25) d_M_next_1 rfl in_M (by decide) wd_963 (gI_spec e2) ?_
  refine g_ifle (pc := 4) 8 d_M_next_4 (by decide) (fun c3 => ?_) (fun c3 => ?_)
  · replace hf := (if_pos c3).symm.trans hf
    refine g_lv [0] rfl ?_
    exact t_M_next_8  FU _ _ _  hf
  · replace hf := (if_neg c3).symm.trans hf
    obtain rfl := ret1 hf
    exact g_vret (pc := 7) rfl d_M_next_7
def f_M_next (a0 : Nat) (h : mH) : Option mH := f_M_next_0 a0 h
theorem c_M_next {a0 : Nat} {h : mH} {h' : mH} (hf : f_M_next a0 h = some h') : MM y_M_next prog_10_method_13_code 2 none 1 25 [.ref a0] h none h' :=
  mm_of_G (by decide) (Nat.le_of_ble_eq_true rfl) (t_M_next_0 _ _ _ hf)
/-! M is (IIII)Z -/
theorem d_M_is_0 : decode prog_10_method_11_code 0 = .ok (.aload_n 0, 1) := by decide +kernel
theorem d_M_is_1 : decode prog_10_method_11_code 1 = .ok (.getfield 130, 3) := by decide +kernel
theorem d_M_is_4 : decode prog_10_method_11_code 4 = .ok (.aload_n 0, 1) := by decide +kernel
theorem d_M_is_5 : decode prog_10_method_11_code 5 = .ok (.getfield 124, 3) := by decide +kernel
theorem d_M_is_8 : decode prog_10_method_11_code 8 = .ok (.isub, 1) := by decide +kernel
theorem d_M_is_9 : decode prog_10_method_11_code 9 = .ok (.iload_n 1, 1) := by decide +kernel
theorem d_M_is_10 : decode prog_10_method_11_code 10 = .ok (.if_icmp .ne 48, 3) := by decide +kernel
theorem d_M_is_13 : decode prog_10_method_11_code 13 = .ok (.aload_n 0, 1) := by decide +kernel
theorem d_M_is_14 : decode prog_10_method_11_code 14 = .ok (.aload_n 0, 1) := by decide +kernel
theorem d_M_is_15 : decode prog_10_method_11_code 15 = .ok (.getfield 124, 3) := by decide +kernel
theorem d_M_is_18 : decode prog_10_method_11_code 18 = .ok (.invokevirtual 133, 3) := by decide +kernel
theorem d_M_is_21 : decode prog_10_method_11_code 21 = .ok (.iload_n 2, 1) := by decide +kernel
theorem d_M_is_22 : decode prog_10_method_11_code 22 = .ok (.if_icmp .ne 36, 3) := by decide +kernel
theorem d_M_is_25 : decode prog_10_method_11_code 25 = .ok (.aload_n 0, 1) := by decide +kernel
theorem d_M_is_26 : decode prog_10_method_11_code 26 = .ok (.aload_n 0, 1) := by decide +kernel
theorem d_M_is_27 : decode prog_10_method_11_code 27 = .ok (.getfield 124, 3) := by decide +kernel
theorem d_M_is_30 : decode prog_10_method_11_code 30 = .ok (.iconst 1, 1) := by decide +kernel
theorem d_M_is_31 : decode prog_10_method_11_code 31 = .ok (.iadd, 1) := by decide +kernel
theorem d_M_is_32 : decode prog_10_method_11_code 32 = .ok (.invokevirtual 133, 3) := by decide +kernel
theorem d_M_is_35 : decode prog_10_method_11_code 35 = .ok (.iload_n 3, 1) := by decide +kernel
theorem d_M_is_36 : decode prog_10_method_11_code 36 = .ok (.if_icmp .ne 22, 3) := by decide +kernel
theorem d_M_is_39 : decode prog_10_method_11_code 39 = .ok (.aload_n 0, 1) := by decide +kernel
theorem d_M_is_40 : decode prog_10_method_11_code 40 = .ok (.aload_n 0, 1) := by decide +kernel
theorem d_M_is_41 : decode prog_10_method_11_code 41 = .ok (.getfield 124, 3) := by decide +kernel
theorem d_M_is_44 : decode prog_10_method_11_code 44 = .ok (.iconst 2, 1) := by decide +kernel
theorem d_M_is_45 : decode prog_10_method_11_code 45 = .ok (.iadd, 1) := by decide +kernel
theorem d_M_is_46 : decode prog_10_method_11_code 46 = .ok (.invokevirtual 133, 3) := by decide +kernel
theorem d_M_is_49 : decode prog_10_method_11_code 49 = .ok (.iload 4, 2) := by decide +kernel
theorem d_M_is_51 : decode prog_10_method_11_code 51 = .ok (.if_icmp .ne 7, 3) := by decide +kernel
theorem d_M_is_54 : decode prog_10_method_11_code 54 = .ok (.iconst 1, 1) := by decide +kernel
theorem d_M_is_55 : decode prog_10_method_11_code 55 = .ok (.goto 4, 3) := by decide +kernel
theorem d_M_is_58 : decode prog_10_method_11_code 58 = .ok (.iconst 0, 1) := by decide +kernel
theorem d_M_is_59 : decode prog_10_method_11_code 59 = .ok (.ireturn, 1) := by decide +kernel
def f_M_is_58   (h : mH) : Option (Int32 × mH) :=
  some ((0 : Int32), h)
set_option maxRecDepth 20000 in
theorem t_M_is_58   (h : mH) (r : Int32) (h' : mH) (hf : f_M_is_58   h = some (r, h')) : G y_M_is prog_10_method_11_code 5 (some .boolean) 1 21 58 [] [] h (some (.int r)) h' := by
  unfold f_M_is_58 at hf
  refine g_iconst (pc := 58) (0 : Int32) d_M_is_58 (by decide) ?_
  obtain ⟨rfl, rfl⟩ := ret2 hf
  exact g_zret (pc := 59) rfl rfl d_M_is_59
def f_M_is_0  (a0 : Nat) (a1 : Int32) (a2 : Int32) (a3 : Int32) (a4 : Int32) (h : mH) : Option (Int32 × mH) :=
  bd1 (gI h a0 8 21) fun x1 =>
  bd1 (gI h a0 8 22) fun x3 =>
  if (x1 - x3) = a1 then
    bd1 (gI h a0 8 22) fun x5 =>
    bd1 (kC h a0 8) fun _ =>
    bd2 (f_M_look a0 x5 h) fun x11 h9 =>
    if x11 = a2 then
      bd1 (gI h9 a0 8 22) fun x12 =>
      bd1 (kC h9 a0 8) fun _ =>
      bd2 (f_M_look a0 (x12 + (1 : Int32)) h9) fun x18 h16 =>
      if x18 = a3 then
        bd1 (gI h16 a0 8 22) fun x19 =>
        bd1 (kC h16 a0 8) fun _ =>
        bd2 (f_M_look a0 (x19 + (2 : Int32)) h16) fun x25 h23 =>
        if x25 = a4 then
          some ((1 : Int32), h23)
        else
          f_M_is_58  h23
      else
        f_M_is_58  h16
    else
      f_M_is_58  h9
  else
    f_M_is_58  h
set_option maxRecDepth 20000 in
theorem t_M_is_0  (a0 : Nat) (a1 : Int32) (a2 : Int32) (a3 : Int32) (a4 : Int32) (h : mH) (r : Int32) (h' : mH) (hf : f_M_is_0  a0 a1 a2 a3 a4 h = some (r, h')) : G y_M_is prog_10_method_11_code 5 (some .boolean) 1 21 0 [(0, .ref a0), (1, .int a1), (2, .int a2), (3, .int a3), (4, .int a4)] [] h (some (.int r)) h' := by
  unfold f_M_is_0 at hf
  refine g_aload_n (pc := 0) 0 d_M_is_0 rfl rfl ?_
  obtain ⟨x1, e2, hf⟩ := bd1_e hf
  refine g_get (pc := 1) (ci := 8) (kk := 21) d_M_is_1 rfl in_M (by decide) wd_959 (gI_spec e2) ?_
  refine g_aload_n (pc := 4) 0 d_M_is_4 rfl rfl ?_
  obtain ⟨x3, e4, hf⟩ := bd1_e hf
  refine g_get (pc := 5) (ci := 8) (kk := 22) d_M_is_5 rfl in_M (by decide) wd_960 (gI_spec e4) ?_
  refine g_isub (pc := 8) d_M_is_8 ?_
  refine g_iload_n (pc := 9) 1 d_M_is_9 rfl rfl ?_
  refine g_icmpne (pc := 10) 58 d_M_is_10 (by decide) (fun c29 => ?_) (fun c29 => ?_)
  · replace hf := (if_neg c29).symm.trans hf
    refine g_lv [] rfl ?_
    exact t_M_is_58  _ _ _  hf
  · replace hf := (if_pos c29).symm.trans hf
    refine g_aload_n (pc := 13) 0 d_M_is_13 rfl rfl ?_
    refine g_aload_n (pc := 14) 0 d_M_is_14 rfl rfl ?_
    obtain ⟨x5, e6, hf⟩ := bd1_e hf
    refine g_get (pc := 15) (ci := 8) (kk := 22) d_M_is_15 rfl in_M (by decide) wd_960 (gI_spec e6) ?_
    obtain ⟨u8, e7, hf⟩ := bd1_e hf
    obtain ⟨x11, h9, e10, hf⟩ := bd2_e hf
    refine g_callV (pc := 18) (ci := 8) [.int x5] (site_of si_M_look (by decide) (by decide)) wd_1076 wd_1078 wp_33 d_M_is_18 rfl e7 (Nat.le_of_ble_eq_true rfl) (fun z => absurd z (by decide)) (fun z => absurd z (by decide)) (fun z => absurd z (by decide)) (c_M_look e10) rfl ?_
    refine g_st [.int x11] rfl ?_
    refine g_iload_n (pc := 21) 2 d_M_is_21 rfl rfl ?_
    refine g_icmpne (pc := 22) 58 d_M_is_22 (by decide) (fun c28 => ?_) (fun c28 => ?_)
    · replace hf := (if_neg c28).symm.trans hf
      refine g_lv [] rfl ?_
      exact t_M_is_58  _ _ _  hf
    · replace hf := (if_pos c28).symm.trans hf
      refine g_aload_n (pc := 25) 0 d_M_is_25 rfl rfl ?_
      refine g_aload_n (pc := 26) 0 d_M_is_26 rfl rfl ?_
      obtain ⟨x12, e13, hf⟩ := bd1_e hf
      refine g_get (pc := 27) (ci := 8) (kk := 22) d_M_is_27 rfl in_M (by decide) wd_960 (gI_spec e13) ?_
      refine g_iconst (pc := 30) (1 : Int32) d_M_is_30 (by decide) ?_
      refine g_iadd (pc := 31) d_M_is_31 ?_
      obtain ⟨u15, e14, hf⟩ := bd1_e hf
      obtain ⟨x18, h16, e17, hf⟩ := bd2_e hf
      refine g_callV (pc := 32) (ci := 8) [.int (x12 + (1 : Int32))] (site_of si_M_look (by decide) (by decide)) wd_1076 wd_1078 wp_33 d_M_is_32 rfl e14 (Nat.le_of_ble_eq_true rfl) (fun z => absurd z (by decide)) (fun z => absurd z (by decide)) (fun z => absurd z (by decide)) (c_M_look e17) rfl ?_
      refine g_st [.int x18] rfl ?_
      refine g_iload_n (pc := 35) 3 d_M_is_35 rfl rfl ?_
      refine g_icmpne (pc := 36) 58 d_M_is_36 (by decide) (fun c27 => ?_) (fun c27 => ?_)
      · replace hf := (if_neg c27).symm.trans hf
        refine g_lv [] rfl ?_
        exact t_M_is_58  _ _ _  hf
      · replace hf := (if_pos c27).symm.trans hf
        refine g_aload_n (pc := 39) 0 d_M_is_39 rfl rfl ?_
        refine g_aload_n (pc := 40) 0 d_M_is_40 rfl rfl ?_
        obtain ⟨x19, e20, hf⟩ := bd1_e hf
        refine g_get (pc := 41) (ci := 8) (kk := 22) d_M_is_41 rfl in_M (by decide) wd_960 (gI_spec e20) ?_
        refine g_iconst (pc := 44) (2 : Int32) d_M_is_44 (by decide) ?_
        refine g_iadd (pc := 45) d_M_is_45 ?_
        obtain ⟨u22, e21, hf⟩ := bd1_e hf
        obtain ⟨x25, h23, e24, hf⟩ := bd2_e hf
        refine g_callV (pc := 46) (ci := 8) [.int (x19 + (2 : Int32))] (site_of si_M_look (by decide) (by decide)) wd_1076 wd_1078 wp_33 d_M_is_46 rfl e21 (Nat.le_of_ble_eq_true rfl) (fun z => absurd z (by decide)) (fun z => absurd z (by decide)) (fun z => absurd z (by decide)) (c_M_look e24) rfl ?_
        refine g_st [.int x25] rfl ?_
        refine g_iload (pc := 49) 4 d_M_is_49 rfl ?_
        refine g_icmpne (pc := 51) 58 d_M_is_51 (by decide) (fun c26 => ?_) (fun c26 => ?_)
        · replace hf := (if_neg c26).symm.trans hf
          refine g_lv [] rfl ?_
          exact t_M_is_58  _ _ _  hf
        · replace hf := (if_pos c26).symm.trans hf
          refine g_iconst (pc := 54) (1 : Int32) d_M_is_54 (by decide) ?_
          refine g_goto (pc := 55) 59 d_M_is_55 (by decide) ?_
          obtain ⟨rfl, rfl⟩ := ret2 hf
          exact g_zret (pc := 59) rfl rfl d_M_is_59
def f_M_is (a0 : Nat) (a1 : Int32) (a2 : Int32) (a3 : Int32) (a4 : Int32) (h : mH) : Option (Int32 × mH) := f_M_is_0 a0 a1 a2 a3 a4 h
theorem c_M_is {a0 : Nat} {a1 : Int32} {a2 : Int32} {a3 : Int32} {a4 : Int32} {h : mH} {r : Int32} {h' : mH} (hf : f_M_is a0 a1 a2 a3 a4 h = some (r, h')) : MM y_M_is prog_10_method_11_code 5 (some .boolean) 1 21 [.ref a0, .int a1, .int a2, .int a3, .int a4] h (some (.int r)) h' :=
  mm_of_G (by decide) (Nat.le_of_ble_eq_true rfl) (t_M_is_0 _ _ _ _ _ _ _ _ hf)
/-! M lineNow ()I -/
theorem d_M_lineNow_0 : decode prog_10_method_12_code 0 = .ok (.aload_n 0, 1) := by decide +kernel
theorem d_M_lineNow_1 : decode prog_10_method_12_code 1 = .ok (.iconst 3, 1) := by decide +kernel
theorem d_M_lineNow_2 : decode prog_10_method_12_code 2 = .ok (.bipush 108, 2) := by decide +kernel
theorem d_M_lineNow_4 : decode prog_10_method_12_code 4 = .ok (.bipush 97, 2) := by decide +kernel
theorem d_M_lineNow_6 : decode prog_10_method_12_code 6 = .ok (.bipush 119, 2) := by decide +kernel
theorem d_M_lineNow_8 : decode prog_10_method_12_code 8 = .ok (.invokevirtual 137, 3) := by decide +kernel
theorem d_M_lineNow_11 : decode prog_10_method_12_code 11 = .ok (.ifCond .eq 5, 3) := by decide +kernel
theorem d_M_lineNow_14 : decode prog_10_method_12_code 14 = .ok (.iconst 0, 1) := by decide +kernel
theorem d_M_lineNow_15 : decode prog_10_method_12_code 15 = .ok (.ireturn, 1) := by decide +kernel
theorem d_M_lineNow_16 : decode prog_10_method_12_code 16 = .ok (.aload_n 0, 1) := by decide +kernel
theorem d_M_lineNow_17 : decode prog_10_method_12_code 17 = .ok (.iconst 3, 1) := by decide +kernel
theorem d_M_lineNow_18 : decode prog_10_method_12_code 18 = .ok (.bipush 111, 2) := by decide +kernel
theorem d_M_lineNow_20 : decode prog_10_method_12_code 20 = .ok (.bipush 110, 2) := by decide +kernel
theorem d_M_lineNow_22 : decode prog_10_method_12_code 22 = .ok (.bipush 101, 2) := by decide +kernel
theorem d_M_lineNow_24 : decode prog_10_method_12_code 24 = .ok (.invokevirtual 137, 3) := by decide +kernel
theorem d_M_lineNow_27 : decode prog_10_method_12_code 27 = .ok (.ifCond .eq 5, 3) := by decide +kernel
theorem d_M_lineNow_30 : decode prog_10_method_12_code 30 = .ok (.iconst 1, 1) := by decide +kernel
theorem d_M_lineNow_31 : decode prog_10_method_12_code 31 = .ok (.ireturn, 1) := by decide +kernel
theorem d_M_lineNow_32 : decode prog_10_method_12_code 32 = .ok (.aload_n 0, 1) := by decide +kernel
theorem d_M_lineNow_33 : decode prog_10_method_12_code 33 = .ok (.iconst 4, 1) := by decide +kernel
theorem d_M_lineNow_34 : decode prog_10_method_12_code 34 = .ok (.bipush 119, 2) := by decide +kernel
theorem d_M_lineNow_36 : decode prog_10_method_12_code 36 = .ok (.bipush 97, 2) := by decide +kernel
theorem d_M_lineNow_38 : decode prog_10_method_12_code 38 = .ok (.bipush 110, 2) := by decide +kernel
theorem d_M_lineNow_40 : decode prog_10_method_12_code 40 = .ok (.invokevirtual 137, 3) := by decide +kernel
theorem d_M_lineNow_43 : decode prog_10_method_12_code 43 = .ok (.ifCond .eq 20, 3) := by decide +kernel
theorem d_M_lineNow_46 : decode prog_10_method_12_code 46 = .ok (.aload_n 0, 1) := by decide +kernel
theorem d_M_lineNow_47 : decode prog_10_method_12_code 47 = .ok (.aload_n 0, 1) := by decide +kernel
theorem d_M_lineNow_48 : decode prog_10_method_12_code 48 = .ok (.getfield 124, 3) := by decide +kernel
theorem d_M_lineNow_51 : decode prog_10_method_12_code 51 = .ok (.iconst 3, 1) := by decide +kernel
theorem d_M_lineNow_52 : decode prog_10_method_12_code 52 = .ok (.iadd, 1) := by decide +kernel
theorem d_M_lineNow_53 : decode prog_10_method_12_code 53 = .ok (.invokevirtual 133, 3) := by decide +kernel
theorem d_M_lineNow_56 : decode prog_10_method_12_code 56 = .ok (.bipush 116, 2) := by decide +kernel
theorem d_M_lineNow_58 : decode prog_10_method_12_code 58 = .ok (.if_icmp .ne 5, 3) := by decide +kernel
theorem d_M_lineNow_61 : decode prog_10_method_12_code 61 = .ok (.iconst 2, 1) := by decide +kernel
theorem d_M_lineNow_62 : decode prog_10_method_12_code 62 = .ok (.ireturn, 1) := by decide +kernel
theorem d_M_lineNow_63 : decode prog_10_method_12_code 63 = .ok (.aload_n 0, 1) := by decide +kernel
theorem d_M_lineNow_64 : decode prog_10_method_12_code 64 = .ok (.iconst 5, 1) := by decide +kernel
theorem d_M_lineNow_65 : decode prog_10_method_12_code 65 = .ok (.bipush 119, 2) := by decide +kernel
theorem d_M_lineNow_67 : decode prog_10_method_12_code 67 = .ok (.bipush 97, 2) := by decide +kernel
theorem d_M_lineNow_69 : decode prog_10_method_12_code 69 = .ok (.bipush 116, 2) := by decide +kernel
theorem d_M_lineNow_71 : decode prog_10_method_12_code 71 = .ok (.invokevirtual 137, 3) := by decide +kernel
theorem d_M_lineNow_74 : decode prog_10_method_12_code 74 = .ok (.ifCond .eq 37, 3) := by decide +kernel
theorem d_M_lineNow_77 : decode prog_10_method_12_code 77 = .ok (.aload_n 0, 1) := by decide +kernel
theorem d_M_lineNow_78 : decode prog_10_method_12_code 78 = .ok (.aload_n 0, 1) := by decide +kernel
theorem d_M_lineNow_79 : decode prog_10_method_12_code 79 = .ok (.getfield 124, 3) := by decide +kernel
theorem d_M_lineNow_82 : decode prog_10_method_12_code 82 = .ok (.iconst 3, 1) := by decide +kernel
theorem d_M_lineNow_83 : decode prog_10_method_12_code 83 = .ok (.iadd, 1) := by decide +kernel
theorem d_M_lineNow_84 : decode prog_10_method_12_code 84 = .ok (.invokevirtual 133, 3) := by decide +kernel
theorem d_M_lineNow_87 : decode prog_10_method_12_code 87 = .ok (.bipush 99, 2) := by decide +kernel
theorem d_M_lineNow_89 : decode prog_10_method_12_code 89 = .ok (.if_icmp .ne 22, 3) := by decide +kernel
theorem d_M_lineNow_92 : decode prog_10_method_12_code 92 = .ok (.aload_n 0, 1) := by decide +kernel
theorem d_M_lineNow_93 : decode prog_10_method_12_code 93 = .ok (.aload_n 0, 1) := by decide +kernel
theorem d_M_lineNow_94 : decode prog_10_method_12_code 94 = .ok (.getfield 124, 3) := by decide +kernel
theorem d_M_lineNow_97 : decode prog_10_method_12_code 97 = .ok (.iconst 4, 1) := by decide +kernel
theorem d_M_lineNow_98 : decode prog_10_method_12_code 98 = .ok (.iadd, 1) := by decide +kernel
theorem d_M_lineNow_99 : decode prog_10_method_12_code 99 = .ok (.invokevirtual 133, 3) := by decide +kernel
theorem d_M_lineNow_102 : decode prog_10_method_12_code 102 = .ok (.bipush 104, 2) := by decide +kernel
theorem d_M_lineNow_104 : decode prog_10_method_12_code 104 = .ok (.if_icmp .ne 7, 3) := by decide +kernel
theorem d_M_lineNow_107 : decode prog_10_method_12_code 107 = .ok (.iconst 3, 1) := by decide +kernel
theorem d_M_lineNow_108 : decode prog_10_method_12_code 108 = .ok (.goto 5, 3) := by decide +kernel
theorem d_M_lineNow_111 : decode prog_10_method_12_code 111 = .ok (.bipush (-4), 2) := by decide +kernel
theorem d_M_lineNow_113 : decode prog_10_method_12_code 113 = .ok (.ireturn, 1) := by decide +kernel
def f_M_lineNow_111   (h : mH) : Option (Int32 × mH) :=
  some (((-4) : Int32), h)
set_option maxRecDepth 20000 in
theorem t_M_lineNow_111   (h : mH) (r : Int32) (h' : mH) (hf : f_M_lineNow_111   h = some (r, h')) : G y_M_lineNow prog_10_method_12_code 1 (some .int) 2 45 111 [] [] h (some (.int r)) h' := by
  unfold f_M_lineNow_111 at hf
  refine g_bipush (pc := 111) ((-4) : Int32) d_M_lineNow_111 (by decide) ?_
  obtain ⟨rfl, rfl⟩ := ret2 hf
  exact g_iret (pc := 113) rfl d_M_lineNow_113
def f_M_lineNow_63  (b0 : Nat) (h : mH) : Option (Int32 × mH) :=
  bd1 (kC h b0 8) fun _ =>
  bd2 (f_M_is b0 (5 : Int32) (119 : Int32) (97 : Int32) (116 : Int32) h) fun x31 h29 =>
  if x31 = 0 then
    f_M_lineNow_111  h29
  else
    bd1 (gI h29 b0 8 22) fun x32 =>
    bd1 (kC h29 b0 8) fun _ =>
    bd2 (f_M_look b0 (x32 + (3 : Int32)) h29) fun x38 h36 =>
    if x38 = (99 : Int32) then
      bd1 (gI h36 b0 8 22) fun x39 =>
      bd1 (kC h36 b0 8) fun _ =>
      bd2 (f_M_look b0 (x39 + (4 : Int32)) h36) fun x45 h43 =>
      if x45 = (104 : Int32) then
        some ((3 : Int32), h43)
      else
        f_M_lineNow_111  h43
    else
      f_M_lineNow_111  h36
set_option maxRecDepth 20000 in
theorem t_M_lineNow_63  (b0 : Nat) (h : mH) (r : Int32) (h' : mH) (hf : f_M_lineNow_63  b0 h = some (r, h')) : G y_M_lineNow prog_10_method_12_code 1 (some .int) 2 45 63 [(0, .ref b0)] [] h (some (.int r)) h' := by
  unfold f_M_lineNow_63 at hf
  refine g_aload_n (pc := 63) 0 d_M_lineNow_63 rfl rfl ?_
  refine g_iconst (pc := 64) (5 : Int32) d_M_lineNow_64 (by decide) ?_
  refine g_bipush (pc := 65) (119 : Int32) d_M_lineNow_65 (by decide) ?_
  refine g_bipush (pc := 67) (97 : Int32) d_M_lineNow_67 (by decide) ?_
  refine g_bipush (pc := 69) (116 : Int32) d_M_lineNow_69 (by decide) ?_
  obtain ⟨u28, e27, hf⟩ := bd1_e hf
  obtain ⟨x31, h29, e30, hf⟩ := bd2_e hf
  refine g_callV (pc := 71) (ci := 8) [.int (5 : Int32), .int (119 : Int32), .int (97 : Int32), .int (116 : Int32)] (site_of si_M_is (by decide) (by decide)) wd_1096 wd_1098 wp_37 d_M_lineNow_71 rfl e27 (Nat.le_of_ble_eq_true rfl) (fun z => absurd z (by decide)) (fun z => absurd z (by decide)) (fun z => absurd z (by decide)) (c_M_is e30) rfl ?_
  refine g_st [.int x31] rfl ?_
  refine g_ifeq (pc := 74) 111 d_M_lineNow_74 (by decide) (fun c48 => ?_) (fun c48 => ?_)
  · replace hf := (if_pos c48).symm.trans hf
    refine g_lv [] rfl ?_
    exact t_M_lineNow_111  _ _ _  hf
  · replace hf := (if_neg c48).symm.trans hf
    refine g_aload_n (pc := 77) 0 d_M_lineNow_77 rfl rfl ?_
    refine g_aload_n (pc := 78) 0 d_M_lineNow_78 rfl rfl ?_
    obtain ⟨x32, e33, hf⟩ := bd1_e hf
    refine g_get (pc := 79) (ci := 8) (kk := 22) d_M_lineNow_79 rfl in_M (by decide) wd_960 (gI_spec e33) ?_
    refine g_iconst (pc := 82) (3 : Int32) d_M_lineNow_82 (by decide) ?_
    refine g_iadd (pc := 83) d_M_lineNow_83 ?_
    obtain ⟨u35, e34, hf⟩ := bd1_e hf
    obtain ⟨x38, h36, e37, hf⟩ := bd2_e hf
    refine g_callV (pc := 84) (ci := 8) [.int (x32 + (3 : Int32))] (site_of si_M_look (by decide) (by decide)) wd_1076 wd_1078 wp_33 d_M_lineNow_84 rfl e34 (Nat.le_of_ble_eq_true rfl) (fun z => absurd z (by decide)) (fun z => absurd z (by decide)) (fun z => absurd z (by decide)) (c_M_look e37) rfl ?_
    refine g_st [.int x38] rfl ?_
    refine g_bipush (pc := 87) (99 : Int32) d_M_lineNow_87 (by decide) ?_
    refine g_icmpne (pc := 89) 111 d_M_lineNow_89 (by decide) (fun c47 => ?_) (fun c47 => ?_)
    · replace hf := (if_neg c47).symm.trans hf
      refine g_lv [] rfl ?_
      exact t_M_lineNow_111  _ _ _  hf
    · replace hf := (if_pos c47).symm.trans hf
      refine g_aload_n (pc := 92) 0 d_M_lineNow_92 rfl rfl ?_
      refine g_aload_n (pc := 93) 0 d_M_lineNow_93 rfl rfl ?_
      obtain ⟨x39, e40, hf⟩ := bd1_e hf
      refine g_get (pc := 94) (ci := 8) (kk := 22) d_M_lineNow_94 rfl in_M (by decide) wd_960 (gI_spec e40) ?_
      refine g_iconst (pc := 97) (4 : Int32) d_M_lineNow_97 (by decide) ?_
      refine g_iadd (pc := 98) d_M_lineNow_98 ?_
      obtain ⟨u42, e41, hf⟩ := bd1_e hf
      obtain ⟨x45, h43, e44, hf⟩ := bd2_e hf
      refine g_callV (pc := 99) (ci := 8) [.int (x39 + (4 : Int32))] (site_of si_M_look (by decide) (by decide)) wd_1076 wd_1078 wp_33 d_M_lineNow_99 rfl e41 (Nat.le_of_ble_eq_true rfl) (fun z => absurd z (by decide)) (fun z => absurd z (by decide)) (fun z => absurd z (by decide)) (c_M_look e44) rfl ?_
      refine g_st [.int x45] rfl ?_
      refine g_bipush (pc := 102) (104 : Int32) d_M_lineNow_102 (by decide) ?_
      refine g_icmpne (pc := 104) 111 d_M_lineNow_104 (by decide) (fun c46 => ?_) (fun c46 => ?_)
      · replace hf := (if_neg c46).symm.trans hf
        refine g_lv [] rfl ?_
        exact t_M_lineNow_111  _ _ _  hf
      · replace hf := (if_pos c46).symm.trans hf
        refine g_iconst (pc := 107) (3 : Int32) d_M_lineNow_107 (by decide) ?_
        refine g_goto (pc := 108) 113 d_M_lineNow_108 (by decide) ?_
        obtain ⟨rfl, rfl⟩ := ret2 hf
        exact g_iret (pc := 113) rfl d_M_lineNow_113
def f_M_lineNow_0  (a0 : Nat) (h : mH) : Option (Int32 × mH) :=
  bd1 (kC h a0 8) fun _ =>
  bd2 (f_M_is a0 (3 : Int32) (108 : Int32) (97 : Int32) (119 : Int32) h) fun x5 h3 =>
  if x5 = 0 then
    bd1 (kC h3 a0 8) fun _ =>
    bd2 (f_M_is a0 (3 : Int32) (111 : Int32) (110 : Int32) (101 : Int32) h3) fun x10 h8 =>
    if x10 = 0 then
      bd1 (kC h8 a0 8) fun _ =>
      bd2 (f_M_is a0 (4 : Int32) (119 : Int32) (97 : Int32) (110 : Int32) h8) fun x15 h13 =>
      if x15 = 0 then
        f_M_lineNow_63  a0 h13
      else
        bd1 (gI h13 a0 8 22) fun x16 =>
        bd1 (kC h13 a0 8) fun _ =>
        bd2 (f_M_look a0 (x16 + (3 : Int32)) h13) fun x22 h20 =>
        if x22 = (116 : Int32) then
          some ((2 : Int32), h20)
        else
          f_M_lineNow_63  a0 h20
    else
      some ((1 : Int32), h8)
  else
    some ((0 : Int32), h3)
set_option maxRecDepth 20000 in
theorem t_M_lineNow_0  (a0 : Nat) (h : mH) (r : Int32) (h' : mH) (hf : f_M_lineNow_0  a0 h = some (r, h')) : G y_M_lineNow prog_10_method_12_code 1 (some .int) 2 45 0 [(0, .ref a0)] [] h (some (.int r)) h' := by
  unfold f_M_lineNow_0 at hf
  refine g_aload_n (pc := 0) 0 d_M_lineNow_0 rfl rfl ?_
  refine g_iconst (pc := 1) (3 : Int32) d_M_lineNow_1 (by decide) ?_
  refine g_bipush (pc := 2) (108 : Int32) d_M_lineNow_2 (by decide) ?_
  refine g_bipush (pc := 4) (97 : Int32) d_M_lineNow_4 (by decide) ?_
  refine g_bipush (pc := 6) (119 : Int32) d_M_lineNow_6 (by decide) ?_
  obtain ⟨u2, e1, hf⟩ := bd1_e hf
  obtain ⟨x5, h3, e4, hf⟩ := bd2_e hf
  refine g_callV (pc := 8) (ci := 8) [.int (3 : Int32), .int (108 : Int32), .int (97 : Int32), .int (119 : Int32)] (site_of si_M_is (by decide) (by decide)) wd_1096 wd_1098 wp_37 d_M_lineNow_8 rfl e1 (Nat.le_of_ble_eq_true rfl) (fun z => absurd z (by decide)) (fun z => absurd z (by decide)) (fun z => absurd z (by decide)) (c_M_is e4) rfl ?_
  refine g_st [.int x5] rfl ?_
  refine g_ifeq (pc := 11) 16 d_M_lineNow_11 (by decide) (fun c26 => ?_) (fun c26 => ?_)
  · replace hf := (if_pos c26).symm.trans hf
    refine g_aload_n (pc := 16) 0 d_M_lineNow_16 rfl rfl ?_
    refine g_iconst (pc := 17) (3 : Int32) d_M_lineNow_17 (by decide) ?_
    refine g_bipush (pc := 18) (111 : Int32) d_M_lineNow_18 (by decide) ?_
    refine g_bipush (pc := 20) (110 : Int32) d_M_lineNow_20 (by decide) ?_
    refine g_bipush (pc := 22) (101 : Int32) d_M_lineNow_22 (by decide) ?_
    obtain ⟨u7, e6, hf⟩ := bd1_e hf
    obtain ⟨x10, h8, e9, hf⟩ := bd2_e hf
    refine g_callV (pc := 24) (ci := 8) [.int (3 : Int32), .int (111 : Int32), .int (110 : Int32), .int (101 : Int32)] (site_of si_M_is (by decide) (by decide)) wd_1096 wd_1098 wp_37 d_M_lineNow_24 rfl e6 (Nat.le_of_ble_eq_true rfl) (fun z => absurd z (by decide)) (fun z => absurd z (by decide)) (fun z => absurd z (by decide)) (c_M_is e9) rfl ?_
    refine g_st [.int x10] rfl ?_
    refine g_ifeq (pc := 27) 32 d_M_lineNow_27 (by decide) (fun c25 => ?_) (fun c25 => ?_)
    · replace hf := (if_pos c25).symm.trans hf
      refine g_aload_n (pc := 32) 0 d_M_lineNow_32 rfl rfl ?_
      refine g_iconst (pc := 33) (4 : Int32) d_M_lineNow_33 (by decide) ?_
      refine g_bipush (pc := 34) (119 : Int32) d_M_lineNow_34 (by decide) ?_
      refine g_bipush (pc := 36) (97 : Int32) d_M_lineNow_36 (by decide) ?_
      refine g_bipush (pc := 38) (110 : Int32) d_M_lineNow_38 (by decide) ?_
      obtain ⟨u12, e11, hf⟩ := bd1_e hf
      obtain ⟨x15, h13, e14, hf⟩ := bd2_e hf
      refine g_callV (pc := 40) (ci := 8) [.int (4 : Int32), .int (119 : Int32), .int (97 : Int32), .int (110 : Int32)] (site_of si_M_is (by decide) (by decide)) wd_1096 wd_1098 wp_37 d_M_lineNow_40 rfl e11 (Nat.le_of_ble_eq_true rfl) (fun z => absurd z (by decide)) (fun z => absurd z (by decide)) (fun z => absurd z (by decide)) (c_M_is e14) rfl ?_
      refine g_st [.int x15] rfl ?_
      refine g_ifeq (pc := 43) 63 d_M_lineNow_43 (by decide) (fun c24 => ?_) (fun c24 => ?_)
      · replace hf := (if_pos c24).symm.trans hf
        refine g_lv [0] rfl ?_
        exact t_M_lineNow_63  _ _ _ _  hf
      · replace hf := (if_neg c24).symm.trans hf
        refine g_aload_n (pc := 46) 0 d_M_lineNow_46 rfl rfl ?_
        refine g_aload_n (pc := 47) 0 d_M_lineNow_47 rfl rfl ?_
        obtain ⟨x16, e17, hf⟩ := bd1_e hf
        refine g_get (pc := 48) (ci := 8) (kk := 22) d_M_lineNow_48 rfl in_M (by decide) wd_960 (gI_spec e17) ?_
        refine g_iconst (pc := 51) (3 : Int32) d_M_lineNow_51 (by decide) ?_
        refine g_iadd (pc := 52) d_M_lineNow_52 ?_
        obtain ⟨u19, e18, hf⟩ := bd1_e hf
        obtain ⟨x22, h20, e21, hf⟩ := bd2_e hf
        refine g_callV (pc := 53) (ci := 8) [.int (x16 + (3 : Int32))] (site_of si_M_look (by decide) (by decide)) wd_1076 wd_1078 wp_33 d_M_lineNow_53 rfl e18 (Nat.le_of_ble_eq_true rfl) (fun z => absurd z (by decide)) (fun z => absurd z (by decide)) (fun z => absurd z (by decide)) (c_M_look e21) rfl ?_
        refine g_st [.int x22] rfl ?_
        refine g_bipush (pc := 56) (116 : Int32) d_M_lineNow_56 (by decide) ?_
        refine g_icmpne (pc := 58) 63 d_M_lineNow_58 (by decide) (fun c23 => ?_) (fun c23 => ?_)
        · replace hf := (if_neg c23).symm.trans hf
          refine g_lv [0] rfl ?_
          exact t_M_lineNow_63  _ _ _ _  hf
        · replace hf := (if_pos c23).symm.trans hf
          refine g_iconst (pc := 61) (2 : Int32) d_M_lineNow_61 (by decide) ?_
          obtain ⟨rfl, rfl⟩ := ret2 hf
          exact g_iret (pc := 62) rfl d_M_lineNow_62
    · replace hf := (if_neg c25).symm.trans hf
      refine g_iconst (pc := 30) (1 : Int32) d_M_lineNow_30 (by decide) ?_
      obtain ⟨rfl, rfl⟩ := ret2 hf
      exact g_iret (pc := 31) rfl d_M_lineNow_31
  · replace hf := (if_neg c26).symm.trans hf
    refine g_iconst (pc := 14) (0 : Int32) d_M_lineNow_14 (by decide) ?_
    obtain ⟨rfl, rfl⟩ := ret2 hf
    exact g_iret (pc := 15) rfl d_M_lineNow_15
def f_M_lineNow (a0 : Nat) (h : mH) : Option (Int32 × mH) := f_M_lineNow_0 a0 h
theorem c_M_lineNow {a0 : Nat} {h : mH} {r : Int32} {h' : mH} (hf : f_M_lineNow a0 h = some (r, h')) : MM y_M_lineNow prog_10_method_12_code 1 (some .int) 2 45 [.ref a0] h (some (.int r)) h' :=
  mm_of_G (by decide) (Nat.le_of_ble_eq_true rfl) (t_M_lineNow_0 _ _ _ _ hf)
/-! M looked (II)I -/
theorem d_M_looked_0 : decode prog_10_method_14_code 0 = .ok (.aload_n 0, 1) := by decide +kernel
theorem d_M_looked_1 : decode prog_10_method_14_code 1 = .ok (.getfield 121, 3) := by decide +kernel
theorem d_M_looked_4 : decode prog_10_method_14_code 4 = .ok (.ifCond .ne 21, 3) := by decide +kernel
theorem d_M_looked_7 : decode prog_10_method_14_code 7 = .ok (.aload_n 0, 1) := by decide +kernel
theorem d_M_looked_8 : decode prog_10_method_14_code 8 = .ok (.aload_n 0, 1) := by decide +kernel
theorem d_M_looked_9 : decode prog_10_method_14_code 9 = .ok (.getfield 141, 3) := by decide +kernel
theorem d_M_looked_12 : decode prog_10_method_14_code 12 = .ok (.iconst 2, 1) := by decide +kernel
theorem d_M_looked_13 : decode prog_10_method_14_code 13 = .ok (.if_icmp .ne 7, 3) := by decide +kernel
theorem d_M_looked_16 : decode prog_10_method_14_code 16 = .ok (.iconst 1, 1) := by decide +kernel
theorem d_M_looked_17 : decode prog_10_method_14_code 17 = .ok (.goto 4, 3) := by decide +kernel
theorem d_M_looked_20 : decode prog_10_method_14_code 20 = .ok (.iconst 0, 1) := by decide +kernel
theorem d_M_looked_21 : decode prog_10_method_14_code 21 = .ok (.iconst 2, 1) := by decide +kernel
theorem d_M_looked_22 : decode prog_10_method_14_code 22 = .ok (.invokevirtual 155, 3) := by decide +kernel
theorem d_M_looked_25 : decode prog_10_method_14_code 25 = .ok (.aload_n 0, 1) := by decide +kernel
theorem d_M_looked_26 : decode prog_10_method_14_code 26 = .ok (.getfield 121, 3) := by decide +kernel
theorem d_M_looked_29 : decode prog_10_method_14_code 29 = .ok (.ifCond .ne 20, 3) := by decide +kernel
theorem d_M_looked_32 : decode prog_10_method_14_code 32 = .ok (.aload_n 0, 1) := by decide +kernel
theorem d_M_looked_33 : decode prog_10_method_14_code 33 = .ok (.aload_n 0, 1) := by decide +kernel
theorem d_M_looked_34 : decode prog_10_method_14_code 34 = .ok (.getfield 152, 3) := by decide +kernel
theorem d_M_looked_37 : decode prog_10_method_14_code 37 = .ok (.i2l, 1) := by decide +kernel
theorem d_M_looked_38 : decode prog_10_method_14_code 38 = .ok (.iload_n 1, 1) := by decide +kernel
theorem d_M_looked_39 : decode prog_10_method_14_code 39 = .ok (.i2l, 1) := by decide +kernel
theorem d_M_looked_40 : decode prog_10_method_14_code 40 = .ok (.iload_n 2, 1) := by decide +kernel
theorem d_M_looked_41 : decode prog_10_method_14_code 41 = .ok (.i2l, 1) := by decide +kernel
theorem d_M_looked_42 : decode prog_10_method_14_code 42 = .ok (.invokestatic 114, 3) := by decide +kernel
theorem d_M_looked_45 : decode prog_10_method_14_code 45 = .ok (.iconst 3, 1) := by decide +kernel
theorem d_M_looked_46 : decode prog_10_method_14_code 46 = .ok (.invokevirtual 155, 3) := by decide +kernel
theorem d_M_looked_49 : decode prog_10_method_14_code 49 = .ok (.aload_n 0, 1) := by decide +kernel
theorem d_M_looked_50 : decode prog_10_method_14_code 50 = .ok (.getfield 121, 3) := by decide +kernel
theorem d_M_looked_53 : decode prog_10_method_14_code 53 = .ok (.ifCond .ne 10, 3) := by decide +kernel
theorem d_M_looked_56 : decode prog_10_method_14_code 56 = .ok (.aload_n 0, 1) := by decide +kernel
theorem d_M_looked_57 : decode prog_10_method_14_code 57 = .ok (.getfield 152, 3) := by decide +kernel
theorem d_M_looked_60 : decode prog_10_method_14_code 60 = .ok (.goto 4, 3) := by decide +kernel
theorem d_M_looked_63 : decode prog_10_method_14_code 63 = .ok (.iconst 0, 1) := by decide +kernel
theorem d_M_looked_64 : decode prog_10_method_14_code 64 = .ok (.ireturn, 1) := by decide +kernel
def f_M_looked_49  (b0 : Nat) (h : mH) : Option (Int32 × mH) :=
  bd1 (gI h b0 8 25) fun x23 =>
  if x23 = 0 then
    bd1 (gI h b0 8 24) fun x25 =>
    some (x25, h)
  else
    some ((0 : Int32), h)
set_option maxRecDepth 20000 in
theorem t_M_looked_49  (b0 : Nat) (h : mH) (r : Int32) (h' : mH) (hf : f_M_looked_49  b0 h = some (r, h')) : G y_M_looked prog_10_method_14_code 3 (some .int) 1 25 49 [(0, .ref b0)] [] h (some (.int r)) h' := by
  unfold f_M_looked_49 at hf
  refine g_aload_n (pc := 49) 0 d_M_looked_49 rfl rfl ?_
  obtain ⟨x23, e24, hf⟩ := bd1_e hf
  refine g_get (pc := 50) (ci := 8) (kk := 25) d_M_looked_50 rfl in_M (by decide) wd_963 (gI_spec e24) ?_
  refine g_ifne (pc := 53) 63 d_M_looked_53 (by decide) (fun c27 => ?_) (fun c27 => ?_)
  · replace hf := (if_neg c27).symm.trans hf
    refine g_iconst (pc := 63) (0 : Int32) d_M_looked_63 (by decide) ?_
    obtain ⟨rfl, rfl⟩ := ret2 hf
    exact g_iret (pc := 64) rfl d_M_looked_64
  · replace hf := (if_pos c27).symm.trans hf
    refine g_aload_n (pc := 56) 0 d_M_looked_56 rfl rfl ?_
    obtain ⟨x25, e26, hf⟩ := bd1_e hf
    refine g_get (pc := 57) (ci := 8) (kk := 24) d_M_looked_57 rfl in_M (by decide) wd_962 (gI_spec e26) ?_
    refine g_goto (pc := 60) 64 d_M_looked_60 (by decide) ?_
    obtain ⟨rfl, rfl⟩ := ret2 hf
    exact g_iret (pc := 64) rfl d_M_looked_64
def f_M_looked_25  (b0 : Nat) (b1 : Int32) (b2 : Int32) (h : mH) : Option (Int32 × mH) :=
  bd1 (gI h b0 8 25) fun x11 =>
  if x11 = 0 then
    bd1 (gI h b0 8 24) fun x13 =>
    bd2 (f_M_in x13.toInt64 b1.toInt64 b2.toInt64 h) fun x17 h15 =>
    bd1 (kC h15 b0 8) fun _ =>
    bd1 (f_M_needs b0 x17 (3 : Int32) h15) fun h20 =>
    f_M_looked_49  b0 h20
  else
    f_M_looked_49  b0 h
set_option maxRecDepth 20000 in
theorem t_M_looked_25  (b0 : Nat) (b1 : Int32) (b2 : Int32) (h : mH) (r : Int32) (h' : mH) (hf : f_M_looked_25  b0 b1 b2 h = some (r, h')) : G y_M_looked prog_10_method_14_code 3 (some .int) 1 25 25 [(0, .ref b0), (1, .int b1), (2, .int b2)] [] h (some (.int r)) h' := by
  unfold f_M_looked_25 at hf
  refine g_aload_n (pc := 25) 0 d_M_looked_25 rfl rfl ?_
  obtain ⟨x11, e12, hf⟩ := bd1_e hf
  refine g_get (pc := 26) (ci := 8) (kk := 25) d_M_looked_26 rfl in_M (by decide) wd_963 (gI_spec e12) ?_
  refine g_ifne (pc := 29) 49 d_M_looked_29 (by decide) (fun c22 => ?_) (fun c22 => ?_)
  · replace hf := (if_neg c22).symm.trans hf
    refine g_lv [0] rfl ?_
    exact t_M_looked_49  _ _ _ _  hf
  · replace hf := (if_pos c22).symm.trans hf
    refine g_aload_n (pc := 32) 0 d_M_looked_32 rfl rfl ?_
    refine g_aload_n (pc := 33) 0 d_M_looked_33 rfl rfl ?_
    obtain ⟨x13, e14, hf⟩ := bd1_e hf
    refine g_get (pc := 34) (ci := 8) (kk := 24) d_M_looked_34 rfl in_M (by decide) wd_962 (gI_spec e14) ?_
    refine g_i2l (pc := 37) d_M_looked_37 ?_
    refine g_iload_n (pc := 38) 1 d_M_looked_38 rfl rfl ?_
    refine g_i2l (pc := 39) d_M_looked_39 ?_
    refine g_iload_n (pc := 40) 2 d_M_looked_40 rfl rfl ?_
    refine g_i2l (pc := 41) d_M_looked_41 ?_
    obtain ⟨x17, h15, e16, hf⟩ := bd2_e hf
    refine g_callS (pc := 42) [.long x13.toInt64, .long b1.toInt64, .long b2.toInt64] (site_of si_M_in (by decide) (by decide)) wd_1061 wd_1062 d_M_looked_42 (Nat.le_of_ble_eq_true rfl) (fun z => absurd z (by decide)) (fun z => absurd z (by decide)) (fun z => absurd z (by decide)) (c_M_in e16) rfl ?_
    refine g_st [.int x17, .ref b0] rfl ?_
    refine g_iconst (pc := 45) (3 : Int32) d_M_looked_45 (by decide) ?_
    obtain ⟨u19, e18, hf⟩ := bd1_e hf
    obtain ⟨h20, e21, hf⟩ := bd1_e hf
    refine g_callV (pc := 46) (ci := 8) [.int x17, .int (3 : Int32)] (site_of si_M_needs (by decide) (by decide)) wd_1084 wd_1086 wp_34 d_M_looked_46 rfl e18 (Nat.le_of_ble_eq_true rfl) (fun z => absurd z (by decide)) (fun z => absurd z (by decide)) (fun z => absurd z (by decide)) (c_M_needs e21) rfl ?_
    refine g_st [] rfl ?_
    refine g_lv [0] rfl ?_
    exact t_M_looked_49  _ _ _ _  hf
def f_M_looked_21  (b0 : Nat) (b1 : Int32) (b2 : Int32) (s0 : Nat) (s1 : Int32) (h : mH) : Option (Int32 × mH) :=
  bd1 (kC h s0 8) fun _ =>
  bd1 (f_M_needs s0 s1 (2 : Int32) h) fun h9 =>
  f_M_looked_25  b0 b1 b2 h9
set_option maxRecDepth 20000 in
theorem t_M_looked_21  (b0 : Nat) (b1 : Int32) (b2 : Int32) (s0 : Nat) (s1 : Int32) (h : mH) (r : Int32) (h' : mH) (hf : f_M_looked_21  b0 b1 b2 s0 s1 h = some (r, h')) : G y_M_looked prog_10_method_14_code 3 (some .int) 1 25 21 [(0, .ref b0), (1, .int b1), (2, .int b2)] [.int s1, .ref s0] h (some (.int r)) h' := by
  unfold f_M_looked_21 at hf
  refine g_iconst (pc := 21) (2 : Int32) d_M_looked_21 (by decide) ?_
  obtain ⟨u8, e7, hf⟩ := bd1_e hf
  obtain ⟨h9, e10, hf⟩ := bd1_e hf
  refine g_callV (pc := 22) (ci := 8) [.int s1, .int (2 : Int32)] (site_of si_M_needs (by decide) (by decide)) wd_1084 wd_1086 wp_34 d_M_looked_22 rfl e7 (Nat.le_of_ble_eq_true rfl) (fun z => absurd z (by decide)) (fun z => absurd z (by decide)) (fun z => absurd z (by decide)) (c_M_needs e10) rfl ?_
  refine g_st [] rfl ?_
  refine g_lv [0, 1, 2] rfl ?_
  exact t_M_looked_25  _ _ _ _ _ _  hf
def f_M_looked_0  (a0 : Nat) (a1 : Int32) (a2 : Int32) (h : mH) : Option (Int32 × mH) :=
  bd1 (gI h a0 8 25) fun x1 =>
  if x1 = 0 then
    bd1 (gI h a0 8 23) fun x3 =>
    if x3 = (2 : Int32) then
      f_M_looked_21  a0 a1 a2 a0 (1 : Int32) h
    else
      f_M_looked_21  a0 a1 a2 a0 (0 : Int32) h
  else
    f_M_looked_25  a0 a1 a2 h
set_option maxRecDepth 20000 in
theorem t_M_looked_0  (a0 : Nat) (a1 : Int32) (a2 : Int32) (h : mH) (r : Int32) (h' : mH) (hf : f_M_looked_0  a0 a1 a2 h = some (r, h')) : G y_M_looked prog_10_method_14_code 3 (some .int) 1 25 0 [(0, .ref a0), (1, .int a1), (2, .int a2)] [] h (some (.int r)) h' := by
  unfold f_M_looked_0 at hf
  refine g_aload_n (pc := 0) 0 d_M_looked_0 rfl rfl ?_
  obtain ⟨x1, e2, hf⟩ := bd1_e hf
  refine g_get (pc := 1) (ci := 8) (kk := 25) d_M_looked_1 rfl in_M (by decide) wd_963 (gI_spec e2) ?_
  refine g_ifne (pc := 4) 25 d_M_looked_4 (by decide) (fun c6 => ?_) (fun c6 => ?_)
  · replace hf := (if_neg c6).symm.trans hf
    refine g_lv [0, 1, 2] rfl ?_
    exact t_M_looked_25  _ _ _ _ _ _  hf
  · replace hf := (if_pos c6).symm.trans hf
    refine g_aload_n (pc := 7) 0 d_M_looked_7 rfl rfl ?_
    refine g_aload_n (pc := 8) 0 d_M_looked_8 rfl rfl ?_
    obtain ⟨x3, e4, hf⟩ := bd1_e hf
    refine g_get (pc := 9) (ci := 8) (kk := 23) d_M_looked_9 rfl in_M (by decide) wd_961 (gI_spec e4) ?_
    refine g_iconst (pc := 12) (2 : Int32) d_M_looked_12 (by decide) ?_
    refine g_icmpne (pc := 13) 20 d_M_looked_13 (by decide) (fun c5 => ?_) (fun c5 => ?_)
    · replace hf := (if_neg c5).symm.trans hf
      refine g_iconst (pc := 20) (0 : Int32) d_M_looked_20 (by decide) ?_
      refine g_lv [0, 1, 2] rfl ?_
      exact t_M_looked_21  _ _ _ _ _ _ _ _  hf
    · replace hf := (if_pos c5).symm.trans hf
      refine g_iconst (pc := 16) (1 : Int32) d_M_looked_16 (by decide) ?_
      refine g_goto (pc := 17) 21 d_M_looked_17 (by decide) ?_
      refine g_lv [0, 1, 2] rfl ?_
      exact t_M_looked_21  _ _ _ _ _ _ _ _  hf
def f_M_looked (a0 : Nat) (a1 : Int32) (a2 : Int32) (h : mH) : Option (Int32 × mH) := f_M_looked_0 a0 a1 a2 h
theorem c_M_looked {a0 : Nat} {a1 : Int32} {a2 : Int32} {h : mH} {r : Int32} {h' : mH} (hf : f_M_looked a0 a1 a2 h = some (r, h')) : MM y_M_looked prog_10_method_14_code 3 (some .int) 1 25 [.ref a0, .int a1, .int a2] h (some (.int r)) h' :=
  mm_of_G (by decide) (Nat.le_of_ble_eq_true rfl) (t_M_looked_0 _ _ _ _ _ _ hf)
/-! M readNumber (II)I -/
theorem d_M_readNumber_0 : decode prog_10_method_15_code 0 = .ok (.aload_n 0, 1) := by decide +kernel
theorem d_M_readNumber_1 : decode prog_10_method_15_code 1 = .ok (.iload_n 1, 1) := by decide +kernel
theorem d_M_readNumber_2 : decode prog_10_method_15_code 2 = .ok (.iload_n 2, 1) := by decide +kernel
theorem d_M_readNumber_3 : decode prog_10_method_15_code 3 = .ok (.invokevirtual 158, 3) := by decide +kernel
theorem d_M_readNumber_6 : decode prog_10_method_15_code 6 = .ok (.istore_n 3, 1) := by decide +kernel
theorem d_M_readNumber_7 : decode prog_10_method_15_code 7 = .ok (.aload_n 0, 1) := by decide +kernel
theorem d_M_readNumber_8 : decode prog_10_method_15_code 8 = .ok (.invokevirtual 162, 3) := by decide +kernel
theorem d_M_readNumber_11 : decode prog_10_method_15_code 11 = .ok (.iload_n 3, 1) := by decide +kernel
theorem d_M_readNumber_12 : decode prog_10_method_15_code 12 = .ok (.ireturn, 1) := by decide +kernel
def f_M_readNumber_0  (a0 : Nat) (a1 : Int32) (a2 : Int32) (h : mH) : Option (Int32 × mH) :=
  bd1 (kC h a0 8) fun _ =>
  bd2 (f_M_looked a0 a1 a2 h) fun x5 h3 =>
  bd1 (kC h3 a0 8) fun _ =>
  bd1 (f_M_next a0 h3) fun h8 =>
  some (x5, h8)
set_option maxRecDepth 20000 in
theorem t_M_readNumber_0  (a0 : Nat) (a1 : Int32) (a2 : Int32) (h : mH) (r : Int32) (h' : mH) (hf : f_M_readNumber_0  a0 a1 a2 h = some (r, h')) : G y_M_readNumber prog_10_method_15_code 4 (some .int) 2 47 0 [(0, .ref a0), (1, .int a1), (2, .int a2)] [] h (some (.int r)) h' := by
  unfold f_M_readNumber_0 at hf
  refine g_aload_n (pc := 0) 0 d_M_readNumber_0 rfl rfl ?_
  refine g_iload_n (pc := 1) 1 d_M_readNumber_1 rfl rfl ?_
  refine g_iload_n (pc := 2) 2 d_M_readNumber_2 rfl rfl ?_
  obtain ⟨u2, e1, hf⟩ := bd1_e hf
  obtain ⟨x5, h3, e4, hf⟩ := bd2_e hf
  refine g_callV (pc := 3) (ci := 8) [.int a1, .int a2] (site_of si_M_looked (by decide) (by decide)) wd_1112 wd_1114 wp_41 d_M_readNumber_3 rfl e1 (Nat.le_of_ble_eq_true rfl) (fun z => absurd z (by decide)) (fun z => absurd z (by decide)) (fun z => absurd z (by decide)) (c_M_looked e4) rfl ?_
  refine g_st [.int x5] rfl ?_
  refine g_istore_n (pc := 6) [(3, .int x5), (0, .ref a0), (1, .int a1), (2, .int a2)] d_M_readNumber_6 rfl (Nat.le_of_ble_eq_true rfl) rfl ?_
  refine g_aload_n (pc := 7) 1 d_M_readNumber_7 rfl rfl ?_
  obtain ⟨u7, e6, hf⟩ := bd1_e hf
  obtain ⟨h8, e9, hf⟩ := bd1_e hf
  refine g_callV (pc := 8) (ci := 8) [] (site_of si_M_next (by decide) (by decide)) wd_1072 wd_1074 wp_32 d_M_readNumber_8 rfl e6 (Nat.le_of_ble_eq_true rfl) (fun z => absurd z (by decide)) (fun z => absurd z (by decide)) (fun z => absurd z (by decide)) (c_M_next e9) rfl ?_
  refine g_st [] rfl ?_
  refine g_iload_n (pc := 11) 0 d_M_readNumber_11 rfl rfl ?_
  obtain ⟨rfl, rfl⟩ := ret2 hf
  exact g_iret (pc := 12) rfl d_M_readNumber_12
def f_M_readNumber (a0 : Nat) (a1 : Int32) (a2 : Int32) (h : mH) : Option (Int32 × mH) := f_M_readNumber_0 a0 a1 a2 h
theorem c_M_readNumber {a0 : Nat} {a1 : Int32} {a2 : Int32} {h : mH} {r : Int32} {h' : mH} (hf : f_M_readNumber a0 a1 a2 h = some (r, h')) : MM y_M_readNumber prog_10_method_15_code 4 (some .int) 2 47 [.ref a0, .int a1, .int a2] h (some (.int r)) h' :=
  mm_of_G (by decide) (Nat.le_of_ble_eq_true rfl) (t_M_readNumber_0 _ _ _ _ _ _ hf)
/-! M readLawOf (I)I -/
theorem d_M_readLawOf_0 : decode prog_10_method_16_code 0 = .ok (.aload_n 0, 1) := by decide +kernel
theorem d_M_readLawOf_1 : decode prog_10_method_16_code 1 = .ok (.iconst 0, 1) := by decide +kernel
theorem d_M_readLawOf_2 : decode prog_10_method_16_code 2 = .ok (.iconst 4, 1) := by decide +kernel
theorem d_M_readLawOf_3 : decode prog_10_method_16_code 3 = .ok (.invokevirtual 158, 3) := by decide +kernel
theorem d_M_readLawOf_6 : decode prog_10_method_16_code 6 = .ok (.istore_n 2, 1) := by decide +kernel
theorem d_M_readLawOf_7 : decode prog_10_method_16_code 7 = .ok (.aload_n 0, 1) := by decide +kernel
theorem d_M_readLawOf_8 : decode prog_10_method_16_code 8 = .ok (.getfield 121, 3) := by decide +kernel
theorem d_M_readLawOf_11 : decode prog_10_method_16_code 11 = .ok (.ifCond .ne 21, 3) := by decide +kernel
theorem d_M_readLawOf_14 : decode prog_10_method_16_code 14 = .ok (.aload_n 0, 1) := by decide +kernel
theorem d_M_readLawOf_15 : decode prog_10_method_16_code 15 = .ok (.iload_n 1, 1) := by decide +kernel
theorem d_M_readLawOf_16 : decode prog_10_method_16_code 16 = .ok (.iload_n 2, 1) := by decide +kernel
theorem d_M_readLawOf_17 : decode prog_10_method_16_code 17 = .ok (.ishr, 1) := by decide +kernel
theorem d_M_readLawOf_18 : decode prog_10_method_16_code 18 = .ok (.iconst 1, 1) := by decide +kernel
theorem d_M_readLawOf_19 : decode prog_10_method_16_code 19 = .ok (.iand, 1) := by decide +kernel
theorem d_M_readLawOf_20 : decode prog_10_method_16_code 20 = .ok (.ifCond .ne 7, 3) := by decide +kernel
theorem d_M_readLawOf_23 : decode prog_10_method_16_code 23 = .ok (.iconst 1, 1) := by decide +kernel
theorem d_M_readLawOf_24 : decode prog_10_method_16_code 24 = .ok (.goto 4, 3) := by decide +kernel
theorem d_M_readLawOf_27 : decode prog_10_method_16_code 27 = .ok (.iconst 0, 1) := by decide +kernel
theorem d_M_readLawOf_28 : decode prog_10_method_16_code 28 = .ok (.iconst 4, 1) := by decide +kernel
theorem d_M_readLawOf_29 : decode prog_10_method_16_code 29 = .ok (.invokevirtual 155, 3) := by decide +kernel
theorem d_M_readLawOf_32 : decode prog_10_method_16_code 32 = .ok (.aload_n 0, 1) := by decide +kernel
theorem d_M_readLawOf_33 : decode prog_10_method_16_code 33 = .ok (.getfield 121, 3) := by decide +kernel
theorem d_M_readLawOf_36 : decode prog_10_method_16_code 36 = .ok (.ifCond .ne 23, 3) := by decide +kernel
theorem d_M_readLawOf_39 : decode prog_10_method_16_code 39 = .ok (.aload_n 0, 1) := by decide +kernel
theorem d_M_readLawOf_40 : decode prog_10_method_16_code 40 = .ok (.iload_n 2, 1) := by decide +kernel
theorem d_M_readLawOf_41 : decode prog_10_method_16_code 41 = .ok (.aload_n 0, 1) := by decide +kernel
theorem d_M_readLawOf_42 : decode prog_10_method_16_code 42 = .ok (.getfield 100, 3) := by decide +kernel
theorem d_M_readLawOf_45 : decode prog_10_method_16_code 45 = .ok (.if_icmp .le 7, 3) := by decide +kernel
theorem d_M_readLawOf_48 : decode prog_10_method_16_code 48 = .ok (.iload_n 2, 1) := by decide +kernel
theorem d_M_readLawOf_49 : decode prog_10_method_16_code 49 = .ok (.goto 7, 3) := by decide +kernel
theorem d_M_readLawOf_52 : decode prog_10_method_16_code 52 = .ok (.aload_n 0, 1) := by decide +kernel
theorem d_M_readLawOf_53 : decode prog_10_method_16_code 53 = .ok (.getfield 100, 3) := by decide +kernel
theorem d_M_readLawOf_56 : decode prog_10_method_16_code 56 = .ok (.putfield 100, 3) := by decide +kernel
theorem d_M_readLawOf_59 : decode prog_10_method_16_code 59 = .ok (.aload_n 0, 1) := by decide +kernel
theorem d_M_readLawOf_60 : decode prog_10_method_16_code 60 = .ok (.invokevirtual 162, 3) := by decide +kernel
theorem d_M_readLawOf_63 : decode prog_10_method_16_code 63 = .ok (.iload_n 1, 1) := by decide +kernel
theorem d_M_readLawOf_64 : decode prog_10_method_16_code 64 = .ok (.iconst 1, 1) := by decide +kernel
theorem d_M_readLawOf_65 : decode prog_10_method_16_code 65 = .ok (.iload_n 2, 1) := by decide +kernel
theorem d_M_readLawOf_66 : decode prog_10_method_16_code 66 = .ok (.ishl, 1) := by decide +kernel
theorem d_M_readLawOf_67 : decode prog_10_method_16_code 67 = .ok (.ior, 1) := by decide +kernel
theorem d_M_readLawOf_68 : decode prog_10_method_16_code 68 = .ok (.ireturn, 1) := by decide +kernel
def f_M_readLawOf_59  (b0 : Nat) (b1 : Int32) (b2 : Int32) (h : mH) : Option (Int32 × mH) :=
  bd1 (kC h b0 8) fun _ =>
  bd1 (f_M_next b0 h) fun h26 =>
  some (b1 ||| ((1 : Int32) <<< (b2 &&& 31)), h26)
set_option maxRecDepth 20000 in
theorem t_M_readLawOf_59  (b0 : Nat) (b1 : Int32) (b2 : Int32) (h : mH) (r : Int32) (h' : mH) (hf : f_M_readLawOf_59  b0 b1 b2 h = some (r, h')) : G y_M_readLawOf prog_10_method_16_code 3 (some .int) 2 47 59 [(0, .ref b0), (1, .int b1), (2, .int b2)] [] h (some (.int r)) h' := by
  unfold f_M_readLawOf_59 at hf
  refine g_aload_n (pc := 59) 0 d_M_readLawOf_59 rfl rfl ?_
  obtain ⟨u25, e24, hf⟩ := bd1_e hf
  obtain ⟨h26, e27, hf⟩ := bd1_e hf
  refine g_callV (pc := 60) (ci := 8) [] (site_of si_M_next (by decide) (by decide)) wd_1072 wd_1074 wp_32 d_M_readLawOf_60 rfl e24 (Nat.le_of_ble_eq_true rfl) (fun z => absurd z (by decide)) (fun z => absurd z (by decide)) (fun z => absurd z (by decide)) (c_M_next e27) rfl ?_
  refine g_st [] rfl ?_
  refine g_iload_n (pc := 63) 1 d_M_readLawOf_63 rfl rfl ?_
  refine g_iconst (pc := 64) (1 : Int32) d_M_readLawOf_64 (by decide) ?_
  refine g_iload_n (pc := 65) 2 d_M_readLawOf_65 rfl rfl ?_
  refine g_ishl (pc := 66) d_M_readLawOf_66 ?_
  refine g_ior (pc := 67) d_M_readLawOf_67 ?_
  obtain ⟨rfl, rfl⟩ := ret2 hf
  exact g_iret (pc := 68) rfl d_M_readLawOf_68
def f_M_readLawOf_56  (b0 : Nat) (b1 : Int32) (b2 : Int32) (s0 : Nat) (s1 : Int32) (h : mH) : Option (Int32 × mH) :=
  bd1 (pV h s0 8 17 (.int s1)) fun h22 =>
  f_M_readLawOf_59  b0 b1 b2 h22
set_option maxRecDepth 20000 in
theorem t_M_readLawOf_56  (b0 : Nat) (b1 : Int32) (b2 : Int32) (s0 : Nat) (s1 : Int32) (h : mH) (r : Int32) (h' : mH) (hf : f_M_readLawOf_56  b0 b1 b2 s0 s1 h = some (r, h')) : G y_M_readLawOf prog_10_method_16_code 3 (some .int) 2 47 56 [(0, .ref b0), (1, .int b1), (2, .int b2)] [.int s1, .ref s0] h (some (.int r)) h' := by
  unfold f_M_readLawOf_56 at hf
  obtain ⟨h22, e23, hf⟩ := bd1_e hf
  refine g_put (pc := 56) (ci := 8) (kk := 17) ty_M tyok_M nm_M d_M_readLawOf_56 rfl in_M (by decide) wd_955 rfl (fun _ => rfl) (fun _ => rfl) (fun _ z => by cases z) e23 ?_
  refine g_lv [0, 1, 2] rfl ?_
  exact t_M_readLawOf_59  _ _ _ _ _ _  hf
def f_M_readLawOf_32  (b0 : Nat) (b1 : Int32) (b2 : Int32) (h : mH) : Option (Int32 × mH) :=
  bd1 (gI h b0 8 25) fun x14 =>
  if x14 = 0 then
    bd1 (gI h b0 8 17) fun x16 =>
    if b2 ≤ x16 then
      bd1 (gI h b0 8 17) fun x18 =>
      f_M_readLawOf_56  b0 b1 b2 b0 x18 h
    else
      f_M_readLawOf_56  b0 b1 b2 b0 b2 h
  else
    f_M_readLawOf_59  b0 b1 b2 h
set_option maxRecDepth 20000 in
theorem t_M_readLawOf_32  (b0 : Nat) (b1 : Int32) (b2 : Int32) (h : mH) (r : Int32) (h' : mH) (hf : f_M_readLawOf_32  b0 b1 b2 h = some (r, h')) : G y_M_readLawOf prog_10_method_16_code 3 (some .int) 2 47 32 [(0, .ref b0), (1, .int b1), (2, .int b2)] [] h (some (.int r)) h' := by
  unfold f_M_readLawOf_32 at hf
  refine g_aload_n (pc := 32) 0 d_M_readLawOf_32 rfl rfl ?_
  obtain ⟨x14, e15, hf⟩ := bd1_e hf
  refine g_get (pc := 33) (ci := 8) (kk := 25) d_M_readLawOf_33 rfl in_M (by decide) wd_963 (gI_spec e15) ?_
  refine g_ifne (pc := 36) 59 d_M_readLawOf_36 (by decide) (fun c21 => ?_) (fun c21 => ?_)
  · replace hf := (if_neg c21).symm.trans hf
    refine g_lv [0, 1, 2] rfl ?_
    exact t_M_readLawOf_59  _ _ _ _ _ _  hf
  · replace hf := (if_pos c21).symm.trans hf
    refine g_aload_n (pc := 39) 0 d_M_readLawOf_39 rfl rfl ?_
    refine g_iload_n (pc := 40) 2 d_M_readLawOf_40 rfl rfl ?_
    refine g_aload_n (pc := 41) 0 d_M_readLawOf_41 rfl rfl ?_
    obtain ⟨x16, e17, hf⟩ := bd1_e hf
    refine g_get (pc := 42) (ci := 8) (kk := 17) d_M_readLawOf_42 rfl in_M (by decide) wd_955 (gI_spec e17) ?_
    refine g_icmple (pc := 45) 52 d_M_readLawOf_45 (by decide) (fun c20 => ?_) (fun c20 => ?_)
    · replace hf := (if_pos c20).symm.trans hf
      refine g_aload_n (pc := 52) 0 d_M_readLawOf_52 rfl rfl ?_
      obtain ⟨x18, e19, hf⟩ := bd1_e hf
      refine g_get (pc := 53) (ci := 8) (kk := 17) d_M_readLawOf_53 rfl in_M (by decide) wd_955 (gI_spec e19) ?_
      refine g_lv [0, 1, 2] rfl ?_
      exact t_M_readLawOf_56  _ _ _ _ _ _ _ _  hf
    · replace hf := (if_neg c20).symm.trans hf
      refine g_iload_n (pc := 48) 2 d_M_readLawOf_48 rfl rfl ?_
      refine g_goto (pc := 49) 56 d_M_readLawOf_49 (by decide) ?_
      refine g_lv [0, 1, 2] rfl ?_
      exact t_M_readLawOf_56  _ _ _ _ _ _ _ _  hf
def f_M_readLawOf_28  (b0 : Nat) (b1 : Int32) (b2 : Int32) (s0 : Nat) (s1 : Int32) (h : mH) : Option (Int32 × mH) :=
  bd1 (kC h s0 8) fun _ =>
  bd1 (f_M_needs s0 s1 (4 : Int32) h) fun h12 =>
  f_M_readLawOf_32  b0 b1 b2 h12
set_option maxRecDepth 20000 in
theorem t_M_readLawOf_28  (b0 : Nat) (b1 : Int32) (b2 : Int32) (s0 : Nat) (s1 : Int32) (h : mH) (r : Int32) (h' : mH) (hf : f_M_readLawOf_28  b0 b1 b2 s0 s1 h = some (r, h')) : G y_M_readLawOf prog_10_method_16_code 3 (some .int) 2 47 28 [(0, .ref b0), (1, .int b1), (2, .int b2)] [.int s1, .ref s0] h (some (.int r)) h' := by
  unfold f_M_readLawOf_28 at hf
  refine g_iconst (pc := 28) (4 : Int32) d_M_readLawOf_28 (by decide) ?_
  obtain ⟨u11, e10, hf⟩ := bd1_e hf
  obtain ⟨h12, e13, hf⟩ := bd1_e hf
  refine g_callV (pc := 29) (ci := 8) [.int s1, .int (4 : Int32)] (site_of si_M_needs (by decide) (by decide)) wd_1084 wd_1086 wp_34 d_M_readLawOf_29 rfl e10 (Nat.le_of_ble_eq_true rfl) (fun z => absurd z (by decide)) (fun z => absurd z (by decide)) (fun z => absurd z (by decide)) (c_M_needs e13) rfl ?_
  refine g_st [] rfl ?_
  refine g_lv [0, 1, 2] rfl ?_
  exact t_M_readLawOf_32  _ _ _ _ _ _  hf
def f_M_readLawOf_0  (a0 : Nat) (a1 : Int32) (h : mH) : Option (Int32 × mH) :=
  bd1 (kC h a0 8) fun _ =>
  bd2 (f_M_looked a0 (0 : Int32) (4 : Int32) h) fun x5 h3 =>
  bd1 (gI h3 a0 8 25) fun x6 =>
  if x6 = 0 then
    if ((a1 >>> (x5 &&& 31)) &&& (1 : Int32)) = 0 then
      f_M_readLawOf_28  a0 a1 x5 a0 (1 : Int32) h3
    else
      f_M_readLawOf_28  a0 a1 x5 a0 (0 : Int32) h3
  else
    f_M_readLawOf_32  a0 a1 x5 h3
set_option maxRecDepth 20000 in
theorem t_M_readLawOf_0  (a0 : Nat) (a1 : Int32) (h : mH) (r : Int32) (h' : mH) (hf : f_M_readLawOf_0  a0 a1 h = some (r, h')) : G y_M_readLawOf prog_10_method_16_code 3 (some .int) 2 47 0 [(0, .ref a0), (1, .int a1)] [] h (some (.int r)) h' := by
  unfold f_M_readLawOf_0 at hf
  refine g_aload_n (pc := 0) 0 d_M_readLawOf_0 rfl rfl ?_
  refine g_iconst (pc := 1) (0 : Int32) d_M_readLawOf_1 (by decide) ?_
  refine g_iconst (pc := 2) (4 : Int32) d_M_readLawOf_2 (by decide) ?_
  obtain ⟨u2, e1, hf⟩ := bd1_e hf
  obtain ⟨x5, h3, e4, hf⟩ := bd2_e hf
  refine g_callV (pc := 3) (ci := 8) [.int (0 : Int32), .int (4 : Int32)] (site_of si_M_looked (by decide) (by decide)) wd_1112 wd_1114 wp_41 d_M_readLawOf_3 rfl e1 (Nat.le_of_ble_eq_true rfl) (fun z => absurd z (by decide)) (fun z => absurd z (by decide)) (fun z => absurd z (by decide)) (c_M_looked e4) rfl ?_
  refine g_st [.int x5] rfl ?_
  refine g_istore_n (pc := 6) [(2, .int x5), (0, .ref a0), (1, .int a1)] d_M_readLawOf_6 rfl (Nat.le_of_ble_eq_true rfl) rfl ?_
  refine g_aload_n (pc := 7) 1 d_M_readLawOf_7 rfl rfl ?_
  obtain ⟨x6, e7, hf⟩ := bd1_e hf
  refine g_get (pc := 8) (ci := 8) (kk := 25) d_M_readLawOf_8 rfl in_M (by decide) wd_963 (gI_spec e7) ?_
  refine g_ifne (pc := 11) 32 d_M_readLawOf_11 (by decide) (fun c9 => ?_) (fun c9 => ?_)
  · replace hf := (if_neg c9).symm.trans hf
    refine g_lv [1, 2, 0] rfl ?_
    exact t_M_readLawOf_32  _ _ _ _ _ _  hf
  · replace hf := (if_pos c9).symm.trans hf
    refine g_aload_n (pc := 14) 1 d_M_readLawOf_14 rfl rfl ?_
    refine g_iload_n (pc := 15) 2 d_M_readLawOf_15 rfl rfl ?_
    refine g_iload_n (pc := 16) 0 d_M_readLawOf_16 rfl rfl ?_
    refine g_ishr (pc := 17) d_M_readLawOf_17 ?_
    refine g_iconst (pc := 18) (1 : Int32) d_M_readLawOf_18 (by decide) ?_
    refine g_iand (pc := 19) d_M_readLawOf_19 ?_
    refine g_ifne (pc := 20) 27 d_M_readLawOf_20 (by decide) (fun c8 => ?_) (fun c8 => ?_)
    · replace hf := (if_neg c8).symm.trans hf
      refine g_iconst (pc := 27) (0 : Int32) d_M_readLawOf_27 (by decide) ?_
      refine g_lv [1, 2, 0] rfl ?_
      exact t_M_readLawOf_28  _ _ _ _ _ _ _ _  hf
    · replace hf := (if_pos c8).symm.trans hf
      refine g_iconst (pc := 23) (1 : Int32) d_M_readLawOf_23 (by decide) ?_
      refine g_goto (pc := 24) 28 d_M_readLawOf_24 (by decide) ?_
      refine g_lv [1, 2, 0] rfl ?_
      exact t_M_readLawOf_28  _ _ _ _ _ _ _ _  hf
def f_M_readLawOf (a0 : Nat) (a1 : Int32) (h : mH) : Option (Int32 × mH) := f_M_readLawOf_0 a0 a1 h
theorem c_M_readLawOf {a0 : Nat} {a1 : Int32} {h : mH} {r : Int32} {h' : mH} (hf : f_M_readLawOf a0 a1 h = some (r, h')) : MM y_M_readLawOf prog_10_method_16_code 3 (some .int) 2 47 [.ref a0, .int a1] h (some (.int r)) h' :=
  mm_of_G (by decide) (Nat.le_of_ble_eq_true rfl) (t_M_readLawOf_0 _ _ _ _ _ hf)
/-! M readLaw ()V -/
theorem d_M_readLaw_0 : decode prog_10_method_17_code 0 = .ok (.aload_n 0, 1) := by decide +kernel
theorem d_M_readLaw_1 : decode prog_10_method_17_code 1 = .ok (.getfield 93, 3) := by decide +kernel
theorem d_M_readLaw_4 : decode prog_10_method_17_code 4 = .ok (.istore_n 1, 1) := by decide +kernel
theorem d_M_readLaw_5 : decode prog_10_method_17_code 5 = .ok (.aload_n 0, 1) := by decide +kernel
theorem d_M_readLaw_6 : decode prog_10_method_17_code 6 = .ok (.getfield 32, 3) := by decide +kernel
theorem d_M_readLaw_9 : decode prog_10_method_17_code 9 = .ok (.iconst 0, 1) := by decide +kernel
theorem d_M_readLaw_10 : decode prog_10_method_17_code 10 = .ok (.iload_n 1, 1) := by decide +kernel
theorem d_M_readLaw_11 : decode prog_10_method_17_code 11 = .ok (.iadd, 1) := by decide +kernel
theorem d_M_readLaw_12 : decode prog_10_method_17_code 12 = .ok (.aload_n 0, 1) := by decide +kernel
theorem d_M_readLaw_13 : decode prog_10_method_17_code 13 = .ok (.iconst 0, 1) := by decide +kernel
theorem d_M_readLaw_14 : decode prog_10_method_17_code 14 = .ok (.bipush 9, 2) := by decide +kernel
theorem d_M_readLaw_16 : decode prog_10_method_17_code 16 = .ok (.invokevirtual 165, 3) := by decide +kernel
theorem d_M_readLaw_19 : decode prog_10_method_17_code 19 = .ok (.iastore, 1) := by decide +kernel
theorem d_M_readLaw_20 : decode prog_10_method_17_code 20 = .ok (.aload_n 0, 1) := by decide +kernel
theorem d_M_readLaw_21 : decode prog_10_method_17_code 21 = .ok (.getfield 35, 3) := by decide +kernel
theorem d_M_readLaw_24 : decode prog_10_method_17_code 24 = .ok (.iload_n 1, 1) := by decide +kernel
theorem d_M_readLaw_25 : decode prog_10_method_17_code 25 = .ok (.aload_n 0, 1) := by decide +kernel
theorem d_M_readLaw_26 : decode prog_10_method_17_code 26 = .ok (.iconst 1, 1) := by decide +kernel
theorem d_M_readLaw_27 : decode prog_10_method_17_code 27 = .ok (.iconst 3, 1) := by decide +kernel
theorem d_M_readLaw_28 : decode prog_10_method_17_code 28 = .ok (.invokevirtual 165, 3) := by decide +kernel
theorem d_M_readLaw_31 : decode prog_10_method_17_code 31 = .ok (.iastore, 1) := by decide +kernel
theorem d_M_readLaw_32 : decode prog_10_method_17_code 32 = .ok (.aload_n 0, 1) := by decide +kernel
theorem d_M_readLaw_33 : decode prog_10_method_17_code 33 = .ok (.getfield 38, 3) := by decide +kernel
theorem d_M_readLaw_36 : decode prog_10_method_17_code 36 = .ok (.iload_n 1, 1) := by decide +kernel
theorem d_M_readLaw_37 : decode prog_10_method_17_code 37 = .ok (.aload_n 0, 1) := by decide +kernel
theorem d_M_readLaw_38 : decode prog_10_method_17_code 38 = .ok (.iconst 0, 1) := by decide +kernel
theorem d_M_readLaw_39 : decode prog_10_method_17_code 39 = .ok (.bipush 9, 2) := by decide +kernel
theorem d_M_readLaw_41 : decode prog_10_method_17_code 41 = .ok (.invokevirtual 165, 3) := by decide +kernel
theorem d_M_readLaw_44 : decode prog_10_method_17_code 44 = .ok (.iastore, 1) := by decide +kernel
theorem d_M_readLaw_45 : decode prog_10_method_17_code 45 = .ok (.aload_n 0, 1) := by decide +kernel
theorem d_M_readLaw_46 : decode prog_10_method_17_code 46 = .ok (.getfield 41, 3) := by decide +kernel
theorem d_M_readLaw_49 : decode prog_10_method_17_code 49 = .ok (.iload_n 1, 1) := by decide +kernel
theorem d_M_readLaw_50 : decode prog_10_method_17_code 50 = .ok (.aload_n 0, 1) := by decide +kernel
theorem d_M_readLaw_51 : decode prog_10_method_17_code 51 = .ok (.iconst 0, 1) := by decide +kernel
theorem d_M_readLaw_52 : decode prog_10_method_17_code 52 = .ok (.bipush 9, 2) := by decide +kernel
theorem d_M_readLaw_54 : decode prog_10_method_17_code 54 = .ok (.invokevirtual 165, 3) := by decide +kernel
theorem d_M_readLaw_57 : decode prog_10_method_17_code 57 = .ok (.iastore, 1) := by decide +kernel
theorem d_M_readLaw_58 : decode prog_10_method_17_code 58 = .ok (.aload_n 0, 1) := by decide +kernel
theorem d_M_readLaw_59 : decode prog_10_method_17_code 59 = .ok (.getfield 121, 3) := by decide +kernel
theorem d_M_readLaw_62 : decode prog_10_method_17_code 62 = .ok (.ifCond .ne 65, 3) := by decide +kernel
theorem d_M_readLaw_65 : decode prog_10_method_17_code 65 = .ok (.aload_n 0, 1) := by decide +kernel
theorem d_M_readLaw_66 : decode prog_10_method_17_code 66 = .ok (.getfield 141, 3) := by decide +kernel
theorem d_M_readLaw_69 : decode prog_10_method_17_code 69 = .ok (.iconst 2, 1) := by decide +kernel
theorem d_M_readLaw_70 : decode prog_10_method_17_code 70 = .ok (.if_icmp .ne 57, 3) := by decide +kernel
theorem d_M_readLaw_73 : decode prog_10_method_17_code 73 = .ok (.aload_n 0, 1) := by decide +kernel
theorem d_M_readLaw_74 : decode prog_10_method_17_code 74 = .ok (.iconst 1, 1) := by decide +kernel
theorem d_M_readLaw_75 : decode prog_10_method_17_code 75 = .ok (.iload_n 1, 1) := by decide +kernel
theorem d_M_readLaw_76 : decode prog_10_method_17_code 76 = .ok (.ishl, 1) := by decide +kernel
theorem d_M_readLaw_77 : decode prog_10_method_17_code 77 = .ok (.invokevirtual 168, 3) := by decide +kernel
theorem d_M_readLaw_80 : decode prog_10_method_17_code 80 = .ok (.iconst 1, 1) := by decide +kernel
theorem d_M_readLaw_81 : decode prog_10_method_17_code 81 = .ok (.iload_n 1, 1) := by decide +kernel
theorem d_M_readLaw_82 : decode prog_10_method_17_code 82 = .ok (.ishl, 1) := by decide +kernel
theorem d_M_readLaw_83 : decode prog_10_method_17_code 83 = .ok (.iconst (-1), 1) := by decide +kernel
theorem d_M_readLaw_84 : decode prog_10_method_17_code 84 = .ok (.ixor, 1) := by decide +kernel
theorem d_M_readLaw_85 : decode prog_10_method_17_code 85 = .ok (.iand, 1) := by decide +kernel
theorem d_M_readLaw_86 : decode prog_10_method_17_code 86 = .ok (.istore_n 2, 1) := by decide +kernel
theorem d_M_readLaw_87 : decode prog_10_method_17_code 87 = .ok (.iconst 0, 1) := by decide +kernel
theorem d_M_readLaw_88 : decode prog_10_method_17_code 88 = .ok (.istore_n 3, 1) := by decide +kernel
theorem d_M_readLaw_89 : decode prog_10_method_17_code 89 = .ok (.iload_n 3, 1) := by decide +kernel
theorem d_M_readLaw_90 : decode prog_10_method_17_code 90 = .ok (.iconst 5, 1) := by decide +kernel
theorem d_M_readLaw_91 : decode prog_10_method_17_code 91 = .ok (.if_icmp .ge 36, 3) := by decide +kernel
theorem d_M_readLaw_94 : decode prog_10_method_17_code 94 = .ok (.aload_n 0, 1) := by decide +kernel
theorem d_M_readLaw_95 : decode prog_10_method_17_code 95 = .ok (.getfield 32, 3) := by decide +kernel
theorem d_M_readLaw_98 : decode prog_10_method_17_code 98 = .ok (.iconst 5, 1) := by decide +kernel
theorem d_M_readLaw_99 : decode prog_10_method_17_code 99 = .ok (.iload_n 1, 1) := by decide +kernel
theorem d_M_readLaw_100 : decode prog_10_method_17_code 100 = .ok (.iadd, 1) := by decide +kernel
theorem d_M_readLaw_101 : decode prog_10_method_17_code 101 = .ok (.iload_n 2, 1) := by decide +kernel
theorem d_M_readLaw_102 : decode prog_10_method_17_code 102 = .ok (.iconst 1, 1) := by decide +kernel
theorem d_M_readLaw_103 : decode prog_10_method_17_code 103 = .ok (.iload_n 3, 1) := by decide +kernel
theorem d_M_readLaw_104 : decode prog_10_method_17_code 104 = .ok (.ishl, 1) := by decide +kernel
theorem d_M_readLaw_105 : decode prog_10_method_17_code 105 = .ok (.if_icmp .ne 7, 3) := by decide +kernel
theorem d_M_readLaw_108 : decode prog_10_method_17_code 108 = .ok (.iload_n 3, 1) := by decide +kernel
theorem d_M_readLaw_109 : decode prog_10_method_17_code 109 = .ok (.goto 11, 3) := by decide +kernel
theorem d_M_readLaw_112 : decode prog_10_method_17_code 112 = .ok (.aload_n 0, 1) := by decide +kernel
theorem d_M_readLaw_113 : decode prog_10_method_17_code 113 = .ok (.getfield 32, 3) := by decide +kernel
theorem d_M_readLaw_116 : decode prog_10_method_17_code 116 = .ok (.iconst 5, 1) := by decide +kernel
theorem d_M_readLaw_117 : decode prog_10_method_17_code 117 = .ok (.iload_n 1, 1) := by decide +kernel
theorem d_M_readLaw_118 : decode prog_10_method_17_code 118 = .ok (.iadd, 1) := by decide +kernel
theorem d_M_readLaw_119 : decode prog_10_method_17_code 119 = .ok (.iaload, 1) := by decide +kernel
theorem d_M_readLaw_120 : decode prog_10_method_17_code 120 = .ok (.iastore, 1) := by decide +kernel
theorem d_M_readLaw_121 : decode prog_10_method_17_code 121 = .ok (.iinc 3 1, 3) := by decide +kernel
theorem d_M_readLaw_124 : decode prog_10_method_17_code 124 = .ok (.goto (-35), 3) := by decide +kernel
theorem d_M_readLaw_127 : decode prog_10_method_17_code 127 = .ok (.aload_n 0, 1) := by decide +kernel
theorem d_M_readLaw_128 : decode prog_10_method_17_code 128 = .ok (.dup, 1) := by decide +kernel
theorem d_M_readLaw_129 : decode prog_10_method_17_code 129 = .ok (.getfield 93, 3) := by decide +kernel
theorem d_M_readLaw_132 : decode prog_10_method_17_code 132 = .ok (.iconst 1, 1) := by decide +kernel
theorem d_M_readLaw_133 : decode prog_10_method_17_code 133 = .ok (.iadd, 1) := by decide +kernel
theorem d_M_readLaw_134 : decode prog_10_method_17_code 134 = .ok (.putfield 93, 3) := by decide +kernel
theorem d_M_readLaw_137 : decode prog_10_method_17_code 137 = .ok (.return_, 1) := by decide +kernel
def f_M_readLaw_127  (b0 : Nat) (h : mH) : Option mH :=
  bd1 (gI h b0 8 10) fun x60 =>
  bd1 (pV h b0 8 10 (.int (x60 + (1 : Int32)))) fun h62 =>
  some h62
set_option maxRecDepth 20000 in
theorem t_M_readLaw_127  (b0 : Nat) (h : mH) (h' : mH) (hf : f_M_readLaw_127  b0 h = some h') : G y_M_readLaw prog_10_method_17_code 4 none 3 70 127 [(0, .ref b0)] [] h none h' := by
  unfold f_M_readLaw_127 at hf
  refine g_aload_n (pc := 127) 0 d_M_readLaw_127 rfl rfl ?_
  refine g_dup (pc := 128) d_M_readLaw_128 rfl ?_
  obtain ⟨x60, e61, hf⟩ := bd1_e hf
  refine g_get (pc := 129) (ci := 8) (kk := 10) d_M_readLaw_129 rfl in_M (by decide) wd_948 (gI_spec e61) ?_
  refine g_iconst (pc := 132) (1 : Int32) d_M_readLaw_132 (by decide) ?_
  refine g_iadd (pc := 133) d_M_readLaw_133 ?_
  obtain ⟨h62, e63, hf⟩ := bd1_e hf
  refine g_put (pc := 134) (ci := 8) (kk := 10) ty_M tyok_M nm_M d_M_readLaw_134 rfl in_M (by decide) wd_948 rfl (fun _ => rfl) (fun _ => rfl) (fun _ z => by cases z) e63 ?_
  obtain rfl := ret1 hf
  exact g_vret (pc := 137) rfl d_M_readLaw_137
def f_M_readLaw_120 (rec89 : Nat → Int32 → Int32 → Int32 → mH → Option mH) (b0 : Nat) (b1 : Int32) (b2 : Int32) (b3 : Int32) (s0 : Nat) (s1 : Int32) (s2 : Int32) (h : mH) : Option mH :=
  bd1 (sI h 0 s0 s1 s2) fun h58 =>
  rec89 b0 b1 b2 (b3 + (1 : Int32)) h58
set_option maxRecDepth 20000 in
theorem t_M_readLaw_120 (rec89 : Nat → Int32 → Int32 → Int32 → mH → Option mH) (hrec89 : ∀ (b0 : Nat) (b1 : Int32) (b2 : Int32) (b3 : Int32) (h : mH) (h' : mH), rec89 b0 b1 b2 b3 h = some h' → G y_M_readLaw prog_10_method_17_code 4 none 3 70 89 [(0, .ref b0), (1, .int b1), (2, .int b2), (3, .int b3)] [] h none h') (b0 : Nat) (b1 : Int32) (b2 : Int32) (b3 : Int32) (s0 : Nat) (s1 : Int32) (s2 : Int32) (h : mH) (h' : mH) (hf : f_M_readLaw_120 rec89 b0 b1 b2 b3 s0 s1 s2 h = some h') : G y_M_readLaw prog_10_method_17_code 4 none 3 70 120 [(0, .ref b0), (1, .int b1), (2, .int b2), (3, .int b3)] [.int s2, .int s1, .ref s0] h none h' := by
  unfold f_M_readLaw_120 at hf
  obtain ⟨h58, e59, hf⟩ := bd1_e hf
  refine g_iast (pc := 120) d_M_readLaw_120 e59 ?_
  refine g_iinc (pc := 121) 3 (b3 + (1 : Int32)) [(3, .int (b3 + (1 : Int32))), (0, .ref b0), (1, .int b1), (2, .int b2)] d_M_readLaw_121 rfl rfl (Nat.le_of_ble_eq_true rfl) rfl ?_
  refine g_goto (pc := 124) 89 d_M_readLaw_124 (by decide) ?_
  refine g_lv [1, 2, 3, 0] rfl ?_
  exact hrec89 _ _ _ _ _ _  hf
def f_M_readLaw_89b (rec89 : Nat → Int32 → Int32 → Int32 → mH → Option mH) (b0 : Nat) (b1 : Int32) (b2 : Int32) (b3 : Int32) (h : mH) : Option mH :=
  if (5 : Int32) ≤ b3 then
    f_M_readLaw_127  b0 h
  else
    bd1 (gR h b0 8 9) fun x50 =>
    if b2 = ((1 : Int32) <<< (b3 &&& 31)) then
      f_M_readLaw_120 rec89 b0 b1 b2 b3 x50 ((5 : Int32) + b1) b3 h
    else
      bd1 (gR h b0 8 9) fun x52 =>
      bd1 (aI h 0 x52 ((5 : Int32) + b1)) fun x54 =>
      f_M_readLaw_120 rec89 b0 b1 b2 b3 x50 ((5 : Int32) + b1) x54 h
set_option maxRecDepth 20000 in
theorem t_M_readLaw_89b (rec89 : Nat → Int32 → Int32 → Int32 → mH → Option mH) (hrec89 : ∀ (b0 : Nat) (b1 : Int32) (b2 : Int32) (b3 : Int32) (h : mH) (h' : mH), rec89 b0 b1 b2 b3 h = some h' → G y_M_readLaw prog_10_method_17_code 4 none 3 70 89 [(0, .ref b0), (1, .int b1), (2, .int b2), (3, .int b3)] [] h none h') (b0 : Nat) (b1 : Int32) (b2 : Int32) (b3 : Int32) (h : mH) (h' : mH) (hf : f_M_readLaw_89b rec89 b0 b1 b2 b3 h = some h') : G y_M_readLaw prog_10_method_17_code 4 none 3 70 89 [(0, .ref b0), (1, .int b1), (2, .int b2), (3, .int b3)] [] h none h' := by
  unfold f_M_readLaw_89b at hf
  refine g_iload_n (pc := 89) 3 d_M_readLaw_89 rfl rfl ?_
  refine g_iconst (pc := 90) (5 : Int32) d_M_readLaw_90 (by decide) ?_
  refine g_icmpge (pc := 91) 127 d_M_readLaw_91 (by decide) (fun c57 => ?_) (fun c57 => ?_)
  · replace hf := (if_pos c57).symm.trans hf
    refine g_lv [0] rfl ?_
    exact t_M_readLaw_127  _ _ _  hf
  · replace hf := (if_neg c57).symm.trans hf
    refine g_aload_n (pc := 94) 0 d_M_readLaw_94 rfl rfl ?_
    obtain ⟨x50, e51, hf⟩ := bd1_e hf
    refine g_get (pc := 95) (ci := 8) (kk := 9) d_M_readLaw_95 rfl in_M (by decide) wd_947 (gR_spec e51) ?_
    refine g_iconst (pc := 98) (5 : Int32) d_M_readLaw_98 (by decide) ?_
    refine g_iload_n (pc := 99) 1 d_M_readLaw_99 rfl rfl ?_
    refine g_iadd (pc := 100) d_M_readLaw_100 ?_
    refine g_iload_n (pc := 101) 2 d_M_readLaw_101 rfl rfl ?_
    refine g_iconst (pc := 102) (1 : Int32) d_M_readLaw_102 (by decide) ?_
    refine g_iload_n (pc := 103) 3 d_M_readLaw_103 rfl rfl ?_
    refine g_ishl (pc := 104) d_M_readLaw_104 ?_
    refine g_icmpne (pc := 105) 112 d_M_readLaw_105 (by decide) (fun c56 => ?_) (fun c56 => ?_)
    · replace hf := (if_neg c56).symm.trans hf
      refine g_aload_n (pc := 112) 0 d_M_readLaw_112 rfl rfl ?_
      obtain ⟨x52, e53, hf⟩ := bd1_e hf
      refine g_get (pc := 113) (ci := 8) (kk := 9) d_M_readLaw_113 rfl in_M (by decide) wd_947 (gR_spec e53) ?_
      refine g_iconst (pc := 116) (5 : Int32) d_M_readLaw_116 (by decide) ?_
      refine g_iload_n (pc := 117) 1 d_M_readLaw_117 rfl rfl ?_
      refine g_iadd (pc := 118) d_M_readLaw_118 ?_
      obtain ⟨x54, e55, hf⟩ := bd1_e hf
      refine g_iald (pc := 119) d_M_readLaw_119 e55 ?_
      refine g_lv [0, 1, 2, 3] rfl ?_
      exact t_M_readLaw_120 rec89 hrec89 _ _ _ _ _ _ _ _ _  hf
    · replace hf := (if_pos c56).symm.trans hf
      refine g_iload_n (pc := 108) 3 d_M_readLaw_108 rfl rfl ?_
      refine g_goto (pc := 109) 120 d_M_readLaw_109 (by decide) ?_
      refine g_lv [0, 1, 2, 3] rfl ?_
      exact t_M_readLaw_120 rec89 hrec89 _ _ _ _ _ _ _ _ _  hf
def f_M_readLaw_89  : Nat → Nat → Int32 → Int32 → Int32 → mH → Option mH
  | 0 => fun _ _ _ _ _ => none
  | n + 1 => f_M_readLaw_89b  (f_M_readLaw_89  n)
theorem t_M_readLaw_89  : ∀ (n : Nat) (b0 : Nat) (b1 : Int32) (b2 : Int32) (b3 : Int32) (h : mH) (h' : mH) (hf : f_M_readLaw_89  n b0 b1 b2 b3 h = some h'), G y_M_readLaw prog_10_method_17_code 4 none 3 70 89 [(0, .ref b0), (1, .int b1), (2, .int b2), (3, .int b3)] [] h none h'
  | 0, _, _, _, _, _, _, hf => by cases hf
  | n + 1, _, _, _, _, _, _, hf => t_M_readLaw_89b  (f_M_readLaw_89  n) (t_M_readLaw_89  n) _ _ _ _ _ _ hf
def f_M_readLaw_0  (a0 : Nat) (h : mH) : Option mH :=
  bd1 (gI h a0 8 10) fun x1 =>
  bd1 (gR h a0 8 9) fun x3 =>
  bd1 (kC h a0 8) fun _ =>
  bd2 (f_M_readNumber a0 (0 : Int32) (9 : Int32) h) fun x9 h7 =>
  bd1 (sI h7 0 x3 ((0 : Int32) + x1) x9) fun h10 =>
  bd1 (gR h10 a0 8 12) fun x12 =>
  bd1 (kC h10 a0 8) fun _ =>
  bd2 (f_M_readNumber a0 (1 : Int32) (3 : Int32) h10) fun x18 h16 =>
  bd1 (sI h16 0 x12 x1 x18) fun h19 =>
  bd1 (gR h19 a0 8 13) fun x21 =>
  bd1 (kC h19 a0 8) fun _ =>
  bd2 (f_M_readNumber a0 (0 : Int32) (9 : Int32) h19) fun x27 h25 =>
  bd1 (sI h25 0 x21 x1 x27) fun h28 =>
  bd1 (gR h28 a0 8 14) fun x30 =>
  bd1 (kC h28 a0 8) fun _ =>
  bd2 (f_M_readNumber a0 (0 : Int32) (9 : Int32) h28) fun x36 h34 =>
  bd1 (sI h34 0 x30 x1 x36) fun h37 =>
  bd1 (gI h37 a0 8 25) fun x39 =>
  if x39 = 0 then
    bd1 (gI h37 a0 8 23) fun x41 =>
    if x41 = (2 : Int32) then
      bd1 (kC h37 a0 8) fun _ =>
      bd2 (f_M_readLawOf a0 ((1 : Int32) <<< (x1 &&& 31)) h37) fun x47 h45 =>
      f_M_readLaw_89  FU a0 x1 (x47 &&& (((1 : Int32) <<< (x1 &&& 31)) ^^^ ((-1) : Int32))) (0 : Int32) h45
    else
      f_M_readLaw_127  a0 h37
  else
    f_M_readLaw_127  a0 h37
set_option maxRecDepth 20000 in
theorem t_M_readLaw_0  (a0 : Nat) (h : mH) (h' : mH) (hf : f_M_readLaw_0  a0 h = some h') : G y_M_readLaw prog_10_method_17_code 4 none 3 70 0 [(0, .ref a0)] [] h none h' := by
  unfold f_M_readLaw_0 at hf
  refine g_aload_n (pc := 0) 0 d_M_readLaw_0 rfl rfl ?_
  obtain ⟨x1, e2, hf⟩ := bd1_e hf
  refine g_get (pc := 1) (ci := 8) (kk := 10) d_M_readLaw_1 rfl in_M (by decide) wd_948 (gI_spec e2) ?_
  refine g_istore_n (pc := 4) [(1, .int x1), (0, .ref a0)] d_M_readLaw_4 rfl (Nat.le_of_ble_eq_true rfl) rfl ?_
  refine g_aload_n (pc := 5) 1 d_M_readLaw_5 rfl rfl ?_
  obtain ⟨x3, e4, hf⟩ := bd1_e hf
  refine g_get (pc := 6) (ci := 8) (kk := 9) d_M_readLaw_6 rfl in_M (by decide) wd_947 (gR_spec e4) ?_
  refine g_iconst (pc := 9) (0 : Int32) d_M_readLaw_9 (by decide) ?_
  refine g_iload_n (pc := 10) 0 d_M_readLaw_10 rfl rfl ?_
  refine g_iadd (pc := 11) d_M_readLaw_11 ?_
  refine g_aload_n (pc := 12) 1 d_M_readLaw_12 rfl rfl ?_
  refine g_iconst (pc := 13) (0 : Int32) d_M_readLaw_13 (by decide) ?_
  refine g_bipush (pc := 14) (9 : Int32) d_M_readLaw_14 (by decide) ?_
  obtain ⟨u6, e5, hf⟩ := bd1_e hf
  obtain ⟨x9, h7, e8, hf⟩ := bd2_e hf
  refine g_callV (pc := 16) (ci := 8) [.int (0 : Int32), .int (9 : Int32)] (site_of si_M_readNumber (by decide) (by decide)) wd_1108 wd_1110 wp_40 d_M_readLaw_16 rfl e5 (Nat.le_of_ble_eq_true rfl) (fun z => absurd z (by decide)) (fun z => absurd z (by decide)) (fun z => absurd z (by decide)) (c_M_readNumber e8) rfl ?_
  refine g_st [.int x9, .int ((0 : Int32) + x1), .ref x3] rfl ?_
  obtain ⟨h10, e11, hf⟩ := bd1_e hf
  refine g_iast (pc := 19) d_M_readLaw_19 e11 ?_
  refine g_aload_n (pc := 20) 1 d_M_readLaw_20 rfl rfl ?_
  obtain ⟨x12, e13, hf⟩ := bd1_e hf
  refine g_get (pc := 21) (ci := 8) (kk := 12) d_M_readLaw_21 rfl in_M (by decide) wd_950 (gR_spec e13) ?_
  refine g_iload_n (pc := 24) 0 d_M_readLaw_24 rfl rfl ?_
  refine g_aload_n (pc := 25) 1 d_M_readLaw_25 rfl rfl ?_
  refine g_iconst (pc := 26) (1 : Int32) d_M_readLaw_26 (by decide) ?_
  refine g_iconst (pc := 27) (3 : Int32) d_M_readLaw_27 (by decide) ?_
  obtain ⟨u15, e14, hf⟩ := bd1_e hf
  obtain ⟨x18, h16, e17, hf⟩ := bd2_e hf
  refine g_callV (pc := 28) (ci := 8) [.int (1 : Int32), .int (3 : Int32)] (site_of si_M_readNumber (by decide) (by decide)) wd_1108 wd_1110 wp_40 d_M_readLaw_28 rfl e14 (Nat.le_of_ble_eq_true rfl) (fun z => absurd z (by decide)) (fun z => absurd z (by decide)) (fun z => absurd z (by decide)) (c_M_readNumber e17) rfl ?_
  refine g_st [.int x18, .int x1, .ref x12] rfl ?_
  obtain ⟨h19, e20, hf⟩ := bd1_e hf
  refine g_iast (pc := 31) d_M_readLaw_31 e20 ?_
  refine g_aload_n (pc := 32) 1 d_M_readLaw_32 rfl rfl ?_
  obtain ⟨x21, e22, hf⟩ := bd1_e hf
  refine g_get (pc := 33) (ci := 8) (kk := 13) d_M_readLaw_33 rfl in_M (by decide) wd_951 (gR_spec e22) ?_
  refine g_iload_n (pc := 36) 0 d_M_readLaw_36 rfl rfl ?_
  refine g_aload_n (pc := 37) 1 d_M_readLaw_37 rfl rfl ?_
  refine g_iconst (pc := 38) (0 : Int32) d_M_readLaw_38 (by decide) ?_
  refine g_bipush (pc := 39) (9 : Int32) d_M_readLaw_39 (by decide) ?_
  obtain ⟨u24, e23, hf⟩ := bd1_e hf
  obtain ⟨x27, h25, e26, hf⟩ := bd2_e hf
  refine g_callV (pc := 41) (ci := 8) [.int (0 : Int32), .int (9 : Int32)] (site_of si_M_readNumber (by decide) (by decide)) wd_1108 wd_1110 wp_40 d_M_readLaw_41 rfl e23 (Nat.le_of_ble_eq_true rfl) (fun z => absurd z (by decide)) (fun z => absurd z (by decide)) (fun z => absurd z (by decide)) (c_M_readNumber e26) rfl ?_
  refine g_st [.int x27, .int x1, .ref x21] rfl ?_
  obtain ⟨h28, e29, hf⟩ := bd1_e hf
  refine g_iast (pc := 44) d_M_readLaw_44 e29 ?_
  refine g_aload_n (pc := 45) 1 d_M_readLaw_45 rfl rfl ?_
  obtain ⟨x30, e31, hf⟩ := bd1_e hf
  refine g_get (pc := 46) (ci := 8) (kk := 14) d_M_readLaw_46 rfl in_M (by decide) wd_952 (gR_spec e31) ?_
  refine g_iload_n (pc := 49) 0 d_M_readLaw_49 rfl rfl ?_
  refine g_aload_n (pc := 50) 1 d_M_readLaw_50 rfl rfl ?_
  refine g_iconst (pc := 51) (0 : Int32) d_M_readLaw_51 (by decide) ?_
  refine g_bipush (pc := 52) (9 : Int32) d_M_readLaw_52 (by decide) ?_
  obtain ⟨u33, e32, hf⟩ := bd1_e hf
  obtain ⟨x36, h34, e35, hf⟩ := bd2_e hf
  refine g_callV (pc := 54) (ci := 8) [.int (0 : Int32), .int (9 : Int32)] (site_of si_M_readNumber (by decide) (by decide)) wd_1108 wd_1110 wp_40 d_M_readLaw_54 rfl e32 (Nat.le_of_ble_eq_true rfl) (fun z => absurd z (by decide)) (fun z => absurd z (by decide)) (fun z => absurd z (by decide)) (c_M_readNumber e35) rfl ?_
  refine g_st [.int x36, .int x1, .ref x30] rfl ?_
  obtain ⟨h37, e38, hf⟩ := bd1_e hf
  refine g_iast (pc := 57) d_M_readLaw_57 e38 ?_
  refine g_aload_n (pc := 58) 1 d_M_readLaw_58 rfl rfl ?_
  obtain ⟨x39, e40, hf⟩ := bd1_e hf
  refine g_get (pc := 59) (ci := 8) (kk := 25) d_M_readLaw_59 rfl in_M (by decide) wd_963 (gI_spec e40) ?_
  refine g_ifne (pc := 62) 127 d_M_readLaw_62 (by decide) (fun c49 => ?_) (fun c49 => ?_)
  · replace hf := (if_neg c49).symm.trans hf
    refine g_lv [1] rfl ?_
    exact t_M_readLaw_127  _ _ _  hf
  · replace hf := (if_pos c49).symm.trans hf
    refine g_aload_n (pc := 65) 1 d_M_readLaw_65 rfl rfl ?_
    obtain ⟨x41, e42, hf⟩ := bd1_e hf
    refine g_get (pc := 66) (ci := 8) (kk := 23) d_M_readLaw_66 rfl in_M (by decide) wd_961 (gI_spec e42) ?_
    refine g_iconst (pc := 69) (2 : Int32) d_M_readLaw_69 (by decide) ?_
    refine g_icmpne (pc := 70) 127 d_M_readLaw_70 (by decide) (fun c48 => ?_) (fun c48 => ?_)
    · replace hf := (if_neg c48).symm.trans hf
      refine g_lv [1] rfl ?_
      exact t_M_readLaw_127  _ _ _  hf
    · replace hf := (if_pos c48).symm.trans hf
      refine g_aload_n (pc := 73) 1 d_M_readLaw_73 rfl rfl ?_
      refine g_iconst (pc := 74) (1 : Int32) d_M_readLaw_74 (by decide) ?_
      refine g_iload_n (pc := 75) 0 d_M_readLaw_75 rfl rfl ?_
      refine g_ishl (pc := 76) d_M_readLaw_76 ?_
      obtain ⟨u44, e43, hf⟩ := bd1_e hf
      obtain ⟨x47, h45, e46, hf⟩ := bd2_e hf
      refine g_callV (pc := 77) (ci := 8) [.int ((1 : Int32) <<< (x1 &&& 31))] (site_of si_M_readLawOf (by decide) (by decide)) wd_1116 wd_1118 wp_42 d_M_readLaw_77 rfl e43 (Nat.le_of_ble_eq_true rfl) (fun z => absurd z (by decide)) (fun z => absurd z (by decide)) (fun z => absurd z (by decide)) (c_M_readLawOf e46) rfl ?_
      refine g_st [.int x47] rfl ?_
      refine g_iconst (pc := 80) (1 : Int32) d_M_readLaw_80 (by decide) ?_
      refine g_iload_n (pc := 81) 0 d_M_readLaw_81 rfl rfl ?_
      refine g_ishl (pc := 82) d_M_readLaw_82 ?_
      refine g_iconst (pc := 83) ((-1) : Int32) d_M_readLaw_83 (by decide) ?_
      refine g_ixor (pc := 84) d_M_readLaw_84 ?_
      refine g_iand (pc := 85) d_M_readLaw_85 ?_
      refine g_istore_n (pc := 86) [(2, .int (x47 &&& (((1 : Int32) <<< (x1 &&& 31)) ^^^ ((-1) : Int32)))), (1, .int x1), (0, .ref a0)] d_M_readLaw_86 rfl (Nat.le_of_ble_eq_true rfl) rfl ?_
      refine g_iconst (pc := 87) (0 : Int32) d_M_readLaw_87 (by decide) ?_
      refine g_istore_n (pc := 88) [(3, .int (0 : Int32)), (2, .int (x47 &&& (((1 : Int32) <<< (x1 &&& 31)) ^^^ ((-1) : Int32)))), (1, .int x1), (0, .ref a0)] d_M_readLaw_88 rfl (Nat.le_of_ble_eq_true rfl) rfl ?_
      refine g_lv [3, 2, 1, 0] rfl ?_
      exact t_M_readLaw_89  FU _ _ _ _ _ _  hf
def f_M_readLaw (a0 : Nat) (h : mH) : Option mH := f_M_readLaw_0 a0 h
theorem c_M_readLaw {a0 : Nat} {h : mH} {h' : mH} (hf : f_M_readLaw a0 h = some h') : MM y_M_readLaw prog_10_method_17_code 4 none 3 70 [.ref a0] h none h' :=
  mm_of_G (by decide) (Nat.le_of_ble_eq_true rfl) (t_M_readLaw_0 _ _ _ hf)
/-! M readOne ()V -/
theorem d_M_readOne_0 : decode prog_10_method_18_code 0 = .ok (.aload_n 0, 1) := by decide +kernel
theorem d_M_readOne_1 : decode prog_10_method_18_code 1 = .ok (.getfield 97, 3) := by decide +kernel
theorem d_M_readOne_4 : decode prog_10_method_18_code 4 = .ok (.istore_n 1, 1) := by decide +kernel
theorem d_M_readOne_5 : decode prog_10_method_18_code 5 = .ok (.aload_n 0, 1) := by decide +kernel
theorem d_M_readOne_6 : decode prog_10_method_18_code 6 = .ok (.getfield 32, 3) := by decide +kernel
theorem d_M_readOne_9 : decode prog_10_method_18_code 9 = .ok (.bipush 12, 2) := by decide +kernel
theorem d_M_readOne_11 : decode prog_10_method_18_code 11 = .ok (.iload_n 1, 1) := by decide +kernel
theorem d_M_readOne_12 : decode prog_10_method_18_code 12 = .ok (.iadd, 1) := by decide +kernel
theorem d_M_readOne_13 : decode prog_10_method_18_code 13 = .ok (.aload_n 0, 1) := by decide +kernel
theorem d_M_readOne_14 : decode prog_10_method_18_code 14 = .ok (.iconst 0, 1) := by decide +kernel
theorem d_M_readOne_15 : decode prog_10_method_18_code 15 = .ok (.iconst 5, 1) := by decide +kernel
theorem d_M_readOne_16 : decode prog_10_method_18_code 16 = .ok (.invokevirtual 165, 3) := by decide +kernel
theorem d_M_readOne_19 : decode prog_10_method_18_code 19 = .ok (.iastore, 1) := by decide +kernel
theorem d_M_readOne_20 : decode prog_10_method_18_code 20 = .ok (.aload_n 0, 1) := by decide +kernel
theorem d_M_readOne_21 : decode prog_10_method_18_code 21 = .ok (.getfield 44, 3) := by decide +kernel
theorem d_M_readOne_24 : decode prog_10_method_18_code 24 = .ok (.iload_n 1, 1) := by decide +kernel
theorem d_M_readOne_25 : decode prog_10_method_18_code 25 = .ok (.aload_n 0, 1) := by decide +kernel
theorem d_M_readOne_26 : decode prog_10_method_18_code 26 = .ok (.iconst 0, 1) := by decide +kernel
theorem d_M_readOne_27 : decode prog_10_method_18_code 27 = .ok (.iconst 3, 1) := by decide +kernel
theorem d_M_readOne_28 : decode prog_10_method_18_code 28 = .ok (.invokevirtual 165, 3) := by decide +kernel
theorem d_M_readOne_31 : decode prog_10_method_18_code 31 = .ok (.iastore, 1) := by decide +kernel
theorem d_M_readOne_32 : decode prog_10_method_18_code 32 = .ok (.aload_n 0, 1) := by decide +kernel
theorem d_M_readOne_33 : decode prog_10_method_18_code 33 = .ok (.getfield 47, 3) := by decide +kernel
theorem d_M_readOne_36 : decode prog_10_method_18_code 36 = .ok (.iload_n 1, 1) := by decide +kernel
theorem d_M_readOne_37 : decode prog_10_method_18_code 37 = .ok (.aload_n 0, 1) := by decide +kernel
theorem d_M_readOne_38 : decode prog_10_method_18_code 38 = .ok (.iconst 0, 1) := by decide +kernel
theorem d_M_readOne_39 : decode prog_10_method_18_code 39 = .ok (.bipush 10, 2) := by decide +kernel
theorem d_M_readOne_41 : decode prog_10_method_18_code 41 = .ok (.invokevirtual 165, 3) := by decide +kernel
theorem d_M_readOne_44 : decode prog_10_method_18_code 44 = .ok (.iastore, 1) := by decide +kernel
theorem d_M_readOne_45 : decode prog_10_method_18_code 45 = .ok (.aload_n 0, 1) := by decide +kernel
theorem d_M_readOne_46 : decode prog_10_method_18_code 46 = .ok (.getfield 32, 3) := by decide +kernel
theorem d_M_readOne_49 : decode prog_10_method_18_code 49 = .ok (.bipush 15, 2) := by decide +kernel
theorem d_M_readOne_51 : decode prog_10_method_18_code 51 = .ok (.iload_n 1, 1) := by decide +kernel
theorem d_M_readOne_52 : decode prog_10_method_18_code 52 = .ok (.iadd, 1) := by decide +kernel
theorem d_M_readOne_53 : decode prog_10_method_18_code 53 = .ok (.aload_n 0, 1) := by decide +kernel
theorem d_M_readOne_54 : decode prog_10_method_18_code 54 = .ok (.iconst 0, 1) := by decide +kernel
theorem d_M_readOne_55 : decode prog_10_method_18_code 55 = .ok (.bipush 99, 2) := by decide +kernel
theorem d_M_readOne_57 : decode prog_10_method_18_code 57 = .ok (.invokevirtual 165, 3) := by decide +kernel
theorem d_M_readOne_60 : decode prog_10_method_18_code 60 = .ok (.iastore, 1) := by decide +kernel
theorem d_M_readOne_61 : decode prog_10_method_18_code 61 = .ok (.aload_n 0, 1) := by decide +kernel
theorem d_M_readOne_62 : decode prog_10_method_18_code 62 = .ok (.getfield 121, 3) := by decide +kernel
theorem d_M_readOne_65 : decode prog_10_method_18_code 65 = .ok (.ifCond .ne 36, 3) := by decide +kernel
theorem d_M_readOne_68 : decode prog_10_method_18_code 68 = .ok (.aload_n 0, 1) := by decide +kernel
theorem d_M_readOne_69 : decode prog_10_method_18_code 69 = .ok (.getfield 141, 3) := by decide +kernel
theorem d_M_readOne_72 : decode prog_10_method_18_code 72 = .ok (.iconst 2, 1) := by decide +kernel
theorem d_M_readOne_73 : decode prog_10_method_18_code 73 = .ok (.if_icmp .ne 28, 3) := by decide +kernel
theorem d_M_readOne_76 : decode prog_10_method_18_code 76 = .ok (.aload_n 0, 1) := by decide +kernel
theorem d_M_readOne_77 : decode prog_10_method_18_code 77 = .ok (.getfield 32, 3) := by decide +kernel
theorem d_M_readOne_80 : decode prog_10_method_18_code 80 = .ok (.bipush 18, 2) := by decide +kernel
theorem d_M_readOne_82 : decode prog_10_method_18_code 82 = .ok (.iload_n 1, 1) := by decide +kernel
theorem d_M_readOne_83 : decode prog_10_method_18_code 83 = .ok (.iadd, 1) := by decide +kernel
theorem d_M_readOne_84 : decode prog_10_method_18_code 84 = .ok (.aload_n 0, 1) := by decide +kernel
theorem d_M_readOne_85 : decode prog_10_method_18_code 85 = .ok (.aload_n 0, 1) := by decide +kernel
theorem d_M_readOne_86 : decode prog_10_method_18_code 86 = .ok (.getfield 32, 3) := by decide +kernel
theorem d_M_readOne_89 : decode prog_10_method_18_code 89 = .ok (.bipush 18, 2) := by decide +kernel
theorem d_M_readOne_91 : decode prog_10_method_18_code 91 = .ok (.iload_n 1, 1) := by decide +kernel
theorem d_M_readOne_92 : decode prog_10_method_18_code 92 = .ok (.iadd, 1) := by decide +kernel
theorem d_M_readOne_93 : decode prog_10_method_18_code 93 = .ok (.iaload, 1) := by decide +kernel
theorem d_M_readOne_94 : decode prog_10_method_18_code 94 = .ok (.invokevirtual 168, 3) := by decide +kernel
theorem d_M_readOne_97 : decode prog_10_method_18_code 97 = .ok (.iastore, 1) := by decide +kernel
theorem d_M_readOne_98 : decode prog_10_method_18_code 98 = .ok (.goto (-37), 3) := by decide +kernel
theorem d_M_readOne_101 : decode prog_10_method_18_code 101 = .ok (.aload_n 0, 1) := by decide +kernel
theorem d_M_readOne_102 : decode prog_10_method_18_code 102 = .ok (.dup, 1) := by decide +kernel
theorem d_M_readOne_103 : decode prog_10_method_18_code 103 = .ok (.getfield 97, 3) := by decide +kernel
theorem d_M_readOne_106 : decode prog_10_method_18_code 106 = .ok (.iconst 1, 1) := by decide +kernel
theorem d_M_readOne_107 : decode prog_10_method_18_code 107 = .ok (.iadd, 1) := by decide +kernel
theorem d_M_readOne_108 : decode prog_10_method_18_code 108 = .ok (.putfield 97, 3) := by decide +kernel
theorem d_M_readOne_111 : decode prog_10_method_18_code 111 = .ok (.return_, 1) := by decide +kernel
def f_M_readOne_101  (b0 : Nat) (h : mH) : Option mH :=
  bd1 (gI h b0 8 11) fun x58 =>
  bd1 (pV h b0 8 11 (.int (x58 + (1 : Int32)))) fun h60 =>
  some h60
set_option maxRecDepth 20000 in
theorem t_M_readOne_101  (b0 : Nat) (h : mH) (h' : mH) (hf : f_M_readOne_101  b0 h = some h') : G y_M_readOne prog_10_method_18_code 2 none 3 70 101 [(0, .ref b0)] [] h none h' := by
  unfold f_M_readOne_101 at hf
  refine g_aload_n (pc := 101) 0 d_M_readOne_101 rfl rfl ?_
  refine g_dup (pc := 102) d_M_readOne_102 rfl ?_
  obtain ⟨x58, e59, hf⟩ := bd1_e hf
  refine g_get (pc := 103) (ci := 8) (kk := 11) d_M_readOne_103 rfl in_M (by decide) wd_949 (gI_spec e59) ?_
  refine g_iconst (pc := 106) (1 : Int32) d_M_readOne_106 (by decide) ?_
  refine g_iadd (pc := 107) d_M_readOne_107 ?_
  obtain ⟨h60, e61, hf⟩ := bd1_e hf
  refine g_put (pc := 108) (ci := 8) (kk := 11) ty_M tyok_M nm_M d_M_readOne_108 rfl in_M (by decide) wd_949 rfl (fun _ => rfl) (fun _ => rfl) (fun _ z => by cases z) e61 ?_
  obtain rfl := ret1 hf
  exact g_vret (pc := 111) rfl d_M_readOne_111
def f_M_readOne_61b (rec61 : Nat → Int32 → mH → Option mH) (b0 : Nat) (b1 : Int32) (h : mH) : Option mH :=
  bd1 (gI h b0 8 25) fun x39 =>
  if x39 = 0 then
    bd1 (gI h b0 8 23) fun x41 =>
    if x41 = (2 : Int32) then
      bd1 (gR h b0 8 9) fun x43 =>
      bd1 (gR h b0 8 9) fun x45 =>
      bd1 (aI h 0 x45 ((18 : Int32) + b1)) fun x47 =>
      bd1 (kC h b0 8) fun _ =>
      bd2 (f_M_readLawOf b0 x47 h) fun x53 h51 =>
      bd1 (sI h51 0 x43 ((18 : Int32) + b1) x53) fun h54 =>
      rec61 b0 b1 h54
    else
      f_M_readOne_101  b0 h
  else
    f_M_readOne_101  b0 h
set_option maxRecDepth 20000 in
theorem t_M_readOne_61b (rec61 : Nat → Int32 → mH → Option mH) (hrec61 : ∀ (b0 : Nat) (b1 : Int32) (h : mH) (h' : mH), rec61 b0 b1 h = some h' → G y_M_readOne prog_10_method_18_code 2 none 3 70 61 [(0, .ref b0), (1, .int b1)] [] h none h') (b0 : Nat) (b1 : Int32) (h : mH) (h' : mH) (hf : f_M_readOne_61b rec61 b0 b1 h = some h') : G y_M_readOne prog_10_method_18_code 2 none 3 70 61 [(0, .ref b0), (1, .int b1)] [] h none h' := by
  unfold f_M_readOne_61b at hf
  refine g_aload_n (pc := 61) 0 d_M_readOne_61 rfl rfl ?_
  obtain ⟨x39, e40, hf⟩ := bd1_e hf
  refine g_get (pc := 62) (ci := 8) (kk := 25) d_M_readOne_62 rfl in_M (by decide) wd_963 (gI_spec e40) ?_
  refine g_ifne (pc := 65) 101 d_M_readOne_65 (by decide) (fun c57 => ?_) (fun c57 => ?_)
  · replace hf := (if_neg c57).symm.trans hf
    refine g_lv [0] rfl ?_
    exact t_M_readOne_101  _ _ _  hf
  · replace hf := (if_pos c57).symm.trans hf
    refine g_aload_n (pc := 68) 0 d_M_readOne_68 rfl rfl ?_
    obtain ⟨x41, e42, hf⟩ := bd1_e hf
    refine g_get (pc := 69) (ci := 8) (kk := 23) d_M_readOne_69 rfl in_M (by decide) wd_961 (gI_spec e42) ?_
    refine g_iconst (pc := 72) (2 : Int32) d_M_readOne_72 (by decide) ?_
    refine g_icmpne (pc := 73) 101 d_M_readOne_73 (by decide) (fun c56 => ?_) (fun c56 => ?_)
    · replace hf := (if_neg c56).symm.trans hf
      refine g_lv [0] rfl ?_
      exact t_M_readOne_101  _ _ _  hf
    · replace hf := (if_pos c56).symm.trans hf
      refine g_aload_n (pc := 76) 0 d_M_readOne_76 rfl rfl ?_
      obtain ⟨x43, e44, hf⟩ := bd1_e hf
      refine g_get (pc := 77) (ci := 8) (kk := 9) d_M_readOne_77 rfl in_M (by decide) wd_947 (gR_spec e44) ?_
      refine g_bipush (pc := 80) (18 : Int32) d_M_readOne_80 (by decide) ?_
      refine g_iload_n (pc := 82) 1 d_M_readOne_82 rfl rfl ?_
      refine g_iadd (pc := 83) d_M_readOne_83 ?_
      refine g_aload_n (pc := 84) 0 d_M_readOne_84 rfl rfl ?_
      refine g_aload_n (pc := 85) 0 d_M_readOne_85 rfl rfl ?_
      obtain ⟨x45, e46, hf⟩ := bd1_e hf
      refine g_get (pc := 86) (ci := 8) (kk := 9) d_M_readOne_86 rfl in_M (by decide) wd_947 (gR_spec e46) ?_
      refine g_bipush (pc := 89) (18 : Int32) d_M_readOne_89 (by decide) ?_
      refine g_iload_n (pc := 91) 1 d_M_readOne_91 rfl rfl ?_
      refine g_iadd (pc := 92) d_M_readOne_92 ?_
      obtain ⟨x47, e48, hf⟩ := bd1_e hf
      refine g_iald (pc := 93) d_M_readOne_93 e48 ?_
      obtain ⟨u50, e49, hf⟩ := bd1_e hf
      obtain ⟨x53, h51, e52, hf⟩ := bd2_e hf
      refine g_callV (pc := 94) (ci := 8) [.int x47] (site_of si_M_readLawOf (by decide) (by decide)) wd_1116 wd_1118 wp_42 d_M_readOne_94 rfl e49 (Nat.le_of_ble_eq_true rfl) (fun z => absurd z (by decide)) (fun z => absurd z (by decide)) (fun z => absurd z (by decide)) (c_M_readLawOf e52) rfl ?_
      refine g_st [.int x53, .int ((18 : Int32) + b1), .ref x43] rfl ?_
      obtain ⟨h54, e55, hf⟩ := bd1_e hf
      refine g_iast (pc := 97) d_M_readOne_97 e55 ?_
      refine g_goto (pc := 98) 61 d_M_readOne_98 (by decide) ?_
      refine g_lv [0, 1] rfl ?_
      exact hrec61 _ _ _ _  hf
def f_M_readOne_61  : Nat → Nat → Int32 → mH → Option mH
  | 0 => fun _ _ _ => none
  | n + 1 => f_M_readOne_61b  (f_M_readOne_61  n)
theorem t_M_readOne_61  : ∀ (n : Nat) (b0 : Nat) (b1 : Int32) (h : mH) (h' : mH) (hf : f_M_readOne_61  n b0 b1 h = some h'), G y_M_readOne prog_10_method_18_code 2 none 3 70 61 [(0, .ref b0), (1, .int b1)] [] h none h'
  | 0, _, _, _, _, hf => by cases hf
  | n + 1, _, _, _, _, hf => t_M_readOne_61b  (f_M_readOne_61  n) (t_M_readOne_61  n) _ _ _ _ hf
def f_M_readOne_0  (a0 : Nat) (h : mH) : Option mH :=
  bd1 (gI h a0 8 11) fun x1 =>
  bd1 (gR h a0 8 9) fun x3 =>
  bd1 (kC h a0 8) fun _ =>
  bd2 (f_M_readNumber a0 (0 : Int32) (5 : Int32) h) fun x9 h7 =>
  bd1 (sI h7 0 x3 ((12 : Int32) + x1) x9) fun h10 =>
  bd1 (gR h10 a0 8 15) fun x12 =>
  bd1 (kC h10 a0 8) fun _ =>
  bd2 (f_M_readNumber a0 (0 : Int32) (3 : Int32) h10) fun x18 h16 =>
  bd1 (sI h16 0 x12 x1 x18) fun h19 =>
  bd1 (gR h19 a0 8 16) fun x21 =>
  bd1 (kC h19 a0 8) fun _ =>
  bd2 (f_M_readNumber a0 (0 : Int32) (10 : Int32) h19) fun x27 h25 =>
  bd1 (sI h25 0 x21 x1 x27) fun h28 =>
  bd1 (gR h28 a0 8 9) fun x30 =>
  bd1 (kC h28 a0 8) fun _ =>
  bd2 (f_M_readNumber a0 (0 : Int32) (99 : Int32) h28) fun x36 h34 =>
  bd1 (sI h34 0 x30 ((15 : Int32) + x1) x36) fun h37 =>
  f_M_readOne_61  FU a0 x1 h37
set_option maxRecDepth 20000 in
theorem t_M_readOne_0  (a0 : Nat) (h : mH) (h' : mH) (hf : f_M_readOne_0  a0 h = some h') : G y_M_readOne prog_10_method_18_code 2 none 3 70 0 [(0, .ref a0)] [] h none h' := by
  unfold f_M_readOne_0 at hf
  refine g_aload_n (pc := 0) 0 d_M_readOne_0 rfl rfl ?_
  obtain ⟨x1, e2, hf⟩ := bd1_e hf
  refine g_get (pc := 1) (ci := 8) (kk := 11) d_M_readOne_1 rfl in_M (by decide) wd_949 (gI_spec e2) ?_
  refine g_istore_n (pc := 4) [(1, .int x1), (0, .ref a0)] d_M_readOne_4 rfl (Nat.le_of_ble_eq_true rfl) rfl ?_
  refine g_aload_n (pc := 5) 1 d_M_readOne_5 rfl rfl ?_
  obtain ⟨x3, e4, hf⟩ := bd1_e hf
  refine g_get (pc := 6) (ci := 8) (kk := 9) d_M_readOne_6 rfl in_M (by decide) wd_947 (gR_spec e4) ?_
  refine g_bipush (pc := 9) (12 : Int32) d_M_readOne_9 (by decide) ?_
  refine g_iload_n (pc := 11) 0 d_M_readOne_11 rfl rfl ?_
  refine g_iadd (pc := 12) d_M_readOne_12 ?_
  refine g_aload_n (pc := 13) 1 d_M_readOne_13 rfl rfl ?_
  refine g_iconst (pc := 14) (0 : Int32) d_M_readOne_14 (by decide) ?_
  refine g_iconst (pc := 15) (5 : Int32) d_M_readOne_15 (by decide) ?_
  obtain ⟨u6, e5, hf⟩ := bd1_e hf
  obtain ⟨x9, h7, e8, hf⟩ := bd2_e hf
  refine g_callV (pc := 16) (ci := 8) [.int (0 : Int32), .int (5 : Int32)] (site_of si_M_readNumber (by decide) (by decide)) wd_1108 wd_1110 wp_40 d_M_readOne_16 rfl e5 (Nat.le_of_ble_eq_true rfl) (fun z => absurd z (by decide)) (fun z => absurd z (by decide)) (fun z => absurd z (by decide)) (c_M_readNumber e8) rfl ?_
  refine g_st [.int x9, .int ((12 : Int32) + x1), .ref x3] rfl ?_
  obtain ⟨h10, e11, hf⟩ := bd1_e hf
  refine g_iast (pc := 19) d_M_readOne_19 e11 ?_
  refine g_aload_n (pc := 20) 1 d_M_readOne_20 rfl rfl ?_
  obtain ⟨x12, e13, hf⟩ := bd1_e hf
  refine g_get (pc := 21) (ci := 8) (kk := 15) d_M_readOne_21 rfl in_M (by decide) wd_953 (gR_spec e13) ?_
  refine g_iload_n (pc := 24) 0 d_M_readOne_24 rfl rfl ?_
  refine g_aload_n (pc := 25) 1 d_M_readOne_25 rfl rfl ?_
  refine g_iconst (pc := 26) (0 : Int32) d_M_readOne_26 (by decide) ?_
  refine g_iconst (pc := 27) (3 : Int32) d_M_readOne_27 (by decide) ?_
  obtain ⟨u15, e14, hf⟩ := bd1_e hf
  obtain ⟨x18, h16, e17, hf⟩ := bd2_e hf
  refine g_callV (pc := 28) (ci := 8) [.int (0 : Int32), .int (3 : Int32)] (site_of si_M_readNumber (by decide) (by decide)) wd_1108 wd_1110 wp_40 d_M_readOne_28 rfl e14 (Nat.le_of_ble_eq_true rfl) (fun z => absurd z (by decide)) (fun z => absurd z (by decide)) (fun z => absurd z (by decide)) (c_M_readNumber e17) rfl ?_
  refine g_st [.int x18, .int x1, .ref x12] rfl ?_
  obtain ⟨h19, e20, hf⟩ := bd1_e hf
  refine g_iast (pc := 31) d_M_readOne_31 e20 ?_
  refine g_aload_n (pc := 32) 1 d_M_readOne_32 rfl rfl ?_
  obtain ⟨x21, e22, hf⟩ := bd1_e hf
  refine g_get (pc := 33) (ci := 8) (kk := 16) d_M_readOne_33 rfl in_M (by decide) wd_954 (gR_spec e22) ?_
  refine g_iload_n (pc := 36) 0 d_M_readOne_36 rfl rfl ?_
  refine g_aload_n (pc := 37) 1 d_M_readOne_37 rfl rfl ?_
  refine g_iconst (pc := 38) (0 : Int32) d_M_readOne_38 (by decide) ?_
  refine g_bipush (pc := 39) (10 : Int32) d_M_readOne_39 (by decide) ?_
  obtain ⟨u24, e23, hf⟩ := bd1_e hf
  obtain ⟨x27, h25, e26, hf⟩ := bd2_e hf
  refine g_callV (pc := 41) (ci := 8) [.int (0 : Int32), .int (10 : Int32)] (site_of si_M_readNumber (by decide) (by decide)) wd_1108 wd_1110 wp_40 d_M_readOne_41 rfl e23 (Nat.le_of_ble_eq_true rfl) (fun z => absurd z (by decide)) (fun z => absurd z (by decide)) (fun z => absurd z (by decide)) (c_M_readNumber e26) rfl ?_
  refine g_st [.int x27, .int x1, .ref x21] rfl ?_
  obtain ⟨h28, e29, hf⟩ := bd1_e hf
  refine g_iast (pc := 44) d_M_readOne_44 e29 ?_
  refine g_aload_n (pc := 45) 1 d_M_readOne_45 rfl rfl ?_
  obtain ⟨x30, e31, hf⟩ := bd1_e hf
  refine g_get (pc := 46) (ci := 8) (kk := 9) d_M_readOne_46 rfl in_M (by decide) wd_947 (gR_spec e31) ?_
  refine g_bipush (pc := 49) (15 : Int32) d_M_readOne_49 (by decide) ?_
  refine g_iload_n (pc := 51) 0 d_M_readOne_51 rfl rfl ?_
  refine g_iadd (pc := 52) d_M_readOne_52 ?_
  refine g_aload_n (pc := 53) 1 d_M_readOne_53 rfl rfl ?_
  refine g_iconst (pc := 54) (0 : Int32) d_M_readOne_54 (by decide) ?_
  refine g_bipush (pc := 55) (99 : Int32) d_M_readOne_55 (by decide) ?_
  obtain ⟨u33, e32, hf⟩ := bd1_e hf
  obtain ⟨x36, h34, e35, hf⟩ := bd2_e hf
  refine g_callV (pc := 57) (ci := 8) [.int (0 : Int32), .int (99 : Int32)] (site_of si_M_readNumber (by decide) (by decide)) wd_1108 wd_1110 wp_40 d_M_readOne_57 rfl e32 (Nat.le_of_ble_eq_true rfl) (fun z => absurd z (by decide)) (fun z => absurd z (by decide)) (fun z => absurd z (by decide)) (c_M_readNumber e35) rfl ?_
  refine g_st [.int x36, .int ((15 : Int32) + x1), .ref x30] rfl ?_
  obtain ⟨h37, e38, hf⟩ := bd1_e hf
  refine g_iast (pc := 60) d_M_readOne_60 e38 ?_
  refine g_lv [1, 0] rfl ?_
  exact t_M_readOne_61  FU _ _ _ _  hf
def f_M_readOne (a0 : Nat) (h : mH) : Option mH := f_M_readOne_0 a0 h
theorem c_M_readOne {a0 : Nat} {h : mH} {h' : mH} (hf : f_M_readOne a0 h = some h') : MM y_M_readOne prog_10_method_18_code 2 none 3 70 [.ref a0] h none h' :=
  mm_of_G (by decide) (Nat.le_of_ble_eq_true rfl) (t_M_readOne_0 _ _ _ hf)
/-! M readLineOf (I)V -/
theorem d_M_readLineOf_0 : decode prog_10_method_19_code 0 = .ok (.iload_n 1, 1) := by decide +kernel
theorem d_M_readLineOf_1 : decode prog_10_method_19_code 1 = .ok (.tableswitch 100 0 2 #[27, 34, 41], 27) := by decide +kernel
theorem d_M_readLineOf_28 : decode prog_10_method_19_code 28 = .ok (.aload_n 0, 1) := by decide +kernel
theorem d_M_readLineOf_29 : decode prog_10_method_19_code 29 = .ok (.invokevirtual 171, 3) := by decide +kernel
theorem d_M_readLineOf_32 : decode prog_10_method_19_code 32 = .ok (.goto 87, 3) := by decide +kernel
theorem d_M_readLineOf_35 : decode prog_10_method_19_code 35 = .ok (.aload_n 0, 1) := by decide +kernel
theorem d_M_readLineOf_36 : decode prog_10_method_19_code 36 = .ok (.invokevirtual 174, 3) := by decide +kernel
theorem d_M_readLineOf_39 : decode prog_10_method_19_code 39 = .ok (.goto 80, 3) := by decide +kernel
theorem d_M_readLineOf_42 : decode prog_10_method_19_code 42 = .ok (.aload_n 0, 1) := by decide +kernel
theorem d_M_readLineOf_43 : decode prog_10_method_19_code 43 = .ok (.iconst 0, 1) := by decide +kernel
theorem d_M_readLineOf_44 : decode prog_10_method_19_code 44 = .ok (.iconst 2, 1) := by decide +kernel
theorem d_M_readLineOf_45 : decode prog_10_method_19_code 45 = .ok (.invokevirtual 165, 3) := by decide +kernel
theorem d_M_readLineOf_48 : decode prog_10_method_19_code 48 = .ok (.istore_n 2, 1) := by decide +kernel
theorem d_M_readLineOf_49 : decode prog_10_method_19_code 49 = .ok (.aload_n 0, 1) := by decide +kernel
theorem d_M_readLineOf_50 : decode prog_10_method_19_code 50 = .ok (.aload_n 0, 1) := by decide +kernel
theorem d_M_readLineOf_51 : decode prog_10_method_19_code 51 = .ok (.getfield 121, 3) := by decide +kernel
theorem d_M_readLineOf_54 : decode prog_10_method_19_code 54 = .ok (.ifCond .ne 15, 3) := by decide +kernel
theorem d_M_readLineOf_57 : decode prog_10_method_19_code 57 = .ok (.iload_n 2, 1) := by decide +kernel
theorem d_M_readLineOf_58 : decode prog_10_method_19_code 58 = .ok (.aload_n 0, 1) := by decide +kernel
theorem d_M_readLineOf_59 : decode prog_10_method_19_code 59 = .ok (.getfield 103, 3) := by decide +kernel
theorem d_M_readLineOf_62 : decode prog_10_method_19_code 62 = .ok (.if_icmp .le 7, 3) := by decide +kernel
theorem d_M_readLineOf_65 : decode prog_10_method_19_code 65 = .ok (.iload_n 2, 1) := by decide +kernel
theorem d_M_readLineOf_66 : decode prog_10_method_19_code 66 = .ok (.goto 7, 3) := by decide +kernel
theorem d_M_readLineOf_69 : decode prog_10_method_19_code 69 = .ok (.aload_n 0, 1) := by decide +kernel
theorem d_M_readLineOf_70 : decode prog_10_method_19_code 70 = .ok (.getfield 103, 3) := by decide +kernel
theorem d_M_readLineOf_73 : decode prog_10_method_19_code 73 = .ok (.putfield 103, 3) := by decide +kernel
theorem d_M_readLineOf_76 : decode prog_10_method_19_code 76 = .ok (.aload_n 0, 1) := by decide +kernel
theorem d_M_readLineOf_77 : decode prog_10_method_19_code 77 = .ok (.getfield 32, 3) := by decide +kernel
theorem d_M_readLineOf_80 : decode prog_10_method_19_code 80 = .ok (.bipush 21, 2) := by decide +kernel
theorem d_M_readLineOf_82 : decode prog_10_method_19_code 82 = .ok (.iload_n 2, 1) := by decide +kernel
theorem d_M_readLineOf_83 : decode prog_10_method_19_code 83 = .ok (.iadd, 1) := by decide +kernel
theorem d_M_readLineOf_84 : decode prog_10_method_19_code 84 = .ok (.aload_n 0, 1) := by decide +kernel
theorem d_M_readLineOf_85 : decode prog_10_method_19_code 85 = .ok (.aload_n 0, 1) := by decide +kernel
theorem d_M_readLineOf_86 : decode prog_10_method_19_code 86 = .ok (.getfield 32, 3) := by decide +kernel
theorem d_M_readLineOf_89 : decode prog_10_method_19_code 89 = .ok (.bipush 21, 2) := by decide +kernel
theorem d_M_readLineOf_91 : decode prog_10_method_19_code 91 = .ok (.iload_n 2, 1) := by decide +kernel
theorem d_M_readLineOf_92 : decode prog_10_method_19_code 92 = .ok (.iadd, 1) := by decide +kernel
theorem d_M_readLineOf_93 : decode prog_10_method_19_code 93 = .ok (.iaload, 1) := by decide +kernel
theorem d_M_readLineOf_94 : decode prog_10_method_19_code 94 = .ok (.invokevirtual 168, 3) := by decide +kernel
theorem d_M_readLineOf_97 : decode prog_10_method_19_code 97 = .ok (.iastore, 1) := by decide +kernel
theorem d_M_readLineOf_98 : decode prog_10_method_19_code 98 = .ok (.goto 21, 3) := by decide +kernel
theorem d_M_readLineOf_101 : decode prog_10_method_19_code 101 = .ok (.aload_n 0, 1) := by decide +kernel
theorem d_M_readLineOf_102 : decode prog_10_method_19_code 102 = .ok (.getfield 32, 3) := by decide +kernel
theorem d_M_readLineOf_105 : decode prog_10_method_19_code 105 = .ok (.bipush 11, 2) := by decide +kernel
theorem d_M_readLineOf_107 : decode prog_10_method_19_code 107 = .ok (.aload_n 0, 1) := by decide +kernel
theorem d_M_readLineOf_108 : decode prog_10_method_19_code 108 = .ok (.aload_n 0, 1) := by decide +kernel
theorem d_M_readLineOf_109 : decode prog_10_method_19_code 109 = .ok (.getfield 32, 3) := by decide +kernel
theorem d_M_readLineOf_112 : decode prog_10_method_19_code 112 = .ok (.bipush 11, 2) := by decide +kernel
theorem d_M_readLineOf_114 : decode prog_10_method_19_code 114 = .ok (.iaload, 1) := by decide +kernel
theorem d_M_readLineOf_115 : decode prog_10_method_19_code 115 = .ok (.invokevirtual 168, 3) := by decide +kernel
theorem d_M_readLineOf_118 : decode prog_10_method_19_code 118 = .ok (.iastore, 1) := by decide +kernel
theorem d_M_readLineOf_119 : decode prog_10_method_19_code 119 = .ok (.return_, 1) := by decide +kernel
def f_M_readLineOf_73  (b0 : Nat) (b2 : Int32) (s0 : Nat) (s1 : Int32) (h : mH) : Option mH :=
  bd1 (pV h s0 8 18 (.int s1)) fun h36 =>
  bd1 (gR h36 b0 8 9) fun x38 =>
  bd1 (gR h36 b0 8 9) fun x40 =>
  bd1 (aI h36 0 x40 ((21 : Int32) + b2)) fun x42 =>
  bd1 (kC h36 b0 8) fun _ =>
  bd2 (f_M_readLawOf b0 x42 h36) fun x48 h46 =>
  bd1 (sI h46 0 x38 ((21 : Int32) + b2) x48) fun h49 =>
  some h49
set_option maxRecDepth 20000 in
theorem t_M_readLineOf_73  (b0 : Nat) (b2 : Int32) (s0 : Nat) (s1 : Int32) (h : mH) (h' : mH) (hf : f_M_readLineOf_73  b0 b2 s0 s1 h = some h') : G y_M_readLineOf prog_10_method_19_code 3 none 4 93 73 [(0, .ref b0), (2, .int b2)] [.int s1, .ref s0] h none h' := by
  unfold f_M_readLineOf_73 at hf
  obtain ⟨h36, e37, hf⟩ := bd1_e hf
  refine g_put (pc := 73) (ci := 8) (kk := 18) ty_M tyok_M nm_M d_M_readLineOf_73 rfl in_M (by decide) wd_956 rfl (fun _ => rfl) (fun _ => rfl) (fun _ z => by cases z) e37 ?_
  refine g_aload_n (pc := 76) 0 d_M_readLineOf_76 rfl rfl ?_
  obtain ⟨x38, e39, hf⟩ := bd1_e hf
  refine g_get (pc := 77) (ci := 8) (kk := 9) d_M_readLineOf_77 rfl in_M (by decide) wd_947 (gR_spec e39) ?_
  refine g_bipush (pc := 80) (21 : Int32) d_M_readLineOf_80 (by decide) ?_
  refine g_iload_n (pc := 82) 1 d_M_readLineOf_82 rfl rfl ?_
  refine g_iadd (pc := 83) d_M_readLineOf_83 ?_
  refine g_aload_n (pc := 84) 0 d_M_readLineOf_84 rfl rfl ?_
  refine g_aload_n (pc := 85) 0 d_M_readLineOf_85 rfl rfl ?_
  obtain ⟨x40, e41, hf⟩ := bd1_e hf
  refine g_get (pc := 86) (ci := 8) (kk := 9) d_M_readLineOf_86 rfl in_M (by decide) wd_947 (gR_spec e41) ?_
  refine g_bipush (pc := 89) (21 : Int32) d_M_readLineOf_89 (by decide) ?_
  refine g_iload_n (pc := 91) 1 d_M_readLineOf_91 rfl rfl ?_
  refine g_iadd (pc := 92) d_M_readLineOf_92 ?_
  obtain ⟨x42, e43, hf⟩ := bd1_e hf
  refine g_iald (pc := 93) d_M_readLineOf_93 e43 ?_
  obtain ⟨u45, e44, hf⟩ := bd1_e hf
  obtain ⟨x48, h46, e47, hf⟩ := bd2_e hf
  refine g_callV (pc := 94) (ci := 8) [.int x42] (site_of si_M_readLawOf (by decide) (by decide)) wd_1116 wd_1118 wp_42 d_M_readLineOf_94 rfl e44 (Nat.le_of_ble_eq_true rfl) (fun z => absurd z (by decide)) (fun z => absurd z (by decide)) (fun z => absurd z (by decide)) (c_M_readLawOf e47) rfl ?_
  refine g_st [.int x48, .int ((21 : Int32) + b2), .ref x38] rfl ?_
  obtain ⟨h49, e50, hf⟩ := bd1_e hf
  refine g_iast (pc := 97) d_M_readLineOf_97 e50 ?_
  refine g_goto (pc := 98) 119 d_M_readLineOf_98 (by decide) ?_
  obtain rfl := ret1 hf
  exact g_vret (pc := 119) rfl d_M_readLineOf_119
def f_M_readLineOf_69  (b0 : Nat) (b2 : Int32) (s0 : Nat) (h : mH) : Option mH :=
  bd1 (gI h b0 8 18) fun x51 =>
  f_M_readLineOf_73  b0 b2 s0 x51 h
set_option maxRecDepth 20000 in
theorem t_M_readLineOf_69  (b0 : Nat) (b2 : Int32) (s0 : Nat) (h : mH) (h' : mH) (hf : f_M_readLineOf_69  b0 b2 s0 h = some h') : G y_M_readLineOf prog_10_method_19_code 3 none 4 93 69 [(0, .ref b0), (2, .int b2)] [.ref s0] h none h' := by
  unfold f_M_readLineOf_69 at hf
  refine g_aload_n (pc := 69) 0 d_M_readLineOf_69 rfl rfl ?_
  obtain ⟨x51, e52, hf⟩ := bd1_e hf
  refine g_get (pc := 70) (ci := 8) (kk := 18) d_M_readLineOf_70 rfl in_M (by decide) wd_956 (gI_spec e52) ?_
  refine g_lv [0, 1] rfl ?_
  exact t_M_readLineOf_73  _ _ _ _ _ _  hf
def f_M_readLineOf_0  (a0 : Nat) (a1 : Int32) (h : mH) : Option mH :=
  if a1 = (0 : Int32) then
    bd1 (kC h a0 8) fun _ =>
    bd1 (f_M_readLaw a0 h) fun h4 =>
    some h4
  else
  if a1 = (1 : Int32) then
    bd1 (kC h a0 8) fun _ =>
    bd1 (f_M_readOne a0 h) fun h9 =>
    some h9
  else
  if a1 = (2 : Int32) then
    bd1 (kC h a0 8) fun _ =>
    bd2 (f_M_readNumber a0 (0 : Int32) (2 : Int32) h) fun x16 h14 =>
    bd1 (gI h14 a0 8 25) fun x17 =>
    if x17 = 0 then
      bd1 (gI h14 a0 8 18) fun x19 =>
      if x16 ≤ x19 then
        f_M_readLineOf_69  a0 x16 a0 h14
      else
        f_M_readLineOf_73  a0 x16 a0 x16 h14
    else
      f_M_readLineOf_69  a0 x16 a0 h14
  else
  bd1 (gR h a0 8 9) fun x23 =>
  bd1 (gR h a0 8 9) fun x25 =>
  bd1 (aI h 0 x25 (11 : Int32)) fun x27 =>
  bd1 (kC h a0 8) fun _ =>
  bd2 (f_M_readLawOf a0 x27 h) fun x33 h31 =>
  bd1 (sI h31 0 x23 (11 : Int32) x33) fun h34 =>
  some h34
set_option maxRecDepth 20000 in
theorem t_M_readLineOf_0  (a0 : Nat) (a1 : Int32) (h : mH) (h' : mH) (hf : f_M_readLineOf_0  a0 a1 h = some h') : G y_M_readLineOf prog_10_method_19_code 3 none 4 93 0 [(0, .ref a0), (1, .int a1)] [] h none h' := by
  unfold f_M_readLineOf_0 at hf
  refine g_iload_n (pc := 0) 1 d_M_readLineOf_0 rfl rfl ?_
  by_cases c1 : a1 = (0 : Int32)
  · replace hf := (if_pos c1).symm.trans hf
    refine g_tabIn (pc := 1) 28 (0 : Int32) d_M_readLineOf_1 c1 (by decide) (by decide) rfl (by decide) ?_
    refine g_aload_n (pc := 28) 0 d_M_readLineOf_28 rfl rfl ?_
    obtain ⟨u3, e2, hf⟩ := bd1_e hf
    obtain ⟨h4, e5, hf⟩ := bd1_e hf
    refine g_callV (pc := 29) (ci := 8) [] (site_of si_M_readLaw (by decide) (by decide)) wd_1104 wd_1106 wp_39 d_M_readLineOf_29 rfl e2 (Nat.le_of_ble_eq_true rfl) (fun z => absurd z (by decide)) (fun z => absurd z (by decide)) (fun z => absurd z (by decide)) (c_M_readLaw e5) rfl ?_
    refine g_st [] rfl ?_
    refine g_goto (pc := 32) 119 d_M_readLineOf_32 (by decide) ?_
    obtain rfl := ret1 hf
    exact g_vret (pc := 119) rfl d_M_readLineOf_119
  replace hf := (if_neg c1).symm.trans hf
  by_cases c6 : a1 = (1 : Int32)
  · replace hf := (if_pos c6).symm.trans hf
    refine g_tabIn (pc := 1) 35 (1 : Int32) d_M_readLineOf_1 c6 (by decide) (by decide) rfl (by decide) ?_
    refine g_aload_n (pc := 35) 0 d_M_readLineOf_35 rfl rfl ?_
    obtain ⟨u8, e7, hf⟩ := bd1_e hf
    obtain ⟨h9, e10, hf⟩ := bd1_e hf
    refine g_callV (pc := 36) (ci := 8) [] (site_of si_M_readOne (by decide) (by decide)) wd_1120 wd_1122 wp_43 d_M_readLineOf_36 rfl e7 (Nat.le_of_ble_eq_true rfl) (fun z => absurd z (by decide)) (fun z => absurd z (by decide)) (fun z => absurd z (by decide)) (c_M_readOne e10) rfl ?_
    refine g_st [] rfl ?_
    refine g_goto (pc := 39) 119 d_M_readLineOf_39 (by decide) ?_
    obtain rfl := ret1 hf
    exact g_vret (pc := 119) rfl d_M_readLineOf_119
  replace hf := (if_neg c6).symm.trans hf
  by_cases c11 : a1 = (2 : Int32)
  · replace hf := (if_pos c11).symm.trans hf
    refine g_tabIn (pc := 1) 42 (2 : Int32) d_M_readLineOf_1 c11 (by decide) (by decide) rfl (by decide) ?_
    refine g_aload_n (pc := 42) 0 d_M_readLineOf_42 rfl rfl ?_
    refine g_iconst (pc := 43) (0 : Int32) d_M_readLineOf_43 (by decide) ?_
    refine g_iconst (pc := 44) (2 : Int32) d_M_readLineOf_44 (by decide) ?_
    obtain ⟨u13, e12, hf⟩ := bd1_e hf
    obtain ⟨x16, h14, e15, hf⟩ := bd2_e hf
    refine g_callV (pc := 45) (ci := 8) [.int (0 : Int32), .int (2 : Int32)] (site_of si_M_readNumber (by decide) (by decide)) wd_1108 wd_1110 wp_40 d_M_readLineOf_45 rfl e12 (Nat.le_of_ble_eq_true rfl) (fun z => absurd z (by decide)) (fun z => absurd z (by decide)) (fun z => absurd z (by decide)) (c_M_readNumber e15) rfl ?_
    refine g_st [.int x16] rfl ?_
    refine g_istore_n (pc := 48) [(2, .int x16), (0, .ref a0), (1, .int a1)] d_M_readLineOf_48 rfl (Nat.le_of_ble_eq_true rfl) rfl ?_
    refine g_aload_n (pc := 49) 1 d_M_readLineOf_49 rfl rfl ?_
    refine g_aload_n (pc := 50) 1 d_M_readLineOf_50 rfl rfl ?_
    obtain ⟨x17, e18, hf⟩ := bd1_e hf
    refine g_get (pc := 51) (ci := 8) (kk := 25) d_M_readLineOf_51 rfl in_M (by decide) wd_963 (gI_spec e18) ?_
    refine g_ifne (pc := 54) 69 d_M_readLineOf_54 (by decide) (fun c22 => ?_) (fun c22 => ?_)
    · replace hf := (if_neg c22).symm.trans hf
      refine g_lv [1, 0] rfl ?_
      exact t_M_readLineOf_69  _ _ _ _ _  hf
    · replace hf := (if_pos c22).symm.trans hf
      refine g_iload_n (pc := 57) 0 d_M_readLineOf_57 rfl rfl ?_
      refine g_aload_n (pc := 58) 1 d_M_readLineOf_58 rfl rfl ?_
      obtain ⟨x19, e20, hf⟩ := bd1_e hf
      refine g_get (pc := 59) (ci := 8) (kk := 18) d_M_readLineOf_59 rfl in_M (by decide) wd_956 (gI_spec e20) ?_
      refine g_icmple (pc := 62) 69 d_M_readLineOf_62 (by decide) (fun c21 => ?_) (fun c21 => ?_)
      · replace hf := (if_pos c21).symm.trans hf
        refine g_lv [1, 0] rfl ?_
        exact t_M_readLineOf_69  _ _ _ _ _  hf
      · replace hf := (if_neg c21).symm.trans hf
        refine g_iload_n (pc := 65) 0 d_M_readLineOf_65 rfl rfl ?_
        refine g_goto (pc := 66) 73 d_M_readLineOf_66 (by decide) ?_
        refine g_lv [1, 0] rfl ?_
        exact t_M_readLineOf_73  _ _ _ _ _ _  hf
  replace hf := (if_neg c11).symm.trans hf
  refine g_tabOut (pc := 1) 101 3 d_M_readLineOf_1 (by decide) (fun i hi => ?_) (by decide) ?_
  · rcases (show i = 0 ∨ i = 1 ∨ i = 2 by omega) with rfl | rfl | rfl
    · exact c1
    · exact c6
    · exact c11
  refine g_aload_n (pc := 101) 0 d_M_readLineOf_101 rfl rfl ?_
  obtain ⟨x23, e24, hf⟩ := bd1_e hf
  refine g_get (pc := 102) (ci := 8) (kk := 9) d_M_readLineOf_102 rfl in_M (by decide) wd_947 (gR_spec e24) ?_
  refine g_bipush (pc := 105) (11 : Int32) d_M_readLineOf_105 (by decide) ?_
  refine g_aload_n (pc := 107) 0 d_M_readLineOf_107 rfl rfl ?_
  refine g_aload_n (pc := 108) 0 d_M_readLineOf_108 rfl rfl ?_
  obtain ⟨x25, e26, hf⟩ := bd1_e hf
  refine g_get (pc := 109) (ci := 8) (kk := 9) d_M_readLineOf_109 rfl in_M (by decide) wd_947 (gR_spec e26) ?_
  refine g_bipush (pc := 112) (11 : Int32) d_M_readLineOf_112 (by decide) ?_
  obtain ⟨x27, e28, hf⟩ := bd1_e hf
  refine g_iald (pc := 114) d_M_readLineOf_114 e28 ?_
  obtain ⟨u30, e29, hf⟩ := bd1_e hf
  obtain ⟨x33, h31, e32, hf⟩ := bd2_e hf
  refine g_callV (pc := 115) (ci := 8) [.int x27] (site_of si_M_readLawOf (by decide) (by decide)) wd_1116 wd_1118 wp_42 d_M_readLineOf_115 rfl e29 (Nat.le_of_ble_eq_true rfl) (fun z => absurd z (by decide)) (fun z => absurd z (by decide)) (fun z => absurd z (by decide)) (c_M_readLawOf e32) rfl ?_
  refine g_st [.int x33, .int (11 : Int32), .ref x23] rfl ?_
  obtain ⟨h34, e35, hf⟩ := bd1_e hf
  refine g_iast (pc := 118) d_M_readLineOf_118 e35 ?_
  obtain rfl := ret1 hf
  exact g_vret (pc := 119) rfl d_M_readLineOf_119
def f_M_readLineOf (a0 : Nat) (a1 : Int32) (h : mH) : Option mH := f_M_readLineOf_0 a0 a1 h
theorem c_M_readLineOf {a0 : Nat} {a1 : Int32} {h : mH} {h' : mH} (hf : f_M_readLineOf a0 a1 h = some h') : MM y_M_readLineOf prog_10_method_19_code 3 none 4 93 [.ref a0, .int a1] h none h' :=
  mm_of_G (by decide) (Nat.le_of_ble_eq_true rfl) (t_M_readLineOf_0 _ _ _ _ hf)
/-! M readLine ()V -/
theorem d_M_readLine_0 : decode prog_10_method_20_code 0 = .ok (.aload_n 0, 1) := by decide +kernel
theorem d_M_readLine_1 : decode prog_10_method_20_code 1 = .ok (.getfield 141, 3) := by decide +kernel
theorem d_M_readLine_4 : decode prog_10_method_20_code 4 = .ok (.iconst 1, 1) := by decide +kernel
theorem d_M_readLine_5 : decode prog_10_method_20_code 5 = .ok (.if_icmp .ne 10, 3) := by decide +kernel
theorem d_M_readLine_8 : decode prog_10_method_20_code 8 = .ok (.aload_n 0, 1) := by decide +kernel
theorem d_M_readLine_9 : decode prog_10_method_20_code 9 = .ok (.invokevirtual 177, 3) := by decide +kernel
theorem d_M_readLine_12 : decode prog_10_method_20_code 12 = .ok (.goto 5, 3) := by decide +kernel
theorem d_M_readLine_15 : decode prog_10_method_20_code 15 = .ok (.bipush (-4), 2) := by decide +kernel
theorem d_M_readLine_17 : decode prog_10_method_20_code 17 = .ok (.istore_n 1, 1) := by decide +kernel
theorem d_M_readLine_18 : decode prog_10_method_20_code 18 = .ok (.aload_n 0, 1) := by decide +kernel
theorem d_M_readLine_19 : decode prog_10_method_20_code 19 = .ok (.iload_n 1, 1) := by decide +kernel
theorem d_M_readLine_20 : decode prog_10_method_20_code 20 = .ok (.bipush (-4), 2) := by decide +kernel
theorem d_M_readLine_22 : decode prog_10_method_20_code 22 = .ok (.if_icmp .eq 7, 3) := by decide +kernel
theorem d_M_readLine_25 : decode prog_10_method_20_code 25 = .ok (.iconst 1, 1) := by decide +kernel
theorem d_M_readLine_26 : decode prog_10_method_20_code 26 = .ok (.goto 4, 3) := by decide +kernel
theorem d_M_readLine_29 : decode prog_10_method_20_code 29 = .ok (.iconst 0, 1) := by decide +kernel
theorem d_M_readLine_30 : decode prog_10_method_20_code 30 = .ok (.iconst 2, 1) := by decide +kernel
theorem d_M_readLine_31 : decode prog_10_method_20_code 31 = .ok (.invokevirtual 155, 3) := by decide +kernel
theorem d_M_readLine_34 : decode prog_10_method_20_code 34 = .ok (.aload_n 0, 1) := by decide +kernel
theorem d_M_readLine_35 : decode prog_10_method_20_code 35 = .ok (.iload_n 1, 1) := by decide +kernel
theorem d_M_readLine_36 : decode prog_10_method_20_code 36 = .ok (.ifCond .ne 11, 3) := by decide +kernel
theorem d_M_readLine_39 : decode prog_10_method_20_code 39 = .ok (.aload_n 0, 1) := by decide +kernel
theorem d_M_readLine_40 : decode prog_10_method_20_code 40 = .ok (.getfield 93, 3) := by decide +kernel
theorem d_M_readLine_43 : decode prog_10_method_20_code 43 = .ok (.iconst 5, 1) := by decide +kernel
theorem d_M_readLine_44 : decode prog_10_method_20_code 44 = .ok (.if_icmp .ge 20, 3) := by decide +kernel
theorem d_M_readLine_47 : decode prog_10_method_20_code 47 = .ok (.iload_n 1, 1) := by decide +kernel
theorem d_M_readLine_48 : decode prog_10_method_20_code 48 = .ok (.iconst 1, 1) := by decide +kernel
theorem d_M_readLine_49 : decode prog_10_method_20_code 49 = .ok (.if_icmp .ne 11, 3) := by decide +kernel
theorem d_M_readLine_52 : decode prog_10_method_20_code 52 = .ok (.aload_n 0, 1) := by decide +kernel
theorem d_M_readLine_53 : decode prog_10_method_20_code 53 = .ok (.getfield 97, 3) := by decide +kernel
theorem d_M_readLine_56 : decode prog_10_method_20_code 56 = .ok (.iconst 3, 1) := by decide +kernel
theorem d_M_readLine_57 : decode prog_10_method_20_code 57 = .ok (.if_icmp .ge 7, 3) := by decide +kernel
theorem d_M_readLine_60 : decode prog_10_method_20_code 60 = .ok (.iconst 1, 1) := by decide +kernel
theorem d_M_readLine_61 : decode prog_10_method_20_code 61 = .ok (.goto 4, 3) := by decide +kernel
theorem d_M_readLine_64 : decode prog_10_method_20_code 64 = .ok (.iconst 0, 1) := by decide +kernel
theorem d_M_readLine_65 : decode prog_10_method_20_code 65 = .ok (.iconst 5, 1) := by decide +kernel
theorem d_M_readLine_66 : decode prog_10_method_20_code 66 = .ok (.invokevirtual 155, 3) := by decide +kernel
theorem d_M_readLine_69 : decode prog_10_method_20_code 69 = .ok (.aload_n 0, 1) := by decide +kernel
theorem d_M_readLine_70 : decode prog_10_method_20_code 70 = .ok (.invokevirtual 162, 3) := by decide +kernel
theorem d_M_readLine_73 : decode prog_10_method_20_code 73 = .ok (.aload_n 0, 1) := by decide +kernel
theorem d_M_readLine_74 : decode prog_10_method_20_code 74 = .ok (.getfield 121, 3) := by decide +kernel
theorem d_M_readLine_77 : decode prog_10_method_20_code 77 = .ok (.ifCond .le 4, 3) := by decide +kernel
theorem d_M_readLine_80 : decode prog_10_method_20_code 80 = .ok (.return_, 1) := by decide +kernel
theorem d_M_readLine_81 : decode prog_10_method_20_code 81 = .ok (.aload_n 0, 1) := by decide +kernel
theorem d_M_readLine_82 : decode prog_10_method_20_code 82 = .ok (.iload_n 1, 1) := by decide +kernel
theorem d_M_readLine_83 : decode prog_10_method_20_code 83 = .ok (.invokevirtual 181, 3) := by decide +kernel
theorem d_M_readLine_86 : decode prog_10_method_20_code 86 = .ok (.aload_n 0, 1) := by decide +kernel
theorem d_M_readLine_87 : decode prog_10_method_20_code 87 = .ok (.getfield 121, 3) := by decide +kernel
theorem d_M_readLine_90 : decode prog_10_method_20_code 90 = .ok (.ifCond .ne 21, 3) := by decide +kernel
theorem d_M_readLine_93 : decode prog_10_method_20_code 93 = .ok (.aload_n 0, 1) := by decide +kernel
theorem d_M_readLine_94 : decode prog_10_method_20_code 94 = .ok (.aload_n 0, 1) := by decide +kernel
theorem d_M_readLine_95 : decode prog_10_method_20_code 95 = .ok (.getfield 141, 3) := by decide +kernel
theorem d_M_readLine_98 : decode prog_10_method_20_code 98 = .ok (.iconst 3, 1) := by decide +kernel
theorem d_M_readLine_99 : decode prog_10_method_20_code 99 = .ok (.if_icmp .ne 7, 3) := by decide +kernel
theorem d_M_readLine_102 : decode prog_10_method_20_code 102 = .ok (.iconst 1, 1) := by decide +kernel
theorem d_M_readLine_103 : decode prog_10_method_20_code 103 = .ok (.goto 4, 3) := by decide +kernel
theorem d_M_readLine_106 : decode prog_10_method_20_code 106 = .ok (.iconst 0, 1) := by decide +kernel
theorem d_M_readLine_107 : decode prog_10_method_20_code 107 = .ok (.iconst 2, 1) := by decide +kernel
theorem d_M_readLine_108 : decode prog_10_method_20_code 108 = .ok (.invokevirtual 155, 3) := by decide +kernel
theorem d_M_readLine_111 : decode prog_10_method_20_code 111 = .ok (.aload_n 0, 1) := by decide +kernel
theorem d_M_readLine_112 : decode prog_10_method_20_code 112 = .ok (.invokevirtual 162, 3) := by decide +kernel
theorem d_M_readLine_115 : decode prog_10_method_20_code 115 = .ok (.return_, 1) := by decide +kernel
def f_M_readLine_111  (b0 : Nat) (h : mH) : Option mH :=
  bd1 (kC h b0 8) fun _ =>
  bd1 (f_M_next b0 h) fun h49 =>
  some h49
set_option maxRecDepth 20000 in
theorem t_M_readLine_111  (b0 : Nat) (h : mH) (h' : mH) (hf : f_M_readLine_111  b0 h = some h') : G y_M_readLine prog_10_method_20_code 2 none 5 115 111 [(0, .ref b0)] [] h none h' := by
  unfold f_M_readLine_111 at hf
  refine g_aload_n (pc := 111) 0 d_M_readLine_111 rfl rfl ?_
  obtain ⟨u48, e47, hf⟩ := bd1_e hf
  obtain ⟨h49, e50, hf⟩ := bd1_e hf
  refine g_callV (pc := 112) (ci := 8) [] (site_of si_M_next (by decide) (by decide)) wd_1072 wd_1074 wp_32 d_M_readLine_112 rfl e47 (Nat.le_of_ble_eq_true rfl) (fun z => absurd z (by decide)) (fun z => absurd z (by decide)) (fun z => absurd z (by decide)) (c_M_next e50) rfl ?_
  refine g_st [] rfl ?_
  obtain rfl := ret1 hf
  exact g_vret (pc := 115) rfl d_M_readLine_115
def f_M_readLine_107  (b0 : Nat) (s0 : Nat) (s1 : Int32) (h : mH) : Option mH :=
  bd1 (kC h s0 8) fun _ =>
  bd1 (f_M_needs s0 s1 (2 : Int32) h) fun h45 =>
  f_M_readLine_111  b0 h45
set_option maxRecDepth 20000 in
theorem t_M_readLine_107  (b0 : Nat) (s0 : Nat) (s1 : Int32) (h : mH) (h' : mH) (hf : f_M_readLine_107  b0 s0 s1 h = some h') : G y_M_readLine prog_10_method_20_code 2 none 5 115 107 [(0, .ref b0)] [.int s1, .ref s0] h none h' := by
  unfold f_M_readLine_107 at hf
  refine g_iconst (pc := 107) (2 : Int32) d_M_readLine_107 (by decide) ?_
  obtain ⟨u44, e43, hf⟩ := bd1_e hf
  obtain ⟨h45, e46, hf⟩ := bd1_e hf
  refine g_callV (pc := 108) (ci := 8) [.int s1, .int (2 : Int32)] (site_of si_M_needs (by decide) (by decide)) wd_1084 wd_1086 wp_34 d_M_readLine_108 rfl e43 (Nat.le_of_ble_eq_true rfl) (fun z => absurd z (by decide)) (fun z => absurd z (by decide)) (fun z => absurd z (by decide)) (c_M_needs e46) rfl ?_
  refine g_st [] rfl ?_
  refine g_lv [0] rfl ?_
  exact t_M_readLine_111  _ _ _  hf
def f_M_readLine_65  (b0 : Nat) (b1 : Int32) (s0 : Nat) (s1 : Int32) (h : mH) : Option mH :=
  bd1 (kC h s0 8) fun _ =>
  bd1 (f_M_needs s0 s1 (5 : Int32) h) fun h24 =>
  bd1 (kC h24 b0 8) fun _ =>
  bd1 (f_M_next b0 h24) fun h28 =>
  bd1 (gI h28 b0 8 25) fun x30 =>
  if x30 ≤ 0 then
    bd1 (kC h28 b0 8) fun _ =>
    bd1 (f_M_readLineOf b0 b1 h28) fun h34 =>
    bd1 (gI h34 b0 8 25) fun x36 =>
    if x36 = 0 then
      bd1 (gI h34 b0 8 23) fun x38 =>
      if x38 = (3 : Int32) then
        f_M_readLine_107  b0 b0 (1 : Int32) h34
      else
        f_M_readLine_107  b0 b0 (0 : Int32) h34
    else
      f_M_readLine_111  b0 h34
  else
    some h28
set_option maxRecDepth 20000 in
theorem t_M_readLine_65  (b0 : Nat) (b1 : Int32) (s0 : Nat) (s1 : Int32) (h : mH) (h' : mH) (hf : f_M_readLine_65  b0 b1 s0 s1 h = some h') : G y_M_readLine prog_10_method_20_code 2 none 5 115 65 [(0, .ref b0), (1, .int b1)] [.int s1, .ref s0] h none h' := by
  unfold f_M_readLine_65 at hf
  refine g_iconst (pc := 65) (5 : Int32) d_M_readLine_65 (by decide) ?_
  obtain ⟨u23, e22, hf⟩ := bd1_e hf
  obtain ⟨h24, e25, hf⟩ := bd1_e hf
  refine g_callV (pc := 66) (ci := 8) [.int s1, .int (5 : Int32)] (site_of si_M_needs (by decide) (by decide)) wd_1084 wd_1086 wp_34 d_M_readLine_66 rfl e22 (Nat.le_of_ble_eq_true rfl) (fun z => absurd z (by decide)) (fun z => absurd z (by decide)) (fun z => absurd z (by decide)) (c_M_needs e25) rfl ?_
  refine g_st [] rfl ?_
  refine g_aload_n (pc := 69) 0 d_M_readLine_69 rfl rfl ?_
  obtain ⟨u27, e26, hf⟩ := bd1_e hf
  obtain ⟨h28, e29, hf⟩ := bd1_e hf
  refine g_callV (pc := 70) (ci := 8) [] (site_of si_M_next (by decide) (by decide)) wd_1072 wd_1074 wp_32 d_M_readLine_70 rfl e26 (Nat.le_of_ble_eq_true rfl) (fun z => absurd z (by decide)) (fun z => absurd z (by decide)) (fun z => absurd z (by decide)) (c_M_next e29) rfl ?_
  refine g_st [] rfl ?_
  refine g_aload_n (pc := 73) 0 d_M_readLine_73 rfl rfl ?_
  obtain ⟨x30, e31, hf⟩ := bd1_e hf
  refine g_get (pc := 74) (ci := 8) (kk := 25) d_M_readLine_74 rfl in_M (by decide) wd_963 (gI_spec e31) ?_
  refine g_ifle (pc := 77) 81 d_M_readLine_77 (by decide) (fun c42 => ?_) (fun c42 => ?_)
  · replace hf := (if_pos c42).symm.trans hf
    refine g_aload_n (pc := 81) 0 d_M_readLine_81 rfl rfl ?_
    refine g_iload_n (pc := 82) 1 d_M_readLine_82 rfl rfl ?_
    obtain ⟨u33, e32, hf⟩ := bd1_e hf
    obtain ⟨h34, e35, hf⟩ := bd1_e hf
    refine g_callV (pc := 83) (ci := 8) [.int b1] (site_of si_M_readLineOf (by decide) (by decide)) wd_1100 wd_1102 wp_38 d_M_readLine_83 rfl e32 (Nat.le_of_ble_eq_true rfl) (fun z => absurd z (by decide)) (fun z => absurd z (by decide)) (fun z => absurd z (by decide)) (c_M_readLineOf e35) rfl ?_
    refine g_st [] rfl ?_
    refine g_aload_n (pc := 86) 0 d_M_readLine_86 rfl rfl ?_
    obtain ⟨x36, e37, hf⟩ := bd1_e hf
    refine g_get (pc := 87) (ci := 8) (kk := 25) d_M_readLine_87 rfl in_M (by decide) wd_963 (gI_spec e37) ?_
    refine g_ifne (pc := 90) 111 d_M_readLine_90 (by decide) (fun c41 => ?_) (fun c41 => ?_)
    · replace hf := (if_neg c41).symm.trans hf
      refine g_lv [0] rfl ?_
      exact t_M_readLine_111  _ _ _  hf
    · replace hf := (if_pos c41).symm.trans hf
      refine g_aload_n (pc := 93) 0 d_M_readLine_93 rfl rfl ?_
      refine g_aload_n (pc := 94) 0 d_M_readLine_94 rfl rfl ?_
      obtain ⟨x38, e39, hf⟩ := bd1_e hf
      refine g_get (pc := 95) (ci := 8) (kk := 23) d_M_readLine_95 rfl in_M (by decide) wd_961 (gI_spec e39) ?_
      refine g_iconst (pc := 98) (3 : Int32) d_M_readLine_98 (by decide) ?_
      refine g_icmpne (pc := 99) 106 d_M_readLine_99 (by decide) (fun c40 => ?_) (fun c40 => ?_)
      · replace hf := (if_neg c40).symm.trans hf
        refine g_iconst (pc := 106) (0 : Int32) d_M_readLine_106 (by decide) ?_
        refine g_lv [0] rfl ?_
        exact t_M_readLine_107  _ _ _ _ _  hf
      · replace hf := (if_pos c40).symm.trans hf
        refine g_iconst (pc := 102) (1 : Int32) d_M_readLine_102 (by decide) ?_
        refine g_goto (pc := 103) 107 d_M_readLine_103 (by decide) ?_
        refine g_lv [0] rfl ?_
        exact t_M_readLine_107  _ _ _ _ _  hf
  · replace hf := (if_neg c42).symm.trans hf
    obtain rfl := ret1 hf
    exact g_vret (pc := 80) rfl d_M_readLine_80
def f_M_readLine_64  (b0 : Nat) (b1 : Int32) (s0 : Nat) (h : mH) : Option mH :=
  f_M_readLine_65  b0 b1 s0 (0 : Int32) h
set_option maxRecDepth 20000 in
theorem t_M_readLine_64  (b0 : Nat) (b1 : Int32) (s0 : Nat) (h : mH) (h' : mH) (hf : f_M_readLine_64  b0 b1 s0 h = some h') : G y_M_readLine prog_10_method_20_code 2 none 5 115 64 [(0, .ref b0), (1, .int b1)] [.ref s0] h none h' := by
  unfold f_M_readLine_64 at hf
  refine g_iconst (pc := 64) (0 : Int32) d_M_readLine_64 (by decide) ?_
  refine g_lv [0, 1] rfl ?_
  exact t_M_readLine_65  _ _ _ _ _ _  hf
def f_M_readLine_60  (b0 : Nat) (b1 : Int32) (s0 : Nat) (h : mH) : Option mH :=
  f_M_readLine_65  b0 b1 s0 (1 : Int32) h
set_option maxRecDepth 20000 in
theorem t_M_readLine_60  (b0 : Nat) (b1 : Int32) (s0 : Nat) (h : mH) (h' : mH) (hf : f_M_readLine_60  b0 b1 s0 h = some h') : G y_M_readLine prog_10_method_20_code 2 none 5 115 60 [(0, .ref b0), (1, .int b1)] [.ref s0] h none h' := by
  unfold f_M_readLine_60 at hf
  refine g_iconst (pc := 60) (1 : Int32) d_M_readLine_60 (by decide) ?_
  refine g_goto (pc := 61) 65 d_M_readLine_61 (by decide) ?_
  refine g_lv [0, 1] rfl ?_
  exact t_M_readLine_65  _ _ _ _ _ _  hf
def f_M_readLine_47  (b0 : Nat) (b1 : Int32) (s0 : Nat) (h : mH) : Option mH :=
  if b1 = (1 : Int32) then
    bd1 (gI h b0 8 11) fun x18 =>
    if (3 : Int32) ≤ x18 then
      f_M_readLine_64  b0 b1 s0 h
    else
      f_M_readLine_60  b0 b1 s0 h
  else
    f_M_readLine_60  b0 b1 s0 h
set_option maxRecDepth 20000 in
theorem t_M_readLine_47  (b0 : Nat) (b1 : Int32) (s0 : Nat) (h : mH) (h' : mH) (hf : f_M_readLine_47  b0 b1 s0 h = some h') : G y_M_readLine prog_10_method_20_code 2 none 5 115 47 [(0, .ref b0), (1, .int b1)] [.ref s0] h none h' := by
  unfold f_M_readLine_47 at hf
  refine g_iload_n (pc := 47) 1 d_M_readLine_47 rfl rfl ?_
  refine g_iconst (pc := 48) (1 : Int32) d_M_readLine_48 (by decide) ?_
  refine g_icmpne (pc := 49) 60 d_M_readLine_49 (by decide) (fun c21 => ?_) (fun c21 => ?_)
  · replace hf := (if_neg c21).symm.trans hf
    refine g_lv [0, 1] rfl ?_
    exact t_M_readLine_60  _ _ _ _ _  hf
  · replace hf := (if_pos c21).symm.trans hf
    refine g_aload_n (pc := 52) 0 d_M_readLine_52 rfl rfl ?_
    obtain ⟨x18, e19, hf⟩ := bd1_e hf
    refine g_get (pc := 53) (ci := 8) (kk := 11) d_M_readLine_53 rfl in_M (by decide) wd_949 (gI_spec e19) ?_
    refine g_iconst (pc := 56) (3 : Int32) d_M_readLine_56 (by decide) ?_
    refine g_icmpge (pc := 57) 64 d_M_readLine_57 (by decide) (fun c20 => ?_) (fun c20 => ?_)
    · replace hf := (if_pos c20).symm.trans hf
      refine g_lv [0, 1] rfl ?_
      exact t_M_readLine_64  _ _ _ _ _  hf
    · replace hf := (if_neg c20).symm.trans hf
      refine g_lv [0, 1] rfl ?_
      exact t_M_readLine_60  _ _ _ _ _  hf
def f_M_readLine_30  (b0 : Nat) (b1 : Int32) (s0 : Nat) (s1 : Int32) (h : mH) : Option mH :=
  bd1 (kC h s0 8) fun _ =>
  bd1 (f_M_needs s0 s1 (2 : Int32) h) fun h12 =>
  if b1 = 0 then
    bd1 (gI h12 b0 8 10) fun x14 =>
    if (5 : Int32) ≤ x14 then
      f_M_readLine_64  b0 b1 b0 h12
    else
      f_M_readLine_47  b0 b1 b0 h12
  else
    f_M_readLine_47  b0 b1 b0 h12
set_option maxRecDepth 20000 in
theorem t_M_readLine_30  (b0 : Nat) (b1 : Int32) (s0 : Nat) (s1 : Int32) (h : mH) (h' : mH) (hf : f_M_readLine_30  b0 b1 s0 s1 h = some h') : G y_M_readLine prog_10_method_20_code 2 none 5 115 30 [(0, .ref b0), (1, .int b1)] [.int s1, .ref s0] h none h' := by
  unfold f_M_readLine_30 at hf
  refine g_iconst (pc := 30) (2 : Int32) d_M_readLine_30 (by decide) ?_
  obtain ⟨u11, e10, hf⟩ := bd1_e hf
  obtain ⟨h12, e13, hf⟩ := bd1_e hf
  refine g_callV (pc := 31) (ci := 8) [.int s1, .int (2 : Int32)] (site_of si_M_needs (by decide) (by decide)) wd_1084 wd_1086 wp_34 d_M_readLine_31 rfl e10 (Nat.le_of_ble_eq_true rfl) (fun z => absurd z (by decide)) (fun z => absurd z (by decide)) (fun z => absurd z (by decide)) (c_M_needs e13) rfl ?_
  refine g_st [] rfl ?_
  refine g_aload_n (pc := 34) 0 d_M_readLine_34 rfl rfl ?_
  refine g_iload_n (pc := 35) 1 d_M_readLine_35 rfl rfl ?_
  refine g_ifne (pc := 36) 47 d_M_readLine_36 (by decide) (fun c17 => ?_) (fun c17 => ?_)
  · replace hf := (if_neg c17).symm.trans hf
    refine g_lv [0, 1] rfl ?_
    exact t_M_readLine_47  _ _ _ _ _  hf
  · replace hf := (if_pos c17).symm.trans hf
    refine g_aload_n (pc := 39) 0 d_M_readLine_39 rfl rfl ?_
    obtain ⟨x14, e15, hf⟩ := bd1_e hf
    refine g_get (pc := 40) (ci := 8) (kk := 10) d_M_readLine_40 rfl in_M (by decide) wd_948 (gI_spec e15) ?_
    refine g_iconst (pc := 43) (5 : Int32) d_M_readLine_43 (by decide) ?_
    refine g_icmpge (pc := 44) 64 d_M_readLine_44 (by decide) (fun c16 => ?_) (fun c16 => ?_)
    · replace hf := (if_pos c16).symm.trans hf
      refine g_lv [0, 1] rfl ?_
      exact t_M_readLine_64  _ _ _ _ _  hf
    · replace hf := (if_neg c16).symm.trans hf
      refine g_lv [0, 1] rfl ?_
      exact t_M_readLine_47  _ _ _ _ _  hf
def f_M_readLine_17  (b0 : Nat) (s0 : Int32) (h : mH) : Option mH :=
  if s0 = ((-4) : Int32) then
    f_M_readLine_30  b0 s0 b0 (0 : Int32) h
  else
    f_M_readLine_30  b0 s0 b0 (1 : Int32) h
set_option maxRecDepth 20000 in
theorem t_M_readLine_17  (b0 : Nat) (s0 : Int32) (h : mH) (h' : mH) (hf : f_M_readLine_17  b0 s0 h = some h') : G y_M_readLine prog_10_method_20_code 2 none 5 115 17 [(0, .ref b0)] [.int s0] h none h' := by
  unfold f_M_readLine_17 at hf
  refine g_istore_n (pc := 17) [(1, .int s0), (0, .ref b0)] d_M_readLine_17 rfl (Nat.le_of_ble_eq_true rfl) rfl ?_
  refine g_aload_n (pc := 18) 1 d_M_readLine_18 rfl rfl ?_
  refine g_iload_n (pc := 19) 0 d_M_readLine_19 rfl rfl ?_
  refine g_bipush (pc := 20) ((-4) : Int32) d_M_readLine_20 (by decide) ?_
  refine g_icmpeq (pc := 22) 29 d_M_readLine_22 (by decide) (fun c9 => ?_) (fun c9 => ?_)
  · replace hf := (if_pos c9).symm.trans hf
    refine g_iconst (pc := 29) (0 : Int32) d_M_readLine_29 (by decide) ?_
    refine g_lv [1, 0] rfl ?_
    exact t_M_readLine_30  _ _ _ _ _ _  hf
  · replace hf := (if_neg c9).symm.trans hf
    refine g_iconst (pc := 25) (1 : Int32) d_M_readLine_25 (by decide) ?_
    refine g_goto (pc := 26) 30 d_M_readLine_26 (by decide) ?_
    refine g_lv [1, 0] rfl ?_
    exact t_M_readLine_30  _ _ _ _ _ _  hf
def f_M_readLine_0  (a0 : Nat) (h : mH) : Option mH :=
  bd1 (gI h a0 8 23) fun x1 =>
  if x1 = (1 : Int32) then
    bd1 (kC h a0 8) fun _ =>
    bd2 (f_M_lineNow a0 h) fun x7 h5 =>
    f_M_readLine_17  a0 x7 h5
  else
    f_M_readLine_17  a0 ((-4) : Int32) h
set_option maxRecDepth 20000 in
theorem t_M_readLine_0  (a0 : Nat) (h : mH) (h' : mH) (hf : f_M_readLine_0  a0 h = some h') : G y_M_readLine prog_10_method_20_code 2 none 5 115 0 [(0, .ref a0)] [] h none h' := by
  unfold f_M_readLine_0 at hf
  refine g_aload_n (pc := 0) 0 d_M_readLine_0 rfl rfl ?_
  obtain ⟨x1, e2, hf⟩ := bd1_e hf
  refine g_get (pc := 1) (ci := 8) (kk := 23) d_M_readLine_1 rfl in_M (by decide) wd_961 (gI_spec e2) ?_
  refine g_iconst (pc := 4) (1 : Int32) d_M_readLine_4 (by decide) ?_
  refine g_icmpne (pc := 5) 15 d_M_readLine_5 (by decide) (fun c8 => ?_) (fun c8 => ?_)
  · replace hf := (if_neg c8).symm.trans hf
    refine g_bipush (pc := 15) ((-4) : Int32) d_M_readLine_15 (by decide) ?_
    refine g_lv [0] rfl ?_
    exact t_M_readLine_17  _ _ _ _  hf
  · replace hf := (if_pos c8).symm.trans hf
    refine g_aload_n (pc := 8) 0 d_M_readLine_8 rfl rfl ?_
    obtain ⟨u4, e3, hf⟩ := bd1_e hf
    obtain ⟨x7, h5, e6, hf⟩ := bd2_e hf
    refine g_callV (pc := 9) (ci := 8) [] (site_of si_M_lineNow (by decide) (by decide)) wd_1092 wd_1094 wp_36 d_M_readLine_9 rfl e3 (Nat.le_of_ble_eq_true rfl) (fun z => absurd z (by decide)) (fun z => absurd z (by decide)) (fun z => absurd z (by decide)) (c_M_lineNow e6) rfl ?_
    refine g_st [.int x7] rfl ?_
    refine g_goto (pc := 12) 17 d_M_readLine_12 (by decide) ?_
    refine g_lv [0] rfl ?_
    exact t_M_readLine_17  _ _ _ _  hf
def f_M_readLine (a0 : Nat) (h : mH) : Option mH := f_M_readLine_0 a0 h
theorem c_M_readLine {a0 : Nat} {h : mH} {h' : mH} (hf : f_M_readLine a0 h = some h') : MM y_M_readLine prog_10_method_20_code 2 none 5 115 [.ref a0] h none h' :=
  mm_of_G (by decide) (Nat.le_of_ble_eq_true rfl) (t_M_readLine_0 _ _ _ hf)
end
section
/-! Reader init ()V -/
theorem d_Reader_new_0 : decode prog_4_method_1_code 0 = .ok (.aload_n 0, 1) := by decide +kernel
theorem d_Reader_new_1 : decode prog_4_method_1_code 1 = .ok (.invokespecial 3, 3) := by decide +kernel
theorem d_Reader_new_4 : decode prog_4_method_1_code 4 = .ok (.aload_n 0, 1) := by decide +kernel
theorem d_Reader_new_5 : decode prog_4_method_1_code 5 = .ok (.sipush 160, 3) := by decide +kernel
theorem d_Reader_new_8 : decode prog_4_method_1_code 8 = .ok (.newarray .byte, 2) := by decide +kernel
theorem d_Reader_new_10 : decode prog_4_method_1_code 10 = .ok (.putfield 9, 3) := by decide +kernel
theorem d_Reader_new_13 : decode prog_4_method_1_code 13 = .ok (.return_, 1) := by decide +kernel
def f_Reader_new_0  (a0 : Nat) (h : mH) : Option mH :=
  grd (¬ a0 = h.1) <|
  bd1 (mkn h 160 (.inl (1, (160, .inl (fun _ => 0))))) fun h2 =>
  grd (h.1 < h2.1) <|
  bd1 (pV h2 a0 3 0 (.ref h.1)) fun h6 =>
  some h6
set_option maxRecDepth 20000 in
theorem t_Reader_new_0  (a0 : Nat) (h : mH) (h' : mH) (hf : f_Reader_new_0  a0 h = some h') : G y_Reader_new prog_4_method_1_code 1 none 1 20 0 [(0, .ref a0)] [] h none h' := by
  unfold f_Reader_new_0 at hf
  refine g_aload_n (pc := 0) 0 d_Reader_new_0 rfl rfl ?_
  refine g_objInit (pc := 1) d_Reader_new_1 wd_31 wd_24 wd_25 (by decide) (Nat.le_of_ble_eq_true rfl) ?_
  refine g_aload_n (pc := 4) 0 d_Reader_new_4 rfl rfl ?_
  refine g_sipush (pc := 5) (160 : Int32) d_Reader_new_5 (by decide) ?_
  obtain ⟨g1, hf⟩ := grd_e hf
  obtain ⟨h2, e3, hf⟩ := bd1_e hf
  obtain ⟨g4, e5⟩ := mkn_e e3
  refine g_newa (pc := 8) rfl 1 160 .byte (160, .inl (fun _ => 0)) wd_64 rfl (fun _ => rfl) (fun _ _ _ a b => Option.some.inj (a.symm.trans b)) (fun _ => rfl) (fun _ => rfl) (fun _ z => absurd z id) (by decide) (by decide) (by decide) d_Reader_new_8 g4 (okl_cons (okv_r (by omega)) (okl_nil)) (oks_cons (okv_r (by omega)) (oks_nil)) ?_
  rw [← e5]
  have h2_n : h2.1 = h.1 + 1 := by rw [e5]; rfl
  obtain ⟨g8, hf⟩ := grd_e hf
  obtain ⟨h6, e7, hf⟩ := bd1_e hf
  refine g_putF (pc := 10) (ci := 3) (kk := 0) ty_Reader tyok_Reader nm_Reader d_Reader_new_10 rfl in_Reader (by decide) wd_32 rfl rfl rfl (fun _ => rfl) (fun _ => rfl) (fun _ z => by cases z; omega) e7 ?_
  obtain rfl := ret1 hf
  exact g_vret (pc := 13) rfl d_Reader_new_13
def f_Reader_new (a0 : Nat) (h : mH) : Option mH := f_Reader_new_0 a0 h
theorem c_Reader_new {a0 : Nat} {h : mH} {h' : mH} (hf : f_Reader_new a0 h = some h') : MM y_Reader_new prog_4_method_1_code 1 none 1 20 [.ref a0] h none h' :=
  mm_of_G (by decide) (Nat.le_of_ble_eq_true rfl) (t_Reader_new_0 _ _ _ hf)
/-! Sightings init ()V -/
theorem d_Sightings_new_0 : decode prog_7_method_1_code 0 = .ok (.aload_n 0, 1) := by decide +kernel
theorem d_Sightings_new_1 : decode prog_7_method_1_code 1 = .ok (.invokespecial 3, 3) := by decide +kernel
theorem d_Sightings_new_4 : decode prog_7_method_1_code 4 = .ok (.aload_n 0, 1) := by decide +kernel
theorem d_Sightings_new_5 : decode prog_7_method_1_code 5 = .ok (.bipush 8, 2) := by decide +kernel
theorem d_Sightings_new_7 : decode prog_7_method_1_code 7 = .ok (.newarray .int, 2) := by decide +kernel
theorem d_Sightings_new_9 : decode prog_7_method_1_code 9 = .ok (.putfield 9, 3) := by decide +kernel
theorem d_Sightings_new_12 : decode prog_7_method_1_code 12 = .ok (.aload_n 0, 1) := by decide +kernel
theorem d_Sightings_new_13 : decode prog_7_method_1_code 13 = .ok (.bipush 8, 2) := by decide +kernel
theorem d_Sightings_new_15 : decode prog_7_method_1_code 15 = .ok (.newarray .int, 2) := by decide +kernel
theorem d_Sightings_new_17 : decode prog_7_method_1_code 17 = .ok (.putfield 15, 3) := by decide +kernel
theorem d_Sightings_new_20 : decode prog_7_method_1_code 20 = .ok (.aload_n 0, 1) := by decide +kernel
theorem d_Sightings_new_21 : decode prog_7_method_1_code 21 = .ok (.bipush 8, 2) := by decide +kernel
theorem d_Sightings_new_23 : decode prog_7_method_1_code 23 = .ok (.newarray .int, 2) := by decide +kernel
theorem d_Sightings_new_25 : decode prog_7_method_1_code 25 = .ok (.putfield 18, 3) := by decide +kernel
theorem d_Sightings_new_28 : decode prog_7_method_1_code 28 = .ok (.return_, 1) := by decide +kernel
def f_Sightings_new_0  (a0 : Nat) (h : mH) : Option mH :=
  grd (¬ a0 = h.1) <|
  bd1 (mkn h 8 (.inl (0, (8, .inl (fun _ => 0))))) fun h2 =>
  grd (h.1 < h2.1) <|
  bd1 (pV h2 a0 6 1 (.ref h.1)) fun h6 =>
  grd (¬ a0 = h6.1) <|
  bd1 (mkn h6 8 (.inl (0, (8, .inl (fun _ => 0))))) fun h10 =>
  grd (h6.1 < h10.1) <|
  bd1 (pV h10 a0 6 2 (.ref h6.1)) fun h14 =>
  grd (¬ a0 = h14.1) <|
  bd1 (mkn h14 8 (.inl (0, (8, .inl (fun _ => 0))))) fun h18 =>
  grd (h14.1 < h18.1) <|
  bd1 (pV h18 a0 6 3 (.ref h14.1)) fun h22 =>
  some h22
set_option maxRecDepth 20000 in
theorem t_Sightings_new_0  (a0 : Nat) (h : mH) (h' : mH) (hf : f_Sightings_new_0  a0 h = some h') : G y_Sightings_new prog_7_method_1_code 1 none 1 20 0 [(0, .ref a0)] [] h none h' := by
  unfold f_Sightings_new_0 at hf
  refine g_aload_n (pc := 0) 0 d_Sightings_new_0 rfl rfl ?_
  refine g_objInit (pc := 1) d_Sightings_new_1 wd_76 wd_24 wd_25 (by decide) (Nat.le_of_ble_eq_true rfl) ?_
  refine g_aload_n (pc := 4) 0 d_Sightings_new_4 rfl rfl ?_
  refine g_bipush (pc := 5) (8 : Int32) d_Sightings_new_5 (by decide) ?_
  obtain ⟨g1, hf⟩ := grd_e hf
  obtain ⟨h2, e3, hf⟩ := bd1_e hf
  obtain ⟨g4, e5⟩ := mkn_e e3
  refine g_newa (pc := 7) rfl 0 8 .int (8, .inl (fun _ => 0)) wd_92 rfl (fun _ => rfl) (fun _ _ _ a b => Option.some.inj (a.symm.trans b)) (fun _ => rfl) (fun _ => rfl) (fun _ z => absurd z id) (by decide) (by decide) (by decide) d_Sightings_new_7 g4 (okl_cons (okv_r (by omega)) (okl_nil)) (oks_cons (okv_r (by omega)) (oks_nil)) ?_
  rw [← e5]
  have h2_n : h2.1 = h.1 + 1 := by rw [e5]; rfl
  obtain ⟨g8, hf⟩ := grd_e hf
  obtain ⟨h6, e7, hf⟩ := bd1_e hf
  refine g_putF (pc := 9) (ci := 6) (kk := 1) ty_Sightings tyok_Sightings nm_Sightings d_Sightings_new_9 rfl in_Sightings (by decide) wd_80 rfl rfl rfl (fun _ => rfl) (fun _ => rfl) (fun _ z => by cases z; omega) e7 ?_
  refine g_aload_n (pc := 12) 0 d_Sightings_new_12 rfl rfl ?_
  refine g_bipush (pc := 13) (8 : Int32) d_Sightings_new_13 (by decide) ?_
  obtain ⟨g9, hf⟩ := grd_e hf
  obtain ⟨h10, e11, hf⟩ := bd1_e hf
  obtain ⟨g12, e13⟩ := mkn_e e11
  refine g_newa (pc := 15) rfl 0 8 .int (8, .inl (fun _ => 0)) wd_92 rfl (fun _ => rfl) (fun _ _ _ a b => Option.some.inj (a.symm.trans b)) (fun _ => rfl) (fun _ => rfl) (fun _ z => absurd z id) (by decide) (by decide) (by decide) d_Sightings_new_15 g12 (okl_cons (okv_r (by omega)) (okl_nil)) (oks_cons (okv_r (by omega)) (oks_nil)) ?_
  rw [← e13]
  have h10_n : h10.1 = h6.1 + 1 := by rw [e13]; rfl
  obtain ⟨g16, hf⟩ := grd_e hf
  obtain ⟨h14, e15, hf⟩ := bd1_e hf
  refine g_putF (pc := 17) (ci := 6) (kk := 2) ty_Sightings tyok_Sightings nm_Sightings d_Sightings_new_17 rfl in_Sightings (by decide) wd_81 rfl rfl rfl (fun _ => rfl) (fun _ => rfl) (fun _ z => by cases z; omega) e15 ?_
  refine g_aload_n (pc := 20) 0 d_Sightings_new_20 rfl rfl ?_
  refine g_bipush (pc := 21) (8 : Int32) d_Sightings_new_21 (by decide) ?_
  obtain ⟨g17, hf⟩ := grd_e hf
  obtain ⟨h18, e19, hf⟩ := bd1_e hf
  obtain ⟨g20, e21⟩ := mkn_e e19
  refine g_newa (pc := 23) rfl 0 8 .int (8, .inl (fun _ => 0)) wd_92 rfl (fun _ => rfl) (fun _ _ _ a b => Option.some.inj (a.symm.trans b)) (fun _ => rfl) (fun _ => rfl) (fun _ z => absurd z id) (by decide) (by decide) (by decide) d_Sightings_new_23 g20 (okl_cons (okv_r (by omega)) (okl_nil)) (oks_cons (okv_r (by omega)) (oks_nil)) ?_
  rw [← e21]
  have h18_n : h18.1 = h14.1 + 1 := by rw [e21]; rfl
  obtain ⟨g24, hf⟩ := grd_e hf
  obtain ⟨h22, e23, hf⟩ := bd1_e hf
  refine g_putF (pc := 25) (ci := 6) (kk := 3) ty_Sightings tyok_Sightings nm_Sightings d_Sightings_new_25 rfl in_Sightings (by decide) wd_82 rfl rfl rfl (fun _ => rfl) (fun _ => rfl) (fun _ z => by cases z; omega) e23 ?_
  obtain rfl := ret1 hf
  exact g_vret (pc := 28) rfl d_Sightings_new_28
def f_Sightings_new (a0 : Nat) (h : mH) : Option mH := f_Sightings_new_0 a0 h
theorem c_Sightings_new {a0 : Nat} {h : mH} {h' : mH} (hf : f_Sightings_new a0 h = some h') : MM y_Sightings_new prog_7_method_1_code 1 none 1 20 [.ref a0] h none h' :=
  mm_of_G (by decide) (Nat.le_of_ble_eq_true rfl) (t_Sightings_new_0 _ _ _ hf)
/-! Realm init ()V -/
theorem d_Realm_new_0 : decode prog_5_method_1_code 0 = .ok (.aload_n 0, 1) := by decide +kernel
theorem d_Realm_new_1 : decode prog_5_method_1_code 1 = .ok (.invokespecial 3, 3) := by decide +kernel
theorem d_Realm_new_4 : decode prog_5_method_1_code 4 = .ok (.aload_n 0, 1) := by decide +kernel
theorem d_Realm_new_5 : decode prog_5_method_1_code 5 = .ok (.iconst 5, 1) := by decide +kernel
theorem d_Realm_new_6 : decode prog_5_method_1_code 6 = .ok (.newarray .int, 2) := by decide +kernel
theorem d_Realm_new_8 : decode prog_5_method_1_code 8 = .ok (.putfield 9, 3) := by decide +kernel
theorem d_Realm_new_11 : decode prog_5_method_1_code 11 = .ok (.aload_n 0, 1) := by decide +kernel
theorem d_Realm_new_12 : decode prog_5_method_1_code 12 = .ok (.iconst 5, 1) := by decide +kernel
theorem d_Realm_new_13 : decode prog_5_method_1_code 13 = .ok (.newarray .int, 2) := by decide +kernel
theorem d_Realm_new_15 : decode prog_5_method_1_code 15 = .ok (.putfield 15, 3) := by decide +kernel
theorem d_Realm_new_18 : decode prog_5_method_1_code 18 = .ok (.aload_n 0, 1) := by decide +kernel
theorem d_Realm_new_19 : decode prog_5_method_1_code 19 = .ok (.iconst 5, 1) := by decide +kernel
theorem d_Realm_new_20 : decode prog_5_method_1_code 20 = .ok (.newarray .int, 2) := by decide +kernel
theorem d_Realm_new_22 : decode prog_5_method_1_code 22 = .ok (.putfield 18, 3) := by decide +kernel
theorem d_Realm_new_25 : decode prog_5_method_1_code 25 = .ok (.aload_n 0, 1) := by decide +kernel
theorem d_Realm_new_26 : decode prog_5_method_1_code 26 = .ok (.iconst 5, 1) := by decide +kernel
theorem d_Realm_new_27 : decode prog_5_method_1_code 27 = .ok (.newarray .int, 2) := by decide +kernel
theorem d_Realm_new_29 : decode prog_5_method_1_code 29 = .ok (.putfield 21, 3) := by decide +kernel
theorem d_Realm_new_32 : decode prog_5_method_1_code 32 = .ok (.aload_n 0, 1) := by decide +kernel
theorem d_Realm_new_33 : decode prog_5_method_1_code 33 = .ok (.iconst 5, 1) := by decide +kernel
theorem d_Realm_new_34 : decode prog_5_method_1_code 34 = .ok (.newarray .int, 2) := by decide +kernel
theorem d_Realm_new_36 : decode prog_5_method_1_code 36 = .ok (.putfield 24, 3) := by decide +kernel
theorem d_Realm_new_39 : decode prog_5_method_1_code 39 = .ok (.aload_n 0, 1) := by decide +kernel
theorem d_Realm_new_40 : decode prog_5_method_1_code 40 = .ok (.iconst 3, 1) := by decide +kernel
theorem d_Realm_new_41 : decode prog_5_method_1_code 41 = .ok (.newarray .int, 2) := by decide +kernel
theorem d_Realm_new_43 : decode prog_5_method_1_code 43 = .ok (.putfield 27, 3) := by decide +kernel
theorem d_Realm_new_46 : decode prog_5_method_1_code 46 = .ok (.aload_n 0, 1) := by decide +kernel
theorem d_Realm_new_47 : decode prog_5_method_1_code 47 = .ok (.iconst 3, 1) := by decide +kernel
theorem d_Realm_new_48 : decode prog_5_method_1_code 48 = .ok (.newarray .int, 2) := by decide +kernel
theorem d_Realm_new_50 : decode prog_5_method_1_code 50 = .ok (.putfield 30, 3) := by decide +kernel
theorem d_Realm_new_53 : decode prog_5_method_1_code 53 = .ok (.aload_n 0, 1) := by decide +kernel
theorem d_Realm_new_54 : decode prog_5_method_1_code 54 = .ok (.iconst 3, 1) := by decide +kernel
theorem d_Realm_new_55 : decode prog_5_method_1_code 55 = .ok (.newarray .int, 2) := by decide +kernel
theorem d_Realm_new_57 : decode prog_5_method_1_code 57 = .ok (.putfield 33, 3) := by decide +kernel
theorem d_Realm_new_60 : decode prog_5_method_1_code 60 = .ok (.aload_n 0, 1) := by decide +kernel
theorem d_Realm_new_61 : decode prog_5_method_1_code 61 = .ok (.iconst 3, 1) := by decide +kernel
theorem d_Realm_new_62 : decode prog_5_method_1_code 62 = .ok (.newarray .int, 2) := by decide +kernel
theorem d_Realm_new_64 : decode prog_5_method_1_code 64 = .ok (.putfield 36, 3) := by decide +kernel
theorem d_Realm_new_67 : decode prog_5_method_1_code 67 = .ok (.aload_n 0, 1) := by decide +kernel
theorem d_Realm_new_68 : decode prog_5_method_1_code 68 = .ok (.iconst 3, 1) := by decide +kernel
theorem d_Realm_new_69 : decode prog_5_method_1_code 69 = .ok (.newarray .int, 2) := by decide +kernel
theorem d_Realm_new_71 : decode prog_5_method_1_code 71 = .ok (.putfield 39, 3) := by decide +kernel
theorem d_Realm_new_74 : decode prog_5_method_1_code 74 = .ok (.aload_n 0, 1) := by decide +kernel
theorem d_Realm_new_75 : decode prog_5_method_1_code 75 = .ok (.iconst 3, 1) := by decide +kernel
theorem d_Realm_new_76 : decode prog_5_method_1_code 76 = .ok (.newarray .int, 2) := by decide +kernel
theorem d_Realm_new_78 : decode prog_5_method_1_code 78 = .ok (.putfield 42, 3) := by decide +kernel
theorem d_Realm_new_81 : decode prog_5_method_1_code 81 = .ok (.aload_n 0, 1) := by decide +kernel
theorem d_Realm_new_82 : decode prog_5_method_1_code 82 = .ok (.bipush 15, 2) := by decide +kernel
theorem d_Realm_new_84 : decode prog_5_method_1_code 84 = .ok (.newarray .int, 2) := by decide +kernel
theorem d_Realm_new_86 : decode prog_5_method_1_code 86 = .ok (.putfield 45, 3) := by decide +kernel
theorem d_Realm_new_89 : decode prog_5_method_1_code 89 = .ok (.aload_n 0, 1) := by decide +kernel
theorem d_Realm_new_90 : decode prog_5_method_1_code 90 = .ok (.new 48, 3) := by decide +kernel
theorem d_Realm_new_93 : decode prog_5_method_1_code 93 = .ok (.dup, 1) := by decide +kernel
theorem d_Realm_new_94 : decode prog_5_method_1_code 94 = .ok (.invokespecial 50, 3) := by decide +kernel
theorem d_Realm_new_97 : decode prog_5_method_1_code 97 = .ok (.putfield 51, 3) := by decide +kernel
theorem d_Realm_new_100 : decode prog_5_method_1_code 100 = .ok (.return_, 1) := by decide +kernel
def f_Realm_new_0  (a0 : Nat) (h : mH) : Option mH :=
  grd (¬ a0 = h.1) <|
  bd1 (mkn h 5 (.inl (0, (5, .inl (fun _ => 0))))) fun h2 =>
  grd (h.1 < h2.1) <|
  bd1 (pV h2 a0 4 6 (.ref h.1)) fun h6 =>
  grd (¬ a0 = h6.1) <|
  bd1 (mkn h6 5 (.inl (0, (5, .inl (fun _ => 0))))) fun h10 =>
  grd (h6.1 < h10.1) <|
  bd1 (pV h10 a0 4 7 (.ref h6.1)) fun h14 =>
  grd (¬ a0 = h14.1) <|
  bd1 (mkn h14 5 (.inl (0, (5, .inl (fun _ => 0))))) fun h18 =>
  grd (h14.1 < h18.1) <|
  bd1 (pV h18 a0 4 8 (.ref h14.1)) fun h22 =>
  grd (¬ a0 = h22.1) <|
  bd1 (mkn h22 5 (.inl (0, (5, .inl (fun _ => 0))))) fun h26 =>
  grd (h22.1 < h26.1) <|
  bd1 (pV h26 a0 4 9 (.ref h22.1)) fun h30 =>
  grd (¬ a0 = h30.1) <|
  bd1 (mkn h30 5 (.inl (0, (5, .inl (fun _ => 0))))) fun h34 =>
  grd (h30.1 < h34.1) <|
  bd1 (pV h34 a0 4 10 (.ref h30.1)) fun h38 =>
  grd (¬ a0 = h38.1) <|
  bd1 (mkn h38 3 (.inl (0, (3, .inl (fun _ => 0))))) fun h42 =>
  grd (h38.1 < h42.1) <|
  bd1 (pV h42 a0 4 11 (.ref h38.1)) fun h46 =>
  grd (¬ a0 = h46.1) <|
  bd1 (mkn h46 3 (.inl (0, (3, .inl (fun _ => 0))))) fun h50 =>
  grd (h46.1 < h50.1) <|
  bd1 (pV h50 a0 4 12 (.ref h46.1)) fun h54 =>
  grd (¬ a0 = h54.1) <|
  bd1 (mkn h54 3 (.inl (0, (3, .inl (fun _ => 0))))) fun h58 =>
  grd (h54.1 < h58.1) <|
  bd1 (pV h58 a0 4 13 (.ref h54.1)) fun h62 =>
  grd (¬ a0 = h62.1) <|
  bd1 (mkn h62 3 (.inl (0, (3, .inl (fun _ => 0))))) fun h66 =>
  grd (h62.1 < h66.1) <|
  bd1 (pV h66 a0 4 14 (.ref h62.1)) fun h70 =>
  grd (¬ a0 = h70.1) <|
  bd1 (mkn h70 3 (.inl (0, (3, .inl (fun _ => 0))))) fun h74 =>
  grd (h70.1 < h74.1) <|
  bd1 (pV h74 a0 4 15 (.ref h70.1)) fun h78 =>
  grd (¬ a0 = h78.1) <|
  bd1 (mkn h78 3 (.inl (0, (3, .inl (fun _ => 0))))) fun h82 =>
  grd (h78.1 < h82.1) <|
  bd1 (pV h82 a0 4 16 (.ref h78.1)) fun h86 =>
  grd (¬ a0 = h86.1) <|
  bd1 (mkn h86 15 (.inl (0, (15, .inl (fun _ => 0))))) fun h90 =>
  grd (h86.1 < h90.1) <|
  bd1 (pV h90 a0 4 17 (.ref h86.1)) fun h94 =>
  grd (¬ a0 = h94.1) <|
  bd1 (mkn h94 4 (.inr (6, [.int 0, .null, .null, .null]))) fun h98 =>
  grd (a0 < h98.1 ∧ h94.1 < h98.1) <|
  bd1 (f_Sightings_new h94.1 h98) fun h104 =>
  grd (h94.1 < h104.1) <|
  bd1 (pV h104 a0 4 18 (.ref h94.1)) fun h106 =>
  some h106
set_option maxRecDepth 20000 in
theorem t_Realm_new_0  (a0 : Nat) (h : mH) (h' : mH) (hf : f_Realm_new_0  a0 h = some h') : G y_Realm_new prog_5_method_1_code 1 none 2 40 0 [(0, .ref a0)] [] h none h' := by
  unfold f_Realm_new_0 at hf
  refine g_aload_n (pc := 0) 0 d_Realm_new_0 rfl rfl ?_
  refine g_objInit (pc := 1) d_Realm_new_1 wd_70 wd_24 wd_25 (by decide) (Nat.le_of_ble_eq_true rfl) ?_
  refine g_aload_n (pc := 4) 0 d_Realm_new_4 rfl rfl ?_
  refine g_iconst (pc := 5) (5 : Int32) d_Realm_new_5 (by decide) ?_
  obtain ⟨g1, hf⟩ := grd_e hf
  obtain ⟨h2, e3, hf⟩ := bd1_e hf
  obtain ⟨g4, e5⟩ := mkn_e e3
  refine g_newa (pc := 6) rfl 0 5 .int (5, .inl (fun _ => 0)) wd_92 rfl (fun _ => rfl) (fun _ _ _ a b => Option.some.inj (a.symm.trans b)) (fun _ => rfl) (fun _ => rfl) (fun _ z => absurd z id) (by decide) (by decide) (by decide) d_Realm_new_6 g4 (okl_cons (okv_r (by omega)) (okl_nil)) (oks_cons (okv_r (by omega)) (oks_nil)) ?_
  rw [← e5]
  have h2_n : h2.1 = h.1 + 1 := by rw [e5]; rfl
  obtain ⟨g8, hf⟩ := grd_e hf
  obtain ⟨h6, e7, hf⟩ := bd1_e hf
  refine g_putF (pc := 8) (ci := 4) (kk := 6) ty_Realm tyok_Realm nm_Realm d_Realm_new_8 rfl in_Realm (by decide) wd_113 rfl rfl rfl (fun _ => rfl) (fun _ => rfl) (fun _ z => by cases z; omega) e7 ?_
  refine g_aload_n (pc := 11) 0 d_Realm_new_11 rfl rfl ?_
  refine g_iconst (pc := 12) (5 : Int32) d_Realm_new_12 (by decide) ?_
  obtain ⟨g9, hf⟩ := grd_e hf
  obtain ⟨h10, e11, hf⟩ := bd1_e hf
  obtain ⟨g12, e13⟩ := mkn_e e11
  refine g_newa (pc := 13) rfl 0 5 .int (5, .inl (fun _ => 0)) wd_92 rfl (fun _ => rfl) (fun _ _ _ a b => Option.some.inj (a.symm.trans b)) (fun _ => rfl) (fun _ => rfl) (fun _ z => absurd z id) (by decide) (by decide) (by decide) d_Realm_new_13 g12 (okl_cons (okv_r (by omega)) (okl_nil)) (oks_cons (okv_r (by omega)) (oks_nil)) ?_
  rw [← e13]
  have h10_n : h10.1 = h6.1 + 1 := by rw [e13]; rfl
  obtain ⟨g16, hf⟩ := grd_e hf
  obtain ⟨h14, e15, hf⟩ := bd1_e hf
  refine g_putF (pc := 15) (ci := 4) (kk := 7) ty_Realm tyok_Realm nm_Realm d_Realm_new_15 rfl in_Realm (by decide) wd_116 rfl rfl rfl (fun _ => rfl) (fun _ => rfl) (fun _ z => by cases z; omega) e15 ?_
  refine g_aload_n (pc := 18) 0 d_Realm_new_18 rfl rfl ?_
  refine g_iconst (pc := 19) (5 : Int32) d_Realm_new_19 (by decide) ?_
  obtain ⟨g17, hf⟩ := grd_e hf
  obtain ⟨h18, e19, hf⟩ := bd1_e hf
  obtain ⟨g20, e21⟩ := mkn_e e19
  refine g_newa (pc := 20) rfl 0 5 .int (5, .inl (fun _ => 0)) wd_92 rfl (fun _ => rfl) (fun _ _ _ a b => Option.some.inj (a.symm.trans b)) (fun _ => rfl) (fun _ => rfl) (fun _ z => absurd z id) (by decide) (by decide) (by decide) d_Realm_new_20 g20 (okl_cons (okv_r (by omega)) (okl_nil)) (oks_cons (okv_r (by omega)) (oks_nil)) ?_
  rw [← e21]
  have h18_n : h18.1 = h14.1 + 1 := by rw [e21]; rfl
  obtain ⟨g24, hf⟩ := grd_e hf
  obtain ⟨h22, e23, hf⟩ := bd1_e hf
  refine g_putF (pc := 22) (ci := 4) (kk := 8) ty_Realm tyok_Realm nm_Realm d_Realm_new_22 rfl in_Realm (by decide) wd_120 rfl rfl rfl (fun _ => rfl) (fun _ => rfl) (fun _ z => by cases z; omega) e23 ?_
  refine g_aload_n (pc := 25) 0 d_Realm_new_25 rfl rfl ?_
  refine g_iconst (pc := 26) (5 : Int32) d_Realm_new_26 (by decide) ?_
  obtain ⟨g25, hf⟩ := grd_e hf
  obtain ⟨h26, e27, hf⟩ := bd1_e hf
  obtain ⟨g28, e29⟩ := mkn_e e27
  refine g_newa (pc := 27) rfl 0 5 .int (5, .inl (fun _ => 0)) wd_92 rfl (fun _ => rfl) (fun _ _ _ a b => Option.some.inj (a.symm.trans b)) (fun _ => rfl) (fun _ => rfl) (fun _ z => absurd z id) (by decide) (by decide) (by decide) d_Realm_new_27 g28 (okl_cons (okv_r (by omega)) (okl_nil)) (oks_cons (okv_r (by omega)) (oks_nil)) ?_
  rw [← e29]
  have h26_n : h26.1 = h22.1 + 1 := by rw [e29]; rfl
  obtain ⟨g32, hf⟩ := grd_e hf
  obtain ⟨h30, e31, hf⟩ := bd1_e hf
  refine g_putF (pc := 29) (ci := 4) (kk := 9) ty_Realm tyok_Realm nm_Realm d_Realm_new_29 rfl in_Realm (by decide) wd_124 rfl rfl rfl (fun _ => rfl) (fun _ => rfl) (fun _ z => by cases z; omega) e31 ?_
  refine g_aload_n (pc := 32) 0 d_Realm_new_32 rfl rfl ?_
  refine g_iconst (pc := 33) (5 : Int32) d_Realm_new_33 (by decide) ?_
  obtain ⟨g33, hf⟩ := grd_e hf
  obtain ⟨h34, e35, hf⟩ := bd1_e hf
  obtain ⟨g36, e37⟩ := mkn_e e35
  refine g_newa (pc := 34) rfl 0 5 .int (5, .inl (fun _ => 0)) wd_92 rfl (fun _ => rfl) (fun _ _ _ a b => Option.some.inj (a.symm.trans b)) (fun _ => rfl) (fun _ => rfl) (fun _ z => absurd z id) (by decide) (by decide) (by decide) d_Realm_new_34 g36 (okl_cons (okv_r (by omega)) (okl_nil)) (oks_cons (okv_r (by omega)) (oks_nil)) ?_
  rw [← e37]
  have h34_n : h34.1 = h30.1 + 1 := by rw [e37]; rfl
  obtain ⟨g40, hf⟩ := grd_e hf
  obtain ⟨h38, e39, hf⟩ := bd1_e hf
  refine g_putF (pc := 36) (ci := 4) (kk := 10) ty_Realm tyok_Realm nm_Realm d_Realm_new_36 rfl in_Realm (by decide) wd_127 rfl rfl rfl (fun _ => rfl) (fun _ => rfl) (fun _ z => by cases z; omega) e39 ?_
  refine g_aload_n (pc := 39) 0 d_Realm_new_39 rfl rfl ?_
  refine g_iconst (pc := 40) (3 : Int32) d_Realm_new_40 (by decide) ?_
  obtain ⟨g41, hf⟩ := grd_e hf
  obtain ⟨h42, e43, hf⟩ := bd1_e hf
  obtain ⟨g44, e45⟩ := mkn_e e43
  refine g_newa (pc := 41) rfl 0 3 .int (3, .inl (fun _ => 0)) wd_92 rfl (fun _ => rfl) (fun _ _ _ a b => Option.some.inj (a.symm.trans b)) (fun _ => rfl) (fun _ => rfl) (fun _ z => absurd z id) (by decide) (by decide) (by decide) d_Realm_new_41 g44 (okl_cons (okv_r (by omega)) (okl_nil)) (oks_cons (okv_r (by omega)) (oks_nil)) ?_
  rw [← e45]
  have h42_n : h42.1 = h38.1 + 1 := by rw [e45]; rfl
  obtain ⟨g48, hf⟩ := grd_e hf
  obtain ⟨h46, e47, hf⟩ := bd1_e hf
  refine g_putF (pc := 43) (ci := 4) (kk := 11) ty_Realm tyok_Realm nm_Realm d_Realm_new_43 rfl in_Realm (by decide) wd_130 rfl rfl rfl (fun _ => rfl) (fun _ => rfl) (fun _ z => by cases z; omega) e47 ?_
  refine g_aload_n (pc := 46) 0 d_Realm_new_46 rfl rfl ?_
  refine g_iconst (pc := 47) (3 : Int32) d_Realm_new_47 (by decide) ?_
  obtain ⟨g49, hf⟩ := grd_e hf
  obtain ⟨h50, e51, hf⟩ := bd1_e hf
  obtain ⟨g52, e53⟩ := mkn_e e51
  refine g_newa (pc := 48) rfl 0 3 .int (3, .inl (fun _ => 0)) wd_92 rfl (fun _ => rfl) (fun _ _ _ a b => Option.some.inj (a.symm.trans b)) (fun _ => rfl) (fun _ => rfl) (fun _ z => absurd z id) (by decide) (by decide) (by decide) d_Realm_new_48 g52 (okl_cons (okv_r (by omega)) (okl_nil)) (oks_cons (okv_r (by omega)) (oks_nil)) ?_
  rw [← e53]
  have h50_n : h50.1 = h46.1 + 1 := by rw [e53]; rfl
  obtain ⟨g56, hf⟩ := grd_e hf
  obtain ⟨h54, e55, hf⟩ := bd1_e hf
  refine g_putF (pc := 50) (ci := 4) (kk := 12) ty_Realm tyok_Realm nm_Realm d_Realm_new_50 rfl in_Realm (by decide) wd_134 rfl rfl rfl (fun _ => rfl) (fun _ => rfl) (fun _ z => by cases z; omega) e55 ?_
  refine g_aload_n (pc := 53) 0 d_Realm_new_53 rfl rfl ?_
  refine g_iconst (pc := 54) (3 : Int32) d_Realm_new_54 (by decide) ?_
  obtain ⟨g57, hf⟩ := grd_e hf
  obtain ⟨h58, e59, hf⟩ := bd1_e hf
  obtain ⟨g60, e61⟩ := mkn_e e59
  refine g_newa (pc := 55) rfl 0 3 .int (3, .inl (fun _ => 0)) wd_92 rfl (fun _ => rfl) (fun _ _ _ a b => Option.some.inj (a.symm.trans b)) (fun _ => rfl) (fun _ => rfl) (fun _ z => absurd z id) (by decide) (by decide) (by decide) d_Realm_new_55 g60 (okl_cons (okv_r (by omega)) (okl_nil)) (oks_cons (okv_r (by omega)) (oks_nil)) ?_
  rw [← e61]
  have h58_n : h58.1 = h54.1 + 1 := by rw [e61]; rfl
  obtain ⟨g64, hf⟩ := grd_e hf
  obtain ⟨h62, e63, hf⟩ := bd1_e hf
  refine g_putF (pc := 57) (ci := 4) (kk := 13) ty_Realm tyok_Realm nm_Realm d_Realm_new_57 rfl in_Realm (by decide) wd_138 rfl rfl rfl (fun _ => rfl) (fun _ => rfl) (fun _ z => by cases z; omega) e63 ?_
  refine g_aload_n (pc := 60) 0 d_Realm_new_60 rfl rfl ?_
  refine g_iconst (pc := 61) (3 : Int32) d_Realm_new_61 (by decide) ?_
  obtain ⟨g65, hf⟩ := grd_e hf
  obtain ⟨h66, e67, hf⟩ := bd1_e hf
  obtain ⟨g68, e69⟩ := mkn_e e67
  refine g_newa (pc := 62) rfl 0 3 .int (3, .inl (fun _ => 0)) wd_92 rfl (fun _ => rfl) (fun _ _ _ a b => Option.some.inj (a.symm.trans b)) (fun _ => rfl) (fun _ => rfl) (fun _ z => absurd z id) (by decide) (by decide) (by decide) d_Realm_new_62 g68 (okl_cons (okv_r (by omega)) (okl_nil)) (oks_cons (okv_r (by omega)) (oks_nil)) ?_
  rw [← e69]
  have h66_n : h66.1 = h62.1 + 1 := by rw [e69]; rfl
  obtain ⟨g72, hf⟩ := grd_e hf
  obtain ⟨h70, e71, hf⟩ := bd1_e hf
  refine g_putF (pc := 64) (ci := 4) (kk := 14) ty_Realm tyok_Realm nm_Realm d_Realm_new_64 rfl in_Realm (by decide) wd_142 rfl rfl rfl (fun _ => rfl) (fun _ => rfl) (fun _ z => by cases z; omega) e71 ?_
  refine g_aload_n (pc := 67) 0 d_Realm_new_67 rfl rfl ?_
  refine g_iconst (pc := 68) (3 : Int32) d_Realm_new_68 (by decide) ?_
  obtain ⟨g73, hf⟩ := grd_e hf
  obtain ⟨h74, e75, hf⟩ := bd1_e hf
  obtain ⟨g76, e77⟩ := mkn_e e75
  refine g_newa (pc := 69) rfl 0 3 .int (3, .inl (fun _ => 0)) wd_92 rfl (fun _ => rfl) (fun _ _ _ a b => Option.some.inj (a.symm.trans b)) (fun _ => rfl) (fun _ => rfl) (fun _ z => absurd z id) (by decide) (by decide) (by decide) d_Realm_new_69 g76 (okl_cons (okv_r (by omega)) (okl_nil)) (oks_cons (okv_r (by omega)) (oks_nil)) ?_
  rw [← e77]
  have h74_n : h74.1 = h70.1 + 1 := by rw [e77]; rfl
  obtain ⟨g80, hf⟩ := grd_e hf
  obtain ⟨h78, e79, hf⟩ := bd1_e hf
  refine g_putF (pc := 71) (ci := 4) (kk := 15) ty_Realm tyok_Realm nm_Realm d_Realm_new_71 rfl in_Realm (by decide) wd_145 rfl rfl rfl (fun _ => rfl) (fun _ => rfl) (fun _ z => by cases z; omega) e79 ?_
  refine g_aload_n (pc := 74) 0 d_Realm_new_74 rfl rfl ?_
  refine g_iconst (pc := 75) (3 : Int32) d_Realm_new_75 (by decide) ?_
  obtain ⟨g81, hf⟩ := grd_e hf
  obtain ⟨h82, e83, hf⟩ := bd1_e hf
  obtain ⟨g84, e85⟩ := mkn_e e83
  refine g_newa (pc := 76) rfl 0 3 .int (3, .inl (fun _ => 0)) wd_92 rfl (fun _ => rfl) (fun _ _ _ a b => Option.some.inj (a.symm.trans b)) (fun _ => rfl) (fun _ => rfl) (fun _ z => absurd z id) (by decide) (by decide) (by decide) d_Realm_new_76 g84 (okl_cons (okv_r (by omega)) (okl_nil)) (oks_cons (okv_r (by omega)) (oks_nil)) ?_
  rw [← e85]
  have h82_n : h82.1 = h78.1 + 1 := by rw [e85]; rfl
  obtain ⟨g88, hf⟩ := grd_e hf
  obtain ⟨h86, e87, hf⟩ := bd1_e hf
  refine g_putF (pc := 78) (ci := 4) (kk := 16) ty_Realm tyok_Realm nm_Realm d_Realm_new_78 rfl in_Realm (by decide) wd_149 rfl rfl rfl (fun _ => rfl) (fun _ => rfl) (fun _ z => by cases z; omega) e87 ?_
  refine g_aload_n (pc := 81) 0 d_Realm_new_81 rfl rfl ?_
  refine g_bipush (pc := 82) (15 : Int32) d_Realm_new_82 (by decide) ?_
  obtain ⟨g89, hf⟩ := grd_e hf
  obtain ⟨h90, e91, hf⟩ := bd1_e hf
  obtain ⟨g92, e93⟩ := mkn_e e91
  refine g_newa (pc := 84) rfl 0 15 .int (15, .inl (fun _ => 0)) wd_92 rfl (fun _ => rfl) (fun _ _ _ a b => Option.some.inj (a.symm.trans b)) (fun _ => rfl) (fun _ => rfl) (fun _ z => absurd z id) (by decide) (by decide) (by decide) d_Realm_new_84 g92 (okl_cons (okv_r (by omega)) (okl_nil)) (oks_cons (okv_r (by omega)) (oks_nil)) ?_
  rw [← e93]
  have h90_n : h90.1 = h86.1 + 1 := by rw [e93]; rfl
  obtain ⟨g96, hf⟩ := grd_e hf
  obtain ⟨h94, e95, hf⟩ := bd1_e hf
  refine g_putF (pc := 86) (ci := 4) (kk := 17) ty_Realm tyok_Realm nm_Realm d_Realm_new_86 rfl in_Realm (by decide) wd_152 rfl rfl rfl (fun _ => rfl) (fun _ => rfl) (fun _ z => by cases z; omega) e95 ?_
  refine g_aload_n (pc := 89) 0 d_Realm_new_89 rfl rfl ?_
  obtain ⟨g97, hf⟩ := grd_e hf
  obtain ⟨h98, e99, hf⟩ := bd1_e hf
  obtain ⟨g100, e101⟩ := mkn_e e99
  refine g_new (pc := 90) (ci := 6) rfl [.int 0, .null, .null, .null] ty_Sightings tyok_Sightings d_Realm_new_90 rfl in_Sightings wd_71 wd_72 wd_4 (by decide) (by simp) g100 (okl_cons (okv_r (by omega)) (okl_nil)) (oks_cons (okv_r (by omega)) (oks_nil)) ?_
  rw [← e101]
  have h98_n : h98.1 = h94.1 + 1 := by rw [e101]; rfl
  refine g_dup (pc := 93) d_Realm_new_93 rfl ?_
  obtain ⟨⟨g102, g103⟩, hf⟩ := grd_e hf
  obtain ⟨h104, e105, hf⟩ := bd1_e hf
  refine g_callIN (pc := 94) "QuotaLaws" [] (site_of si_Sightings_new (by decide) (by decide)) rfl wd_73 wd_74 d_Realm_new_94 (Nat.le_of_ble_eq_true rfl) (fun _ => rfl) (fun _ => (okl_cons (okv_r (by omega)) (okl_nil))) (fun _ => (oks_cons (okv_r (by omega)) (oks_cons (okv_r (by omega)) (oks_nil)))) (c_Sightings_new e105) rfl ?_
  refine g_st [.ref h94.1, .ref a0] rfl ?_
  obtain ⟨g108, hf⟩ := grd_e hf
  obtain ⟨h106, e107, hf⟩ := bd1_e hf
  refine g_putF (pc := 97) (ci := 4) (kk := 18) ty_Realm tyok_Realm nm_Realm d_Realm_new_97 rfl in_Realm (by decide) wd_153 rfl rfl rfl (fun _ => rfl) (fun _ => rfl) (fun _ z => by cases z; omega) e107 ?_
  obtain rfl := ret1 hf
  exact g_vret (pc := 100) rfl d_Realm_new_100
def f_Realm_new (a0 : Nat) (h : mH) : Option mH := f_Realm_new_0 a0 h
theorem c_Realm_new {a0 : Nat} {h : mH} {h' : mH} (hf : f_Realm_new a0 h = some h') : MM y_Realm_new prog_5_method_1_code 1 none 2 40 [.ref a0] h none h' :=
  mm_of_G (by decide) (Nat.le_of_ble_eq_true rfl) (t_Realm_new_0 _ _ _ hf)
/-! Planner init ()V -/
theorem d_Planner_new_0 : decode prog_3_method_1_code 0 = .ok (.aload_n 0, 1) := by decide +kernel
theorem d_Planner_new_1 : decode prog_3_method_1_code 1 = .ok (.invokespecial 3, 3) := by decide +kernel
theorem d_Planner_new_4 : decode prog_3_method_1_code 4 = .ok (.aload_n 0, 1) := by decide +kernel
theorem d_Planner_new_5 : decode prog_3_method_1_code 5 = .ok (.iconst 3, 1) := by decide +kernel
theorem d_Planner_new_6 : decode prog_3_method_1_code 6 = .ok (.newarray .int, 2) := by decide +kernel
theorem d_Planner_new_8 : decode prog_3_method_1_code 8 = .ok (.putfield 9, 3) := by decide +kernel
theorem d_Planner_new_11 : decode prog_3_method_1_code 11 = .ok (.aload_n 0, 1) := by decide +kernel
theorem d_Planner_new_12 : decode prog_3_method_1_code 12 = .ok (.iconst 5, 1) := by decide +kernel
theorem d_Planner_new_13 : decode prog_3_method_1_code 13 = .ok (.newarray .int, 2) := by decide +kernel
theorem d_Planner_new_15 : decode prog_3_method_1_code 15 = .ok (.putfield 15, 3) := by decide +kernel
theorem d_Planner_new_18 : decode prog_3_method_1_code 18 = .ok (.aload_n 0, 1) := by decide +kernel
theorem d_Planner_new_19 : decode prog_3_method_1_code 19 = .ok (.bipush 6, 2) := by decide +kernel
theorem d_Planner_new_21 : decode prog_3_method_1_code 21 = .ok (.newarray .int, 2) := by decide +kernel
theorem d_Planner_new_23 : decode prog_3_method_1_code 23 = .ok (.putfield 18, 3) := by decide +kernel
theorem d_Planner_new_26 : decode prog_3_method_1_code 26 = .ok (.aload_n 0, 1) := by decide +kernel
theorem d_Planner_new_27 : decode prog_3_method_1_code 27 = .ok (.bipush 15, 2) := by decide +kernel
theorem d_Planner_new_29 : decode prog_3_method_1_code 29 = .ok (.newarray .int, 2) := by decide +kernel
theorem d_Planner_new_31 : decode prog_3_method_1_code 31 = .ok (.putfield 21, 3) := by decide +kernel
theorem d_Planner_new_34 : decode prog_3_method_1_code 34 = .ok (.aload_n 0, 1) := by decide +kernel
theorem d_Planner_new_35 : decode prog_3_method_1_code 35 = .ok (.bipush 15, 2) := by decide +kernel
theorem d_Planner_new_37 : decode prog_3_method_1_code 37 = .ok (.newarray .int, 2) := by decide +kernel
theorem d_Planner_new_39 : decode prog_3_method_1_code 39 = .ok (.putfield 24, 3) := by decide +kernel
theorem d_Planner_new_42 : decode prog_3_method_1_code 42 = .ok (.aload_n 0, 1) := by decide +kernel
theorem d_Planner_new_43 : decode prog_3_method_1_code 43 = .ok (.bipush 15, 2) := by decide +kernel
theorem d_Planner_new_45 : decode prog_3_method_1_code 45 = .ok (.newarray .int, 2) := by decide +kernel
theorem d_Planner_new_47 : decode prog_3_method_1_code 47 = .ok (.putfield 27, 3) := by decide +kernel
theorem d_Planner_new_50 : decode prog_3_method_1_code 50 = .ok (.aload_n 0, 1) := by decide +kernel
theorem d_Planner_new_51 : decode prog_3_method_1_code 51 = .ok (.sipush 216, 3) := by decide +kernel
theorem d_Planner_new_54 : decode prog_3_method_1_code 54 = .ok (.newarray .int, 2) := by decide +kernel
theorem d_Planner_new_56 : decode prog_3_method_1_code 56 = .ok (.putfield 30, 3) := by decide +kernel
theorem d_Planner_new_59 : decode prog_3_method_1_code 59 = .ok (.return_, 1) := by decide +kernel
def f_Planner_new_0  (a0 : Nat) (h : mH) : Option mH :=
  grd (¬ a0 = h.1) <|
  bd1 (mkn h 3 (.inl (0, (3, .inl (fun _ => 0))))) fun h2 =>
  grd (h.1 < h2.1) <|
  bd1 (pV h2 a0 2 1 (.ref h.1)) fun h6 =>
  grd (¬ a0 = h6.1) <|
  bd1 (mkn h6 5 (.inl (0, (5, .inl (fun _ => 0))))) fun h10 =>
  grd (h6.1 < h10.1) <|
  bd1 (pV h10 a0 2 2 (.ref h6.1)) fun h14 =>
  grd (¬ a0 = h14.1) <|
  bd1 (mkn h14 6 (.inl (0, (6, .inl (fun _ => 0))))) fun h18 =>
  grd (h14.1 < h18.1) <|
  bd1 (pV h18 a0 2 3 (.ref h14.1)) fun h22 =>
  grd (¬ a0 = h22.1) <|
  bd1 (mkn h22 15 (.inl (0, (15, .inl (fun _ => 0))))) fun h26 =>
  grd (h22.1 < h26.1) <|
  bd1 (pV h26 a0 2 4 (.ref h22.1)) fun h30 =>
  grd (¬ a0 = h30.1) <|
  bd1 (mkn h30 15 (.inl (0, (15, .inl (fun _ => 0))))) fun h34 =>
  grd (h30.1 < h34.1) <|
  bd1 (pV h34 a0 2 5 (.ref h30.1)) fun h38 =>
  grd (¬ a0 = h38.1) <|
  bd1 (mkn h38 15 (.inl (0, (15, .inl (fun _ => 0))))) fun h42 =>
  grd (h38.1 < h42.1) <|
  bd1 (pV h42 a0 2 6 (.ref h38.1)) fun h46 =>
  grd (¬ a0 = h46.1) <|
  bd1 (mkn h46 216 (.inl (0, (216, .inl (fun _ => 0))))) fun h50 =>
  grd (h46.1 < h50.1) <|
  bd1 (pV h50 a0 2 7 (.ref h46.1)) fun h54 =>
  some h54
set_option maxRecDepth 20000 in
theorem t_Planner_new_0  (a0 : Nat) (h : mH) (h' : mH) (hf : f_Planner_new_0  a0 h = some h') : G y_Planner_new prog_3_method_1_code 1 none 1 20 0 [(0, .ref a0)] [] h none h' := by
  unfold f_Planner_new_0 at hf
  refine g_aload_n (pc := 0) 0 d_Planner_new_0 rfl rfl ?_
  refine g_objInit (pc := 1) d_Planner_new_1 wd_203 wd_24 wd_25 (by decide) (Nat.le_of_ble_eq_true rfl) ?_
  refine g_aload_n (pc := 4) 0 d_Planner_new_4 rfl rfl ?_
  refine g_iconst (pc := 5) (3 : Int32) d_Planner_new_5 (by decide) ?_
  obtain ⟨g1, hf⟩ := grd_e hf
  obtain ⟨h2, e3, hf⟩ := bd1_e hf
  obtain ⟨g4, e5⟩ := mkn_e e3
  refine g_newa (pc := 6) rfl 0 3 .int (3, .inl (fun _ => 0)) wd_92 rfl (fun _ => rfl) (fun _ _ _ a b => Option.some.inj (a.symm.trans b)) (fun _ => rfl) (fun _ => rfl) (fun _ z => absurd z id) (by decide) (by decide) (by decide) d_Planner_new_6 g4 (okl_cons (okv_r (by omega)) (okl_nil)) (oks_cons (okv_r (by omega)) (oks_nil)) ?_
  rw [← e5]
  have h2_n : h2.1 = h.1 + 1 := by rw [e5]; rfl
  obtain ⟨g8, hf⟩ := grd_e hf
  obtain ⟨h6, e7, hf⟩ := bd1_e hf
  refine g_putF (pc := 8) (ci := 2) (kk := 1) ty_Planner tyok_Planner nm_Planner d_Planner_new_8 rfl in_Planner (by decide) wd_205 rfl rfl rfl (fun _ => rfl) (fun _ => rfl) (fun _ z => by cases z; omega) e7 ?_
  refine g_aload_n (pc := 11) 0 d_Planner_new_11 rfl rfl ?_
  refine g_iconst (pc := 12) (5 : Int32) d_Planner_new_12 (by decide) ?_
  obtain ⟨g9, hf⟩ := grd_e hf
  obtain ⟨h10, e11, hf⟩ := bd1_e hf
  obtain ⟨g12, e13⟩ := mkn_e e11
  refine g_newa (pc := 13) rfl 0 5 .int (5, .inl (fun _ => 0)) wd_92 rfl (fun _ => rfl) (fun _ _ _ a b => Option.some.inj (a.symm.trans b)) (fun _ => rfl) (fun _ => rfl) (fun _ z => absurd z id) (by decide) (by decide) (by decide) d_Planner_new_13 g12 (okl_cons (okv_r (by omega)) (okl_nil)) (oks_cons (okv_r (by omega)) (oks_nil)) ?_
  rw [← e13]
  have h10_n : h10.1 = h6.1 + 1 := by rw [e13]; rfl
  obtain ⟨g16, hf⟩ := grd_e hf
  obtain ⟨h14, e15, hf⟩ := bd1_e hf
  refine g_putF (pc := 15) (ci := 2) (kk := 2) ty_Planner tyok_Planner nm_Planner d_Planner_new_15 rfl in_Planner (by decide) wd_206 rfl rfl rfl (fun _ => rfl) (fun _ => rfl) (fun _ z => by cases z; omega) e15 ?_
  refine g_aload_n (pc := 18) 0 d_Planner_new_18 rfl rfl ?_
  refine g_bipush (pc := 19) (6 : Int32) d_Planner_new_19 (by decide) ?_
  obtain ⟨g17, hf⟩ := grd_e hf
  obtain ⟨h18, e19, hf⟩ := bd1_e hf
  obtain ⟨g20, e21⟩ := mkn_e e19
  refine g_newa (pc := 21) rfl 0 6 .int (6, .inl (fun _ => 0)) wd_92 rfl (fun _ => rfl) (fun _ _ _ a b => Option.some.inj (a.symm.trans b)) (fun _ => rfl) (fun _ => rfl) (fun _ z => absurd z id) (by decide) (by decide) (by decide) d_Planner_new_21 g20 (okl_cons (okv_r (by omega)) (okl_nil)) (oks_cons (okv_r (by omega)) (oks_nil)) ?_
  rw [← e21]
  have h18_n : h18.1 = h14.1 + 1 := by rw [e21]; rfl
  obtain ⟨g24, hf⟩ := grd_e hf
  obtain ⟨h22, e23, hf⟩ := bd1_e hf
  refine g_putF (pc := 23) (ci := 2) (kk := 3) ty_Planner tyok_Planner nm_Planner d_Planner_new_23 rfl in_Planner (by decide) wd_207 rfl rfl rfl (fun _ => rfl) (fun _ => rfl) (fun _ z => by cases z; omega) e23 ?_
  refine g_aload_n (pc := 26) 0 d_Planner_new_26 rfl rfl ?_
  refine g_bipush (pc := 27) (15 : Int32) d_Planner_new_27 (by decide) ?_
  obtain ⟨g25, hf⟩ := grd_e hf
  obtain ⟨h26, e27, hf⟩ := bd1_e hf
  obtain ⟨g28, e29⟩ := mkn_e e27
  refine g_newa (pc := 29) rfl 0 15 .int (15, .inl (fun _ => 0)) wd_92 rfl (fun _ => rfl) (fun _ _ _ a b => Option.some.inj (a.symm.trans b)) (fun _ => rfl) (fun _ => rfl) (fun _ z => absurd z id) (by decide) (by decide) (by decide) d_Planner_new_29 g28 (okl_cons (okv_r (by omega)) (okl_nil)) (oks_cons (okv_r (by omega)) (oks_nil)) ?_
  rw [← e29]
  have h26_n : h26.1 = h22.1 + 1 := by rw [e29]; rfl
  obtain ⟨g32, hf⟩ := grd_e hf
  obtain ⟨h30, e31, hf⟩ := bd1_e hf
  refine g_putF (pc := 31) (ci := 2) (kk := 4) ty_Planner tyok_Planner nm_Planner d_Planner_new_31 rfl in_Planner (by decide) wd_208 rfl rfl rfl (fun _ => rfl) (fun _ => rfl) (fun _ z => by cases z; omega) e31 ?_
  refine g_aload_n (pc := 34) 0 d_Planner_new_34 rfl rfl ?_
  refine g_bipush (pc := 35) (15 : Int32) d_Planner_new_35 (by decide) ?_
  obtain ⟨g33, hf⟩ := grd_e hf
  obtain ⟨h34, e35, hf⟩ := bd1_e hf
  obtain ⟨g36, e37⟩ := mkn_e e35
  refine g_newa (pc := 37) rfl 0 15 .int (15, .inl (fun _ => 0)) wd_92 rfl (fun _ => rfl) (fun _ _ _ a b => Option.some.inj (a.symm.trans b)) (fun _ => rfl) (fun _ => rfl) (fun _ z => absurd z id) (by decide) (by decide) (by decide) d_Planner_new_37 g36 (okl_cons (okv_r (by omega)) (okl_nil)) (oks_cons (okv_r (by omega)) (oks_nil)) ?_
  rw [← e37]
  have h34_n : h34.1 = h30.1 + 1 := by rw [e37]; rfl
  obtain ⟨g40, hf⟩ := grd_e hf
  obtain ⟨h38, e39, hf⟩ := bd1_e hf
  refine g_putF (pc := 39) (ci := 2) (kk := 5) ty_Planner tyok_Planner nm_Planner d_Planner_new_39 rfl in_Planner (by decide) wd_209 rfl rfl rfl (fun _ => rfl) (fun _ => rfl) (fun _ z => by cases z; omega) e39 ?_
  refine g_aload_n (pc := 42) 0 d_Planner_new_42 rfl rfl ?_
  refine g_bipush (pc := 43) (15 : Int32) d_Planner_new_43 (by decide) ?_
  obtain ⟨g41, hf⟩ := grd_e hf
  obtain ⟨h42, e43, hf⟩ := bd1_e hf
  obtain ⟨g44, e45⟩ := mkn_e e43
  refine g_newa (pc := 45) rfl 0 15 .int (15, .inl (fun _ => 0)) wd_92 rfl (fun _ => rfl) (fun _ _ _ a b => Option.some.inj (a.symm.trans b)) (fun _ => rfl) (fun _ => rfl) (fun _ z => absurd z id) (by decide) (by decide) (by decide) d_Planner_new_45 g44 (okl_cons (okv_r (by omega)) (okl_nil)) (oks_cons (okv_r (by omega)) (oks_nil)) ?_
  rw [← e45]
  have h42_n : h42.1 = h38.1 + 1 := by rw [e45]; rfl
  obtain ⟨g48, hf⟩ := grd_e hf
  obtain ⟨h46, e47, hf⟩ := bd1_e hf
  refine g_putF (pc := 47) (ci := 2) (kk := 6) ty_Planner tyok_Planner nm_Planner d_Planner_new_47 rfl in_Planner (by decide) wd_210 rfl rfl rfl (fun _ => rfl) (fun _ => rfl) (fun _ z => by cases z; omega) e47 ?_
  refine g_aload_n (pc := 50) 0 d_Planner_new_50 rfl rfl ?_
  refine g_sipush (pc := 51) (216 : Int32) d_Planner_new_51 (by decide) ?_
  obtain ⟨g49, hf⟩ := grd_e hf
  obtain ⟨h50, e51, hf⟩ := bd1_e hf
  obtain ⟨g52, e53⟩ := mkn_e e51
  refine g_newa (pc := 54) rfl 0 216 .int (216, .inl (fun _ => 0)) wd_92 rfl (fun _ => rfl) (fun _ _ _ a b => Option.some.inj (a.symm.trans b)) (fun _ => rfl) (fun _ => rfl) (fun _ z => absurd z id) (by decide) (by decide) (by decide) d_Planner_new_54 g52 (okl_cons (okv_r (by omega)) (okl_nil)) (oks_cons (okv_r (by omega)) (oks_nil)) ?_
  rw [← e53]
  have h50_n : h50.1 = h46.1 + 1 := by rw [e53]; rfl
  obtain ⟨g56, hf⟩ := grd_e hf
  obtain ⟨h54, e55, hf⟩ := bd1_e hf
  refine g_putF (pc := 56) (ci := 2) (kk := 7) ty_Planner tyok_Planner nm_Planner d_Planner_new_56 rfl in_Planner (by decide) wd_211 rfl rfl rfl (fun _ => rfl) (fun _ => rfl) (fun _ z => by cases z; omega) e55 ?_
  obtain rfl := ret1 hf
  exact g_vret (pc := 59) rfl d_Planner_new_59
def f_Planner_new (a0 : Nat) (h : mH) : Option mH := f_Planner_new_0 a0 h
theorem c_Planner_new {a0 : Nat} {h : mH} {h' : mH} (hf : f_Planner_new a0 h = some h') : MM y_Planner_new prog_3_method_1_code 1 none 1 20 [.ref a0] h none h' :=
  mm_of_G (by decide) (Nat.le_of_ble_eq_true rfl) (t_Planner_new_0 _ _ _ hf)
/-! Tables init ()V -/
theorem d_Tables_new_0 : decode prog_8_method_1_code 0 = .ok (.aload_n 0, 1) := by decide +kernel
theorem d_Tables_new_1 : decode prog_8_method_1_code 1 = .ok (.invokespecial 3, 3) := by decide +kernel
theorem d_Tables_new_4 : decode prog_8_method_1_code 4 = .ok (.aload_n 0, 1) := by decide +kernel
theorem d_Tables_new_5 : decode prog_8_method_1_code 5 = .ok (.bipush 15, 2) := by decide +kernel
theorem d_Tables_new_7 : decode prog_8_method_1_code 7 = .ok (.newarray .int, 2) := by decide +kernel
theorem d_Tables_new_9 : decode prog_8_method_1_code 9 = .ok (.putfield 9, 3) := by decide +kernel
theorem d_Tables_new_12 : decode prog_8_method_1_code 12 = .ok (.aload_n 0, 1) := by decide +kernel
theorem d_Tables_new_13 : decode prog_8_method_1_code 13 = .ok (.bipush 15, 2) := by decide +kernel
theorem d_Tables_new_15 : decode prog_8_method_1_code 15 = .ok (.newarray .int, 2) := by decide +kernel
theorem d_Tables_new_17 : decode prog_8_method_1_code 17 = .ok (.putfield 15, 3) := by decide +kernel
theorem d_Tables_new_20 : decode prog_8_method_1_code 20 = .ok (.aload_n 0, 1) := by decide +kernel
theorem d_Tables_new_21 : decode prog_8_method_1_code 21 = .ok (.iconst 5, 1) := by decide +kernel
theorem d_Tables_new_22 : decode prog_8_method_1_code 22 = .ok (.newarray .int, 2) := by decide +kernel
theorem d_Tables_new_24 : decode prog_8_method_1_code 24 = .ok (.putfield 18, 3) := by decide +kernel
theorem d_Tables_new_27 : decode prog_8_method_1_code 27 = .ok (.aload_n 0, 1) := by decide +kernel
theorem d_Tables_new_28 : decode prog_8_method_1_code 28 = .ok (.iconst 3, 1) := by decide +kernel
theorem d_Tables_new_29 : decode prog_8_method_1_code 29 = .ok (.newarray .int, 2) := by decide +kernel
theorem d_Tables_new_31 : decode prog_8_method_1_code 31 = .ok (.putfield 21, 3) := by decide +kernel
theorem d_Tables_new_34 : decode prog_8_method_1_code 34 = .ok (.aload_n 0, 1) := by decide +kernel
theorem d_Tables_new_35 : decode prog_8_method_1_code 35 = .ok (.iconst 3, 1) := by decide +kernel
theorem d_Tables_new_36 : decode prog_8_method_1_code 36 = .ok (.newarray .int, 2) := by decide +kernel
theorem d_Tables_new_38 : decode prog_8_method_1_code 38 = .ok (.putfield 24, 3) := by decide +kernel
theorem d_Tables_new_41 : decode prog_8_method_1_code 41 = .ok (.aload_n 0, 1) := by decide +kernel
theorem d_Tables_new_42 : decode prog_8_method_1_code 42 = .ok (.bipush 18, 2) := by decide +kernel
theorem d_Tables_new_44 : decode prog_8_method_1_code 44 = .ok (.newarray .long, 2) := by decide +kernel
theorem d_Tables_new_46 : decode prog_8_method_1_code 46 = .ok (.putfield 27, 3) := by decide +kernel
theorem d_Tables_new_49 : decode prog_8_method_1_code 49 = .ok (.aload_n 0, 1) := by decide +kernel
theorem d_Tables_new_50 : decode prog_8_method_1_code 50 = .ok (.sipush 216, 3) := by decide +kernel
theorem d_Tables_new_53 : decode prog_8_method_1_code 53 = .ok (.newarray .long, 2) := by decide +kernel
theorem d_Tables_new_55 : decode prog_8_method_1_code 55 = .ok (.putfield 31, 3) := by decide +kernel
theorem d_Tables_new_58 : decode prog_8_method_1_code 58 = .ok (.return_, 1) := by decide +kernel
def f_Tables_new_0  (a0 : Nat) (h : mH) : Option mH :=
  grd (¬ a0 = h.1) <|
  bd1 (mkn h 15 (.inl (0, (15, .inl (fun _ => 0))))) fun h2 =>
  grd (h.1 < h2.1) <|
  bd1 (pV h2 a0 7 1 (.ref h.1)) fun h6 =>
  grd (¬ a0 = h6.1) <|
  bd1 (mkn h6 15 (.inl (0, (15, .inl (fun _ => 0))))) fun h10 =>
  grd (h6.1 < h10.1) <|
  bd1 (pV h10 a0 7 2 (.ref h6.1)) fun h14 =>
  grd (¬ a0 = h14.1) <|
  bd1 (mkn h14 5 (.inl (0, (5, .inl (fun _ => 0))))) fun h18 =>
  grd (h14.1 < h18.1) <|
  bd1 (pV h18 a0 7 3 (.ref h14.1)) fun h22 =>
  grd (¬ a0 = h22.1) <|
  bd1 (mkn h22 3 (.inl (0, (3, .inl (fun _ => 0))))) fun h26 =>
  grd (h22.1 < h26.1) <|
  bd1 (pV h26 a0 7 4 (.ref h22.1)) fun h30 =>
  grd (¬ a0 = h30.1) <|
  bd1 (mkn h30 3 (.inl (0, (3, .inl (fun _ => 0))))) fun h34 =>
  grd (h30.1 < h34.1) <|
  bd1 (pV h34 a0 7 5 (.ref h30.1)) fun h38 =>
  grd (¬ a0 = h38.1) <|
  bd1 (mkn h38 18 (.inl (3, (18, .inr (.inl (fun _ => 0)))))) fun h42 =>
  grd (h38.1 < h42.1) <|
  bd1 (pV h42 a0 7 6 (.ref h38.1)) fun h46 =>
  grd (¬ a0 = h46.1) <|
  bd1 (mkn h46 216 (.inl (3, (216, .inr (.inl (fun _ => 0)))))) fun h50 =>
  grd (h46.1 < h50.1) <|
  bd1 (pV h50 a0 7 7 (.ref h46.1)) fun h54 =>
  some h54
set_option maxRecDepth 20000 in
theorem t_Tables_new_0  (a0 : Nat) (h : mH) (h' : mH) (hf : f_Tables_new_0  a0 h = some h') : G y_Tables_new prog_8_method_1_code 1 none 1 20 0 [(0, .ref a0)] [] h none h' := by
  unfold f_Tables_new_0 at hf
  refine g_aload_n (pc := 0) 0 d_Tables_new_0 rfl rfl ?_
  refine g_objInit (pc := 1) d_Tables_new_1 wd_235 wd_24 wd_25 (by decide) (Nat.le_of_ble_eq_true rfl) ?_
  refine g_aload_n (pc := 4) 0 d_Tables_new_4 rfl rfl ?_
  refine g_bipush (pc := 5) (15 : Int32) d_Tables_new_5 (by decide) ?_
  obtain ⟨g1, hf⟩ := grd_e hf
  obtain ⟨h2, e3, hf⟩ := bd1_e hf
  obtain ⟨g4, e5⟩ := mkn_e e3
  refine g_newa (pc := 7) rfl 0 15 .int (15, .inl (fun _ => 0)) wd_92 rfl (fun _ => rfl) (fun _ _ _ a b => Option.some.inj (a.symm.trans b)) (fun _ => rfl) (fun _ => rfl) (fun _ z => absurd z id) (by decide) (by decide) (by decide) d_Tables_new_7 g4 (okl_cons (okv_r (by omega)) (okl_nil)) (oks_cons (okv_r (by omega)) (oks_nil)) ?_
  rw [← e5]
  have h2_n : h2.1 = h.1 + 1 := by rw [e5]; rfl
  obtain ⟨g8, hf⟩ := grd_e hf
  obtain ⟨h6, e7, hf⟩ := bd1_e hf
  refine g_putF (pc := 9) (ci := 7) (kk := 1) ty_Tables tyok_Tables nm_Tables d_Tables_new_9 rfl in_Tables (by decide) wd_237 rfl rfl rfl (fun _ => rfl) (fun _ => rfl) (fun _ z => by cases z; omega) e7 ?_
  refine g_aload_n (pc := 12) 0 d_Tables_new_12 rfl rfl ?_
  refine g_bipush (pc := 13) (15 : Int32) d_Tables_new_13 (by decide) ?_
  obtain ⟨g9, hf⟩ := grd_e hf
  obtain ⟨h10, e11, hf⟩ := bd1_e hf
  obtain ⟨g12, e13⟩ := mkn_e e11
  refine g_newa (pc := 15) rfl 0 15 .int (15, .inl (fun _ => 0)) wd_92 rfl (fun _ => rfl) (fun _ _ _ a b => Option.some.inj (a.symm.trans b)) (fun _ => rfl) (fun _ => rfl) (fun _ z => absurd z id) (by decide) (by decide) (by decide) d_Tables_new_15 g12 (okl_cons (okv_r (by omega)) (okl_nil)) (oks_cons (okv_r (by omega)) (oks_nil)) ?_
  rw [← e13]
  have h10_n : h10.1 = h6.1 + 1 := by rw [e13]; rfl
  obtain ⟨g16, hf⟩ := grd_e hf
  obtain ⟨h14, e15, hf⟩ := bd1_e hf
  refine g_putF (pc := 17) (ci := 7) (kk := 2) ty_Tables tyok_Tables nm_Tables d_Tables_new_17 rfl in_Tables (by decide) wd_238 rfl rfl rfl (fun _ => rfl) (fun _ => rfl) (fun _ z => by cases z; omega) e15 ?_
  refine g_aload_n (pc := 20) 0 d_Tables_new_20 rfl rfl ?_
  refine g_iconst (pc := 21) (5 : Int32) d_Tables_new_21 (by decide) ?_
  obtain ⟨g17, hf⟩ := grd_e hf
  obtain ⟨h18, e19, hf⟩ := bd1_e hf
  obtain ⟨g20, e21⟩ := mkn_e e19
  refine g_newa (pc := 22) rfl 0 5 .int (5, .inl (fun _ => 0)) wd_92 rfl (fun _ => rfl) (fun _ _ _ a b => Option.some.inj (a.symm.trans b)) (fun _ => rfl) (fun _ => rfl) (fun _ z => absurd z id) (by decide) (by decide) (by decide) d_Tables_new_22 g20 (okl_cons (okv_r (by omega)) (okl_nil)) (oks_cons (okv_r (by omega)) (oks_nil)) ?_
  rw [← e21]
  have h18_n : h18.1 = h14.1 + 1 := by rw [e21]; rfl
  obtain ⟨g24, hf⟩ := grd_e hf
  obtain ⟨h22, e23, hf⟩ := bd1_e hf
  refine g_putF (pc := 24) (ci := 7) (kk := 3) ty_Tables tyok_Tables nm_Tables d_Tables_new_24 rfl in_Tables (by decide) wd_239 rfl rfl rfl (fun _ => rfl) (fun _ => rfl) (fun _ z => by cases z; omega) e23 ?_
  refine g_aload_n (pc := 27) 0 d_Tables_new_27 rfl rfl ?_
  refine g_iconst (pc := 28) (3 : Int32) d_Tables_new_28 (by decide) ?_
  obtain ⟨g25, hf⟩ := grd_e hf
  obtain ⟨h26, e27, hf⟩ := bd1_e hf
  obtain ⟨g28, e29⟩ := mkn_e e27
  refine g_newa (pc := 29) rfl 0 3 .int (3, .inl (fun _ => 0)) wd_92 rfl (fun _ => rfl) (fun _ _ _ a b => Option.some.inj (a.symm.trans b)) (fun _ => rfl) (fun _ => rfl) (fun _ z => absurd z id) (by decide) (by decide) (by decide) d_Tables_new_29 g28 (okl_cons (okv_r (by omega)) (okl_nil)) (oks_cons (okv_r (by omega)) (oks_nil)) ?_
  rw [← e29]
  have h26_n : h26.1 = h22.1 + 1 := by rw [e29]; rfl
  obtain ⟨g32, hf⟩ := grd_e hf
  obtain ⟨h30, e31, hf⟩ := bd1_e hf
  refine g_putF (pc := 31) (ci := 7) (kk := 4) ty_Tables tyok_Tables nm_Tables d_Tables_new_31 rfl in_Tables (by decide) wd_240 rfl rfl rfl (fun _ => rfl) (fun _ => rfl) (fun _ z => by cases z; omega) e31 ?_
  refine g_aload_n (pc := 34) 0 d_Tables_new_34 rfl rfl ?_
  refine g_iconst (pc := 35) (3 : Int32) d_Tables_new_35 (by decide) ?_
  obtain ⟨g33, hf⟩ := grd_e hf
  obtain ⟨h34, e35, hf⟩ := bd1_e hf
  obtain ⟨g36, e37⟩ := mkn_e e35
  refine g_newa (pc := 36) rfl 0 3 .int (3, .inl (fun _ => 0)) wd_92 rfl (fun _ => rfl) (fun _ _ _ a b => Option.some.inj (a.symm.trans b)) (fun _ => rfl) (fun _ => rfl) (fun _ z => absurd z id) (by decide) (by decide) (by decide) d_Tables_new_36 g36 (okl_cons (okv_r (by omega)) (okl_nil)) (oks_cons (okv_r (by omega)) (oks_nil)) ?_
  rw [← e37]
  have h34_n : h34.1 = h30.1 + 1 := by rw [e37]; rfl
  obtain ⟨g40, hf⟩ := grd_e hf
  obtain ⟨h38, e39, hf⟩ := bd1_e hf
  refine g_putF (pc := 38) (ci := 7) (kk := 5) ty_Tables tyok_Tables nm_Tables d_Tables_new_38 rfl in_Tables (by decide) wd_241 rfl rfl rfl (fun _ => rfl) (fun _ => rfl) (fun _ z => by cases z; omega) e39 ?_
  refine g_aload_n (pc := 41) 0 d_Tables_new_41 rfl rfl ?_
  refine g_bipush (pc := 42) (18 : Int32) d_Tables_new_42 (by decide) ?_
  obtain ⟨g41, hf⟩ := grd_e hf
  obtain ⟨h42, e43, hf⟩ := bd1_e hf
  obtain ⟨g44, e45⟩ := mkn_e e43
  refine g_newa (pc := 44) rfl 3 18 .long (18, .inr (.inl (fun _ => 0))) wd_261 rfl (fun _ => rfl) (fun _ _ _ a b => Option.some.inj (a.symm.trans b)) (fun _ => rfl) (fun _ => rfl) (fun _ z => absurd z id) (by decide) (by decide) (by decide) d_Tables_new_44 g44 (okl_cons (okv_r (by omega)) (okl_nil)) (oks_cons (okv_r (by omega)) (oks_nil)) ?_
  rw [← e45]
  have h42_n : h42.1 = h38.1 + 1 := by rw [e45]; rfl
  obtain ⟨g48, hf⟩ := grd_e hf
  obtain ⟨h46, e47, hf⟩ := bd1_e hf
  refine g_putF (pc := 46) (ci := 7) (kk := 6) ty_Tables tyok_Tables nm_Tables d_Tables_new_46 rfl in_Tables (by decide) wd_242 rfl rfl rfl (fun _ => rfl) (fun _ => rfl) (fun _ z => by cases z; omega) e47 ?_
  refine g_aload_n (pc := 49) 0 d_Tables_new_49 rfl rfl ?_
  refine g_sipush (pc := 50) (216 : Int32) d_Tables_new_50 (by decide) ?_
  obtain ⟨g49, hf⟩ := grd_e hf
  obtain ⟨h50, e51, hf⟩ := bd1_e hf
  obtain ⟨g52, e53⟩ := mkn_e e51
  refine g_newa (pc := 53) rfl 3 216 .long (216, .inr (.inl (fun _ => 0))) wd_261 rfl (fun _ => rfl) (fun _ _ _ a b => Option.some.inj (a.symm.trans b)) (fun _ => rfl) (fun _ => rfl) (fun _ z => absurd z id) (by decide) (by decide) (by decide) d_Tables_new_53 g52 (okl_cons (okv_r (by omega)) (okl_nil)) (oks_cons (okv_r (by omega)) (oks_nil)) ?_
  rw [← e53]
  have h50_n : h50.1 = h46.1 + 1 := by rw [e53]; rfl
  obtain ⟨g56, hf⟩ := grd_e hf
  obtain ⟨h54, e55, hf⟩ := bd1_e hf
  refine g_putF (pc := 55) (ci := 7) (kk := 7) ty_Tables tyok_Tables nm_Tables d_Tables_new_55 rfl in_Tables (by decide) wd_243 rfl rfl rfl (fun _ => rfl) (fun _ => rfl) (fun _ z => by cases z; omega) e55 ?_
  obtain rfl := ret1 hf
  exact g_vret (pc := 58) rfl d_Tables_new_58
def f_Tables_new (a0 : Nat) (h : mH) : Option mH := f_Tables_new_0 a0 h
theorem c_Tables_new {a0 : Nat} {h : mH} {h' : mH} (hf : f_Tables_new a0 h = some h') : MM y_Tables_new prog_8_method_1_code 1 none 1 20 [.ref a0] h none h' :=
  mm_of_G (by decide) (Nat.le_of_ble_eq_true rfl) (t_Tables_new_0 _ _ _ hf)
/-! Odds init ()V -/
theorem d_Odds_new_0 : decode prog_2_method_1_code 0 = .ok (.aload_n 0, 1) := by decide +kernel
theorem d_Odds_new_1 : decode prog_2_method_1_code 1 = .ok (.invokespecial 3, 3) := by decide +kernel
theorem d_Odds_new_4 : decode prog_2_method_1_code 4 = .ok (.aload_n 0, 1) := by decide +kernel
theorem d_Odds_new_5 : decode prog_2_method_1_code 5 = .ok (.bipush 10, 2) := by decide +kernel
theorem d_Odds_new_7 : decode prog_2_method_1_code 7 = .ok (.newarray .long, 2) := by decide +kernel
theorem d_Odds_new_9 : decode prog_2_method_1_code 9 = .ok (.putfield 11, 3) := by decide +kernel
theorem d_Odds_new_12 : decode prog_2_method_1_code 12 = .ok (.return_, 1) := by decide +kernel
def f_Odds_new_0  (a0 : Nat) (h : mH) : Option mH :=
  grd (¬ a0 = h.1) <|
  bd1 (mkn h 10 (.inl (3, (10, .inr (.inl (fun _ => 0)))))) fun h2 =>
  grd (h.1 < h2.1) <|
  bd1 (pV h2 a0 1 2 (.ref h.1)) fun h6 =>
  some h6
set_option maxRecDepth 20000 in
theorem t_Odds_new_0  (a0 : Nat) (h : mH) (h' : mH) (hf : f_Odds_new_0  a0 h = some h') : G y_Odds_new prog_2_method_1_code 1 none 1 20 0 [(0, .ref a0)] [] h none h' := by
  unfold f_Odds_new_0 at hf
  refine g_aload_n (pc := 0) 0 d_Odds_new_0 rfl rfl ?_
  refine g_objInit (pc := 1) d_Odds_new_1 wd_267 wd_24 wd_25 (by decide) (Nat.le_of_ble_eq_true rfl) ?_
  refine g_aload_n (pc := 4) 0 d_Odds_new_4 rfl rfl ?_
  refine g_bipush (pc := 5) (10 : Int32) d_Odds_new_5 (by decide) ?_
  obtain ⟨g1, hf⟩ := grd_e hf
  obtain ⟨h2, e3, hf⟩ := bd1_e hf
  obtain ⟨g4, e5⟩ := mkn_e e3
  refine g_newa (pc := 7) rfl 3 10 .long (10, .inr (.inl (fun _ => 0))) wd_261 rfl (fun _ => rfl) (fun _ _ _ a b => Option.some.inj (a.symm.trans b)) (fun _ => rfl) (fun _ => rfl) (fun _ z => absurd z id) (by decide) (by decide) (by decide) d_Odds_new_7 g4 (okl_cons (okv_r (by omega)) (okl_nil)) (oks_cons (okv_r (by omega)) (oks_nil)) ?_
  rw [← e5]
  have h2_n : h2.1 = h.1 + 1 := by rw [e5]; rfl
  obtain ⟨g8, hf⟩ := grd_e hf
  obtain ⟨h6, e7, hf⟩ := bd1_e hf
  refine g_putF (pc := 9) (ci := 1) (kk := 2) ty_Odds tyok_Odds nm_Odds d_Odds_new_9 rfl in_Odds (by decide) wd_272 rfl rfl rfl (fun _ => rfl) (fun _ => rfl) (fun _ z => by cases z; omega) e7 ?_
  obtain rfl := ret1 hf
  exact g_vret (pc := 12) rfl d_Odds_new_12
def f_Odds_new (a0 : Nat) (h : mH) : Option mH := f_Odds_new_0 a0 h
theorem c_Odds_new {a0 : Nat} {h : mH} {h' : mH} (hf : f_Odds_new a0 h = some h') : MM y_Odds_new prog_2_method_1_code 1 none 1 20 [.ref a0] h none h' :=
  mm_of_G (by decide) (Nat.le_of_ble_eq_true rfl) (t_Odds_new_0 _ _ _ hf)
/-! Sheet init ()V -/
theorem d_Sheet_new_0 : decode prog_6_method_1_code 0 = .ok (.aload_n 0, 1) := by decide +kernel
theorem d_Sheet_new_1 : decode prog_6_method_1_code 1 = .ok (.invokespecial 3, 3) := by decide +kernel
theorem d_Sheet_new_4 : decode prog_6_method_1_code 4 = .ok (.aload_n 0, 1) := by decide +kernel
theorem d_Sheet_new_5 : decode prog_6_method_1_code 5 = .ok (.bipush (-4), 2) := by decide +kernel
theorem d_Sheet_new_7 : decode prog_6_method_1_code 7 = .ok (.putfield 9, 3) := by decide +kernel
theorem d_Sheet_new_10 : decode prog_6_method_1_code 10 = .ok (.aload_n 0, 1) := by decide +kernel
theorem d_Sheet_new_11 : decode prog_6_method_1_code 11 = .ok (.bipush 40, 2) := by decide +kernel
theorem d_Sheet_new_13 : decode prog_6_method_1_code 13 = .ok (.newarray .int, 2) := by decide +kernel
theorem d_Sheet_new_15 : decode prog_6_method_1_code 15 = .ok (.putfield 15, 3) := by decide +kernel
theorem d_Sheet_new_18 : decode prog_6_method_1_code 18 = .ok (.return_, 1) := by decide +kernel
def f_Sheet_new_0  (a0 : Nat) (h : mH) : Option mH :=
  bd1 (pV h a0 5 0 (.int ((-4) : Int32))) fun h1 =>
  grd (¬ a0 = h1.1) <|
  bd1 (mkn h1 40 (.inl (0, (40, .inl (fun _ => 0))))) fun h4 =>
  grd (h1.1 < h4.1) <|
  bd1 (pV h4 a0 5 2 (.ref h1.1)) fun h8 =>
  some h8
set_option maxRecDepth 20000 in
theorem t_Sheet_new_0  (a0 : Nat) (h : mH) (h' : mH) (hf : f_Sheet_new_0  a0 h = some h') : G y_Sheet_new prog_6_method_1_code 1 none 1 20 0 [(0, .ref a0)] [] h none h' := by
  unfold f_Sheet_new_0 at hf
  refine g_aload_n (pc := 0) 0 d_Sheet_new_0 rfl rfl ?_
  refine g_objInit (pc := 1) d_Sheet_new_1 wd_284 wd_24 wd_25 (by decide) (Nat.le_of_ble_eq_true rfl) ?_
  refine g_aload_n (pc := 4) 0 d_Sheet_new_4 rfl rfl ?_
  refine g_bipush (pc := 5) ((-4) : Int32) d_Sheet_new_5 (by decide) ?_
  obtain ⟨h1, e2, hf⟩ := bd1_e hf
  refine g_put (pc := 7) (ci := 5) (kk := 0) ty_Sheet tyok_Sheet nm_Sheet d_Sheet_new_7 rfl in_Sheet (by decide) wd_285 rfl (fun _ => rfl) (fun _ => rfl) (fun _ z => by cases z) e2 ?_
  refine g_aload_n (pc := 10) 0 d_Sheet_new_10 rfl rfl ?_
  refine g_bipush (pc := 11) (40 : Int32) d_Sheet_new_11 (by decide) ?_
  obtain ⟨g3, hf⟩ := grd_e hf
  obtain ⟨h4, e5, hf⟩ := bd1_e hf
  obtain ⟨g6, e7⟩ := mkn_e e5
  refine g_newa (pc := 13) rfl 0 40 .int (40, .inl (fun _ => 0)) wd_92 rfl (fun _ => rfl) (fun _ _ _ a b => Option.some.inj (a.symm.trans b)) (fun _ => rfl) (fun _ => rfl) (fun _ z => absurd z id) (by decide) (by decide) (by decide) d_Sheet_new_13 g6 (okl_cons (okv_r (by omega)) (okl_nil)) (oks_cons (okv_r (by omega)) (oks_nil)) ?_
  rw [← e7]
  have h4_n : h4.1 = h1.1 + 1 := by rw [e7]; rfl
  obtain ⟨g10, hf⟩ := grd_e hf
  obtain ⟨h8, e9, hf⟩ := bd1_e hf
  refine g_putF (pc := 15) (ci := 5) (kk := 2) ty_Sheet tyok_Sheet nm_Sheet d_Sheet_new_15 rfl in_Sheet (by decide) wd_288 rfl rfl rfl (fun _ => rfl) (fun _ => rfl) (fun _ z => by cases z; omega) e9 ?_
  obtain rfl := ret1 hf
  exact g_vret (pc := 18) rfl d_Sheet_new_18
def f_Sheet_new (a0 : Nat) (h : mH) : Option mH := f_Sheet_new_0 a0 h
theorem c_Sheet_new {a0 : Nat} {h : mH} {h' : mH} (hf : f_Sheet_new a0 h = some h') : MM y_Sheet_new prog_6_method_1_code 1 none 1 20 [.ref a0] h none h' :=
  mm_of_G (by decide) (Nat.le_of_ble_eq_true rfl) (t_Sheet_new_0 _ _ _ hf)
/-! Q init ()V -/
theorem d_Q_new_0 : decode prog_1_method_1_code 0 = .ok (.aload_n 0, 1) := by decide +kernel
theorem d_Q_new_1 : decode prog_1_method_1_code 1 = .ok (.invokespecial 1, 3) := by decide +kernel
theorem d_Q_new_4 : decode prog_1_method_1_code 4 = .ok (.aload_n 0, 1) := by decide +kernel
theorem d_Q_new_5 : decode prog_1_method_1_code 5 = .ok (.new 7, 3) := by decide +kernel
theorem d_Q_new_8 : decode prog_1_method_1_code 8 = .ok (.dup, 1) := by decide +kernel
theorem d_Q_new_9 : decode prog_1_method_1_code 9 = .ok (.invokespecial 9, 3) := by decide +kernel
theorem d_Q_new_12 : decode prog_1_method_1_code 12 = .ok (.putfield 10, 3) := by decide +kernel
theorem d_Q_new_15 : decode prog_1_method_1_code 15 = .ok (.aload_n 0, 1) := by decide +kernel
theorem d_Q_new_16 : decode prog_1_method_1_code 16 = .ok (.new 16, 3) := by decide +kernel
theorem d_Q_new_19 : decode prog_1_method_1_code 19 = .ok (.dup, 1) := by decide +kernel
theorem d_Q_new_20 : decode prog_1_method_1_code 20 = .ok (.invokespecial 18, 3) := by decide +kernel
theorem d_Q_new_23 : decode prog_1_method_1_code 23 = .ok (.putfield 19, 3) := by decide +kernel
theorem d_Q_new_26 : decode prog_1_method_1_code 26 = .ok (.aload_n 0, 1) := by decide +kernel
theorem d_Q_new_27 : decode prog_1_method_1_code 27 = .ok (.new 16, 3) := by decide +kernel
theorem d_Q_new_30 : decode prog_1_method_1_code 30 = .ok (.dup, 1) := by decide +kernel
theorem d_Q_new_31 : decode prog_1_method_1_code 31 = .ok (.invokespecial 18, 3) := by decide +kernel
theorem d_Q_new_34 : decode prog_1_method_1_code 34 = .ok (.putfield 23, 3) := by decide +kernel
theorem d_Q_new_37 : decode prog_1_method_1_code 37 = .ok (.aload_n 0, 1) := by decide +kernel
theorem d_Q_new_38 : decode prog_1_method_1_code 38 = .ok (.iconst 2, 1) := by decide +kernel
theorem d_Q_new_39 : decode prog_1_method_1_code 39 = .ok (.anewarray 16, 3) := by decide +kernel
theorem d_Q_new_42 : decode prog_1_method_1_code 42 = .ok (.putfield 26, 3) := by decide +kernel
theorem d_Q_new_45 : decode prog_1_method_1_code 45 = .ok (.aload_n 0, 1) := by decide +kernel
theorem d_Q_new_46 : decode prog_1_method_1_code 46 = .ok (.iconst 2, 1) := by decide +kernel
theorem d_Q_new_47 : decode prog_1_method_1_code 47 = .ok (.newarray .boolean, 2) := by decide +kernel
theorem d_Q_new_49 : decode prog_1_method_1_code 49 = .ok (.putfield 30, 3) := by decide +kernel
theorem d_Q_new_52 : decode prog_1_method_1_code 52 = .ok (.aload_n 0, 1) := by decide +kernel
theorem d_Q_new_53 : decode prog_1_method_1_code 53 = .ok (.iconst 4, 1) := by decide +kernel
theorem d_Q_new_54 : decode prog_1_method_1_code 54 = .ok (.anewarray 34, 3) := by decide +kernel
theorem d_Q_new_57 : decode prog_1_method_1_code 57 = .ok (.putfield 36, 3) := by decide +kernel
theorem d_Q_new_60 : decode prog_1_method_1_code 60 = .ok (.aload_n 0, 1) := by decide +kernel
theorem d_Q_new_61 : decode prog_1_method_1_code 61 = .ok (.new 40, 3) := by decide +kernel
theorem d_Q_new_64 : decode prog_1_method_1_code 64 = .ok (.dup, 1) := by decide +kernel
theorem d_Q_new_65 : decode prog_1_method_1_code 65 = .ok (.invokespecial 42, 3) := by decide +kernel
theorem d_Q_new_68 : decode prog_1_method_1_code 68 = .ok (.putfield 43, 3) := by decide +kernel
theorem d_Q_new_71 : decode prog_1_method_1_code 71 = .ok (.aload_n 0, 1) := by decide +kernel
theorem d_Q_new_72 : decode prog_1_method_1_code 72 = .ok (.new 47, 3) := by decide +kernel
theorem d_Q_new_75 : decode prog_1_method_1_code 75 = .ok (.dup, 1) := by decide +kernel
theorem d_Q_new_76 : decode prog_1_method_1_code 76 = .ok (.invokespecial 49, 3) := by decide +kernel
theorem d_Q_new_79 : decode prog_1_method_1_code 79 = .ok (.putfield 50, 3) := by decide +kernel
theorem d_Q_new_82 : decode prog_1_method_1_code 82 = .ok (.aload_n 0, 1) := by decide +kernel
theorem d_Q_new_83 : decode prog_1_method_1_code 83 = .ok (.new 54, 3) := by decide +kernel
theorem d_Q_new_86 : decode prog_1_method_1_code 86 = .ok (.dup, 1) := by decide +kernel
theorem d_Q_new_87 : decode prog_1_method_1_code 87 = .ok (.invokespecial 56, 3) := by decide +kernel
theorem d_Q_new_90 : decode prog_1_method_1_code 90 = .ok (.putfield 57, 3) := by decide +kernel
theorem d_Q_new_93 : decode prog_1_method_1_code 93 = .ok (.iconst 0, 1) := by decide +kernel
theorem d_Q_new_94 : decode prog_1_method_1_code 94 = .ok (.istore_n 1, 1) := by decide +kernel
theorem d_Q_new_95 : decode prog_1_method_1_code 95 = .ok (.iload_n 1, 1) := by decide +kernel
theorem d_Q_new_96 : decode prog_1_method_1_code 96 = .ok (.iconst 2, 1) := by decide +kernel
theorem d_Q_new_97 : decode prog_1_method_1_code 97 = .ok (.if_icmp .ge 22, 3) := by decide +kernel
theorem d_Q_new_100 : decode prog_1_method_1_code 100 = .ok (.aload_n 0, 1) := by decide +kernel
theorem d_Q_new_101 : decode prog_1_method_1_code 101 = .ok (.getfield 26, 3) := by decide +kernel
theorem d_Q_new_104 : decode prog_1_method_1_code 104 = .ok (.iload_n 1, 1) := by decide +kernel
theorem d_Q_new_105 : decode prog_1_method_1_code 105 = .ok (.new 16, 3) := by decide +kernel
theorem d_Q_new_108 : decode prog_1_method_1_code 108 = .ok (.dup, 1) := by decide +kernel
theorem d_Q_new_109 : decode prog_1_method_1_code 109 = .ok (.invokespecial 18, 3) := by decide +kernel
theorem d_Q_new_112 : decode prog_1_method_1_code 112 = .ok (.aastore, 1) := by decide +kernel
theorem d_Q_new_113 : decode prog_1_method_1_code 113 = .ok (.iinc 1 1, 3) := by decide +kernel
theorem d_Q_new_116 : decode prog_1_method_1_code 116 = .ok (.goto (-21), 3) := by decide +kernel
theorem d_Q_new_119 : decode prog_1_method_1_code 119 = .ok (.iconst 0, 1) := by decide +kernel
theorem d_Q_new_120 : decode prog_1_method_1_code 120 = .ok (.istore_n 1, 1) := by decide +kernel
theorem d_Q_new_121 : decode prog_1_method_1_code 121 = .ok (.iload_n 1, 1) := by decide +kernel
theorem d_Q_new_122 : decode prog_1_method_1_code 122 = .ok (.iconst 4, 1) := by decide +kernel
theorem d_Q_new_123 : decode prog_1_method_1_code 123 = .ok (.if_icmp .ge 22, 3) := by decide +kernel
theorem d_Q_new_126 : decode prog_1_method_1_code 126 = .ok (.aload_n 0, 1) := by decide +kernel
theorem d_Q_new_127 : decode prog_1_method_1_code 127 = .ok (.getfield 36, 3) := by decide +kernel
theorem d_Q_new_130 : decode prog_1_method_1_code 130 = .ok (.iload_n 1, 1) := by decide +kernel
theorem d_Q_new_131 : decode prog_1_method_1_code 131 = .ok (.new 34, 3) := by decide +kernel
theorem d_Q_new_134 : decode prog_1_method_1_code 134 = .ok (.dup, 1) := by decide +kernel
theorem d_Q_new_135 : decode prog_1_method_1_code 135 = .ok (.invokespecial 61, 3) := by decide +kernel
theorem d_Q_new_138 : decode prog_1_method_1_code 138 = .ok (.aastore, 1) := by decide +kernel
theorem d_Q_new_139 : decode prog_1_method_1_code 139 = .ok (.iinc 1 1, 3) := by decide +kernel
theorem d_Q_new_142 : decode prog_1_method_1_code 142 = .ok (.goto (-21), 3) := by decide +kernel
theorem d_Q_new_145 : decode prog_1_method_1_code 145 = .ok (.return_, 1) := by decide +kernel
def f_Q_new_121b (rec121 : Nat → Int32 → mH → Option mH) (b0 : Nat) (b1 : Int32) (h : mH) : Option mH :=
  if (4 : Int32) ≤ b1 then
    some h
  else
    bd1 (gR h b0 0 5) fun x113 =>
    grd (¬ b0 = h.1 ∧ ¬ x113 = h.1) <|
    bd1 (mkn h 3 (.inr (5, [.int 0, .int 0, .null]))) fun h117 =>
    grd (b0 < h117.1 ∧ h.1 < h117.1 ∧ x113 < h117.1) <|
    bd1 (f_Sheet_new h.1 h117) fun h124 =>
    bd1 (sR h124 5 x113 5 b1 h.1) fun h126 =>
    rec121 b0 (b1 + (1 : Int32)) h126
set_option maxRecDepth 20000 in
theorem t_Q_new_121b (rec121 : Nat → Int32 → mH → Option mH) (hrec121 : ∀ (b0 : Nat) (b1 : Int32) (h : mH) (h' : mH), rec121 b0 b1 h = some h' → G y_Q_new prog_1_method_1_code 2 none 3 60 121 [(0, .ref b0), (1, .int b1)] [] h none h') (b0 : Nat) (b1 : Int32) (h : mH) (h' : mH) (hf : f_Q_new_121b rec121 b0 b1 h = some h') : G y_Q_new prog_1_method_1_code 2 none 3 60 121 [(0, .ref b0), (1, .int b1)] [] h none h' := by
  unfold f_Q_new_121b at hf
  refine g_iload_n (pc := 121) 1 d_Q_new_121 rfl rfl ?_
  refine g_iconst (pc := 122) (4 : Int32) d_Q_new_122 (by decide) ?_
  refine g_icmpge (pc := 123) 145 d_Q_new_123 (by decide) (fun c128 => ?_) (fun c128 => ?_)
  · replace hf := (if_pos c128).symm.trans hf
    obtain rfl := ret1 hf
    exact g_vret (pc := 145) rfl d_Q_new_145
  · replace hf := (if_neg c128).symm.trans hf
    refine g_aload_n (pc := 126) 0 d_Q_new_126 rfl rfl ?_
    obtain ⟨x113, e114, hf⟩ := bd1_e hf
    refine g_get (pc := 127) (ci := 0) (kk := 5) d_Q_new_127 rfl in_Q (by decide) wd_301 (gR_spec e114) ?_
    refine g_iload_n (pc := 130) 1 d_Q_new_130 rfl rfl ?_
    obtain ⟨⟨g115, g116⟩, hf⟩ := grd_e hf
    obtain ⟨h117, e118, hf⟩ := bd1_e hf
    obtain ⟨g119, e120⟩ := mkn_e e118
    refine g_new (pc := 131) (ci := 5) rfl [.int 0, .int 0, .null] ty_Sheet tyok_Sheet d_Q_new_131 rfl in_Sheet wd_196 wd_280 wd_8 (by decide) (by simp) g119 (okl_cons (okv_r (by omega)) (okl_cons (fun _ z => by cases z) (okl_nil))) (oks_cons (fun _ z => by cases z) (oks_cons (okv_r (by omega)) (oks_nil))) ?_
    rw [← e120]
    have h117_n : h117.1 = h.1 + 1 := by rw [e120]; rfl
    refine g_dup (pc := 134) d_Q_new_134 rfl ?_
    obtain ⟨⟨g121, g122, g123⟩, hf⟩ := grd_e hf
    obtain ⟨h124, e125, hf⟩ := bd1_e hf
    refine g_callIN (pc := 135) "QuotaLaws" [] (site_of si_Sheet_new (by decide) (by decide)) rfl wd_281 wd_282 d_Q_new_135 (Nat.le_of_ble_eq_true rfl) (fun _ => rfl) (fun _ => (okl_cons (okv_r (by omega)) (okl_cons (fun _ z => by cases z) (okl_nil)))) (fun _ => (oks_cons (okv_r (by omega)) (oks_cons (fun _ z => by cases z) (oks_cons (okv_r (by omega)) (oks_nil))))) (c_Sheet_new e125) rfl ?_
    refine g_st [.ref h.1, .int b1, .ref x113] rfl ?_
    obtain ⟨h126, e127, hf⟩ := bd1_e hf
    refine g_aast (pc := 138) d_Q_new_138 (ci := 5) rfl (fun _ => rfl) e127 ?_
    refine g_iinc (pc := 139) 1 (b1 + (1 : Int32)) [(1, .int (b1 + (1 : Int32))), (0, .ref b0)] d_Q_new_139 rfl rfl (Nat.le_of_ble_eq_true rfl) rfl ?_
    refine g_goto (pc := 142) 121 d_Q_new_142 (by decide) ?_
    refine g_lv [1, 0] rfl ?_
    exact hrec121 _ _ _ _  hf
def f_Q_new_121  : Nat → Nat → Int32 → mH → Option mH
  | 0 => fun _ _ _ => none
  | n + 1 => f_Q_new_121b  (f_Q_new_121  n)
theorem t_Q_new_121  : ∀ (n : Nat) (b0 : Nat) (b1 : Int32) (h : mH) (h' : mH) (hf : f_Q_new_121  n b0 b1 h = some h'), G y_Q_new prog_1_method_1_code 2 none 3 60 121 [(0, .ref b0), (1, .int b1)] [] h none h'
  | 0, _, _, _, _, hf => by cases hf
  | n + 1, _, _, _, _, hf => t_Q_new_121b  (f_Q_new_121  n) (t_Q_new_121  n) _ _ _ _ hf
def f_Q_new_95b (rec95 : Nat → Int32 → mH → Option mH) (b0 : Nat) (b1 : Int32) (h : mH) : Option mH :=
  if (2 : Int32) ≤ b1 then
    f_Q_new_121  FU b0 (0 : Int32) h
  else
    bd1 (gR h b0 0 3) fun x97 =>
    grd (¬ b0 = h.1 ∧ ¬ x97 = h.1) <|
    bd1 (mkn h 19 (.inr (4, [.int 0, .int 0, .int 0, .int 0, .int 0, .int 0, .null, .null, .null, .null, .null, .null, .null, .null, .null, .null, .null, .null, .null]))) fun h101 =>
    grd (b0 < h101.1 ∧ h.1 < h101.1 ∧ x97 < h101.1) <|
    bd1 (f_Realm_new h.1 h101) fun h108 =>
    bd1 (sR h108 4 x97 4 b1 h.1) fun h110 =>
    rec95 b0 (b1 + (1 : Int32)) h110
set_option maxRecDepth 20000 in
theorem t_Q_new_95b (rec95 : Nat → Int32 → mH → Option mH) (hrec95 : ∀ (b0 : Nat) (b1 : Int32) (h : mH) (h' : mH), rec95 b0 b1 h = some h' → G y_Q_new prog_1_method_1_code 2 none 3 60 95 [(0, .ref b0), (1, .int b1)] [] h none h') (b0 : Nat) (b1 : Int32) (h : mH) (h' : mH) (hf : f_Q_new_95b rec95 b0 b1 h = some h') : G y_Q_new prog_1_method_1_code 2 none 3 60 95 [(0, .ref b0), (1, .int b1)] [] h none h' := by
  unfold f_Q_new_95b at hf
  refine g_iload_n (pc := 95) 1 d_Q_new_95 rfl rfl ?_
  refine g_iconst (pc := 96) (2 : Int32) d_Q_new_96 (by decide) ?_
  refine g_icmpge (pc := 97) 119 d_Q_new_97 (by decide) (fun c112 => ?_) (fun c112 => ?_)
  · replace hf := (if_pos c112).symm.trans hf
    refine g_iconst (pc := 119) (0 : Int32) d_Q_new_119 (by decide) ?_
    refine g_istore_n (pc := 120) [(1, .int (0 : Int32)), (0, .ref b0)] d_Q_new_120 rfl (Nat.le_of_ble_eq_true rfl) rfl ?_
    refine g_lv [1, 0] rfl ?_
    exact t_Q_new_121  FU _ _ _ _  hf
  · replace hf := (if_neg c112).symm.trans hf
    refine g_aload_n (pc := 100) 0 d_Q_new_100 rfl rfl ?_
    obtain ⟨x97, e98, hf⟩ := bd1_e hf
    refine g_get (pc := 101) (ci := 0) (kk := 3) d_Q_new_101 rfl in_Q (by decide) wd_299 (gR_spec e98) ?_
    refine g_iload_n (pc := 104) 1 d_Q_new_104 rfl rfl ?_
    obtain ⟨⟨g99, g100⟩, hf⟩ := grd_e hf
    obtain ⟨h101, e102, hf⟩ := bd1_e hf
    obtain ⟨g103, e104⟩ := mkn_e e102
    refine g_new (pc := 105) (ci := 4) rfl [.int 0, .int 0, .int 0, .int 0, .int 0, .int 0, .null, .null, .null, .null, .null, .null, .null, .null, .null, .null, .null, .null, .null] ty_Realm tyok_Realm d_Q_new_105 rfl in_Realm wd_65 wd_66 wd_3 (by decide) (by simp) g103 (okl_cons (okv_r (by omega)) (okl_cons (fun _ z => by cases z) (okl_nil))) (oks_cons (fun _ z => by cases z) (oks_cons (okv_r (by omega)) (oks_nil))) ?_
    rw [← e104]
    have h101_n : h101.1 = h.1 + 1 := by rw [e104]; rfl
    refine g_dup (pc := 108) d_Q_new_108 rfl ?_
    obtain ⟨⟨g105, g106, g107⟩, hf⟩ := grd_e hf
    obtain ⟨h108, e109, hf⟩ := bd1_e hf
    refine g_callIN (pc := 109) "QuotaLaws" [] (site_of si_Realm_new (by decide) (by decide)) rfl wd_67 wd_68 d_Q_new_109 (Nat.le_of_ble_eq_true rfl) (fun _ => rfl) (fun _ => (okl_cons (okv_r (by omega)) (okl_cons (fun _ z => by cases z) (okl_nil)))) (fun _ => (oks_cons (okv_r (by omega)) (oks_cons (fun _ z => by cases z) (oks_cons (okv_r (by omega)) (oks_nil))))) (c_Realm_new e109) rfl ?_
    refine g_st [.ref h.1, .int b1, .ref x97] rfl ?_
    obtain ⟨h110, e111, hf⟩ := bd1_e hf
    refine g_aast (pc := 112) d_Q_new_112 (ci := 4) rfl (fun _ => rfl) e111 ?_
    refine g_iinc (pc := 113) 1 (b1 + (1 : Int32)) [(1, .int (b1 + (1 : Int32))), (0, .ref b0)] d_Q_new_113 rfl rfl (Nat.le_of_ble_eq_true rfl) rfl ?_
    refine g_goto (pc := 116) 95 d_Q_new_116 (by decide) ?_
    refine g_lv [1, 0] rfl ?_
    exact hrec95 _ _ _ _  hf
def f_Q_new_95  : Nat → Nat → Int32 → mH → Option mH
  | 0 => fun _ _ _ => none
  | n + 1 => f_Q_new_95b  (f_Q_new_95  n)
theorem t_Q_new_95  : ∀ (n : Nat) (b0 : Nat) (b1 : Int32) (h : mH) (h' : mH) (hf : f_Q_new_95  n b0 b1 h = some h'), G y_Q_new prog_1_method_1_code 2 none 3 60 95 [(0, .ref b0), (1, .int b1)] [] h none h'
  | 0, _, _, _, _, hf => by cases hf
  | n + 1, _, _, _, _, hf => t_Q_new_95b  (f_Q_new_95  n) (t_Q_new_95  n) _ _ _ _ hf
def f_Q_new_0  (a0 : Nat) (h : mH) : Option mH :=
  grd (¬ a0 = h.1) <|
  bd1 (mkn h 9 (.inr (3, [.null, .int 0, .int 0, .int 0, .int 0, .int 0, .int 0, .int 0, .int 0]))) fun h2 =>
  grd (a0 < h2.1 ∧ h.1 < h2.1) <|
  bd1 (f_Reader_new h.1 h2) fun h8 =>
  grd (h.1 < h8.1) <|
  bd1 (pV h8 a0 0 0 (.ref h.1)) fun h10 =>
  grd (¬ a0 = h10.1) <|
  bd1 (mkn h10 19 (.inr (4, [.int 0, .int 0, .int 0, .int 0, .int 0, .int 0, .null, .null, .null, .null, .null, .null, .null, .null, .null, .null, .null, .null, .null]))) fun h14 =>
  grd (a0 < h14.1 ∧ h10.1 < h14.1) <|
  bd1 (f_Realm_new h10.1 h14) fun h20 =>
  grd (h10.1 < h20.1) <|
  bd1 (pV h20 a0 0 1 (.ref h10.1)) fun h22 =>
  grd (¬ a0 = h22.1) <|
  bd1 (mkn h22 19 (.inr (4, [.int 0, .int 0, .int 0, .int 0, .int 0, .int 0, .null, .null, .null, .null, .null, .null, .null, .null, .null, .null, .null, .null, .null]))) fun h26 =>
  grd (a0 < h26.1 ∧ h22.1 < h26.1) <|
  bd1 (f_Realm_new h22.1 h26) fun h32 =>
  grd (h22.1 < h32.1) <|
  bd1 (pV h32 a0 0 2 (.ref h22.1)) fun h34 =>
  grd (¬ a0 = h34.1) <|
  bd1 (mkn h34 2 (.inl (4, 2, .inr (.inr (.inr (.inr (fun _ => none))))))) fun h38 =>
  grd (h34.1 < h38.1) <|
  bd1 (pV h38 a0 0 3 (.ref h34.1)) fun h42 =>
  grd (¬ a0 = h42.1) <|
  bd1 (mkn h42 2 (.inl (2, (2, .inl (fun _ => 0))))) fun h46 =>
  grd (h42.1 < h46.1) <|
  bd1 (pV h46 a0 0 4 (.ref h42.1)) fun h50 =>
  grd (¬ a0 = h50.1) <|
  bd1 (mkn h50 4 (.inl (5, 4, .inr (.inr (.inr (.inr (fun _ => none))))))) fun h54 =>
  grd (h50.1 < h54.1) <|
  bd1 (pV h54 a0 0 5 (.ref h50.1)) fun h58 =>
  grd (¬ a0 = h58.1) <|
  bd1 (mkn h58 8 (.inr (2, [.int 0, .null, .null, .null, .null, .null, .null, .null]))) fun h62 =>
  grd (a0 < h62.1 ∧ h58.1 < h62.1) <|
  bd1 (f_Planner_new h58.1 h62) fun h68 =>
  grd (h58.1 < h68.1) <|
  bd1 (pV h68 a0 0 6 (.ref h58.1)) fun h70 =>
  grd (¬ a0 = h70.1) <|
  bd1 (mkn h70 8 (.inr (7, [.int 0, .null, .null, .null, .null, .null, .null, .null]))) fun h74 =>
  grd (a0 < h74.1 ∧ h70.1 < h74.1) <|
  bd1 (f_Tables_new h70.1 h74) fun h80 =>
  grd (h70.1 < h80.1) <|
  bd1 (pV h80 a0 0 7 (.ref h70.1)) fun h82 =>
  grd (¬ a0 = h82.1) <|
  bd1 (mkn h82 3 (.inr (1, [.long 0, .long 0, .null]))) fun h86 =>
  grd (a0 < h86.1 ∧ h82.1 < h86.1) <|
  bd1 (f_Odds_new h82.1 h86) fun h92 =>
  grd (h82.1 < h92.1) <|
  bd1 (pV h92 a0 0 8 (.ref h82.1)) fun h94 =>
  f_Q_new_95  FU a0 (0 : Int32) h94
set_option maxRecDepth 20000 in
theorem t_Q_new_0  (a0 : Nat) (h : mH) (h' : mH) (hf : f_Q_new_0  a0 h = some h') : G y_Q_new prog_1_method_1_code 2 none 3 60 0 [(0, .ref a0)] [] h none h' := by
  unfold f_Q_new_0 at hf
  refine g_aload_n (pc := 0) 0 d_Q_new_0 rfl rfl ?_
  refine g_objInit (pc := 1) d_Q_new_1 wd_23 wd_24 wd_25 (by decide) (Nat.le_of_ble_eq_true rfl) ?_
  refine g_aload_n (pc := 4) 0 d_Q_new_4 rfl rfl ?_
  obtain ⟨g1, hf⟩ := grd_e hf
  obtain ⟨h2, e3, hf⟩ := bd1_e hf
  obtain ⟨g4, e5⟩ := mkn_e e3
  refine g_new (pc := 5) (ci := 3) rfl [.null, .int 0, .int 0, .int 0, .int 0, .int 0, .int 0, .int 0, .int 0] ty_Reader tyok_Reader d_Q_new_5 rfl in_Reader wd_26 wd_27 wd_2 (by decide) (by simp) g4 (okl_cons (okv_r (by omega)) (okl_nil)) (oks_cons (okv_r (by omega)) (oks_nil)) ?_
  rw [← e5]
  have h2_n : h2.1 = h.1 + 1 := by rw [e5]; rfl
  refine g_dup (pc := 8) d_Q_new_8 rfl ?_
  obtain ⟨⟨g6, g7⟩, hf⟩ := grd_e hf
  obtain ⟨h8, e9, hf⟩ := bd1_e hf
  refine g_callIN (pc := 9) "QuotaLaws" [] (site_of si_Reader_new (by decide) (by decide)) rfl wd_28 wd_29 d_Q_new_9 (Nat.le_of_ble_eq_true rfl) (fun _ => rfl) (fun _ => (okl_cons (okv_r (by omega)) (okl_nil))) (fun _ => (oks_cons (okv_r (by omega)) (oks_cons (okv_r (by omega)) (oks_nil)))) (c_Reader_new e9) rfl ?_
  refine g_st [.ref h.1, .ref a0] rfl ?_
  obtain ⟨g12, hf⟩ := grd_e hf
  obtain ⟨h10, e11, hf⟩ := bd1_e hf
  refine g_putF (pc := 12) (ci := 0) (kk := 0) ty_Q tyok_Q nm_Q d_Q_new_12 rfl in_Q (by decide) wd_296 rfl rfl rfl (fun _ => rfl) (fun _ => rfl) (fun _ z => by cases z; omega) e11 ?_
  refine g_aload_n (pc := 15) 0 d_Q_new_15 rfl rfl ?_
  obtain ⟨g13, hf⟩ := grd_e hf
  obtain ⟨h14, e15, hf⟩ := bd1_e hf
  obtain ⟨g16, e17⟩ := mkn_e e15
  refine g_new (pc := 16) (ci := 4) rfl [.int 0, .int 0, .int 0, .int 0, .int 0, .int 0, .null, .null, .null, .null, .null, .null, .null, .null, .null, .null, .null, .null, .null] ty_Realm tyok_Realm d_Q_new_16 rfl in_Realm wd_65 wd_66 wd_3 (by decide) (by simp) g16 (okl_cons (okv_r (by omega)) (okl_nil)) (oks_cons (okv_r (by omega)) (oks_nil)) ?_
  rw [← e17]
  have h14_n : h14.1 = h10.1 + 1 := by rw [e17]; rfl
  refine g_dup (pc := 19) d_Q_new_19 rfl ?_
  obtain ⟨⟨g18, g19⟩, hf⟩ := grd_e hf
  obtain ⟨h20, e21, hf⟩ := bd1_e hf
  refine g_callIN (pc := 20) "QuotaLaws" [] (site_of si_Realm_new (by decide) (by decide)) rfl wd_67 wd_68 d_Q_new_20 (Nat.le_of_ble_eq_true rfl) (fun _ => rfl) (fun _ => (okl_cons (okv_r (by omega)) (okl_nil))) (fun _ => (oks_cons (okv_r (by omega)) (oks_cons (okv_r (by omega)) (oks_nil)))) (c_Realm_new e21) rfl ?_
  refine g_st [.ref h10.1, .ref a0] rfl ?_
  obtain ⟨g24, hf⟩ := grd_e hf
  obtain ⟨h22, e23, hf⟩ := bd1_e hf
  refine g_putF (pc := 23) (ci := 0) (kk := 1) ty_Q tyok_Q nm_Q d_Q_new_23 rfl in_Q (by decide) wd_297 rfl rfl rfl (fun _ => rfl) (fun _ => rfl) (fun _ z => by cases z; omega) e23 ?_
  refine g_aload_n (pc := 26) 0 d_Q_new_26 rfl rfl ?_
  obtain ⟨g25, hf⟩ := grd_e hf
  obtain ⟨h26, e27, hf⟩ := bd1_e hf
  obtain ⟨g28, e29⟩ := mkn_e e27
  refine g_new (pc := 27) (ci := 4) rfl [.int 0, .int 0, .int 0, .int 0, .int 0, .int 0, .null, .null, .null, .null, .null, .null, .null, .null, .null, .null, .null, .null, .null] ty_Realm tyok_Realm d_Q_new_27 rfl in_Realm wd_65 wd_66 wd_3 (by decide) (by simp) g28 (okl_cons (okv_r (by omega)) (okl_nil)) (oks_cons (okv_r (by omega)) (oks_nil)) ?_
  rw [← e29]
  have h26_n : h26.1 = h22.1 + 1 := by rw [e29]; rfl
  refine g_dup (pc := 30) d_Q_new_30 rfl ?_
  obtain ⟨⟨g30, g31⟩, hf⟩ := grd_e hf
  obtain ⟨h32, e33, hf⟩ := bd1_e hf
  refine g_callIN (pc := 31) "QuotaLaws" [] (site_of si_Realm_new (by decide) (by decide)) rfl wd_67 wd_68 d_Q_new_31 (Nat.le_of_ble_eq_true rfl) (fun _ => rfl) (fun _ => (okl_cons (okv_r (by omega)) (okl_nil))) (fun _ => (oks_cons (okv_r (by omega)) (oks_cons (okv_r (by omega)) (oks_nil)))) (c_Realm_new e33) rfl ?_
  refine g_st [.ref h22.1, .ref a0] rfl ?_
  obtain ⟨g36, hf⟩ := grd_e hf
  obtain ⟨h34, e35, hf⟩ := bd1_e hf
  refine g_putF (pc := 34) (ci := 0) (kk := 2) ty_Q tyok_Q nm_Q d_Q_new_34 rfl in_Q (by decide) wd_298 rfl rfl rfl (fun _ => rfl) (fun _ => rfl) (fun _ z => by cases z; omega) e35 ?_
  refine g_aload_n (pc := 37) 0 d_Q_new_37 rfl rfl ?_
  refine g_iconst (pc := 38) (2 : Int32) d_Q_new_38 (by decide) ?_
  obtain ⟨g37, hf⟩ := grd_e hf
  obtain ⟨h38, e39, hf⟩ := bd1_e hf
  obtain ⟨g40, e41⟩ := mkn_e e39
  refine g_newq (pc := 39) rfl 4 2 "QuotaLaws$Realm" wd_65 (by decide) (fun _ => rfl) (by decide) (by decide) (by decide) d_Q_new_39 g40 (okl_cons (okv_r (by omega)) (okl_nil)) (oks_cons (okv_r (by omega)) (oks_nil)) ?_
  rw [← e41]
  have h38_n : h38.1 = h34.1 + 1 := by rw [e41]; rfl
  obtain ⟨g44, hf⟩ := grd_e hf
  obtain ⟨h42, e43, hf⟩ := bd1_e hf
  refine g_putF (pc := 42) (ci := 0) (kk := 3) ty_Q tyok_Q nm_Q d_Q_new_42 rfl in_Q (by decide) wd_299 rfl rfl rfl (fun _ => rfl) (fun _ => rfl) (fun _ z => by cases z; omega) e43 ?_
  refine g_aload_n (pc := 45) 0 d_Q_new_45 rfl rfl ?_
  refine g_iconst (pc := 46) (2 : Int32) d_Q_new_46 (by decide) ?_
  obtain ⟨g45, hf⟩ := grd_e hf
  obtain ⟨h46, e47, hf⟩ := bd1_e hf
  obtain ⟨g48, e49⟩ := mkn_e e47
  refine g_newa (pc := 47) rfl 2 2 .boolean (2, .inl (fun _ => 0)) wd_229 rfl (fun _ => rfl) (fun _ _ _ a b => Option.some.inj (a.symm.trans b)) (fun _ => rfl) (fun _ => rfl) (fun _ z => absurd z id) (by decide) (by decide) (by decide) d_Q_new_47 g48 (okl_cons (okv_r (by omega)) (okl_nil)) (oks_cons (okv_r (by omega)) (oks_nil)) ?_
  rw [← e49]
  have h46_n : h46.1 = h42.1 + 1 := by rw [e49]; rfl
  obtain ⟨g52, hf⟩ := grd_e hf
  obtain ⟨h50, e51, hf⟩ := bd1_e hf
  refine g_putF (pc := 49) (ci := 0) (kk := 4) ty_Q tyok_Q nm_Q d_Q_new_49 rfl in_Q (by decide) wd_300 rfl rfl rfl (fun _ => rfl) (fun _ => rfl) (fun _ z => by cases z; omega) e51 ?_
  refine g_aload_n (pc := 52) 0 d_Q_new_52 rfl rfl ?_
  refine g_iconst (pc := 53) (4 : Int32) d_Q_new_53 (by decide) ?_
  obtain ⟨g53, hf⟩ := grd_e hf
  obtain ⟨h54, e55, hf⟩ := bd1_e hf
  obtain ⟨g56, e57⟩ := mkn_e e55
  refine g_newq (pc := 54) rfl 5 4 "QuotaLaws$Sheet" wd_196 (by decide) (fun _ => rfl) (by decide) (by decide) (by decide) d_Q_new_54 g56 (okl_cons (okv_r (by omega)) (okl_nil)) (oks_cons (okv_r (by omega)) (oks_nil)) ?_
  rw [← e57]
  have h54_n : h54.1 = h50.1 + 1 := by rw [e57]; rfl
  obtain ⟨g60, hf⟩ := grd_e hf
  obtain ⟨h58, e59, hf⟩ := bd1_e hf
  refine g_putF (pc := 57) (ci := 0) (kk := 5) ty_Q tyok_Q nm_Q d_Q_new_57 rfl in_Q (by decide) wd_301 rfl rfl rfl (fun _ => rfl) (fun _ => rfl) (fun _ z => by cases z; omega) e59 ?_
  refine g_aload_n (pc := 60) 0 d_Q_new_60 rfl rfl ?_
  obtain ⟨g61, hf⟩ := grd_e hf
  obtain ⟨h62, e63, hf⟩ := bd1_e hf
  obtain ⟨g64, e65⟩ := mkn_e e63
  refine g_new (pc := 61) (ci := 2) rfl [.int 0, .null, .null, .null, .null, .null, .null, .null] ty_Planner tyok_Planner d_Q_new_61 rfl in_Planner wd_198 wd_199 wd_5 (by decide) (by simp) g64 (okl_cons (okv_r (by omega)) (okl_nil)) (oks_cons (okv_r (by omega)) (oks_nil)) ?_
  rw [← e65]
  have h62_n : h62.1 = h58.1 + 1 := by rw [e65]; rfl
  refine g_dup (pc := 64) d_Q_new_64 rfl ?_
  obtain ⟨⟨g66, g67⟩, hf⟩ := grd_e hf
  obtain ⟨h68, e69, hf⟩ := bd1_e hf
  refine g_callIN (pc := 65) "QuotaLaws" [] (site_of si_Planner_new (by decide) (by decide)) rfl wd_200 wd_201 d_Q_new_65 (Nat.le_of_ble_eq_true rfl) (fun _ => rfl) (fun _ => (okl_cons (okv_r (by omega)) (okl_nil))) (fun _ => (oks_cons (okv_r (by omega)) (oks_cons (okv_r (by omega)) (oks_nil)))) (c_Planner_new e69) rfl ?_
  refine g_st [.ref h58.1, .ref a0] rfl ?_
  obtain ⟨g72, hf⟩ := grd_e hf
  obtain ⟨h70, e71, hf⟩ := bd1_e hf
  refine g_putF (pc := 68) (ci := 0) (kk := 6) ty_Q tyok_Q nm_Q d_Q_new_68 rfl in_Q (by decide) wd_302 rfl rfl rfl (fun _ => rfl) (fun _ => rfl) (fun _ z => by cases z; omega) e71 ?_
  refine g_aload_n (pc := 71) 0 d_Q_new_71 rfl rfl ?_
  obtain ⟨g73, hf⟩ := grd_e hf
  obtain ⟨h74, e75, hf⟩ := bd1_e hf
  obtain ⟨g76, e77⟩ := mkn_e e75
  refine g_new (pc := 72) (ci := 7) rfl [.int 0, .null, .null, .null, .null, .null, .null, .null] ty_Tables tyok_Tables d_Q_new_72 rfl in_Tables wd_230 wd_231 wd_6 (by decide) (by simp) g76 (okl_cons (okv_r (by omega)) (okl_nil)) (oks_cons (okv_r (by omega)) (oks_nil)) ?_
  rw [← e77]
  have h74_n : h74.1 = h70.1 + 1 := by rw [e77]; rfl
  refine g_dup (pc := 75) d_Q_new_75 rfl ?_
  obtain ⟨⟨g78, g79⟩, hf⟩ := grd_e hf
  obtain ⟨h80, e81, hf⟩ := bd1_e hf
  refine g_callIN (pc := 76) "QuotaLaws" [] (site_of si_Tables_new (by decide) (by decide)) rfl wd_232 wd_233 d_Q_new_76 (Nat.le_of_ble_eq_true rfl) (fun _ => rfl) (fun _ => (okl_cons (okv_r (by omega)) (okl_nil))) (fun _ => (oks_cons (okv_r (by omega)) (oks_cons (okv_r (by omega)) (oks_nil)))) (c_Tables_new e81) rfl ?_
  refine g_st [.ref h70.1, .ref a0] rfl ?_
  obtain ⟨g84, hf⟩ := grd_e hf
  obtain ⟨h82, e83, hf⟩ := bd1_e hf
  refine g_putF (pc := 79) (ci := 0) (kk := 7) ty_Q tyok_Q nm_Q d_Q_new_79 rfl in_Q (by decide) wd_303 rfl rfl rfl (fun _ => rfl) (fun _ => rfl) (fun _ z => by cases z; omega) e83 ?_
  refine g_aload_n (pc := 82) 0 d_Q_new_82 rfl rfl ?_
  obtain ⟨g85, hf⟩ := grd_e hf
  obtain ⟨h86, e87, hf⟩ := bd1_e hf
  obtain ⟨g88, e89⟩ := mkn_e e87
  refine g_new (pc := 83) (ci := 1) rfl [.long 0, .long 0, .null] ty_Odds tyok_Odds d_Q_new_83 rfl in_Odds wd_262 wd_263 wd_7 (by decide) (by simp) g88 (okl_cons (okv_r (by omega)) (okl_nil)) (oks_cons (okv_r (by omega)) (oks_nil)) ?_
  rw [← e89]
  have h86_n : h86.1 = h82.1 + 1 := by rw [e89]; rfl
  refine g_dup (pc := 86) d_Q_new_86 rfl ?_
  obtain ⟨⟨g90, g91⟩, hf⟩ := grd_e hf
  obtain ⟨h92, e93, hf⟩ := bd1_e hf
  refine g_callIN (pc := 87) "QuotaLaws" [] (site_of si_Odds_new (by decide) (by decide)) rfl wd_264 wd_265 d_Q_new_87 (Nat.le_of_ble_eq_true rfl) (fun _ => rfl) (fun _ => (okl_cons (okv_r (by omega)) (okl_nil))) (fun _ => (oks_cons (okv_r (by omega)) (oks_cons (okv_r (by omega)) (oks_nil)))) (c_Odds_new e93) rfl ?_
  refine g_st [.ref h82.1, .ref a0] rfl ?_
  obtain ⟨g96, hf⟩ := grd_e hf
  obtain ⟨h94, e95, hf⟩ := bd1_e hf
  refine g_putF (pc := 90) (ci := 0) (kk := 8) ty_Q tyok_Q nm_Q d_Q_new_90 rfl in_Q (by decide) wd_304 rfl rfl rfl (fun _ => rfl) (fun _ => rfl) (fun _ z => by cases z; omega) e95 ?_
  refine g_iconst (pc := 93) (0 : Int32) d_Q_new_93 (by decide) ?_
  refine g_istore_n (pc := 94) [(1, .int (0 : Int32)), (0, .ref a0)] d_Q_new_94 rfl (Nat.le_of_ble_eq_true rfl) rfl ?_
  refine g_lv [1, 0] rfl ?_
  exact t_Q_new_95  FU _ _ _ _  hf
def f_Q_new (a0 : Nat) (h : mH) : Option mH := f_Q_new_0 a0 h
theorem c_Q_new {a0 : Nat} {h : mH} {h' : mH} (hf : f_Q_new a0 h = some h') : MM y_Q_new prog_1_method_1_code 2 none 3 60 [.ref a0] h none h' :=
  mm_of_G (by decide) (Nat.le_of_ble_eq_true rfl) (t_Q_new_0 _ _ _ hf)
/-! M init ()V -/
theorem d_M_new_0 : decode prog_10_method_1_code 0 = .ok (.aload_n 0, 1) := by decide +kernel
theorem d_M_new_1 : decode prog_10_method_1_code 1 = .ok (.invokespecial 1, 3) := by decide +kernel
theorem d_M_new_4 : decode prog_10_method_1_code 4 = .ok (.aload_n 0, 1) := by decide +kernel
theorem d_M_new_5 : decode prog_10_method_1_code 5 = .ok (.sipush 198, 3) := by decide +kernel
theorem d_M_new_8 : decode prog_10_method_1_code 8 = .ok (.newarray .int, 2) := by decide +kernel
theorem d_M_new_10 : decode prog_10_method_1_code 10 = .ok (.putfield 7, 3) := by decide +kernel
theorem d_M_new_13 : decode prog_10_method_1_code 13 = .ok (.aload_n 0, 1) := by decide +kernel
theorem d_M_new_14 : decode prog_10_method_1_code 14 = .ok (.iconst 2, 1) := by decide +kernel
theorem d_M_new_15 : decode prog_10_method_1_code 15 = .ok (.newarray .boolean, 2) := by decide +kernel
theorem d_M_new_17 : decode prog_10_method_1_code 17 = .ok (.putfield 13, 3) := by decide +kernel
theorem d_M_new_20 : decode prog_10_method_1_code 20 = .ok (.aload_n 0, 1) := by decide +kernel
theorem d_M_new_21 : decode prog_10_method_1_code 21 = .ok (.iconst 5, 1) := by decide +kernel
theorem d_M_new_22 : decode prog_10_method_1_code 22 = .ok (.newarray .int, 2) := by decide +kernel
theorem d_M_new_24 : decode prog_10_method_1_code 24 = .ok (.putfield 17, 3) := by decide +kernel
theorem d_M_new_27 : decode prog_10_method_1_code 27 = .ok (.aload_n 0, 1) := by decide +kernel
theorem d_M_new_28 : decode prog_10_method_1_code 28 = .ok (.iconst 5, 1) := by decide +kernel
theorem d_M_new_29 : decode prog_10_method_1_code 29 = .ok (.newarray .int, 2) := by decide +kernel
theorem d_M_new_31 : decode prog_10_method_1_code 31 = .ok (.putfield 20, 3) := by decide +kernel
theorem d_M_new_34 : decode prog_10_method_1_code 34 = .ok (.aload_n 0, 1) := by decide +kernel
theorem d_M_new_35 : decode prog_10_method_1_code 35 = .ok (.iconst 5, 1) := by decide +kernel
theorem d_M_new_36 : decode prog_10_method_1_code 36 = .ok (.newarray .int, 2) := by decide +kernel
theorem d_M_new_38 : decode prog_10_method_1_code 38 = .ok (.putfield 23, 3) := by decide +kernel
theorem d_M_new_41 : decode prog_10_method_1_code 41 = .ok (.aload_n 0, 1) := by decide +kernel
theorem d_M_new_42 : decode prog_10_method_1_code 42 = .ok (.iconst 3, 1) := by decide +kernel
theorem d_M_new_43 : decode prog_10_method_1_code 43 = .ok (.newarray .int, 2) := by decide +kernel
theorem d_M_new_45 : decode prog_10_method_1_code 45 = .ok (.putfield 26, 3) := by decide +kernel
theorem d_M_new_48 : decode prog_10_method_1_code 48 = .ok (.aload_n 0, 1) := by decide +kernel
theorem d_M_new_49 : decode prog_10_method_1_code 49 = .ok (.iconst 3, 1) := by decide +kernel
theorem d_M_new_50 : decode prog_10_method_1_code 50 = .ok (.newarray .int, 2) := by decide +kernel
theorem d_M_new_52 : decode prog_10_method_1_code 52 = .ok (.putfield 29, 3) := by decide +kernel
theorem d_M_new_55 : decode prog_10_method_1_code 55 = .ok (.aload_n 0, 1) := by decide +kernel
theorem d_M_new_56 : decode prog_10_method_1_code 56 = .ok (.bipush 66, 2) := by decide +kernel
theorem d_M_new_58 : decode prog_10_method_1_code 58 = .ok (.newarray .int, 2) := by decide +kernel
theorem d_M_new_60 : decode prog_10_method_1_code 60 = .ok (.putfield 32, 3) := by decide +kernel
theorem d_M_new_63 : decode prog_10_method_1_code 63 = .ok (.aload_n 0, 1) := by decide +kernel
theorem d_M_new_64 : decode prog_10_method_1_code 64 = .ok (.iconst 5, 1) := by decide +kernel
theorem d_M_new_65 : decode prog_10_method_1_code 65 = .ok (.newarray .int, 2) := by decide +kernel
theorem d_M_new_67 : decode prog_10_method_1_code 67 = .ok (.putfield 35, 3) := by decide +kernel
theorem d_M_new_70 : decode prog_10_method_1_code 70 = .ok (.aload_n 0, 1) := by decide +kernel
theorem d_M_new_71 : decode prog_10_method_1_code 71 = .ok (.iconst 5, 1) := by decide +kernel
theorem d_M_new_72 : decode prog_10_method_1_code 72 = .ok (.newarray .int, 2) := by decide +kernel
theorem d_M_new_74 : decode prog_10_method_1_code 74 = .ok (.putfield 38, 3) := by decide +kernel
theorem d_M_new_77 : decode prog_10_method_1_code 77 = .ok (.aload_n 0, 1) := by decide +kernel
theorem d_M_new_78 : decode prog_10_method_1_code 78 = .ok (.iconst 5, 1) := by decide +kernel
theorem d_M_new_79 : decode prog_10_method_1_code 79 = .ok (.newarray .int, 2) := by decide +kernel
theorem d_M_new_81 : decode prog_10_method_1_code 81 = .ok (.putfield 41, 3) := by decide +kernel
theorem d_M_new_84 : decode prog_10_method_1_code 84 = .ok (.aload_n 0, 1) := by decide +kernel
theorem d_M_new_85 : decode prog_10_method_1_code 85 = .ok (.iconst 3, 1) := by decide +kernel
theorem d_M_new_86 : decode prog_10_method_1_code 86 = .ok (.newarray .int, 2) := by decide +kernel
theorem d_M_new_88 : decode prog_10_method_1_code 88 = .ok (.putfield 44, 3) := by decide +kernel
theorem d_M_new_91 : decode prog_10_method_1_code 91 = .ok (.aload_n 0, 1) := by decide +kernel
theorem d_M_new_92 : decode prog_10_method_1_code 92 = .ok (.iconst 3, 1) := by decide +kernel
theorem d_M_new_93 : decode prog_10_method_1_code 93 = .ok (.newarray .int, 2) := by decide +kernel
theorem d_M_new_95 : decode prog_10_method_1_code 95 = .ok (.putfield 47, 3) := by decide +kernel
theorem d_M_new_98 : decode prog_10_method_1_code 98 = .ok (.aload_n 0, 1) := by decide +kernel
theorem d_M_new_99 : decode prog_10_method_1_code 99 = .ok (.sipush 160, 3) := by decide +kernel
theorem d_M_new_102 : decode prog_10_method_1_code 102 = .ok (.newarray .int, 2) := by decide +kernel
theorem d_M_new_104 : decode prog_10_method_1_code 104 = .ok (.putfield 50, 3) := by decide +kernel
theorem d_M_new_107 : decode prog_10_method_1_code 107 = .ok (.aload_n 0, 1) := by decide +kernel
theorem d_M_new_108 : decode prog_10_method_1_code 108 = .ok (.sipush 24576, 3) := by decide +kernel
theorem d_M_new_111 : decode prog_10_method_1_code 111 = .ok (.newarray .int, 2) := by decide +kernel
theorem d_M_new_113 : decode prog_10_method_1_code 113 = .ok (.putfield 53, 3) := by decide +kernel
theorem d_M_new_116 : decode prog_10_method_1_code 116 = .ok (.aload_n 0, 1) := by decide +kernel
theorem d_M_new_117 : decode prog_10_method_1_code 117 = .ok (.iconst 5, 1) := by decide +kernel
theorem d_M_new_118 : decode prog_10_method_1_code 118 = .ok (.newarray .int, 2) := by decide +kernel
theorem d_M_new_120 : decode prog_10_method_1_code 120 = .ok (.putfield 56, 3) := by decide +kernel
theorem d_M_new_123 : decode prog_10_method_1_code 123 = .ok (.aload_n 0, 1) := by decide +kernel
theorem d_M_new_124 : decode prog_10_method_1_code 124 = .ok (.iconst 3, 1) := by decide +kernel
theorem d_M_new_125 : decode prog_10_method_1_code 125 = .ok (.newarray .int, 2) := by decide +kernel
theorem d_M_new_127 : decode prog_10_method_1_code 127 = .ok (.putfield 59, 3) := by decide +kernel
theorem d_M_new_130 : decode prog_10_method_1_code 130 = .ok (.aload_n 0, 1) := by decide +kernel
theorem d_M_new_131 : decode prog_10_method_1_code 131 = .ok (.iconst 3, 1) := by decide +kernel
theorem d_M_new_132 : decode prog_10_method_1_code 132 = .ok (.newarray .int, 2) := by decide +kernel
theorem d_M_new_134 : decode prog_10_method_1_code 134 = .ok (.putfield 62, 3) := by decide +kernel
theorem d_M_new_137 : decode prog_10_method_1_code 137 = .ok (.aload_n 0, 1) := by decide +kernel
theorem d_M_new_138 : decode prog_10_method_1_code 138 = .ok (.bipush 66, 2) := by decide +kernel
theorem d_M_new_140 : decode prog_10_method_1_code 140 = .ok (.newarray .int, 2) := by decide +kernel
theorem d_M_new_142 : decode prog_10_method_1_code 142 = .ok (.putfield 65, 3) := by decide +kernel
theorem d_M_new_145 : decode prog_10_method_1_code 145 = .ok (.aload_n 0, 1) := by decide +kernel
theorem d_M_new_146 : decode prog_10_method_1_code 146 = .ok (.bipush 16, 2) := by decide +kernel
theorem d_M_new_148 : decode prog_10_method_1_code 148 = .ok (.newarray .long, 2) := by decide +kernel
theorem d_M_new_150 : decode prog_10_method_1_code 150 = .ok (.putfield 68, 3) := by decide +kernel
theorem d_M_new_153 : decode prog_10_method_1_code 153 = .ok (.aload_n 0, 1) := by decide +kernel
theorem d_M_new_154 : decode prog_10_method_1_code 154 = .ok (.sipush 216, 3) := by decide +kernel
theorem d_M_new_157 : decode prog_10_method_1_code 157 = .ok (.newarray .long, 2) := by decide +kernel
theorem d_M_new_159 : decode prog_10_method_1_code 159 = .ok (.putfield 72, 3) := by decide +kernel
theorem d_M_new_162 : decode prog_10_method_1_code 162 = .ok (.aload_n 0, 1) := by decide +kernel
theorem d_M_new_163 : decode prog_10_method_1_code 163 = .ok (.sipush 216, 3) := by decide +kernel
theorem d_M_new_166 : decode prog_10_method_1_code 166 = .ok (.newarray .long, 2) := by decide +kernel
theorem d_M_new_168 : decode prog_10_method_1_code 168 = .ok (.putfield 75, 3) := by decide +kernel
theorem d_M_new_171 : decode prog_10_method_1_code 171 = .ok (.aload_n 0, 1) := by decide +kernel
theorem d_M_new_172 : decode prog_10_method_1_code 172 = .ok (.iconst 4, 1) := by decide +kernel
theorem d_M_new_173 : decode prog_10_method_1_code 173 = .ok (.newarray .int, 2) := by decide +kernel
theorem d_M_new_175 : decode prog_10_method_1_code 175 = .ok (.putfield 78, 3) := by decide +kernel
theorem d_M_new_178 : decode prog_10_method_1_code 178 = .ok (.aload_n 0, 1) := by decide +kernel
theorem d_M_new_179 : decode prog_10_method_1_code 179 = .ok (.iconst 4, 1) := by decide +kernel
theorem d_M_new_180 : decode prog_10_method_1_code 180 = .ok (.newarray .int, 2) := by decide +kernel
theorem d_M_new_182 : decode prog_10_method_1_code 182 = .ok (.putfield 81, 3) := by decide +kernel
theorem d_M_new_185 : decode prog_10_method_1_code 185 = .ok (.aload_n 0, 1) := by decide +kernel
theorem d_M_new_186 : decode prog_10_method_1_code 186 = .ok (.sipush 160, 3) := by decide +kernel
theorem d_M_new_189 : decode prog_10_method_1_code 189 = .ok (.newarray .int, 2) := by decide +kernel
theorem d_M_new_191 : decode prog_10_method_1_code 191 = .ok (.putfield 84, 3) := by decide +kernel
theorem d_M_new_194 : decode prog_10_method_1_code 194 = .ok (.iconst 0, 1) := by decide +kernel
theorem d_M_new_195 : decode prog_10_method_1_code 195 = .ok (.istore_n 1, 1) := by decide +kernel
theorem d_M_new_196 : decode prog_10_method_1_code 196 = .ok (.iload_n 1, 1) := by decide +kernel
theorem d_M_new_197 : decode prog_10_method_1_code 197 = .ok (.iconst 4, 1) := by decide +kernel
theorem d_M_new_198 : decode prog_10_method_1_code 198 = .ok (.if_icmp .ge 17, 3) := by decide +kernel
theorem d_M_new_201 : decode prog_10_method_1_code 201 = .ok (.aload_n 0, 1) := by decide +kernel
theorem d_M_new_202 : decode prog_10_method_1_code 202 = .ok (.getfield 78, 3) := by decide +kernel
theorem d_M_new_205 : decode prog_10_method_1_code 205 = .ok (.iload_n 1, 1) := by decide +kernel
theorem d_M_new_206 : decode prog_10_method_1_code 206 = .ok (.bipush (-4), 2) := by decide +kernel
theorem d_M_new_208 : decode prog_10_method_1_code 208 = .ok (.iastore, 1) := by decide +kernel
theorem d_M_new_209 : decode prog_10_method_1_code 209 = .ok (.iinc 1 1, 3) := by decide +kernel
theorem d_M_new_212 : decode prog_10_method_1_code 212 = .ok (.goto (-16), 3) := by decide +kernel
theorem d_M_new_215 : decode prog_10_method_1_code 215 = .ok (.aload_n 0, 1) := by decide +kernel
theorem d_M_new_216 : decode prog_10_method_1_code 216 = .ok (.invokevirtual 87, 3) := by decide +kernel
theorem d_M_new_219 : decode prog_10_method_1_code 219 = .ok (.aload_n 0, 1) := by decide +kernel
theorem d_M_new_220 : decode prog_10_method_1_code 220 = .ok (.invokevirtual 90, 3) := by decide +kernel
theorem d_M_new_223 : decode prog_10_method_1_code 223 = .ok (.return_, 1) := by decide +kernel
def f_M_new_196b (rec196 : Nat → Int32 → mH → Option mH) (b0 : Nat) (b1 : Int32) (h : mH) : Option mH :=
  if (4 : Int32) ≤ b1 then
    bd1 (kC h b0 8) fun _ =>
    bd1 (f_M_firstDraft b0 h) fun h203 =>
    bd1 (kC h203 b0 8) fun _ =>
    bd1 (f_M_keepDraft b0 h203) fun h207 =>
    some h207
  else
    bd1 (gR h b0 8 35) fun x209 =>
    bd1 (sI h 0 x209 b1 ((-4) : Int32)) fun h211 =>
    rec196 b0 (b1 + (1 : Int32)) h211
set_option maxRecDepth 20000 in
theorem t_M_new_196b (rec196 : Nat → Int32 → mH → Option mH) (hrec196 : ∀ (b0 : Nat) (b1 : Int32) (h : mH) (h' : mH), rec196 b0 b1 h = some h' → G y_M_new prog_10_method_1_code 2 none 1 21 196 [(0, .ref b0), (1, .int b1)] [] h none h') (b0 : Nat) (b1 : Int32) (h : mH) (h' : mH) (hf : f_M_new_196b rec196 b0 b1 h = some h') : G y_M_new prog_10_method_1_code 2 none 1 21 196 [(0, .ref b0), (1, .int b1)] [] h none h' := by
  unfold f_M_new_196b at hf
  refine g_iload_n (pc := 196) 1 d_M_new_196 rfl rfl ?_
  refine g_iconst (pc := 197) (4 : Int32) d_M_new_197 (by decide) ?_
  refine g_icmpge (pc := 198) 215 d_M_new_198 (by decide) (fun c213 => ?_) (fun c213 => ?_)
  · replace hf := (if_pos c213).symm.trans hf
    refine g_aload_n (pc := 215) 0 d_M_new_215 rfl rfl ?_
    obtain ⟨u202, e201, hf⟩ := bd1_e hf
    obtain ⟨h203, e204, hf⟩ := bd1_e hf
    refine g_callV (pc := 216) (ci := 8) [] (site_of si_M_firstDraft (by decide) (by decide)) wd_930 wd_932 wp_30 d_M_new_216 rfl e201 (Nat.le_of_ble_eq_true rfl) (fun z => absurd z (by decide)) (fun z => absurd z (by decide)) (fun z => absurd z (by decide)) (c_M_firstDraft e204) rfl ?_
    refine g_st [] rfl ?_
    refine g_aload_n (pc := 219) 0 d_M_new_219 rfl rfl ?_
    obtain ⟨u206, e205, hf⟩ := bd1_e hf
    obtain ⟨h207, e208, hf⟩ := bd1_e hf
    refine g_callV (pc := 220) (ci := 8) [] (site_of si_M_keepDraft (by decide) (by decide)) wd_934 wd_936 wp_31 d_M_new_220 rfl e205 (Nat.le_of_ble_eq_true rfl) (fun z => absurd z (by decide)) (fun z => absurd z (by decide)) (fun z => absurd z (by decide)) (c_M_keepDraft e208) rfl ?_
    refine g_st [] rfl ?_
    obtain rfl := ret1 hf
    exact g_vret (pc := 223) rfl d_M_new_223
  · replace hf := (if_neg c213).symm.trans hf
    refine g_aload_n (pc := 201) 0 d_M_new_201 rfl rfl ?_
    obtain ⟨x209, e210, hf⟩ := bd1_e hf
    refine g_get (pc := 202) (ci := 8) (kk := 35) d_M_new_202 rfl in_M (by decide) wd_973 (gR_spec e210) ?_
    refine g_iload_n (pc := 205) 1 d_M_new_205 rfl rfl ?_
    refine g_bipush (pc := 206) ((-4) : Int32) d_M_new_206 (by decide) ?_
    obtain ⟨h211, e212, hf⟩ := bd1_e hf
    refine g_iast (pc := 208) d_M_new_208 e212 ?_
    refine g_iinc (pc := 209) 1 (b1 + (1 : Int32)) [(1, .int (b1 + (1 : Int32))), (0, .ref b0)] d_M_new_209 rfl rfl (Nat.le_of_ble_eq_true rfl) rfl ?_
    refine g_goto (pc := 212) 196 d_M_new_212 (by decide) ?_
    refine g_lv [1, 0] rfl ?_
    exact hrec196 _ _ _ _  hf
def f_M_new_196  : Nat → Nat → Int32 → mH → Option mH
  | 0 => fun _ _ _ => none
  | n + 1 => f_M_new_196b  (f_M_new_196  n)
theorem t_M_new_196  : ∀ (n : Nat) (b0 : Nat) (b1 : Int32) (h : mH) (h' : mH) (hf : f_M_new_196  n b0 b1 h = some h'), G y_M_new prog_10_method_1_code 2 none 1 21 196 [(0, .ref b0), (1, .int b1)] [] h none h'
  | 0, _, _, _, _, hf => by cases hf
  | n + 1, _, _, _, _, hf => t_M_new_196b  (f_M_new_196  n) (t_M_new_196  n) _ _ _ _ hf
def f_M_new_0  (a0 : Nat) (h : mH) : Option mH :=
  grd (¬ a0 = h.1) <|
  bd1 (mkn h 198 (.inl (0, (198, .inl (fun _ => 0))))) fun h2 =>
  grd (h.1 < h2.1) <|
  bd1 (pV h2 a0 8 0 (.ref h.1)) fun h6 =>
  grd (¬ a0 = h6.1) <|
  bd1 (mkn h6 2 (.inl (2, (2, .inl (fun _ => 0))))) fun h10 =>
  grd (h6.1 < h10.1) <|
  bd1 (pV h10 a0 8 1 (.ref h6.1)) fun h14 =>
  grd (¬ a0 = h14.1) <|
  bd1 (mkn h14 5 (.inl (0, (5, .inl (fun _ => 0))))) fun h18 =>
  grd (h14.1 < h18.1) <|
  bd1 (pV h18 a0 8 4 (.ref h14.1)) fun h22 =>
  grd (¬ a0 = h22.1) <|
  bd1 (mkn h22 5 (.inl (0, (5, .inl (fun _ => 0))))) fun h26 =>
  grd (h22.1 < h26.1) <|
  bd1 (pV h26 a0 8 5 (.ref h22.1)) fun h30 =>
  grd (¬ a0 = h30.1) <|
  bd1 (mkn h30 5 (.inl (0, (5, .inl (fun _ => 0))))) fun h34 =>
  grd (h30.1 < h34.1) <|
  bd1 (pV h34 a0 8 6 (.ref h30.1)) fun h38 =>
  grd (¬ a0 = h38.1) <|
  bd1 (mkn h38 3 (.inl (0, (3, .inl (fun _ => 0))))) fun h42 =>
  grd (h38.1 < h42.1) <|
  bd1 (pV h42 a0 8 7 (.ref h38.1)) fun h46 =>
  grd (¬ a0 = h46.1) <|
  bd1 (mkn h46 3 (.inl (0, (3, .inl (fun _ => 0))))) fun h50 =>
  grd (h46.1 < h50.1) <|
  bd1 (pV h50 a0 8 8 (.ref h46.1)) fun h54 =>
  grd (¬ a0 = h54.1) <|
  bd1 (mkn h54 66 (.inl (0, (66, .inl (fun _ => 0))))) fun h58 =>
  grd (h54.1 < h58.1) <|
  bd1 (pV h58 a0 8 9 (.ref h54.1)) fun h62 =>
  grd (¬ a0 = h62.1) <|
  bd1 (mkn h62 5 (.inl (0, (5, .inl (fun _ => 0))))) fun h66 =>
  grd (h62.1 < h66.1) <|
  bd1 (pV h66 a0 8 12 (.ref h62.1)) fun h70 =>
  grd (¬ a0 = h70.1) <|
  bd1 (mkn h70 5 (.inl (0, (5, .inl (fun _ => 0))))) fun h74 =>
  grd (h70.1 < h74.1) <|
  bd1 (pV h74 a0 8 13 (.ref h70.1)) fun h78 =>
  grd (¬ a0 = h78.1) <|
  bd1 (mkn h78 5 (.inl (0, (5, .inl (fun _ => 0))))) fun h82 =>
  grd (h78.1 < h82.1) <|
  bd1 (pV h82 a0 8 14 (.ref h78.1)) fun h86 =>
  grd (¬ a0 = h86.1) <|
  bd1 (mkn h86 3 (.inl (0, (3, .inl (fun _ => 0))))) fun h90 =>
  grd (h86.1 < h90.1) <|
  bd1 (pV h90 a0 8 15 (.ref h86.1)) fun h94 =>
  grd (¬ a0 = h94.1) <|
  bd1 (mkn h94 3 (.inl (0, (3, .inl (fun _ => 0))))) fun h98 =>
  grd (h94.1 < h98.1) <|
  bd1 (pV h98 a0 8 16 (.ref h94.1)) fun h102 =>
  grd (¬ a0 = h102.1) <|
  bd1 (mkn h102 160 (.inl (0, (160, .inl (fun _ => 0))))) fun h106 =>
  grd (h102.1 < h106.1) <|
  bd1 (pV h106 a0 8 19 (.ref h102.1)) fun h110 =>
  grd (¬ a0 = h110.1) <|
  bd1 (mkn h110 24576 (.inl (0, (24576, .inl (fun _ => 0))))) fun h114 =>
  grd (h110.1 < h114.1) <|
  bd1 (pV h114 a0 8 27 (.ref h110.1)) fun h118 =>
  grd (¬ a0 = h118.1) <|
  bd1 (mkn h118 5 (.inl (0, (5, .inl (fun _ => 0))))) fun h122 =>
  grd (h118.1 < h122.1) <|
  bd1 (pV h122 a0 8 28 (.ref h118.1)) fun h126 =>
  grd (¬ a0 = h126.1) <|
  bd1 (mkn h126 3 (.inl (0, (3, .inl (fun _ => 0))))) fun h130 =>
  grd (h126.1 < h130.1) <|
  bd1 (pV h130 a0 8 29 (.ref h126.1)) fun h134 =>
  grd (¬ a0 = h134.1) <|
  bd1 (mkn h134 3 (.inl (0, (3, .inl (fun _ => 0))))) fun h138 =>
  grd (h134.1 < h138.1) <|
  bd1 (pV h138 a0 8 30 (.ref h134.1)) fun h142 =>
  grd (¬ a0 = h142.1) <|
  bd1 (mkn h142 66 (.inl (0, (66, .inl (fun _ => 0))))) fun h146 =>
  grd (h142.1 < h146.1) <|
  bd1 (pV h146 a0 8 31 (.ref h142.1)) fun h150 =>
  grd (¬ a0 = h150.1) <|
  bd1 (mkn h150 16 (.inl (3, (16, .inr (.inl (fun _ => 0)))))) fun h154 =>
  grd (h150.1 < h154.1) <|
  bd1 (pV h154 a0 8 32 (.ref h150.1)) fun h158 =>
  grd (¬ a0 = h158.1) <|
  bd1 (mkn h158 216 (.inl (3, (216, .inr (.inl (fun _ => 0)))))) fun h162 =>
  grd (h158.1 < h162.1) <|
  bd1 (pV h162 a0 8 33 (.ref h158.1)) fun h166 =>
  grd (¬ a0 = h166.1) <|
  bd1 (mkn h166 216 (.inl (3, (216, .inr (.inl (fun _ => 0)))))) fun h170 =>
  grd (h166.1 < h170.1) <|
  bd1 (pV h170 a0 8 34 (.ref h166.1)) fun h174 =>
  grd (¬ a0 = h174.1) <|
  bd1 (mkn h174 4 (.inl (0, (4, .inl (fun _ => 0))))) fun h178 =>
  grd (h174.1 < h178.1) <|
  bd1 (pV h178 a0 8 35 (.ref h174.1)) fun h182 =>
  grd (¬ a0 = h182.1) <|
  bd1 (mkn h182 4 (.inl (0, (4, .inl (fun _ => 0))))) fun h186 =>
  grd (h182.1 < h186.1) <|
  bd1 (pV h186 a0 8 36 (.ref h182.1)) fun h190 =>
  grd (¬ a0 = h190.1) <|
  bd1 (mkn h190 160 (.inl (0, (160, .inl (fun _ => 0))))) fun h194 =>
  grd (h190.1 < h194.1) <|
  bd1 (pV h194 a0 8 37 (.ref h190.1)) fun h198 =>
  f_M_new_196  FU a0 (0 : Int32) h198
set_option maxRecDepth 20000 in
theorem t_M_new_0  (a0 : Nat) (h : mH) (h' : mH) (hf : f_M_new_0  a0 h = some h') : G y_M_new prog_10_method_1_code 2 none 1 21 0 [(0, .ref a0)] [] h none h' := by
  unfold f_M_new_0 at hf
  refine g_aload_n (pc := 0) 0 d_M_new_0 rfl rfl ?_
  refine g_objInit (pc := 1) d_M_new_1 wd_929 wd_24 wd_25 (by decide) (Nat.le_of_ble_eq_true rfl) ?_
  refine g_aload_n (pc := 4) 0 d_M_new_4 rfl rfl ?_
  refine g_sipush (pc := 5) (198 : Int32) d_M_new_5 (by decide) ?_
  obtain ⟨g1, hf⟩ := grd_e hf
  obtain ⟨h2, e3, hf⟩ := bd1_e hf
  obtain ⟨g4, e5⟩ := mkn_e e3
  refine g_newa (pc := 8) rfl 0 198 .int (198, .inl (fun _ => 0)) wd_92 rfl (fun _ => rfl) (fun _ _ _ a b => Option.some.inj (a.symm.trans b)) (fun _ => rfl) (fun _ => rfl) (fun _ z => absurd z id) (by decide) (by decide) (by decide) d_M_new_8 g4 (okl_cons (okv_r (by omega)) (okl_nil)) (oks_cons (okv_r (by omega)) (oks_nil)) ?_
  rw [← e5]
  have h2_n : h2.1 = h.1 + 1 := by rw [e5]; rfl
  obtain ⟨g8, hf⟩ := grd_e hf
  obtain ⟨h6, e7, hf⟩ := bd1_e hf
  refine g_putF (pc := 10) (ci := 8) (kk := 0) ty_M tyok_M nm_M d_M_new_10 rfl in_M (by decide) wd_938 rfl rfl rfl (fun _ => rfl) (fun _ => rfl) (fun _ z => by cases z; omega) e7 ?_
  refine g_aload_n (pc := 13) 0 d_M_new_13 rfl rfl ?_
  refine g_iconst (pc := 14) (2 : Int32) d_M_new_14 (by decide) ?_
  obtain ⟨g9, hf⟩ := grd_e hf
  obtain ⟨h10, e11, hf⟩ := bd1_e hf
  obtain ⟨g12, e13⟩ := mkn_e e11
  refine g_newa (pc := 15) rfl 2 2 .boolean (2, .inl (fun _ => 0)) wd_229 rfl (fun _ => rfl) (fun _ _ _ a b => Option.some.inj (a.symm.trans b)) (fun _ => rfl) (fun _ => rfl) (fun _ z => absurd z id) (by decide) (by decide) (by decide) d_M_new_15 g12 (okl_cons (okv_r (by omega)) (okl_nil)) (oks_cons (okv_r (by omega)) (oks_nil)) ?_
  rw [← e13]
  have h10_n : h10.1 = h6.1 + 1 := by rw [e13]; rfl
  obtain ⟨g16, hf⟩ := grd_e hf
  obtain ⟨h14, e15, hf⟩ := bd1_e hf
  refine g_putF (pc := 17) (ci := 8) (kk := 1) ty_M tyok_M nm_M d_M_new_17 rfl in_M (by decide) wd_939 rfl rfl rfl (fun _ => rfl) (fun _ => rfl) (fun _ z => by cases z; omega) e15 ?_
  refine g_aload_n (pc := 20) 0 d_M_new_20 rfl rfl ?_
  refine g_iconst (pc := 21) (5 : Int32) d_M_new_21 (by decide) ?_
  obtain ⟨g17, hf⟩ := grd_e hf
  obtain ⟨h18, e19, hf⟩ := bd1_e hf
  obtain ⟨g20, e21⟩ := mkn_e e19
  refine g_newa (pc := 22) rfl 0 5 .int (5, .inl (fun _ => 0)) wd_92 rfl (fun _ => rfl) (fun _ _ _ a b => Option.some.inj (a.symm.trans b)) (fun _ => rfl) (fun _ => rfl) (fun _ z => absurd z id) (by decide) (by decide) (by decide) d_M_new_22 g20 (okl_cons (okv_r (by omega)) (okl_nil)) (oks_cons (okv_r (by omega)) (oks_nil)) ?_
  rw [← e21]
  have h18_n : h18.1 = h14.1 + 1 := by rw [e21]; rfl
  obtain ⟨g24, hf⟩ := grd_e hf
  obtain ⟨h22, e23, hf⟩ := bd1_e hf
  refine g_putF (pc := 24) (ci := 8) (kk := 4) ty_M tyok_M nm_M d_M_new_24 rfl in_M (by decide) wd_942 rfl rfl rfl (fun _ => rfl) (fun _ => rfl) (fun _ z => by cases z; omega) e23 ?_
  refine g_aload_n (pc := 27) 0 d_M_new_27 rfl rfl ?_
  refine g_iconst (pc := 28) (5 : Int32) d_M_new_28 (by decide) ?_
  obtain ⟨g25, hf⟩ := grd_e hf
  obtain ⟨h26, e27, hf⟩ := bd1_e hf
  obtain ⟨g28, e29⟩ := mkn_e e27
  refine g_newa (pc := 29) rfl 0 5 .int (5, .inl (fun _ => 0)) wd_92 rfl (fun _ => rfl) (fun _ _ _ a b => Option.some.inj (a.symm.trans b)) (fun _ => rfl) (fun _ => rfl) (fun _ z => absurd z id) (by decide) (by decide) (by decide) d_M_new_29 g28 (okl_cons (okv_r (by omega)) (okl_nil)) (oks_cons (okv_r (by omega)) (oks_nil)) ?_
  rw [← e29]
  have h26_n : h26.1 = h22.1 + 1 := by rw [e29]; rfl
  obtain ⟨g32, hf⟩ := grd_e hf
  obtain ⟨h30, e31, hf⟩ := bd1_e hf
  refine g_putF (pc := 31) (ci := 8) (kk := 5) ty_M tyok_M nm_M d_M_new_31 rfl in_M (by decide) wd_943 rfl rfl rfl (fun _ => rfl) (fun _ => rfl) (fun _ z => by cases z; omega) e31 ?_
  refine g_aload_n (pc := 34) 0 d_M_new_34 rfl rfl ?_
  refine g_iconst (pc := 35) (5 : Int32) d_M_new_35 (by decide) ?_
  obtain ⟨g33, hf⟩ := grd_e hf
  obtain ⟨h34, e35, hf⟩ := bd1_e hf
  obtain ⟨g36, e37⟩ := mkn_e e35
  refine g_newa (pc := 36) rfl 0 5 .int (5, .inl (fun _ => 0)) wd_92 rfl (fun _ => rfl) (fun _ _ _ a b => Option.some.inj (a.symm.trans b)) (fun _ => rfl) (fun _ => rfl) (fun _ z => absurd z id) (by decide) (by decide) (by decide) d_M_new_36 g36 (okl_cons (okv_r (by omega)) (okl_nil)) (oks_cons (okv_r (by omega)) (oks_nil)) ?_
  rw [← e37]
  have h34_n : h34.1 = h30.1 + 1 := by rw [e37]; rfl
  obtain ⟨g40, hf⟩ := grd_e hf
  obtain ⟨h38, e39, hf⟩ := bd1_e hf
  refine g_putF (pc := 38) (ci := 8) (kk := 6) ty_M tyok_M nm_M d_M_new_38 rfl in_M (by decide) wd_944 rfl rfl rfl (fun _ => rfl) (fun _ => rfl) (fun _ z => by cases z; omega) e39 ?_
  refine g_aload_n (pc := 41) 0 d_M_new_41 rfl rfl ?_
  refine g_iconst (pc := 42) (3 : Int32) d_M_new_42 (by decide) ?_
  obtain ⟨g41, hf⟩ := grd_e hf
  obtain ⟨h42, e43, hf⟩ := bd1_e hf
  obtain ⟨g44, e45⟩ := mkn_e e43
  refine g_newa (pc := 43) rfl 0 3 .int (3, .inl (fun _ => 0)) wd_92 rfl (fun _ => rfl) (fun _ _ _ a b => Option.some.inj (a.symm.trans b)) (fun _ => rfl) (fun _ => rfl) (fun _ z => absurd z id) (by decide) (by decide) (by decide) d_M_new_43 g44 (okl_cons (okv_r (by omega)) (okl_nil)) (oks_cons (okv_r (by omega)) (oks_nil)) ?_
  rw [← e45]
  have h42_n : h42.1 = h38.1 + 1 := by rw [e45]; rfl
  obtain ⟨g48, hf⟩ := grd_e hf
  obtain ⟨h46, e47, hf⟩ := bd1_e hf
  refine g_putF (pc := 45) (ci := 8) (kk := 7) ty_M tyok_M nm_M d_M_new_45 rfl in_M (by decide) wd_945 rfl rfl rfl (fun _ => rfl) (fun _ => rfl) (fun _ z => by cases z; omega) e47 ?_
  refine g_aload_n (pc := 48) 0 d_M_new_48 rfl rfl ?_
  refine g_iconst (pc := 49) (3 : Int32) d_M_new_49 (by decide) ?_
  obtain ⟨g49, hf⟩ := grd_e hf
  obtain ⟨h50, e51, hf⟩ := bd1_e hf
  obtain ⟨g52, e53⟩ := mkn_e e51
  refine g_newa (pc := 50) rfl 0 3 .int (3, .inl (fun _ => 0)) wd_92 rfl (fun _ => rfl) (fun _ _ _ a b => Option.some.inj (a.symm.trans b)) (fun _ => rfl) (fun _ => rfl) (fun _ z => absurd z id) (by decide) (by decide) (by decide) d_M_new_50 g52 (okl_cons (okv_r (by omega)) (okl_nil)) (oks_cons (okv_r (by omega)) (oks_nil)) ?_
  rw [← e53]
  have h50_n : h50.1 = h46.1 + 1 := by rw [e53]; rfl
  obtain ⟨g56, hf⟩ := grd_e hf
  obtain ⟨h54, e55, hf⟩ := bd1_e hf
  refine g_putF (pc := 52) (ci := 8) (kk := 8) ty_M tyok_M nm_M d_M_new_52 rfl in_M (by decide) wd_946 rfl rfl rfl (fun _ => rfl) (fun _ => rfl) (fun _ z => by cases z; omega) e55 ?_
  refine g_aload_n (pc := 55) 0 d_M_new_55 rfl rfl ?_
  refine g_bipush (pc := 56) (66 : Int32) d_M_new_56 (by decide) ?_
  obtain ⟨g57, hf⟩ := grd_e hf
  obtain ⟨h58, e59, hf⟩ := bd1_e hf
  obtain ⟨g60, e61⟩ := mkn_e e59
  refine g_newa (pc := 58) rfl 0 66 .int (66, .inl (fun _ => 0)) wd_92 rfl (fun _ => rfl) (fun _ _ _ a b => Option.some.inj (a.symm.trans b)) (fun _ => rfl) (fun _ => rfl) (fun _ z => absurd z id) (by decide) (by decide) (by decide) d_M_new_58 g60 (okl_cons (okv_r (by omega)) (okl_nil)) (oks_cons (okv_r (by omega)) (oks_nil)) ?_
  rw [← e61]
  have h58_n : h58.1 = h54.1 + 1 := by rw [e61]; rfl
  obtain ⟨g64, hf⟩ := grd_e hf
  obtain ⟨h62, e63, hf⟩ := bd1_e hf
  refine g_putF (pc := 60) (ci := 8) (kk := 9) ty_M tyok_M nm_M d_M_new_60 rfl in_M (by decide) wd_947 rfl rfl rfl (fun _ => rfl) (fun _ => rfl) (fun _ z => by cases z; omega) e63 ?_
  refine g_aload_n (pc := 63) 0 d_M_new_63 rfl rfl ?_
  refine g_iconst (pc := 64) (5 : Int32) d_M_new_64 (by decide) ?_
  obtain ⟨g65, hf⟩ := grd_e hf
  obtain ⟨h66, e67, hf⟩ := bd1_e hf
  obtain ⟨g68, e69⟩ := mkn_e e67
  refine g_newa (pc := 65) rfl 0 5 .int (5, .inl (fun _ => 0)) wd_92 rfl (fun _ => rfl) (fun _ _ _ a b => Option.some.inj (a.symm.trans b)) (fun _ => rfl) (fun _ => rfl) (fun _ z => absurd z id) (by decide) (by decide) (by decide) d_M_new_65 g68 (okl_cons (okv_r (by omega)) (okl_nil)) (oks_cons (okv_r (by omega)) (oks_nil)) ?_
  rw [← e69]
  have h66_n : h66.1 = h62.1 + 1 := by rw [e69]; rfl
  obtain ⟨g72, hf⟩ := grd_e hf
  obtain ⟨h70, e71, hf⟩ := bd1_e hf
  refine g_putF (pc := 67) (ci := 8) (kk := 12) ty_M tyok_M nm_M d_M_new_67 rfl in_M (by decide) wd_950 rfl rfl rfl (fun _ => rfl) (fun _ => rfl) (fun _ z => by cases z; omega) e71 ?_
  refine g_aload_n (pc := 70) 0 d_M_new_70 rfl rfl ?_
  refine g_iconst (pc := 71) (5 : Int32) d_M_new_71 (by decide) ?_
  obtain ⟨g73, hf⟩ := grd_e hf
  obtain ⟨h74, e75, hf⟩ := bd1_e hf
  obtain ⟨g76, e77⟩ := mkn_e e75
  refine g_newa (pc := 72) rfl 0 5 .int (5, .inl (fun _ => 0)) wd_92 rfl (fun _ => rfl) (fun _ _ _ a b => Option.some.inj (a.symm.trans b)) (fun _ => rfl) (fun _ => rfl) (fun _ z => absurd z id) (by decide) (by decide) (by decide) d_M_new_72 g76 (okl_cons (okv_r (by omega)) (okl_nil)) (oks_cons (okv_r (by omega)) (oks_nil)) ?_
  rw [← e77]
  have h74_n : h74.1 = h70.1 + 1 := by rw [e77]; rfl
  obtain ⟨g80, hf⟩ := grd_e hf
  obtain ⟨h78, e79, hf⟩ := bd1_e hf
  refine g_putF (pc := 74) (ci := 8) (kk := 13) ty_M tyok_M nm_M d_M_new_74 rfl in_M (by decide) wd_951 rfl rfl rfl (fun _ => rfl) (fun _ => rfl) (fun _ z => by cases z; omega) e79 ?_
  refine g_aload_n (pc := 77) 0 d_M_new_77 rfl rfl ?_
  refine g_iconst (pc := 78) (5 : Int32) d_M_new_78 (by decide) ?_
  obtain ⟨g81, hf⟩ := grd_e hf
  obtain ⟨h82, e83, hf⟩ := bd1_e hf
  obtain ⟨g84, e85⟩ := mkn_e e83
  refine g_newa (pc := 79) rfl 0 5 .int (5, .inl (fun _ => 0)) wd_92 rfl (fun _ => rfl) (fun _ _ _ a b => Option.some.inj (a.symm.trans b)) (fun _ => rfl) (fun _ => rfl) (fun _ z => absurd z id) (by decide) (by decide) (by decide) d_M_new_79 g84 (okl_cons (okv_r (by omega)) (okl_nil)) (oks_cons (okv_r (by omega)) (oks_nil)) ?_
  rw [← e85]
  have h82_n : h82.1 = h78.1 + 1 := by rw [e85]; rfl
  obtain ⟨g88, hf⟩ := grd_e hf
  obtain ⟨h86, e87, hf⟩ := bd1_e hf
  refine g_putF (pc := 81) (ci := 8) (kk := 14) ty_M tyok_M nm_M d_M_new_81 rfl in_M (by decide) wd_952 rfl rfl rfl (fun _ => rfl) (fun _ => rfl) (fun _ z => by cases z; omega) e87 ?_
  refine g_aload_n (pc := 84) 0 d_M_new_84 rfl rfl ?_
  refine g_iconst (pc := 85) (3 : Int32) d_M_new_85 (by decide) ?_
  obtain ⟨g89, hf⟩ := grd_e hf
  obtain ⟨h90, e91, hf⟩ := bd1_e hf
  obtain ⟨g92, e93⟩ := mkn_e e91
  refine g_newa (pc := 86) rfl 0 3 .int (3, .inl (fun _ => 0)) wd_92 rfl (fun _ => rfl) (fun _ _ _ a b => Option.some.inj (a.symm.trans b)) (fun _ => rfl) (fun _ => rfl) (fun _ z => absurd z id) (by decide) (by decide) (by decide) d_M_new_86 g92 (okl_cons (okv_r (by omega)) (okl_nil)) (oks_cons (okv_r (by omega)) (oks_nil)) ?_
  rw [← e93]
  have h90_n : h90.1 = h86.1 + 1 := by rw [e93]; rfl
  obtain ⟨g96, hf⟩ := grd_e hf
  obtain ⟨h94, e95, hf⟩ := bd1_e hf
  refine g_putF (pc := 88) (ci := 8) (kk := 15) ty_M tyok_M nm_M d_M_new_88 rfl in_M (by decide) wd_953 rfl rfl rfl (fun _ => rfl) (fun _ => rfl) (fun _ z => by cases z; omega) e95 ?_
  refine g_aload_n (pc := 91) 0 d_M_new_91 rfl rfl ?_
  refine g_iconst (pc := 92) (3 : Int32) d_M_new_92 (by decide) ?_
  obtain ⟨g97, hf⟩ := grd_e hf
  obtain ⟨h98, e99, hf⟩ := bd1_e hf
  obtain ⟨g100, e101⟩ := mkn_e e99
  refine g_newa (pc := 93) rfl 0 3 .int (3, .inl (fun _ => 0)) wd_92 rfl (fun _ => rfl) (fun _ _ _ a b => Option.some.inj (a.symm.trans b)) (fun _ => rfl) (fun _ => rfl) (fun _ z => absurd z id) (by decide) (by decide) (by decide) d_M_new_93 g100 (okl_cons (okv_r (by omega)) (okl_nil)) (oks_cons (okv_r (by omega)) (oks_nil)) ?_
  rw [← e101]
  have h98_n : h98.1 = h94.1 + 1 := by rw [e101]; rfl
  obtain ⟨g104, hf⟩ := grd_e hf
  obtain ⟨h102, e103, hf⟩ := bd1_e hf
  refine g_putF (pc := 95) (ci := 8) (kk := 16) ty_M tyok_M nm_M d_M_new_95 rfl in_M (by decide) wd_954 rfl rfl rfl (fun _ => rfl) (fun _ => rfl) (fun _ z => by cases z; omega) e103 ?_
  refine g_aload_n (pc := 98) 0 d_M_new_98 rfl rfl ?_
  refine g_sipush (pc := 99) (160 : Int32) d_M_new_99 (by decide) ?_
  obtain ⟨g105, hf⟩ := grd_e hf
  obtain ⟨h106, e107, hf⟩ := bd1_e hf
  obtain ⟨g108, e109⟩ := mkn_e e107
  refine g_newa (pc := 102) rfl 0 160 .int (160, .inl (fun _ => 0)) wd_92 rfl (fun _ => rfl) (fun _ _ _ a b => Option.some.inj (a.symm.trans b)) (fun _ => rfl) (fun _ => rfl) (fun _ z => absurd z id) (by decide) (by decide) (by decide) d_M_new_102 g108 (okl_cons (okv_r (by omega)) (okl_nil)) (oks_cons (okv_r (by omega)) (oks_nil)) ?_
  rw [← e109]
  have h106_n : h106.1 = h102.1 + 1 := by rw [e109]; rfl
  obtain ⟨g112, hf⟩ := grd_e hf
  obtain ⟨h110, e111, hf⟩ := bd1_e hf
  refine g_putF (pc := 104) (ci := 8) (kk := 19) ty_M tyok_M nm_M d_M_new_104 rfl in_M (by decide) wd_957 rfl rfl rfl (fun _ => rfl) (fun _ => rfl) (fun _ z => by cases z; omega) e111 ?_
  refine g_aload_n (pc := 107) 0 d_M_new_107 rfl rfl ?_
  refine g_sipush (pc := 108) (24576 : Int32) d_M_new_108 (by decide) ?_
  obtain ⟨g113, hf⟩ := grd_e hf
  obtain ⟨h114, e115, hf⟩ := bd1_e hf
  obtain ⟨g116, e117⟩ := mkn_e e115
  refine g_newa (pc := 111) rfl 0 24576 .int (24576, .inl (fun _ => 0)) wd_92 rfl (fun _ => rfl) (fun _ _ _ a b => Option.some.inj (a.symm.trans b)) (fun _ => rfl) (fun _ => rfl) (fun _ z => absurd z id) (by decide) (by decide) (by decide) d_M_new_111 g116 (okl_cons (okv_r (by omega)) (okl_nil)) (oks_cons (okv_r (by omega)) (oks_nil)) ?_
  rw [← e117]
  have h114_n : h114.1 = h110.1 + 1 := by rw [e117]; rfl
  obtain ⟨g120, hf⟩ := grd_e hf
  obtain ⟨h118, e119, hf⟩ := bd1_e hf
  refine g_putF (pc := 113) (ci := 8) (kk := 27) ty_M tyok_M nm_M d_M_new_113 rfl in_M (by decide) wd_965 rfl rfl rfl (fun _ => rfl) (fun _ => rfl) (fun _ z => by cases z; omega) e119 ?_
  refine g_aload_n (pc := 116) 0 d_M_new_116 rfl rfl ?_
  refine g_iconst (pc := 117) (5 : Int32) d_M_new_117 (by decide) ?_
  obtain ⟨g121, hf⟩ := grd_e hf
  obtain ⟨h122, e123, hf⟩ := bd1_e hf
  obtain ⟨g124, e125⟩ := mkn_e e123
  refine g_newa (pc := 118) rfl 0 5 .int (5, .inl (fun _ => 0)) wd_92 rfl (fun _ => rfl) (fun _ _ _ a b => Option.some.inj (a.symm.trans b)) (fun _ => rfl) (fun _ => rfl) (fun _ z => absurd z id) (by decide) (by decide) (by decide) d_M_new_118 g124 (okl_cons (okv_r (by omega)) (okl_nil)) (oks_cons (okv_r (by omega)) (oks_nil)) ?_
  rw [← e125]
  have h122_n : h122.1 = h118.1 + 1 := by rw [e125]; rfl
  obtain ⟨g128, hf⟩ := grd_e hf
  obtain ⟨h126, e127, hf⟩ := bd1_e hf
  refine g_putF (pc := 120) (ci := 8) (kk := 28) ty_M tyok_M nm_M d_M_new_120 rfl in_M (by decide) wd_966 rfl rfl rfl (fun _ => rfl) (fun _ => rfl) (fun _ z => by cases z; omega) e127 ?_
  refine g_aload_n (pc := 123) 0 d_M_new_123 rfl rfl ?_
  refine g_iconst (pc := 124) (3 : Int32) d_M_new_124 (by decide) ?_
  obtain ⟨g129, hf⟩ := grd_e hf
  obtain ⟨h130, e131, hf⟩ := bd1_e hf
  obtain ⟨g132, e133⟩ := mkn_e e131
  refine g_newa (pc := 125) rfl 0 3 .int (3, .inl (fun _ => 0)) wd_92 rfl (fun _ => rfl) (fun _ _ _ a b => Option.some.inj (a.symm.trans b)) (fun _ => rfl) (fun _ => rfl) (fun _ z => absurd z id) (by decide) (by decide) (by decide) d_M_new_125 g132 (okl_cons (okv_r (by omega)) (okl_nil)) (oks_cons (okv_r (by omega)) (oks_nil)) ?_
  rw [← e133]
  have h130_n : h130.1 = h126.1 + 1 := by rw [e133]; rfl
  obtain ⟨g136, hf⟩ := grd_e hf
  obtain ⟨h134, e135, hf⟩ := bd1_e hf
  refine g_putF (pc := 127) (ci := 8) (kk := 29) ty_M tyok_M nm_M d_M_new_127 rfl in_M (by decide) wd_967 rfl rfl rfl (fun _ => rfl) (fun _ => rfl) (fun _ z => by cases z; omega) e135 ?_
  refine g_aload_n (pc := 130) 0 d_M_new_130 rfl rfl ?_
  refine g_iconst (pc := 131) (3 : Int32) d_M_new_131 (by decide) ?_
  obtain ⟨g137, hf⟩ := grd_e hf
  obtain ⟨h138, e139, hf⟩ := bd1_e hf
  obtain ⟨g140, e141⟩ := mkn_e e139
  refine g_newa (pc := 132) rfl 0 3 .int (3, .inl (fun _ => 0)) wd_92 rfl (fun _ => rfl) (fun _ _ _ a b => Option.some.inj (a.symm.trans b)) (fun _ => rfl) (fun _ => rfl) (fun _ z => absurd z id) (by decide) (by decide) (by decide) d_M_new_132 g140 (okl_cons (okv_r (by omega)) (okl_nil)) (oks_cons (okv_r (by omega)) (oks_nil)) ?_
  rw [← e141]
  have h138_n : h138.1 = h134.1 + 1 := by rw [e141]; rfl
  obtain ⟨g144, hf⟩ := grd_e hf
  obtain ⟨h142, e143, hf⟩ := bd1_e hf
  refine g_putF (pc := 134) (ci := 8) (kk := 30) ty_M tyok_M nm_M d_M_new_134 rfl in_M (by decide) wd_968 rfl rfl rfl (fun _ => rfl) (fun _ => rfl) (fun _ z => by cases z; omega) e143 ?_
  refine g_aload_n (pc := 137) 0 d_M_new_137 rfl rfl ?_
  refine g_bipush (pc := 138) (66 : Int32) d_M_new_138 (by decide) ?_
  obtain ⟨g145, hf⟩ := grd_e hf
  obtain ⟨h146, e147, hf⟩ := bd1_e hf
  obtain ⟨g148, e149⟩ := mkn_e e147
  refine g_newa (pc := 140) rfl 0 66 .int (66, .inl (fun _ => 0)) wd_92 rfl (fun _ => rfl) (fun _ _ _ a b => Option.some.inj (a.symm.trans b)) (fun _ => rfl) (fun _ => rfl) (fun _ z => absurd z id) (by decide) (by decide) (by decide) d_M_new_140 g148 (okl_cons (okv_r (by omega)) (okl_nil)) (oks_cons (okv_r (by omega)) (oks_nil)) ?_
  rw [← e149]
  have h146_n : h146.1 = h142.1 + 1 := by rw [e149]; rfl
  obtain ⟨g152, hf⟩ := grd_e hf
  obtain ⟨h150, e151, hf⟩ := bd1_e hf
  refine g_putF (pc := 142) (ci := 8) (kk := 31) ty_M tyok_M nm_M d_M_new_142 rfl in_M (by decide) wd_969 rfl rfl rfl (fun _ => rfl) (fun _ => rfl) (fun _ z => by cases z; omega) e151 ?_
  refine g_aload_n (pc := 145) 0 d_M_new_145 rfl rfl ?_
  refine g_bipush (pc := 146) (16 : Int32) d_M_new_146 (by decide) ?_
  obtain ⟨g153, hf⟩ := grd_e hf
  obtain ⟨h154, e155, hf⟩ := bd1_e hf
  obtain ⟨g156, e157⟩ := mkn_e e155
  refine g_newa (pc := 148) rfl 3 16 .long (16, .inr (.inl (fun _ => 0))) wd_261 rfl (fun _ => rfl) (fun _ _ _ a b => Option.some.inj (a.symm.trans b)) (fun _ => rfl) (fun _ => rfl) (fun _ z => absurd z id) (by decide) (by decide) (by decide) d_M_new_148 g156 (okl_cons (okv_r (by omega)) (okl_nil)) (oks_cons (okv_r (by omega)) (oks_nil)) ?_
  rw [← e157]
  have h154_n : h154.1 = h150.1 + 1 := by rw [e157]; rfl
  obtain ⟨g160, hf⟩ := grd_e hf
  obtain ⟨h158, e159, hf⟩ := bd1_e hf
  refine g_putF (pc := 150) (ci := 8) (kk := 32) ty_M tyok_M nm_M d_M_new_150 rfl in_M (by decide) wd_970 rfl rfl rfl (fun _ => rfl) (fun _ => rfl) (fun _ z => by cases z; omega) e159 ?_
  refine g_aload_n (pc := 153) 0 d_M_new_153 rfl rfl ?_
  refine g_sipush (pc := 154) (216 : Int32) d_M_new_154 (by decide) ?_
  obtain ⟨g161, hf⟩ := grd_e hf
  obtain ⟨h162, e163, hf⟩ := bd1_e hf
  obtain ⟨g164, e165⟩ := mkn_e e163
  refine g_newa (pc := 157) rfl 3 216 .long (216, .inr (.inl (fun _ => 0))) wd_261 rfl (fun _ => rfl) (fun _ _ _ a b => Option.some.inj (a.symm.trans b)) (fun _ => rfl) (fun _ => rfl) (fun _ z => absurd z id) (by decide) (by decide) (by decide) d_M_new_157 g164 (okl_cons (okv_r (by omega)) (okl_nil)) (oks_cons (okv_r (by omega)) (oks_nil)) ?_
  rw [← e165]
  have h162_n : h162.1 = h158.1 + 1 := by rw [e165]; rfl
  obtain ⟨g168, hf⟩ := grd_e hf
  obtain ⟨h166, e167, hf⟩ := bd1_e hf
  refine g_putF (pc := 159) (ci := 8) (kk := 33) ty_M tyok_M nm_M d_M_new_159 rfl in_M (by decide) wd_971 rfl rfl rfl (fun _ => rfl) (fun _ => rfl) (fun _ z => by cases z; omega) e167 ?_
  refine g_aload_n (pc := 162) 0 d_M_new_162 rfl rfl ?_
  refine g_sipush (pc := 163) (216 : Int32) d_M_new_163 (by decide) ?_
  obtain ⟨g169, hf⟩ := grd_e hf
  obtain ⟨h170, e171, hf⟩ := bd1_e hf
  obtain ⟨g172, e173⟩ := mkn_e e171
  refine g_newa (pc := 166) rfl 3 216 .long (216, .inr (.inl (fun _ => 0))) wd_261 rfl (fun _ => rfl) (fun _ _ _ a b => Option.some.inj (a.symm.trans b)) (fun _ => rfl) (fun _ => rfl) (fun _ z => absurd z id) (by decide) (by decide) (by decide) d_M_new_166 g172 (okl_cons (okv_r (by omega)) (okl_nil)) (oks_cons (okv_r (by omega)) (oks_nil)) ?_
  rw [← e173]
  have h170_n : h170.1 = h166.1 + 1 := by rw [e173]; rfl
  obtain ⟨g176, hf⟩ := grd_e hf
  obtain ⟨h174, e175, hf⟩ := bd1_e hf
  refine g_putF (pc := 168) (ci := 8) (kk := 34) ty_M tyok_M nm_M d_M_new_168 rfl in_M (by decide) wd_972 rfl rfl rfl (fun _ => rfl) (fun _ => rfl) (fun _ z => by cases z; omega) e175 ?_
  refine g_aload_n (pc := 171) 0 d_M_new_171 rfl rfl ?_
  refine g_iconst (pc := 172) (4 : Int32) d_M_new_172 (by decide) ?_
  obtain ⟨g177, hf⟩ := grd_e hf
  obtain ⟨h178, e179, hf⟩ := bd1_e hf
  obtain ⟨g180, e181⟩ := mkn_e e179
  refine g_newa (pc := 173) rfl 0 4 .int (4, .inl (fun _ => 0)) wd_92 rfl (fun _ => rfl) (fun _ _ _ a b => Option.some.inj (a.symm.trans b)) (fun _ => rfl) (fun _ => rfl) (fun _ z => absurd z id) (by decide) (by decide) (by decide) d_M_new_173 g180 (okl_cons (okv_r (by omega)) (okl_nil)) (oks_cons (okv_r (by omega)) (oks_nil)) ?_
  rw [← e181]
  have h178_n : h178.1 = h174.1 + 1 := by rw [e181]; rfl
  obtain ⟨g184, hf⟩ := grd_e hf
  obtain ⟨h182, e183, hf⟩ := bd1_e hf
  refine g_putF (pc := 175) (ci := 8) (kk := 35) ty_M tyok_M nm_M d_M_new_175 rfl in_M (by decide) wd_973 rfl rfl rfl (fun _ => rfl) (fun _ => rfl) (fun _ z => by cases z; omega) e183 ?_
  refine g_aload_n (pc := 178) 0 d_M_new_178 rfl rfl ?_
  refine g_iconst (pc := 179) (4 : Int32) d_M_new_179 (by decide) ?_
  obtain ⟨g185, hf⟩ := grd_e hf
  obtain ⟨h186, e187, hf⟩ := bd1_e hf
  obtain ⟨g188, e189⟩ := mkn_e e187
  refine g_newa (pc := 180) rfl 0 4 .int (4, .inl (fun _ => 0)) wd_92 rfl (fun _ => rfl) (fun _ _ _ a b => Option.some.inj (a.symm.trans b)) (fun _ => rfl) (fun _ => rfl) (fun _ z => absurd z id) (by decide) (by decide) (by decide) d_M_new_180 g188 (okl_cons (okv_r (by omega)) (okl_nil)) (oks_cons (okv_r (by omega)) (oks_nil)) ?_
  rw [← e189]
  have h186_n : h186.1 = h182.1 + 1 := by rw [e189]; rfl
  obtain ⟨g192, hf⟩ := grd_e hf
  obtain ⟨h190, e191, hf⟩ := bd1_e hf
  refine g_putF (pc := 182) (ci := 8) (kk := 36) ty_M tyok_M nm_M d_M_new_182 rfl in_M (by decide) wd_974 rfl rfl rfl (fun _ => rfl) (fun _ => rfl) (fun _ z => by cases z; omega) e191 ?_
  refine g_aload_n (pc := 185) 0 d_M_new_185 rfl rfl ?_
  refine g_sipush (pc := 186) (160 : Int32) d_M_new_186 (by decide) ?_
  obtain ⟨g193, hf⟩ := grd_e hf
  obtain ⟨h194, e195, hf⟩ := bd1_e hf
  obtain ⟨g196, e197⟩ := mkn_e e195
  refine g_newa (pc := 189) rfl 0 160 .int (160, .inl (fun _ => 0)) wd_92 rfl (fun _ => rfl) (fun _ _ _ a b => Option.some.inj (a.symm.trans b)) (fun _ => rfl) (fun _ => rfl) (fun _ z => absurd z id) (by decide) (by decide) (by decide) d_M_new_189 g196 (okl_cons (okv_r (by omega)) (okl_nil)) (oks_cons (okv_r (by omega)) (oks_nil)) ?_
  rw [← e197]
  have h194_n : h194.1 = h190.1 + 1 := by rw [e197]; rfl
  obtain ⟨g200, hf⟩ := grd_e hf
  obtain ⟨h198, e199, hf⟩ := bd1_e hf
  refine g_putF (pc := 191) (ci := 8) (kk := 37) ty_M tyok_M nm_M d_M_new_191 rfl in_M (by decide) wd_975 rfl rfl rfl (fun _ => rfl) (fun _ => rfl) (fun _ z => by cases z; omega) e199 ?_
  refine g_iconst (pc := 194) (0 : Int32) d_M_new_194 (by decide) ?_
  refine g_istore_n (pc := 195) [(1, .int (0 : Int32)), (0, .ref a0)] d_M_new_195 rfl (Nat.le_of_ble_eq_true rfl) rfl ?_
  refine g_lv [1, 0] rfl ?_
  exact t_M_new_196  FU _ _ _ _  hf
def f_M_new (a0 : Nat) (h : mH) : Option mH := f_M_new_0 a0 h
theorem c_M_new {a0 : Nat} {h : mH} {h' : mH} (hf : f_M_new a0 h = some h') : MM y_M_new prog_10_method_1_code 2 none 1 21 [.ref a0] h none h' :=
  mm_of_G (by decide) (Nat.le_of_ble_eq_true rfl) (t_M_new_0 _ _ _ hf)
end
