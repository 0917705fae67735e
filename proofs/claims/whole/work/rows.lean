section
-- ===== PART A: goes FIRST, ahead of the names: the tables' words, and 'selects' of the private methods out of them =====
/-- a private method of a class that the tables say can be made, by its rows of tables_1 -/
def lw_okq (q : MethodName × Nat) : Prop := (q.1.cls ≠ "java/lang/invoke/MethodHandle" ∧ q.1.cls ≠ "java/lang/invoke/VarHandle") ∧ Cond.instantiable q.1.cls q.2 ∈ tables_1 ∧ Cond.privateMethod q.1 ∈ tables_1 ∧ Cond.instanceMethod q.1 ∈ tables_1
theorem lw_p0 : lw_okq (⟨"QuotaLaws$Reader", "takeToken", "()Z"⟩, 9) := ⟨⟨by decide +kernel, by decide +kernel⟩, List.mem_of_getElem? (i := 27) (by decide +kernel), List.mem_of_getElem? (i := 358) (by decide +kernel), List.mem_of_getElem? (i := 359) (by decide +kernel)⟩
theorem lw_p1 : lw_okq (⟨"QuotaLaws$Reader", "passRun", "(II)V"⟩, 9) := ⟨⟨by decide +kernel, by decide +kernel⟩, List.mem_of_getElem? (i := 27) (by decide +kernel), List.mem_of_getElem? (i := 362) (by decide +kernel), List.mem_of_getElem? (i := 363) (by decide +kernel)⟩
theorem lw_p2 : lw_okq (⟨"QuotaLaws$Reader", "kindHere", "()I"⟩, 9) := ⟨⟨by decide +kernel, by decide +kernel⟩, List.mem_of_getElem? (i := 27) (by decide +kernel), List.mem_of_getElem? (i := 366) (by decide +kernel), List.mem_of_getElem? (i := 367) (by decide +kernel)⟩
theorem lw_p3 : lw_okq (⟨"QuotaLaws$Reader", "valueOfRun", "()I"⟩, 9) := ⟨⟨by decide +kernel, by decide +kernel⟩, List.mem_of_getElem? (i := 27) (by decide +kernel), List.mem_of_getElem? (i := 370) (by decide +kernel), List.mem_of_getElem? (i := 371) (by decide +kernel)⟩
theorem lw_p4 : lw_okq (⟨"QuotaLaws$Reader", "fail", "(II)Z"⟩, 9) := ⟨⟨by decide +kernel, by decide +kernel⟩, List.mem_of_getElem? (i := 27) (by decide +kernel), List.mem_of_getElem? (i := 374) (by decide +kernel), List.mem_of_getElem? (i := 375) (by decide +kernel)⟩
theorem lw_p5 : lw_okq (⟨"QuotaLaws$Reader", "takeLine", "(LQuotaLaws$Realm;)Z"⟩, 9) := ⟨⟨by decide +kernel, by decide +kernel⟩, List.mem_of_getElem? (i := 27) (by decide +kernel), List.mem_of_getElem? (i := 378) (by decide +kernel), List.mem_of_getElem? (i := 379) (by decide +kernel)⟩
theorem lw_p6 : lw_okq (⟨"QuotaLaws$Reader", "isWord", "(Ljava/lang/String;)Z"⟩, 9) := ⟨⟨by decide +kernel, by decide +kernel⟩, List.mem_of_getElem? (i := 27) (by decide +kernel), List.mem_of_getElem? (i := 383) (by decide +kernel), List.mem_of_getElem? (i := 384) (by decide +kernel)⟩
theorem lw_p7 : lw_okq (⟨"QuotaLaws$Reader", "takeLaw", "(LQuotaLaws$Realm;I)Z"⟩, 9) := ⟨⟨by decide +kernel, by decide +kernel⟩, List.mem_of_getElem? (i := 27) (by decide +kernel), List.mem_of_getElem? (i := 435) (by decide +kernel), List.mem_of_getElem? (i := 436) (by decide +kernel)⟩
theorem lw_p8 : lw_okq (⟨"QuotaLaws$Reader", "takeNumber", "(II)Z"⟩, 9) := ⟨⟨by decide +kernel, by decide +kernel⟩, List.mem_of_getElem? (i := 27) (by decide +kernel), List.mem_of_getElem? (i := 439) (by decide +kernel), List.mem_of_getElem? (i := 440) (by decide +kernel)⟩
theorem lw_p9 : lw_okq (⟨"QuotaLaws$Reader", "isBounded", "(II)Z"⟩, 9) := ⟨⟨by decide +kernel, by decide +kernel⟩, List.mem_of_getElem? (i := 27) (by decide +kernel), List.mem_of_getElem? (i := 443) (by decide +kernel), List.mem_of_getElem? (i := 444) (by decide +kernel)⟩
theorem lw_p10 : lw_okq (⟨"QuotaLaws$Reader", "putInto", "([II)Z"⟩, 9) := ⟨⟨by decide +kernel, by decide +kernel⟩, List.mem_of_getElem? (i := 27) (by decide +kernel), List.mem_of_getElem? (i := 448) (by decide +kernel), List.mem_of_getElem? (i := 449) (by decide +kernel)⟩
theorem lw_p11 : lw_okq (⟨"QuotaLaws$Reader", "takeCarried", "(LQuotaLaws$Realm;I)Z"⟩, 9) := ⟨⟨by decide +kernel, by decide +kernel⟩, List.mem_of_getElem? (i := 27) (by decide +kernel), List.mem_of_getElem? (i := 452) (by decide +kernel), List.mem_of_getElem? (i := 453) (by decide +kernel)⟩
theorem lw_p12 : lw_okq (⟨"QuotaLaws$Reader", "isStop", "()Z"⟩, 9) := ⟨⟨by decide +kernel, by decide +kernel⟩, List.mem_of_getElem? (i := 27) (by decide +kernel), List.mem_of_getElem? (i := 456) (by decide +kernel), List.mem_of_getElem? (i := 457) (by decide +kernel)⟩
theorem lw_p13 : lw_okq (⟨"QuotaLaws$Reader", "takeOne", "(LQuotaLaws$Realm;I)Z"⟩, 9) := ⟨⟨by decide +kernel, by decide +kernel⟩, List.mem_of_getElem? (i := 27) (by decide +kernel), List.mem_of_getElem? (i := 461) (by decide +kernel), List.mem_of_getElem? (i := 462) (by decide +kernel)⟩
theorem lw_p14 : lw_okq (⟨"QuotaLaws$Reader", "addLaw", "([II)Z"⟩, 9) := ⟨⟨by decide +kernel, by decide +kernel⟩, List.mem_of_getElem? (i := 27) (by decide +kernel), List.mem_of_getElem? (i := 465) (by decide +kernel), List.mem_of_getElem? (i := 466) (by decide +kernel)⟩
theorem lw_p15 : lw_okq (⟨"QuotaLaws$Reader", "takeWant", "(LQuotaLaws$Realm;)Z"⟩, 9) := ⟨⟨by decide +kernel, by decide +kernel⟩, List.mem_of_getElem? (i := 27) (by decide +kernel), List.mem_of_getElem? (i := 473) (by decide +kernel), List.mem_of_getElem? (i := 474) (by decide +kernel)⟩
def lw_privs_1 : List (MethodName × Nat) := [(⟨"QuotaLaws$Reader", "takeToken", "()Z"⟩, 9), (⟨"QuotaLaws$Reader", "passRun", "(II)V"⟩, 9), (⟨"QuotaLaws$Reader", "kindHere", "()I"⟩, 9), (⟨"QuotaLaws$Reader", "valueOfRun", "()I"⟩, 9), (⟨"QuotaLaws$Reader", "fail", "(II)Z"⟩, 9), (⟨"QuotaLaws$Reader", "takeLine", "(LQuotaLaws$Realm;)Z"⟩, 9), (⟨"QuotaLaws$Reader", "isWord", "(Ljava/lang/String;)Z"⟩, 9), (⟨"QuotaLaws$Reader", "takeLaw", "(LQuotaLaws$Realm;I)Z"⟩, 9), (⟨"QuotaLaws$Reader", "takeNumber", "(II)Z"⟩, 9), (⟨"QuotaLaws$Reader", "isBounded", "(II)Z"⟩, 9), (⟨"QuotaLaws$Reader", "putInto", "([II)Z"⟩, 9), (⟨"QuotaLaws$Reader", "takeCarried", "(LQuotaLaws$Realm;I)Z"⟩, 9), (⟨"QuotaLaws$Reader", "isStop", "()Z"⟩, 9), (⟨"QuotaLaws$Reader", "takeOne", "(LQuotaLaws$Realm;I)Z"⟩, 9), (⟨"QuotaLaws$Reader", "addLaw", "([II)Z"⟩, 9), (⟨"QuotaLaws$Reader", "takeWant", "(LQuotaLaws$Realm;)Z"⟩, 9)]
theorem lw_r1 : ∀ q ∈ lw_privs_1, lw_okq q := List.forall_mem_cons.mpr ⟨lw_p0, List.forall_mem_cons.mpr ⟨lw_p1, List.forall_mem_cons.mpr ⟨lw_p2, List.forall_mem_cons.mpr ⟨lw_p3, List.forall_mem_cons.mpr ⟨lw_p4, List.forall_mem_cons.mpr ⟨lw_p5, List.forall_mem_cons.mpr ⟨lw_p6, List.forall_mem_cons.mpr ⟨lw_p7, List.forall_mem_cons.mpr ⟨lw_p8, List.forall_mem_cons.mpr ⟨lw_p9, List.forall_mem_cons.mpr ⟨lw_p10, List.forall_mem_cons.mpr ⟨lw_p11, List.forall_mem_cons.mpr ⟨lw_p12, List.forall_mem_cons.mpr ⟨lw_p13, List.forall_mem_cons.mpr ⟨lw_p14, List.forall_mem_cons.mpr ⟨lw_p15, fun _ h => absurd h List.not_mem_nil⟩⟩⟩⟩⟩⟩⟩⟩⟩⟩⟩⟩⟩⟩⟩⟩
theorem lw_p16 : lw_okq (⟨"QuotaLaws$Reader", "takeWatch", "(LQuotaLaws$Realm;)Z"⟩, 9) := ⟨⟨by decide +kernel, by decide +kernel⟩, List.mem_of_getElem? (i := 27) (by decide +kernel), List.mem_of_getElem? (i := 478) (by decide +kernel), List.mem_of_getElem? (i := 479) (by decide +kernel)⟩
theorem lw_p17 : lw_okq (⟨"QuotaLaws$Planner", "leftToLast", "(III)I"⟩, 8) := ⟨⟨by decide +kernel, by decide +kernel⟩, List.mem_of_getElem? (i := 199) (by decide +kernel), List.mem_of_getElem? (i := 676) (by decide +kernel), List.mem_of_getElem? (i := 677) (by decide +kernel)⟩
theorem lw_p18 : lw_okq (⟨"QuotaLaws$Planner", "search", "(III)I"⟩, 8) := ⟨⟨by decide +kernel, by decide +kernel⟩, List.mem_of_getElem? (i := 199) (by decide +kernel), List.mem_of_getElem? (i := 683) (by decide +kernel), List.mem_of_getElem? (i := 684) (by decide +kernel)⟩
theorem lw_p19 : lw_okq (⟨"QuotaLaws$Planner", "needOfAll", "(I)I"⟩, 8) := ⟨⟨by decide +kernel, by decide +kernel⟩, List.mem_of_getElem? (i := 199) (by decide +kernel), List.mem_of_getElem? (i := 707) (by decide +kernel), List.mem_of_getElem? (i := 708) (by decide +kernel)⟩
theorem lw_p20 : lw_okq (⟨"QuotaLaws$Planner", "givenTo", "(I)I"⟩, 8) := ⟨⟨by decide +kernel, by decide +kernel⟩, List.mem_of_getElem? (i := 199) (by decide +kernel), List.mem_of_getElem? (i := 712) (by decide +kernel), List.mem_of_getElem? (i := 713) (by decide +kernel)⟩
theorem lw_p21 : lw_okq (⟨"QuotaLaws$Odds", "addTry", "(I)V"⟩, 3) := ⟨⟨by decide +kernel, by decide +kernel⟩, List.mem_of_getElem? (i := 263) (by decide +kernel), List.mem_of_getElem? (i := 759) (by decide +kernel), List.mem_of_getElem? (i := 760) (by decide +kernel)⟩
theorem lw_p22 : lw_okq (⟨"QuotaLaws$Odds", "reduce", "()V"⟩, 3) := ⟨⟨by decide +kernel, by decide +kernel⟩, List.mem_of_getElem? (i := 263) (by decide +kernel), List.mem_of_getElem? (i := 765) (by decide +kernel), List.mem_of_getElem? (i := 766) (by decide +kernel)⟩
theorem lw_p23 : lw_okq (⟨"QuotaLaws$Tables", "spendAlone", "(II)V"⟩, 8) := ⟨⟨by decide +kernel, by decide +kernel⟩, List.mem_of_getElem? (i := 231) (by decide +kernel), List.mem_of_getElem? (i := 801) (by decide +kernel), List.mem_of_getElem? (i := 802) (by decide +kernel)⟩
theorem lw_p24 : lw_okq (⟨"QuotaLaws$Tables", "joinAll", "()V"⟩, 8) := ⟨⟨by decide +kernel, by decide +kernel⟩, List.mem_of_getElem? (i := 231) (by decide +kernel), List.mem_of_getElem? (i := 805) (by decide +kernel), List.mem_of_getElem? (i := 806) (by decide +kernel)⟩
theorem lw_p25 : lw_okq (⟨"QuotaLaws$Tables", "spendTogether", "(I)V"⟩, 8) := ⟨⟨by decide +kernel, by decide +kernel⟩, List.mem_of_getElem? (i := 231) (by decide +kernel), List.mem_of_getElem? (i := 812) (by decide +kernel), List.mem_of_getElem? (i := 813) (by decide +kernel)⟩
theorem lw_p26 : lw_okq (⟨"QuotaLaws$Tables", "waysTo", "(IIII)J"⟩, 8) := ⟨⟨by decide +kernel, by decide +kernel⟩, List.mem_of_getElem? (i := 231) (by decide +kernel), List.mem_of_getElem? (i := 816) (by decide +kernel), List.mem_of_getElem? (i := 817) (by decide +kernel)⟩
theorem lw_p27 : lw_okq (⟨"QuotaLaws$Tables", "sumOfDue", "()J"⟩, 8) := ⟨⟨by decide +kernel, by decide +kernel⟩, List.mem_of_getElem? (i := 231) (by decide +kernel), List.mem_of_getElem? (i := 822) (by decide +kernel), List.mem_of_getElem? (i := 823) (by decide +kernel)⟩
theorem lw_p28 : lw_okq (⟨"QuotaLaws$Tables", "isDueOf", "(II)Z"⟩, 8) := ⟨⟨by decide +kernel, by decide +kernel⟩, List.mem_of_getElem? (i := 231) (by decide +kernel), List.mem_of_getElem? (i := 826) (by decide +kernel), List.mem_of_getElem? (i := 827) (by decide +kernel)⟩
theorem lw_p29 : lw_okq (⟨"QuotaLaws", "countKept", "()I"⟩, 10) := ⟨⟨by decide +kernel, by decide +kernel⟩, List.mem_of_getElem? (i := 19) (by decide +kernel), List.mem_of_getElem? (i := 913) (by decide +kernel), List.mem_of_getElem? (i := 914) (by decide +kernel)⟩
theorem lw_p30 : lw_okq (⟨"QuotaLawsModel", "firstDraft", "()V"⟩, 39) := ⟨⟨by decide +kernel, by decide +kernel⟩, List.mem_of_getElem? (i := 925) (by decide +kernel), List.mem_of_getElem? (i := 931) (by decide +kernel), List.mem_of_getElem? (i := 932) (by decide +kernel)⟩
theorem lw_p31 : lw_okq (⟨"QuotaLawsModel", "keepDraft", "()V"⟩, 39) := ⟨⟨by decide +kernel, by decide +kernel⟩, List.mem_of_getElem? (i := 925) (by decide +kernel), List.mem_of_getElem? (i := 935) (by decide +kernel), List.mem_of_getElem? (i := 936) (by decide +kernel)⟩
def lw_privs_2 : List (MethodName × Nat) := [(⟨"QuotaLaws$Reader", "takeWatch", "(LQuotaLaws$Realm;)Z"⟩, 9), (⟨"QuotaLaws$Planner", "leftToLast", "(III)I"⟩, 8), (⟨"QuotaLaws$Planner", "search", "(III)I"⟩, 8), (⟨"QuotaLaws$Planner", "needOfAll", "(I)I"⟩, 8), (⟨"QuotaLaws$Planner", "givenTo", "(I)I"⟩, 8), (⟨"QuotaLaws$Odds", "addTry", "(I)V"⟩, 3), (⟨"QuotaLaws$Odds", "reduce", "()V"⟩, 3), (⟨"QuotaLaws$Tables", "spendAlone", "(II)V"⟩, 8), (⟨"QuotaLaws$Tables", "joinAll", "()V"⟩, 8), (⟨"QuotaLaws$Tables", "spendTogether", "(I)V"⟩, 8), (⟨"QuotaLaws$Tables", "waysTo", "(IIII)J"⟩, 8), (⟨"QuotaLaws$Tables", "sumOfDue", "()J"⟩, 8), (⟨"QuotaLaws$Tables", "isDueOf", "(II)Z"⟩, 8), (⟨"QuotaLaws", "countKept", "()I"⟩, 10), (⟨"QuotaLawsModel", "firstDraft", "()V"⟩, 39), (⟨"QuotaLawsModel", "keepDraft", "()V"⟩, 39)]
theorem lw_r2 : ∀ q ∈ lw_privs_2, lw_okq q := List.forall_mem_cons.mpr ⟨lw_p16, List.forall_mem_cons.mpr ⟨lw_p17, List.forall_mem_cons.mpr ⟨lw_p18, List.forall_mem_cons.mpr ⟨lw_p19, List.forall_mem_cons.mpr ⟨lw_p20, List.forall_mem_cons.mpr ⟨lw_p21, List.forall_mem_cons.mpr ⟨lw_p22, List.forall_mem_cons.mpr ⟨lw_p23, List.forall_mem_cons.mpr ⟨lw_p24, List.forall_mem_cons.mpr ⟨lw_p25, List.forall_mem_cons.mpr ⟨lw_p26, List.forall_mem_cons.mpr ⟨lw_p27, List.forall_mem_cons.mpr ⟨lw_p28, List.forall_mem_cons.mpr ⟨lw_p29, List.forall_mem_cons.mpr ⟨lw_p30, List.forall_mem_cons.mpr ⟨lw_p31, fun _ h => absurd h List.not_mem_nil⟩⟩⟩⟩⟩⟩⟩⟩⟩⟩⟩⟩⟩⟩⟩⟩
theorem lw_p32 : lw_okq (⟨"QuotaLawsModel", "next", "()V"⟩, 39) := ⟨⟨by decide +kernel, by decide +kernel⟩, List.mem_of_getElem? (i := 925) (by decide +kernel), List.mem_of_getElem? (i := 1073) (by decide +kernel), List.mem_of_getElem? (i := 1074) (by decide +kernel)⟩
theorem lw_p33 : lw_okq (⟨"QuotaLawsModel", "look", "(I)I"⟩, 39) := ⟨⟨by decide +kernel, by decide +kernel⟩, List.mem_of_getElem? (i := 925) (by decide +kernel), List.mem_of_getElem? (i := 1077) (by decide +kernel), List.mem_of_getElem? (i := 1078) (by decide +kernel)⟩
theorem lw_p34 : lw_okq (⟨"QuotaLawsModel", "needs", "(ZI)V"⟩, 39) := ⟨⟨by decide +kernel, by decide +kernel⟩, List.mem_of_getElem? (i := 925) (by decide +kernel), List.mem_of_getElem? (i := 1085) (by decide +kernel), List.mem_of_getElem? (i := 1086) (by decide +kernel)⟩
theorem lw_p35 : lw_okq (⟨"QuotaLawsModel", "readLine", "()V"⟩, 39) := ⟨⟨by decide +kernel, by decide +kernel⟩, List.mem_of_getElem? (i := 925) (by decide +kernel), List.mem_of_getElem? (i := 1089) (by decide +kernel), List.mem_of_getElem? (i := 1090) (by decide +kernel)⟩
theorem lw_p36 : lw_okq (⟨"QuotaLawsModel", "lineNow", "()I"⟩, 39) := ⟨⟨by decide +kernel, by decide +kernel⟩, List.mem_of_getElem? (i := 925) (by decide +kernel), List.mem_of_getElem? (i := 1093) (by decide +kernel), List.mem_of_getElem? (i := 1094) (by decide +kernel)⟩
theorem lw_p37 : lw_okq (⟨"QuotaLawsModel", "is", "(IIII)Z"⟩, 39) := ⟨⟨by decide +kernel, by decide +kernel⟩, List.mem_of_getElem? (i := 925) (by decide +kernel), List.mem_of_getElem? (i := 1097) (by decide +kernel), List.mem_of_getElem? (i := 1098) (by decide +kernel)⟩
theorem lw_p38 : lw_okq (⟨"QuotaLawsModel", "readLineOf", "(I)V"⟩, 39) := ⟨⟨by decide +kernel, by decide +kernel⟩, List.mem_of_getElem? (i := 925) (by decide +kernel), List.mem_of_getElem? (i := 1101) (by decide +kernel), List.mem_of_getElem? (i := 1102) (by decide +kernel)⟩
theorem lw_p39 : lw_okq (⟨"QuotaLawsModel", "readLaw", "()V"⟩, 39) := ⟨⟨by decide +kernel, by decide +kernel⟩, List.mem_of_getElem? (i := 925) (by decide +kernel), List.mem_of_getElem? (i := 1105) (by decide +kernel), List.mem_of_getElem? (i := 1106) (by decide +kernel)⟩
theorem lw_p40 : lw_okq (⟨"QuotaLawsModel", "readNumber", "(II)I"⟩, 39) := ⟨⟨by decide +kernel, by decide +kernel⟩, List.mem_of_getElem? (i := 925) (by decide +kernel), List.mem_of_getElem? (i := 1109) (by decide +kernel), List.mem_of_getElem? (i := 1110) (by decide +kernel)⟩
theorem lw_p41 : lw_okq (⟨"QuotaLawsModel", "looked", "(II)I"⟩, 39) := ⟨⟨by decide +kernel, by decide +kernel⟩, List.mem_of_getElem? (i := 925) (by decide +kernel), List.mem_of_getElem? (i := 1113) (by decide +kernel), List.mem_of_getElem? (i := 1114) (by decide +kernel)⟩
theorem lw_p42 : lw_okq (⟨"QuotaLawsModel", "readLawOf", "(I)I"⟩, 39) := ⟨⟨by decide +kernel, by decide +kernel⟩, List.mem_of_getElem? (i := 925) (by decide +kernel), List.mem_of_getElem? (i := 1117) (by decide +kernel), List.mem_of_getElem? (i := 1118) (by decide +kernel)⟩
theorem lw_p43 : lw_okq (⟨"QuotaLawsModel", "readOne", "()V"⟩, 39) := ⟨⟨by decide +kernel, by decide +kernel⟩, List.mem_of_getElem? (i := 925) (by decide +kernel), List.mem_of_getElem? (i := 1121) (by decide +kernel), List.mem_of_getElem? (i := 1122) (by decide +kernel)⟩
theorem lw_p44 : lw_okq (⟨"QuotaLawsModel", "isLaw", "(I)Z"⟩, 39) := ⟨⟨by decide +kernel, by decide +kernel⟩, List.mem_of_getElem? (i := 925) (by decide +kernel), List.mem_of_getElem? (i := 1137) (by decide +kernel), List.mem_of_getElem? (i := 1138) (by decide +kernel)⟩
theorem lw_p45 : lw_okq (⟨"QuotaLawsModel", "needOf", "(I)I"⟩, 39) := ⟨⟨by decide +kernel, by decide +kernel⟩, List.mem_of_getElem? (i := 925) (by decide +kernel), List.mem_of_getElem? (i := 1141) (by decide +kernel), List.mem_of_getElem? (i := 1142) (by decide +kernel)⟩
theorem lw_p46 : lw_okq (⟨"QuotaLawsModel", "doesStand", "(I)Z"⟩, 39) := ⟨⟨by decide +kernel, by decide +kernel⟩, List.mem_of_getElem? (i := 925) (by decide +kernel), List.mem_of_getElem? (i := 1145) (by decide +kernel), List.mem_of_getElem? (i := 1146) (by decide +kernel)⟩
theorem lw_p47 : lw_okq (⟨"QuotaLawsModel", "brokenBy", "(II)I"⟩, 39) := ⟨⟨by decide +kernel, by decide +kernel⟩, List.mem_of_getElem? (i := 925) (by decide +kernel), List.mem_of_getElem? (i := 1149) (by decide +kernel), List.mem_of_getElem? (i := 1150) (by decide +kernel)⟩
def lw_privs_3 : List (MethodName × Nat) := [(⟨"QuotaLawsModel", "next", "()V"⟩, 39), (⟨"QuotaLawsModel", "look", "(I)I"⟩, 39), (⟨"QuotaLawsModel", "needs", "(ZI)V"⟩, 39), (⟨"QuotaLawsModel", "readLine", "()V"⟩, 39), (⟨"QuotaLawsModel", "lineNow", "()I"⟩, 39), (⟨"QuotaLawsModel", "is", "(IIII)Z"⟩, 39), (⟨"QuotaLawsModel", "readLineOf", "(I)V"⟩, 39), (⟨"QuotaLawsModel", "readLaw", "()V"⟩, 39), (⟨"QuotaLawsModel", "readNumber", "(II)I"⟩, 39), (⟨"QuotaLawsModel", "looked", "(II)I"⟩, 39), (⟨"QuotaLawsModel", "readLawOf", "(I)I"⟩, 39), (⟨"QuotaLawsModel", "readOne", "()V"⟩, 39), (⟨"QuotaLawsModel", "isLaw", "(I)Z"⟩, 39), (⟨"QuotaLawsModel", "needOf", "(I)I"⟩, 39), (⟨"QuotaLawsModel", "doesStand", "(I)Z"⟩, 39), (⟨"QuotaLawsModel", "brokenBy", "(II)I"⟩, 39)]
theorem lw_r3 : ∀ q ∈ lw_privs_3, lw_okq q := List.forall_mem_cons.mpr ⟨lw_p32, List.forall_mem_cons.mpr ⟨lw_p33, List.forall_mem_cons.mpr ⟨lw_p34, List.forall_mem_cons.mpr ⟨lw_p35, List.forall_mem_cons.mpr ⟨lw_p36, List.forall_mem_cons.mpr ⟨lw_p37, List.forall_mem_cons.mpr ⟨lw_p38, List.forall_mem_cons.mpr ⟨lw_p39, List.forall_mem_cons.mpr ⟨lw_p40, List.forall_mem_cons.mpr ⟨lw_p41, List.forall_mem_cons.mpr ⟨lw_p42, List.forall_mem_cons.mpr ⟨lw_p43, List.forall_mem_cons.mpr ⟨lw_p44, List.forall_mem_cons.mpr ⟨lw_p45, List.forall_mem_cons.mpr ⟨lw_p46, List.forall_mem_cons.mpr ⟨lw_p47, fun _ h => absurd h List.not_mem_nil⟩⟩⟩⟩⟩⟩⟩⟩⟩⟩⟩⟩⟩⟩⟩⟩
theorem lw_p48 : lw_okq (⟨"QuotaLawsModel", "chainOf", "(I)I"⟩, 39) := ⟨⟨by decide +kernel, by decide +kernel⟩, List.mem_of_getElem? (i := 925) (by decide +kernel), List.mem_of_getElem? (i := 1153) (by decide +kernel), List.mem_of_getElem? (i := 1154) (by decide +kernel)⟩
theorem lw_p49 : lw_okq (⟨"QuotaLawsModel", "isOne", "(I)Z"⟩, 39) := ⟨⟨by decide +kernel, by decide +kernel⟩, List.mem_of_getElem? (i := 925) (by decide +kernel), List.mem_of_getElem? (i := 1161) (by decide +kernel), List.mem_of_getElem? (i := 1162) (by decide +kernel)⟩
theorem lw_p50 : lw_okq (⟨"QuotaLawsModel", "canBreak", "(II)Z"⟩, 39) := ⟨⟨by decide +kernel, by decide +kernel⟩, List.mem_of_getElem? (i := 925) (by decide +kernel), List.mem_of_getElem? (i := 1165) (by decide +kernel), List.mem_of_getElem? (i := 1166) (by decide +kernel)⟩
theorem lw_p51 : lw_okq (⟨"QuotaLawsModel", "roomOf", "(II)I"⟩, 39) := ⟨⟨by decide +kernel, by decide +kernel⟩, List.mem_of_getElem? (i := 925) (by decide +kernel), List.mem_of_getElem? (i := 1169) (by decide +kernel), List.mem_of_getElem? (i := 1170) (by decide +kernel)⟩
theorem lw_p52 : lw_okq (⟨"QuotaLawsModel", "timeLeft", "(I)I"⟩, 39) := ⟨⟨by decide +kernel, by decide +kernel⟩, List.mem_of_getElem? (i := 925) (by decide +kernel), List.mem_of_getElem? (i := 1173) (by decide +kernel), List.mem_of_getElem? (i := 1174) (by decide +kernel)⟩
theorem lw_p53 : lw_okq (⟨"QuotaLawsModel", "allBy", "(I)I"⟩, 39) := ⟨⟨by decide +kernel, by decide +kernel⟩, List.mem_of_getElem? (i := 925) (by decide +kernel), List.mem_of_getElem? (i := 1177) (by decide +kernel), List.mem_of_getElem? (i := 1178) (by decide +kernel)⟩
theorem lw_p54 : lw_okq (⟨"QuotaLawsModel", "becomes", "(II)I"⟩, 39) := ⟨⟨by decide +kernel, by decide +kernel⟩, List.mem_of_getElem? (i := 925) (by decide +kernel), List.mem_of_getElem? (i := 1193) (by decide +kernel), List.mem_of_getElem? (i := 1194) (by decide +kernel)⟩
theorem lw_p55 : lw_okq (⟨"QuotaLawsModel", "becomesBit", "(IIZ)I"⟩, 39) := ⟨⟨by decide +kernel, by decide +kernel⟩, List.mem_of_getElem? (i := 925) (by decide +kernel), List.mem_of_getElem? (i := 1205) (by decide +kernel), List.mem_of_getElem? (i := 1206) (by decide +kernel)⟩
theorem lw_p56 : lw_okq (⟨"QuotaLawsModel", "fallsNow", "()I"⟩, 39) := ⟨⟨by decide +kernel, by decide +kernel⟩, List.mem_of_getElem? (i := 925) (by decide +kernel), List.mem_of_getElem? (i := 1242) (by decide +kernel), List.mem_of_getElem? (i := 1243) (by decide +kernel)⟩
theorem lw_p57 : lw_okq (⟨"QuotaLawsModel", "startsRota", "(I)V"⟩, 39) := ⟨⟨by decide +kernel, by decide +kernel⟩, List.mem_of_getElem? (i := 925) (by decide +kernel), List.mem_of_getElem? (i := 1258) (by decide +kernel), List.mem_of_getElem? (i := 1259) (by decide +kernel)⟩
theorem lw_p58 : lw_okq (⟨"QuotaLawsModel", "findRota", "()I"⟩, 39) := ⟨⟨by decide +kernel, by decide +kernel⟩, List.mem_of_getElem? (i := 925) (by decide +kernel), List.mem_of_getElem? (i := 1262) (by decide +kernel), List.mem_of_getElem? (i := 1263) (by decide +kernel)⟩
theorem lw_p59 : lw_okq (⟨"QuotaLawsModel", "leastOf", "(IIII)I"⟩, 39) := ⟨⟨by decide +kernel, by decide +kernel⟩, List.mem_of_getElem? (i := 925) (by decide +kernel), List.mem_of_getElem? (i := 1269) (by decide +kernel), List.mem_of_getElem? (i := 1270) (by decide +kernel)⟩
theorem lw_p60 : lw_okq (⟨"QuotaLawsModel", "harmBy", "(IIIIIII)I"⟩, 39) := ⟨⟨by decide +kernel, by decide +kernel⟩, List.mem_of_getElem? (i := 925) (by decide +kernel), List.mem_of_getElem? (i := 1275) (by decide +kernel), List.mem_of_getElem? (i := 1276) (by decide +kernel)⟩
theorem lw_p61 : lw_okq (⟨"QuotaLawsModel", "roomAt", "(II)I"⟩, 39) := ⟨⟨by decide +kernel, by decide +kernel⟩, List.mem_of_getElem? (i := 925) (by decide +kernel), List.mem_of_getElem? (i := 1279) (by decide +kernel), List.mem_of_getElem? (i := 1280) (by decide +kernel)⟩
theorem lw_p62 : lw_okq (⟨"QuotaLawsModel", "sharesOf", "(IIII)V"⟩, 39) := ⟨⟨by decide +kernel, by decide +kernel⟩, List.mem_of_getElem? (i := 925) (by decide +kernel), List.mem_of_getElem? (i := 1283) (by decide +kernel), List.mem_of_getElem? (i := 1284) (by decide +kernel)⟩
theorem lw_p63 : lw_okq (⟨"QuotaLawsModel", "triesOf", "(II)I"⟩, 39) := ⟨⟨by decide +kernel, by decide +kernel⟩, List.mem_of_getElem? (i := 925) (by decide +kernel), List.mem_of_getElem? (i := 1299) (by decide +kernel), List.mem_of_getElem? (i := 1300) (by decide +kernel)⟩
def lw_privs_4 : List (MethodName × Nat) := [(⟨"QuotaLawsModel", "chainOf", "(I)I"⟩, 39), (⟨"QuotaLawsModel", "isOne", "(I)Z"⟩, 39), (⟨"QuotaLawsModel", "canBreak", "(II)Z"⟩, 39), (⟨"QuotaLawsModel", "roomOf", "(II)I"⟩, 39), (⟨"QuotaLawsModel", "timeLeft", "(I)I"⟩, 39), (⟨"QuotaLawsModel", "allBy", "(I)I"⟩, 39), (⟨"QuotaLawsModel", "becomes", "(II)I"⟩, 39), (⟨"QuotaLawsModel", "becomesBit", "(IIZ)I"⟩, 39), (⟨"QuotaLawsModel", "fallsNow", "()I"⟩, 39), (⟨"QuotaLawsModel", "startsRota", "(I)V"⟩, 39), (⟨"QuotaLawsModel", "findRota", "()I"⟩, 39), (⟨"QuotaLawsModel", "leastOf", "(IIII)I"⟩, 39), (⟨"QuotaLawsModel", "harmBy", "(IIIIIII)I"⟩, 39), (⟨"QuotaLawsModel", "roomAt", "(II)I"⟩, 39), (⟨"QuotaLawsModel", "sharesOf", "(IIII)V"⟩, 39), (⟨"QuotaLawsModel", "triesOf", "(II)I"⟩, 39)]
theorem lw_r4 : ∀ q ∈ lw_privs_4, lw_okq q := List.forall_mem_cons.mpr ⟨lw_p48, List.forall_mem_cons.mpr ⟨lw_p49, List.forall_mem_cons.mpr ⟨lw_p50, List.forall_mem_cons.mpr ⟨lw_p51, List.forall_mem_cons.mpr ⟨lw_p52, List.forall_mem_cons.mpr ⟨lw_p53, List.forall_mem_cons.mpr ⟨lw_p54, List.forall_mem_cons.mpr ⟨lw_p55, List.forall_mem_cons.mpr ⟨lw_p56, List.forall_mem_cons.mpr ⟨lw_p57, List.forall_mem_cons.mpr ⟨lw_p58, List.forall_mem_cons.mpr ⟨lw_p59, List.forall_mem_cons.mpr ⟨lw_p60, List.forall_mem_cons.mpr ⟨lw_p61, List.forall_mem_cons.mpr ⟨lw_p62, List.forall_mem_cons.mpr ⟨lw_p63, fun _ h => absurd h List.not_mem_nil⟩⟩⟩⟩⟩⟩⟩⟩⟩⟩⟩⟩⟩⟩⟩⟩
theorem lw_p64 : lw_okq (⟨"QuotaLawsModel", "saves", "()V"⟩, 39) := ⟨⟨by decide +kernel, by decide +kernel⟩, List.mem_of_getElem? (i := 925) (by decide +kernel), List.mem_of_getElem? (i := 1308) (by decide +kernel), List.mem_of_getElem? (i := 1309) (by decide +kernel)⟩
theorem lw_p65 : lw_okq (⟨"QuotaLawsModel", "wantedBy", "(I)I"⟩, 39) := ⟨⟨by decide +kernel, by decide +kernel⟩, List.mem_of_getElem? (i := 925) (by decide +kernel), List.mem_of_getElem? (i := 1312) (by decide +kernel), List.mem_of_getElem? (i := 1313) (by decide +kernel)⟩
theorem lw_p66 : lw_okq (⟨"QuotaLawsModel", "returns", "()V"⟩, 39) := ⟨⟨by decide +kernel, by decide +kernel⟩, List.mem_of_getElem? (i := 925) (by decide +kernel), List.mem_of_getElem? (i := 1316) (by decide +kernel), List.mem_of_getElem? (i := 1317) (by decide +kernel)⟩
theorem lw_p67 : lw_okq (⟨"QuotaLawsModel", "tablesBy", "(III)J"⟩, 39) := ⟨⟨by decide +kernel, by decide +kernel⟩, List.mem_of_getElem? (i := 925) (by decide +kernel), List.mem_of_getElem? (i := 1342) (by decide +kernel), List.mem_of_getElem? (i := 1343) (by decide +kernel)⟩
theorem lw_p68 : lw_okq (⟨"QuotaLawsModel", "addsLaw", "(IIII)V"⟩, 39) := ⟨⟨by decide +kernel, by decide +kernel⟩, List.mem_of_getElem? (i := 925) (by decide +kernel), List.mem_of_getElem? (i := 1346) (by decide +kernel), List.mem_of_getElem? (i := 1347) (by decide +kernel)⟩
theorem lw_p69 : lw_okq (⟨"QuotaLawsModel", "mostOf", "(II)I"⟩, 39) := ⟨⟨by decide +kernel, by decide +kernel⟩, List.mem_of_getElem? (i := 925) (by decide +kernel), List.mem_of_getElem? (i := 1350) (by decide +kernel), List.mem_of_getElem? (i := 1351) (by decide +kernel)⟩
theorem lw_p70 : lw_okq (⟨"QuotaLawsModel", "isSo", "(III)Z"⟩, 39) := ⟨⟨by decide +kernel, by decide +kernel⟩, List.mem_of_getElem? (i := 925) (by decide +kernel), List.mem_of_getElem? (i := 1354) (by decide +kernel), List.mem_of_getElem? (i := 1355) (by decide +kernel)⟩
theorem lw_p71 : lw_okq (⟨"QuotaLawsModel", "isAsked", "(IIIIII)Z"⟩, 39) := ⟨⟨by decide +kernel, by decide +kernel⟩, List.mem_of_getElem? (i := 925) (by decide +kernel), List.mem_of_getElem? (i := 1358) (by decide +kernel), List.mem_of_getElem? (i := 1359) (by decide +kernel)⟩
theorem lw_p72 : lw_okq (⟨"QuotaLawsModel", "addsTables", "(III)V"⟩, 39) := ⟨⟨by decide +kernel, by decide +kernel⟩, List.mem_of_getElem? (i := 925) (by decide +kernel), List.mem_of_getElem? (i := 1362) (by decide +kernel), List.mem_of_getElem? (i := 1363) (by decide +kernel)⟩
theorem lw_p73 : lw_okq (⟨"QuotaLawsModel", "isTime", "(II)Z"⟩, 39) := ⟨⟨by decide +kernel, by decide +kernel⟩, List.mem_of_getElem? (i := 925) (by decide +kernel), List.mem_of_getElem? (i := 1366) (by decide +kernel), List.mem_of_getElem? (i := 1367) (by decide +kernel)⟩
theorem lw_p74 : lw_okq (⟨"QuotaLawsModel", "copies", "(II)V"⟩, 39) := ⟨⟨by decide +kernel, by decide +kernel⟩, List.mem_of_getElem? (i := 925) (by decide +kernel), List.mem_of_getElem? (i := 1385) (by decide +kernel), List.mem_of_getElem? (i := 1386) (by decide +kernel)⟩
def lw_privs_5 : List (MethodName × Nat) := [(⟨"QuotaLawsModel", "saves", "()V"⟩, 39), (⟨"QuotaLawsModel", "wantedBy", "(I)I"⟩, 39), (⟨"QuotaLawsModel", "returns", "()V"⟩, 39), (⟨"QuotaLawsModel", "tablesBy", "(III)J"⟩, 39), (⟨"QuotaLawsModel", "addsLaw", "(IIII)V"⟩, 39), (⟨"QuotaLawsModel", "mostOf", "(II)I"⟩, 39), (⟨"QuotaLawsModel", "isSo", "(III)Z"⟩, 39), (⟨"QuotaLawsModel", "isAsked", "(IIIIII)Z"⟩, 39), (⟨"QuotaLawsModel", "addsTables", "(III)V"⟩, 39), (⟨"QuotaLawsModel", "isTime", "(II)Z"⟩, 39), (⟨"QuotaLawsModel", "copies", "(II)V"⟩, 39)]
theorem lw_r5 : ∀ q ∈ lw_privs_5, lw_okq q := List.forall_mem_cons.mpr ⟨lw_p64, List.forall_mem_cons.mpr ⟨lw_p65, List.forall_mem_cons.mpr ⟨lw_p66, List.forall_mem_cons.mpr ⟨lw_p67, List.forall_mem_cons.mpr ⟨lw_p68, List.forall_mem_cons.mpr ⟨lw_p69, List.forall_mem_cons.mpr ⟨lw_p70, List.forall_mem_cons.mpr ⟨lw_p71, List.forall_mem_cons.mpr ⟨lw_p72, List.forall_mem_cons.mpr ⟨lw_p73, List.forall_mem_cons.mpr ⟨lw_p74, fun _ h => absurd h List.not_mem_nil⟩⟩⟩⟩⟩⟩⟩⟩⟩⟩⟩
def lw_privs : List (MethodName × Nat) := lw_privs_1 ++ (lw_privs_2 ++ (lw_privs_3 ++ (lw_privs_4 ++ (lw_privs_5))))
def lw_tbl : List Cond := k2_sels lw_privs ++ tables_1
theorem lw_privs_ok : ∀ q ∈ lw_privs, lw_okq q := by
  show ∀ q ∈ lw_privs_1 ++ (lw_privs_2 ++ (lw_privs_3 ++ (lw_privs_4 ++ (lw_privs_5)))), lw_okq q
  exact List.forall_mem_append.mpr ⟨lw_r1, List.forall_mem_append.mpr ⟨lw_r2, List.forall_mem_append.mpr ⟨lw_r3, List.forall_mem_append.mpr ⟨lw_r4, lw_r5⟩⟩⟩⟩
end
section
/-! names: printed by wip/gen/gen_names.py -/
def T_Q : u_T := fun k => match k with
  | 0 => ("QuotaLaws", "reader", "LQuotaLaws$Reader;", true)
  | 1 => ("QuotaLaws", "now", "LQuotaLaws$Realm;", true)
  | 2 => ("QuotaLaws", "trial", "LQuotaLaws$Realm;", true)
  | 3 => ("QuotaLaws", "images", "[LQuotaLaws$Realm;", true)
  | 4 => ("QuotaLaws", "kept", "[Z", true)
  | 5 => ("QuotaLaws", "sheets", "[LQuotaLaws$Sheet;", true)
  | 6 => ("QuotaLaws", "planner", "LQuotaLaws$Planner;", true)
  | 7 => ("QuotaLaws", "tables", "LQuotaLaws$Tables;", true)
  | 8 => ("QuotaLaws", "odds", "LQuotaLaws$Odds;", true)
  | _ => ("QuotaLaws", "tornFault", "I", false)
def ty_Q : Nat → FieldType := fun k => match k with
  | 0 => .object "QuotaLaws$Reader"
  | 1 => .object "QuotaLaws$Realm"
  | 2 => .object "QuotaLaws$Realm"
  | 3 => .array (.object "QuotaLaws$Realm")
  | 4 => .array .boolean
  | 5 => .array (.object "QuotaLaws$Sheet")
  | 6 => .object "QuotaLaws$Planner"
  | 7 => .object "QuotaLaws$Tables"
  | 8 => .object "QuotaLaws$Odds"
  | _ => .int
def T_Odds : u_T := fun k => match k with
  | 0 => ("QuotaLaws$Odds", "over", "J", false)
  | 1 => ("QuotaLaws$Odds", "under", "J", false)
  | _ => ("QuotaLaws$Odds", "weights", "[J", true)
def ty_Odds : Nat → FieldType := fun k => match k with
  | 0 => .long
  | 1 => .long
  | _ => .array .long
def T_Planner : u_T := fun k => match k with
  | 0 => ("QuotaLaws$Planner", "laws", "I", false)
  | 1 => ("QuotaLaws$Planner", "left", "[I", true)
  | 2 => ("QuotaLaws$Planner", "need", "[I", true)
  | 3 => ("QuotaLaws$Planner", "needAhead", "[I", true)
  | 4 => ("QuotaLaws$Planner", "room", "[I", true)
  | 5 => ("QuotaLaws$Planner", "harm", "[I", true)
  | 6 => ("QuotaLaws$Planner", "first", "[I", true)
  | _ => ("QuotaLaws$Planner", "best", "[I", true)
def ty_Planner : Nat → FieldType := fun k => match k with
  | 0 => .int
  | 1 => .array .int
  | 2 => .array .int
  | 3 => .array .int
  | 4 => .array .int
  | 5 => .array .int
  | 6 => .array .int
  | _ => .array .int
def T_Reader : u_T := fun k => match k with
  | 0 => ("QuotaLaws$Reader", "tape", "[B", true)
  | 1 => ("QuotaLaws$Reader", "length", "I", false)
  | 2 => ("QuotaLaws$Reader", "fault", "I", false)
  | 3 => ("QuotaLaws$Reader", "faultPlace", "I", false)
  | 4 => ("QuotaLaws$Reader", "lines", "I", false)
  | 5 => ("QuotaLaws$Reader", "place", "I", false)
  | 6 => ("QuotaLaws$Reader", "kind", "I", false)
  | 7 => ("QuotaLaws$Reader", "start", "I", false)
  | _ => ("QuotaLaws$Reader", "value", "I", false)
def ty_Reader : Nat → FieldType := fun k => match k with
  | 0 => .array .byte
  | 1 => .int
  | 2 => .int
  | 3 => .int
  | 4 => .int
  | 5 => .int
  | 6 => .int
  | 7 => .int
  | _ => .int
def T_Realm : u_T := fun k => match k with
  | 0 => ("QuotaLaws$Realm", "laws", "I", false)
  | 1 => ("QuotaLaws$Realm", "people", "I", false)
  | 2 => ("QuotaLaws$Realm", "year", "I", false)
  | 3 => ("QuotaLaws$Realm", "done", "I", false)
  | 4 => ("QuotaLaws$Realm", "stands", "I", false)
  | 5 => ("QuotaLaws$Realm", "watched", "I", false)
  | 6 => ("QuotaLaws$Realm", "quota", "[I", true)
  | 7 => ("QuotaLaws$Realm", "cap", "[I", true)
  | 8 => ("QuotaLaws$Realm", "harm", "[I", true)
  | 9 => ("QuotaLaws$Realm", "fine", "[I", true)
  | 10 => ("QuotaLaws$Realm", "carries", "[I", true)
  | 11 => ("QuotaLaws$Realm", "time", "[I", true)
  | 12 => ("QuotaLaws$Realm", "clumsy", "[I", true)
  | 13 => ("QuotaLaws$Realm", "nerve", "[I", true)
  | 14 => ("QuotaLaws$Realm", "purse", "[I", true)
  | 15 => ("QuotaLaws$Realm", "refused", "[I", true)
  | 16 => ("QuotaLaws$Realm", "wanted", "[I", true)
  | 17 => ("QuotaLaws$Realm", "breakings", "[I", true)
  | _ => ("QuotaLaws$Realm", "seen", "LQuotaLaws$Sightings;", true)
def ty_Realm : Nat → FieldType := fun k => match k with
  | 0 => .int
  | 1 => .int
  | 2 => .int
  | 3 => .int
  | 4 => .int
  | 5 => .int
  | 6 => .array .int
  | 7 => .array .int
  | 8 => .array .int
  | 9 => .array .int
  | 10 => .array .int
  | 11 => .array .int
  | 12 => .array .int
  | 13 => .array .int
  | 14 => .array .int
  | 15 => .array .int
  | 16 => .array .int
  | 17 => .array .int
  | _ => .object "QuotaLaws$Sightings"
def T_Sheet : u_T := fun k => match k with
  | 0 => ("QuotaLaws$Sheet", "size", "I", false)
  | 1 => ("QuotaLaws$Sheet", "lane", "I", false)
  | _ => ("QuotaLaws$Sheet", "cells", "[I", true)
def ty_Sheet : Nat → FieldType := fun k => match k with
  | 0 => .int
  | 1 => .int
  | _ => .array .int
def T_Sightings : u_T := fun k => match k with
  | 0 => ("QuotaLaws$Sightings", "size", "I", false)
  | 1 => ("QuotaLaws$Sightings", "kinds", "[I", true)
  | 2 => ("QuotaLaws$Sightings", "whose", "[I", true)
  | _ => ("QuotaLaws$Sightings", "times", "[I", true)
def ty_Sightings : Nat → FieldType := fun k => match k with
  | 0 => .int
  | 1 => .array .int
  | 2 => .array .int
  | _ => .array .int
def T_Tables : u_T := fun k => match k with
  | 0 => ("QuotaLaws$Tables", "laws", "I", false)
  | 1 => ("QuotaLaws$Tables", "low", "[I", true)
  | 2 => ("QuotaLaws$Tables", "high", "[I", true)
  | 3 => ("QuotaLaws$Tables", "lawDue", "[I", true)
  | 4 => ("QuotaLaws$Tables", "oneDue", "[I", true)
  | 5 => ("QuotaLaws$Tables", "time", "[I", true)
  | 6 => ("QuotaLaws$Tables", "alone", "[J", true)
  | _ => ("QuotaLaws$Tables", "ways", "[J", true)
def ty_Tables : Nat → FieldType := fun k => match k with
  | 0 => .int
  | 1 => .array .int
  | 2 => .array .int
  | 3 => .array .int
  | 4 => .array .int
  | 5 => .array .int
  | 6 => .array .long
  | _ => .array .long
def T_M : u_T := fun k => match k with
  | 0 => ("QuotaLawsModel", "st", "[I", true)
  | 1 => ("QuotaLawsModel", "isKept", "[Z", true)
  | 2 => ("QuotaLawsModel", "laws", "I", false)
  | 3 => ("QuotaLawsModel", "people", "I", false)
  | 4 => ("QuotaLawsModel", "cap", "[I", true)
  | 5 => ("QuotaLawsModel", "harm", "[I", true)
  | 6 => ("QuotaLawsModel", "fine", "[I", true)
  | 7 => ("QuotaLawsModel", "clumsy", "[I", true)
  | 8 => ("QuotaLawsModel", "nerve", "[I", true)
  | 9 => ("QuotaLawsModel", "draft", "[I", true)
  | 10 => ("QuotaLawsModel", "dLaws", "I", false)
  | 11 => ("QuotaLawsModel", "dPeople", "I", false)
  | 12 => ("QuotaLawsModel", "dCap", "[I", true)
  | 13 => ("QuotaLawsModel", "dHarm", "[I", true)
  | 14 => ("QuotaLawsModel", "dFine", "[I", true)
  | 15 => ("QuotaLawsModel", "dClumsy", "[I", true)
  | 16 => ("QuotaLawsModel", "dNerve", "[I", true)
  | 17 => ("QuotaLawsModel", "highestLaw", "I", false)
  | 18 => ("QuotaLawsModel", "highestOne", "I", false)
  | 19 => ("QuotaLawsModel", "tape", "[I", true)
  | 20 => ("QuotaLawsModel", "taped", "I", false)
  | 21 => ("QuotaLawsModel", "pos", "I", false)
  | 22 => ("QuotaLawsModel", "from", "I", false)
  | 23 => ("QuotaLawsModel", "sort", "I", false)
  | 24 => ("QuotaLawsModel", "value", "I", false)
  | 25 => ("QuotaLawsModel", "fault", "I", false)
  | 26 => ("QuotaLawsModel", "wrongAt", "I", false)
  | 27 => ("QuotaLawsModel", "least", "[I", true)
  | 28 => ("QuotaLawsModel", "needs", "[I", true)
  | 29 => ("QuotaLawsModel", "lefts", "[I", true)
  | 30 => ("QuotaLawsModel", "shares", "[I", true)
  | 31 => ("QuotaLawsModel", "saved", "[I", true)
  | 32 => ("QuotaLawsModel", "ways", "[J", true)
  | 33 => ("QuotaLawsModel", "tables", "[J", true)
  | 34 => ("QuotaLawsModel", "then", "[J", true)
  | 35 => ("QuotaLawsModel", "lanes", "[I", true)
  | 36 => ("QuotaLawsModel", "sizes", "[I", true)
  | 37 => ("QuotaLawsModel", "cells", "[I", true)
  | _ => ("QuotaLawsModel", "torn", "I", false)
def ty_M : Nat → FieldType := fun k => match k with
  | 0 => .array .int
  | 1 => .array .boolean
  | 2 => .int
  | 3 => .int
  | 4 => .array .int
  | 5 => .array .int
  | 6 => .array .int
  | 7 => .array .int
  | 8 => .array .int
  | 9 => .array .int
  | 10 => .int
  | 11 => .int
  | 12 => .array .int
  | 13 => .array .int
  | 14 => .array .int
  | 15 => .array .int
  | 16 => .array .int
  | 17 => .int
  | 18 => .int
  | 19 => .array .int
  | 20 => .int
  | 21 => .int
  | 22 => .int
  | 23 => .int
  | 24 => .int
  | 25 => .int
  | 26 => .int
  | 27 => .array .int
  | 28 => .array .int
  | 29 => .array .int
  | 30 => .array .int
  | 31 => .array .int
  | 32 => .array .long
  | 33 => .array .long
  | 34 => .array .long
  | 35 => .array .int
  | 36 => .array .int
  | 37 => .array .int
  | _ => .int
def mcls : List vw_C := [("QuotaLaws", T_Q, 10), ("QuotaLaws$Odds", T_Odds, 3), ("QuotaLaws$Planner", T_Planner, 8), ("QuotaLaws$Reader", T_Reader, 9), ("QuotaLaws$Realm", T_Realm, 19), ("QuotaLaws$Sheet", T_Sheet, 3), ("QuotaLaws$Sightings", T_Sightings, 4), ("QuotaLaws$Tables", T_Tables, 8), ("QuotaLawsModel", T_M, 39)]
def mtys (dA : Nat → ClassId) : List (ClassId × FieldType) := [(dA 0, .int), (dA 1, .byte), (dA 2, .boolean), (dA 3, .long), (dA 4, .object "QuotaLaws$Realm"), (dA 5, .object "QuotaLaws$Sheet")]
def strK : List (String × Nat × String) := [("QuotaLaws$Reader", 54, "law"), ("QuotaLaws$Reader", 67, "one"), ("QuotaLaws$Reader", 75, "want"), ("QuotaLaws$Reader", 80, "watch")]
def strL : List Nat := [3, 3, 4, 5]
def strB : List (List Int32) := [[108, 97, 119], [111, 110, 101], [119, 97, 110, 116], [119, 97, 116, 99, 104]]
def overs : List String := ["QuotaLaws$Realm", "QuotaLaws$Sheet"]
end
section
/-! THE MODEL: cells by their places; a place k lies at the address 'ad k'. G: from this state of the model the method comes to its end. -/
abbrev mCell : Type := (Nat × vp_A) ⊕ (Nat × List Value)
/-- next free place, slots made so far, the cells -/
abbrev mH : Type := Nat × Nat × (Nat → mCell)
def cv (ad : Nat → Nat) : Value → Value
  | .ref k => .ref (ad k)
  | v => v
def cq (ad : Nat → Nat) (q : Nat × Value) : Nat × Value := (q.1, cv ad q.2)
def cA (ad : Nat → Nat) : vp_A → vp_A
  | (n, .inr (.inr (.inr (.inr f)))) => (n, .inr (.inr (.inr (.inr (fun j => (f j).map ad)))))
  | a => a
def cE (dA : Nat → ClassId) (ad : Nat → Nat) : mCell → va_E
  | .inl (t, a) => .inl (dA t, cA ad a)
  | .inr (c, fs) => .inr (c, fs.map (cv ad))
def dead : mCell := .inr (0, [])
def wl (dA : Nat → ClassId) (ad : Nat → Nat) (h : mH) : va_W := (List.range h.1).map (fun k => (ad k, cE dA ad (h.2.2 k)))
def mset (h : mH) (o : Nat) (c : mCell) : mH := (h.1, h.2.1, va_up h.2.2 o c)
theorem cv_cat (ad : Nat → Nat) (v : Value) : (cv ad v).category = v.category := by cases v <;> rfl
theorem wl_at {dA : Nat → ClassId} {ad : Nat → Nat} {h : mH} {o : Nat} (ho : o < h.1) : (wl dA ad h)[o]? = some (ad o, cE dA ad (h.2.2 o)) := by
  simp [wl, ho]
theorem wl_set {dA : Nat → ClassId} {ad : Nat → Nat} {h : mH} {o : Nat} {c : mCell} : (wl dA ad h).set o (ad o, cE dA ad c) = wl dA ad (mset h o c) := by
  apply List.ext_getElem?
  intro k
  by_cases hk : k < h.1
  · by_cases he : o = k
    · subst he
      simp [wl, mset, va_up, hk]
    · simp [wl, mset, va_up, hk, he, Ne.symm he]

  · rw [List.getElem?_eq_none (by simp [wl]; omega), List.getElem?_eq_none (by simp [wl, mset]; omega)]
theorem wl_of {dA : Nat → ClassId} {ad ad' : Nat → Nat} {h : mH} (hs : ∀ k, k < h.1 → (ad k, cE dA ad (h.2.2 k)) = (ad' k, cE dA ad' (h.2.2 k))) : wl dA ad h = wl dA ad' h := by
  unfold wl
  exact List.map_congr_left (fun k hk => hs k (List.mem_range.mp hk))
/-- words -/
def tbg : List Cond := lw_tbl.filter goodWord
theorem tbg_in {w : Cond} (i : Nat) (h : lw_tbl[i]? = some w) (hg : goodWord w = true) : w ∈ tbg := List.mem_filter.mpr ⟨List.mem_of_getElem? h, hg⟩
theorem tbg_good {big : List Cond} (hb : ∀ w ∈ tbg, w ∈ big) : GoodIn big tbg := fun w h => ⟨hb w h, good_of_word (List.mem_filter.mp h).2⟩
def isNest : Cond → Bool
  | .methodLinkNest .. => true
  | .fieldLinkNest .. => true
  | _ => false
def nests : List Cond := lw_tbl.filter isNest
theorem nests_in {w : Cond} (i : Nat) (h : lw_tbl[i]? = some w) (hg : isNest w = true) : w ∈ nests := List.mem_filter.mpr ⟨List.mem_of_getElem? h, hg⟩
theorem nest_warm {w : Cond} (hw : isNest w = true) {s U : State} (hW : s.WarmedH U.vm) (h : va_Nw w s) : va_Nw w U := by
  cases w <;> first | exact va_Nw.warmM hW h | exact va_Nw.warmF hW h | exact absurd hw (by simp [isNest])
theorem nest_on {w : Cond} (hw : isNest w = true) : w.onTables = true := by
  cases w <;> first | rfl | exact absurd hw (by simp [isNest])
end
section
/-- what lies outside the model's cells: nest mates' links, the String constants (places 1000 ..; their bytes 1100 ..), two statics -/
def EX (ad : Nat → Nat) (A : Nat → Prop) (U : State) : Prop :=
  (∀ w ∈ nests, va_Nw w U) ∧ (∀ (i : Nat) (q : String × Nat × String), strK[i]? = some q → vk_R q.1 q.2.1 q.2.2 (ad (1000 + i)) U) ∧ vk_S strK.length strL strB (fun i => ad (1000 + i)) (fun i => ad (1100 + i)) A U U.heap ∧ va_Z "java/lang/String" "COMPACT_STRINGS" "Z" (.int 1) A U U.heap ∧ (va_Z "jdk/internal/util/Preconditions" "SIOOBE_FORMATTER" "Ljava/util/function/BiFunction;" .null A U U.heap ∨ va_Z "jdk/internal/util/Preconditions" "SIOOBE_FORMATTER" "Ljava/util/function/BiFunction;" (.ref (ad 1200)) A U U.heap) ∧ ∀ C ∈ overs, va_AO C U
theorem EX.go {ad ad' : Nat → Nat} {A A' : Nat → Prop} {s U : State} {H0 : Heap} {locs : List Loc} (h : EX ad A s) (hW : s.WarmedH U.vm) (hS : va_S A s.heap H0 locs) (hU : U.heap = H0) (hA : ∀ q, A' q → A q) (hd : ∀ k, 1000 ≤ k → ad' k = ad k) : EX ad' A' U := by
  obtain ⟨h1, h2, h3, h4, h5, h6⟩ := h
  have hal := hW.alike
  have e1 : (fun i => ad' (1000 + i)) = (fun i => ad (1000 + i)) := funext fun i => hd _ (by omega)
  have e2 : (fun i => ad' (1100 + i)) = (fun i => ad (1100 + i)) := funext fun i => hd _ (by omega)
  subst hU
  refine ⟨fun w hw => nest_warm (List.mem_filter.mp hw).2 hW (h1 w hw), fun i q hq => ?_, ?_, ?_, ?_, fun C hC => (h6 C hC).moved hal⟩
  · rw [hd _ (by omega)]
    exact (h2 i q hq).warm hW
  · rw [e1, e2]
    exact ((h3.kept hS.2.1).moved hal).narrow hA
  · exact ((h4.kept hS.2.1).moved hal).narrow hA
  · rw [hd 1200 (by omega)]
    rcases h5 with z | z
    · exact Or.inl (((z.kept hS.2.1).moved hal).narrow hA)
    · exact Or.inr (((z.kept hS.2.1).moved hal).narrow hA)
theorem EX.blind {ad : Nat → Nat} {A : Nat → Prop} {U : State} {g : JFrame} {mk : MethodId} {a : Array Value} (h : EX ad A U) : EX ad A (U.calling g mk a) := by
  obtain ⟨h1, h2, h3, h4, h5, h6⟩ := h
  have hal : U.vm.Alike (U.calling g mk a).vm := Vm.Alike.refl U.vm
  exact ⟨fun w hw => va_Nw.same (u := U) (U := U.calling g mk a) (nest_on (List.mem_filter.mp hw).2) rfl (h1 w hw), fun i q hq => vk_R.same (u := U) (U := U.calling g mk a) rfl (h2 i q hq), h3.moved hal, h4.moved hal, h5.imp (fun z => z.moved hal) (fun z => z.moved hal), fun C hC => (h6 C hC).moved hal⟩
/-- the machine's side of a method's body -/
def Cx (y : MethodName) (cc : ByteArray) (mL : Nat) (ret : Option FieldType) (dC : Nat → ClassId) (dI : Nat → Nat → Nat) (dA : Nat → ClassId) (ad0 : Nat → Nat) (A : Nat → Prop) (p : Program) (s : State) (m : MethodId) (args : Array Value) (meth : Method) (c : Code) : Prop :=
  p.tables.exec = Jvm.exec ∧ c.code = cc ∧ meth.sig.returnType = ret ∧ c.maxLocals = mL ∧ meth.locks = false ∧ s.vm.findClass y.cls = some m.cls ∧ meth.name = y.name ∧ (∀ w ∈ tbg, w.before args s = true) ∧ va_K (dC, dI) mcls (mtys dA) s ∧ EX ad0 A s ∧ (∀ q, s.heap.size ≤ q → A q)
def hasRef (c : mCell) (j : Nat) : Prop := match c with
  | .inr (_, fs) => Value.ref j ∈ fs
  | .inl (_, _, .inr (.inr (.inr (.inr f)))) => ∃ i, f i = some j
  | _ => False
/-- the cells: few enough, none beyond the last, and all that they name is there -/
def HW (h : mH) : Prop := h.1 ≤ 1000 ∧ (∀ k, h.1 ≤ k → h.2.2 k = dead) ∧ ∀ k j, hasRef (h.2.2 k) j → j < h.1
/-- the model's state beside the machine's -/
def Sr (mL : Nat) (dC : Nat → ClassId) (dI : Nat → Nat → Nat) (dA : Nat → ClassId) (ad0 : Nat → Nat) (n0 s0 : Nat) (A : Nat → Prop) (s : State) (h : mH) (lv : List (Nat × Value)) (ad : Nat → Nat) (H : Heap) (locs : List Loc) (ls : Array Slot) : Prop :=
  va_P (dC, dI) mcls (wl dA ad h) H ∧ va_D A (wl dA ad h) ∧ va_S A s.heap H locs ∧ lv_has ls mL (lv.map (cq ad)) ∧ (∀ k, k < n0 ∨ h.1 ≤ k → ad k = ad0 k) ∧ n0 ≤ h.1 ∧ s0 ≤ h.2.1 ∧ HW h
def Qk (dC : Nat → ClassId) (dI : Nat → Nat → Nat) (dA : Nat → ClassId) (ad0 : Nat → Nat) (n0 : Nat) (A : Nat → Prop) (s : State) (args : Array Value) (r : Option Value) (h' : mH) (Qc : Array Value → State → Outcome → State → Prop) : Prop :=
  ∀ (ad : Nat → Nat) (H : Heap) (locs : List Loc) (t : State), va_P (dC, dI) mcls (wl dA ad h') H → va_D A (wl dA ad h') → va_S A s.heap H locs → (∀ k, k < n0 ∨ h'.1 ≤ k → ad k = ad0 k) → HW h' → t.heap = H → s.WarmedH t.vm → Qc args s (.returned (r.map (cv ad))) t
/-- the methods that make cells: constructors, and the law -/
def al (y : MethodName) : Bool := y.name == "<init>" || y.name == "law"
def nle (y : MethodName) (a b : Nat) : Prop := a ≤ b ∧ (al y = false → a = b)
theorem nle_rf {y : MethodName} {a : Nat} : nle y a a := ⟨Nat.le_refl a, fun _ => rfl⟩
theorem nle_tr {y y2 : MethodName} {a b c : Nat} (h1 : nle y2 a b) (hal : al y2 = true → al y = true) (h2 : nle y b c) : nle y a c := by
  refine ⟨Nat.le_trans h1.1 h2.1, fun z => ?_⟩
  have z2 : al y2 = false := by
    cases q : al y2 with
    | false => rfl
    | true => rw [hal q] at z; cases z
  rw [h1.2 z2]
  exact h2.2 z
/-- from this state of the model the method comes to its end: with r, and the cells h' -/
def G (y : MethodName) (cc : ByteArray) (mL : Nat) (ret : Option FieldType) (fr lo : Nat) (pc : Nat) (lv : List (Nat × Value)) (stk : List Value) (h : mH) (r : Option Value) (h' : mH) : Prop :=
  nle y h.1 h'.1 ∧ nle y h.2.1 h'.2.1 ∧ ∀ (l : Launch) (p : Program) (e : Env) (R : Room) (s : State) (m : MethodId) (args : Array Value) (below : List Frame) (meth : Method) (c : Code) (dC : Nat → ClassId) (dI : Nat → Nat → Nat) (dA : Nat → ClassId) (ad0 : Nat → Nat) (n0 s0 : Nat) (A : Nat → Prop) (Qc : Array Value → State → Outcome → State → Prop),
    Cx y cc mL ret dC dI dA ad0 A p s m args meth c → Qk dC dI dA ad0 n0 A s args r h' Qc → fr ≤ R.frames → lo ≤ R.locals → h'.1 - n0 ≤ R.cells → h'.2.1 - s0 ≤ R.slots →
    ∀ (ad : Nat → Nat) (H : Heap) (locs : List Loc) (ls : Array Slot), Sr mL dC dI dA ad0 n0 s0 A s h lv ad H locs ls →
      W p l e R s m args below meth c H locs (h.1 - n0) (h.2.1 - s0) (MQ below Qc args s (h'.1 - n0) (h'.2.1 - s0) A) (F0 m pc ls (stk.map (cv ad)))
section
variable {y : MethodName} {cc : ByteArray} {mL : Nat} {ret : Option FieldType} {fr lo pc : Nat} {lv : List (Nat × Value)} {stk : List Value} {h h' : mH} {r : Option Value}
/-- a row that touches neither cells nor locals -/
theorem g_pure {pc2 : Nat} {stk2 : List Value} (f : ∀ {p : Program} {l : Launch} {e : Env} {R : Room} {s : State} {m : MethodId} {args : Array Value} {below : List Frame} {meth : Method} {c : Code} {H : Heap} {locs : List Loc} {cells slots : Nat} {Q : State → Prop} {ls : Array Slot} {ad : Nat → Nat}, p.tables.exec = Jvm.exec → c.code = cc → s.vm.findClass y.cls = some m.cls → (∀ w ∈ tbg, w.before args s = true) → lv_has ls mL (lv.map (cq ad)) → W p l e R s m args below meth c H locs cells slots Q (F0 m pc2 ls (stk2.map (cv ad))) → W p l e R s m args below meth c H locs cells slots Q (F0 m pc ls (stk.map (cv ad))))
    (k : G y cc mL ret fr lo pc2 lv stk2 h r h') : G y cc mL ret fr lo pc lv stk h r h' :=
  ⟨k.1, k.2.1, fun l p e R s m args below meth c dC dI dA ad0 n0 s0 A Qc C q f1 f2 f3 f4 ad H locs ls S => f C.1 C.2.1 C.2.2.2.2.2.1 C.2.2.2.2.2.2.2.1 S.2.2.2.1 (k.2.2 l p e R s m args below meth c dC dI dA ad0 n0 s0 A Qc C q f1 f2 f3 f4 ad H locs ls S)⟩
theorem g_iconst {n : Int} (v : Int32) (hd : decode cc pc = .ok (.iconst n, 1)) (hv : Int32.ofInt n = v) (k : G y cc mL ret fr lo (pc + 1) lv (.int v :: stk) h r h') : G y cc mL ret fr lo pc lv stk h r h' :=
  g_pure (fun hx hb _ _ _ k => lv_iconst hx hb hd hv k) k
theorem g_iadd {a b : Int32} (hd : decode cc pc = .ok (.iadd, 1)) (k : G y cc mL ret fr lo (pc + 1) lv (.int (a + b) :: stk) h r h') : G y cc mL ret fr lo pc lv (.int b :: .int a :: stk) h r h' :=
  g_pure (fun hx hb _ _ _ k => lv_iadd hx hb hd k) k
theorem g_iload {i : Nat} {x : Int32} (j : Nat) (hd : decode cc pc = .ok (.iload i, 2)) (hj : lv[j]? = some (i, .int x)) (k : G y cc mL ret fr lo (pc + 2) lv (.int x :: stk) h r h') : G y cc mL ret fr lo pc lv stk h r h' :=
  g_pure (fun {_ _ _ _ _ _ _ _ _ _ _ _ _ _ _ _ ad} hx hb _ _ hl k => lv_iload hx hb hd (lv_at hl j (by rw [List.getElem?_map, hj]; rfl)) k) k
end
end
section
section
variable {y : MethodName} {cc : ByteArray} {mL : Nat} {ret : Option FieldType} {fr lo pc : Nat} {lv lv' : List (Nat × Value)} {stk : List Value} {h h' : mH} {r : Option Value}
theorem g_bipush {n : Int} (v : Int32) (hd : decode cc pc = .ok (.bipush n, 2)) (hv : (Int8.ofInt n).toInt32 = v) (k : G y cc mL ret fr lo (pc + 2) lv (.int v :: stk) h r h') : G y cc mL ret fr lo pc lv stk h r h' :=
  g_pure (fun hx hb hown hts hl k => lv_bipush hx hb hd hv k) k
theorem g_sipush {n : Int} (v : Int32) (hd : decode cc pc = .ok (.sipush n, 3)) (hv : (Int16.ofInt n).toInt32 = v) (k : G y cc mL ret fr lo (pc + 3) lv (.int v :: stk) h r h') : G y cc mL ret fr lo pc lv stk h r h' :=
  g_pure (fun hx hb hown hts hl k => lv_sipush hx hb hd hv k) k
theorem g_lconst {n : Fin 2} (v : Int64) (hd : decode cc pc = .ok (.lconst n, 1)) (hv : Int64.ofNat (n : Nat) = v) (k : G y cc mL ret fr lo (pc + 1) lv (.long v :: stk) h r h') : G y cc mL ret fr lo pc lv stk h r h' :=
  g_pure (fun hx hb hown hts hl k => lv_lconst hx hb hd hv k) k
theorem g_ldc {index : Nat} (v : Int32) (hd : decode cc pc = .ok (.ldc index, 2)) (hw : Cond.constant y.cls index v ∈ tbg) (k : G y cc mL ret fr lo (pc + 2) lv (.int v :: stk) h r h') : G y cc mL ret fr lo pc lv stk h r h' :=
  g_pure (fun hx hb hown hts hl k => lv_ldc hx hb hown (hts _ hw) hd k) k
theorem g_ldcw {index : Nat} (v : Int32) (hd : decode cc pc = .ok (.ldc_w index, 3)) (hw : Cond.constant y.cls index v ∈ tbg) (k : G y cc mL ret fr lo (pc + 3) lv (.int v :: stk) h r h') : G y cc mL ret fr lo pc lv stk h r h' :=
  g_pure (fun hx hb hown hts hl k => lv_ldcw hx hb hown (hts _ hw) hd k) k
theorem g_ldc2 {index : Nat} (v : Int64) (hd : decode cc pc = .ok (.ldc2_w index, 3)) (hw : Cond.constantLong y.cls index v ∈ tbg) (k : G y cc mL ret fr lo (pc + 3) lv (.long v :: stk) h r h') : G y cc mL ret fr lo pc lv stk h r h' :=
  g_pure (fun hx hb hown hts hl k => lv_ldc2 hx hb hown (hts _ hw) hd k) k
theorem g_iload_n {f : Fin 4} {i : Nat} {x : Int32} (j : Nat) (hd : decode cc pc = .ok (.iload_n f, 1)) (hi : (f : Nat) = i) (hj : lv[j]? = some (i, .int x)) (k : G y cc mL ret fr lo (pc + 1) lv (.int x :: stk) h r h') : G y cc mL ret fr lo pc lv stk h r h' :=
  g_pure (fun hx hb hown hts hl k => lv_iload_n hx hb hd hi (lv_at hl j (by rw [List.getElem?_map, hj]; rfl)) k) k
theorem g_lload_n {f : Fin 4} {i : Nat} {x : Int64} (j : Nat) (hd : decode cc pc = .ok (.lload_n f, 1)) (hi : (f : Nat) = i) (hj : lv[j]? = some (i, .long x)) (k : G y cc mL ret fr lo (pc + 1) lv (.long x :: stk) h r h') : G y cc mL ret fr lo pc lv stk h r h' :=
  g_pure (fun hx hb hown hts hl k => lv_lload_n hx hb hd hi (lv_at hl j (by rw [List.getElem?_map, hj]; rfl)) k) k
theorem g_lload {i : Nat} {x : Int64} (j : Nat) (hd : decode cc pc = .ok (.lload i, 2)) (hj : lv[j]? = some (i, .long x)) (k : G y cc mL ret fr lo (pc + 2) lv (.long x :: stk) h r h') : G y cc mL ret fr lo pc lv stk h r h' :=
  g_pure (fun hx hb hown hts hl k => lv_lload hx hb hd (lv_at hl j (by rw [List.getElem?_map, hj]; rfl)) k) k
theorem g_aload_n {f : Fin 4} {i : Nat} {x : Nat} (j : Nat) (hd : decode cc pc = .ok (.aload_n f, 1)) (hi : (f : Nat) = i) (hj : lv[j]? = some (i, .ref x)) (k : G y cc mL ret fr lo (pc + 1) lv (.ref x :: stk) h r h') : G y cc mL ret fr lo pc lv stk h r h' :=
  g_pure (fun hx hb hown hts hl k => lv_aload_n hx hb hd hi (lv_at hl j (by rw [List.getElem?_map, hj]; rfl)) k) k
theorem g_aload {i : Nat} {x : Nat} (j : Nat) (hd : decode cc pc = .ok (.aload i, 2)) (hj : lv[j]? = some (i, .ref x)) (k : G y cc mL ret fr lo (pc + 2) lv (.ref x :: stk) h r h') : G y cc mL ret fr lo pc lv stk h r h' :=
  g_pure (fun hx hb hown hts hl k => lv_aload hx hb hd (lv_at hl j (by rw [List.getElem?_map, hj]; rfl)) k) k
theorem g_isub {a b : Int32} (hd : decode cc pc = .ok (.isub, 1)) (k : G y cc mL ret fr lo (pc + 1) lv (.int (a - b) :: stk) h r h') : G y cc mL ret fr lo pc lv (.int b :: .int a :: stk) h r h' :=
  g_pure (fun hx hb hown hts hl k => lv_isub hx hb hd k) k
theorem g_imul {a b : Int32} (hd : decode cc pc = .ok (.imul, 1)) (k : G y cc mL ret fr lo (pc + 1) lv (.int (a * b) :: stk) h r h') : G y cc mL ret fr lo pc lv (.int b :: .int a :: stk) h r h' :=
  g_pure (fun hx hb hown hts hl k => lv_imul hx hb hd k) k
theorem g_iand {a b : Int32} (hd : decode cc pc = .ok (.iand, 1)) (k : G y cc mL ret fr lo (pc + 1) lv (.int (a &&& b) :: stk) h r h') : G y cc mL ret fr lo pc lv (.int b :: .int a :: stk) h r h' :=
  g_pure (fun hx hb hown hts hl k => lv_iand hx hb hd k) k
theorem g_ior {a b : Int32} (hd : decode cc pc = .ok (.ior, 1)) (k : G y cc mL ret fr lo (pc + 1) lv (.int (a ||| b) :: stk) h r h') : G y cc mL ret fr lo pc lv (.int b :: .int a :: stk) h r h' :=
  g_pure (fun hx hb hown hts hl k => lv_ior hx hb hd k) k
theorem g_ixor {a b : Int32} (hd : decode cc pc = .ok (.ixor, 1)) (k : G y cc mL ret fr lo (pc + 1) lv (.int (a ^^^ b) :: stk) h r h') : G y cc mL ret fr lo pc lv (.int b :: .int a :: stk) h r h' :=
  g_pure (fun hx hb hown hts hl k => lv_ixor hx hb hd k) k
theorem g_ladd {a b : Int64} (hd : decode cc pc = .ok (.ladd, 1)) (k : G y cc mL ret fr lo (pc + 1) lv (.long (a + b) :: stk) h r h') : G y cc mL ret fr lo pc lv (.long b :: .long a :: stk) h r h' :=
  g_pure (fun hx hb hown hts hl k => lv_ladd hx hb hd k) k
theorem g_lsub {a b : Int64} (hd : decode cc pc = .ok (.lsub, 1)) (k : G y cc mL ret fr lo (pc + 1) lv (.long (a - b) :: stk) h r h') : G y cc mL ret fr lo pc lv (.long b :: .long a :: stk) h r h' :=
  g_pure (fun hx hb hown hts hl k => lv_lsub hx hb hd k) k
theorem g_lmul {a b : Int64} (hd : decode cc pc = .ok (.lmul, 1)) (k : G y cc mL ret fr lo (pc + 1) lv (.long (a * b) :: stk) h r h') : G y cc mL ret fr lo pc lv (.long b :: .long a :: stk) h r h' :=
  g_pure (fun hx hb hown hts hl k => lv_lmul hx hb hd k) k
theorem g_idiv {a b : Int32} (hd : decode cc pc = .ok (.idiv, 1)) (hne : ¬ b = 0) (k : G y cc mL ret fr lo (pc + 1) lv (.int (a / b) :: stk) h r h') : G y cc mL ret fr lo pc lv (.int b :: .int a :: stk) h r h' :=
  g_pure (fun hx hb hown hts hl k => lv_idiv hx hb hd hne k) k
theorem g_irem {a b : Int32} (hd : decode cc pc = .ok (.irem, 1)) (hne : ¬ b = 0) (k : G y cc mL ret fr lo (pc + 1) lv (.int (a - a / b * b) :: stk) h r h') : G y cc mL ret fr lo pc lv (.int b :: .int a :: stk) h r h' :=
  g_pure (fun hx hb hown hts hl k => lv_irem hx hb hd hne k) k
theorem g_ldiv {a b : Int64} (hd : decode cc pc = .ok (.ldiv, 1)) (hne : ¬ b = 0) (k : G y cc mL ret fr lo (pc + 1) lv (.long (a / b) :: stk) h r h') : G y cc mL ret fr lo pc lv (.long b :: .long a :: stk) h r h' :=
  g_pure (fun hx hb hown hts hl k => lv_ldiv hx hb hd hne k) k
theorem g_lrem {a b : Int64} (hd : decode cc pc = .ok (.lrem, 1)) (hne : ¬ b = 0) (k : G y cc mL ret fr lo (pc + 1) lv (.long (a - a / b * b) :: stk) h r h') : G y cc mL ret fr lo pc lv (.long b :: .long a :: stk) h r h' :=
  g_pure (fun hx hb hown hts hl k => lv_lrem hx hb hd hne k) k
theorem g_ishl {a b : Int32} (hd : decode cc pc = .ok (.ishl, 1)) (k : G y cc mL ret fr lo (pc + 1) lv (.int (a <<< (b &&& 31)) :: stk) h r h') : G y cc mL ret fr lo pc lv (.int b :: .int a :: stk) h r h' :=
  g_pure (fun hx hb hown hts hl k => lv_ishl hx hb hd k) k
theorem g_ishr {a b : Int32} (hd : decode cc pc = .ok (.ishr, 1)) (k : G y cc mL ret fr lo (pc + 1) lv (.int (a >>> (b &&& 31)) :: stk) h r h') : G y cc mL ret fr lo pc lv (.int b :: .int a :: stk) h r h' :=
  g_pure (fun hx hb hown hts hl k => lv_ishr hx hb hd k) k
theorem g_iushr {a b : Int32} (hd : decode cc pc = .ok (.iushr, 1)) (k : G y cc mL ret fr lo (pc + 1) lv (.int (a.toUInt32 >>> (b.toUInt32 &&& Int32.toUInt32 31)).toInt32 :: stk) h r h') : G y cc mL ret fr lo pc lv (.int b :: .int a :: stk) h r h' :=
  g_pure (fun hx hb hown hts hl k => lv_iushr hx hb hd rfl k) k
theorem g_i2l {a : Int32} (hd : decode cc pc = .ok (.i2l, 1)) (k : G y cc mL ret fr lo (pc + 1) lv (.long a.toInt64 :: stk) h r h') : G y cc mL ret fr lo pc lv (.int a :: stk) h r h' :=
  g_pure (fun hx hb hown hts hl k => lv_i2l hx hb hd rfl k) k
theorem g_l2i {a : Int64} (hd : decode cc pc = .ok (.l2i, 1)) (k : G y cc mL ret fr lo (pc + 1) lv (.int a.toInt32 :: stk) h r h') : G y cc mL ret fr lo pc lv (.long a :: stk) h r h' :=
  g_pure (fun hx hb hown hts hl k => lv_l2i hx hb hd rfl k) k
theorem g_i2b {a : Int32} (hd : decode cc pc = .ok (.i2b, 1)) (k : G y cc mL ret fr lo (pc + 1) lv (.int a.toInt8.toInt32 :: stk) h r h') : G y cc mL ret fr lo pc lv (.int a :: stk) h r h' :=
  g_pure (fun hx hb hown hts hl k => lv_i2b hx hb hd rfl k) k
theorem g_i2s {a : Int32} (hd : decode cc pc = .ok (.i2s, 1)) (k : G y cc mL ret fr lo (pc + 1) lv (.int a.toInt16.toInt32 :: stk) h r h') : G y cc mL ret fr lo pc lv (.int a :: stk) h r h' :=
  g_pure (fun hx hb hown hts hl k => lv_i2s hx hb hd rfl k) k
theorem g_lcmp {a b : Int64} (hd : decode cc pc = .ok (.lcmp, 1)) (k : G y cc mL ret fr lo (pc + 1) lv (.int (lg_cmp a b) :: stk) h r h') : G y cc mL ret fr lo pc lv (.long b :: .long a :: stk) h r h' :=
  g_pure (fun hx hb hown hts hl k => W.lcmp hx hb hd k) k
theorem g_dup {v : Value} (hd : decode cc pc = .ok (.dup, 1)) (hc : v.category = 1) (k : G y cc mL ret fr lo (pc + 1) lv (v :: v :: stk) h r h') : G y cc mL ret fr lo pc lv (v :: stk) h r h' :=
  g_pure (fun hx hb hown hts hl k => lv_dup hx hb hd (by rw [cv_cat]; exact hc) k) k
theorem g_pop {v : Value} (hd : decode cc pc = .ok (.pop, 1)) (hc : v.category = 1) (k : G y cc mL ret fr lo (pc + 1) lv stk h r h') : G y cc mL ret fr lo pc lv (v :: stk) h r h' :=
  g_pure (fun hx hb hown hts hl k => lv_pop hx hb hd (by rw [cv_cat]; exact hc) k) k
theorem g_dup2 {v w : Value} (hd : decode cc pc = .ok (.dup2, 1)) (hc : v.category = 1) (hc2 : w.category = 1) (k : G y cc mL ret fr lo (pc + 1) lv (v :: w :: v :: w :: stk) h r h') : G y cc mL ret fr lo pc lv (v :: w :: stk) h r h' :=
  g_pure (fun hx hb hown hts hl k => lv_dup2_11 hx hb hd (by rw [cv_cat]; exact hc) (by rw [cv_cat]; exact hc2) k) k
theorem g_goto {off : Int} (tgt : Nat) (hd : decode cc pc = .ok (.goto off, 3)) (ht : (pc : Int) + off = (tgt : Int)) (k : G y cc mL ret fr lo tgt lv stk h r h') : G y cc mL ret fr lo pc lv stk h r h' :=
  g_pure (fun hx hb _ _ _ k => lv_goto hx hb hd ht k) k
theorem g_two {pc2 pc3 : Nat} {stk2 : List Value} {c1 c2 : Prop} (f : ∀ {p : Program} {l : Launch} {e : Env} {R : Room} {s : State} {m : MethodId} {args : Array Value} {below : List Frame} {meth : Method} {c : Code} {H : Heap} {locs : List Loc} {cells slots : Nat} {Q : State → Prop} {ls : Array Slot} {ad : Nat → Nat}, p.tables.exec = Jvm.exec → c.code = cc → (c1 → W p l e R s m args below meth c H locs cells slots Q (F0 m pc2 ls (stk2.map (cv ad)))) → (c2 → W p l e R s m args below meth c H locs cells slots Q (F0 m pc3 ls (stk2.map (cv ad)))) → W p l e R s m args below meth c H locs cells slots Q (F0 m pc ls (stk.map (cv ad))))
    (hor : c1 ∨ c2) (k1 : c1 → G y cc mL ret fr lo pc2 lv stk2 h r h') (k2 : c2 → G y cc mL ret fr lo pc3 lv stk2 h r h') : G y cc mL ret fr lo pc lv stk h r h' :=
  ⟨hor.elim (fun q => (k1 q).1) (fun q => (k2 q).1), hor.elim (fun q => (k1 q).2.1) (fun q => (k2 q).2.1), fun l p e R s m args below meth c dC dI dA ad0 n0 s0 A Qc C q f1 f2 f3 f4 ad H locs ls S => f C.1 C.2.1 (fun z => (k1 z).2.2 l p e R s m args below meth c dC dI dA ad0 n0 s0 A Qc C q f1 f2 f3 f4 ad H locs ls S) (fun z => (k2 z).2.2 l p e R s m args below meth c dC dI dA ad0 n0 s0 A Qc C q f1 f2 f3 f4 ad H locs ls S)⟩
theorem g_ifeq {a : Int32} {off : Int} (tgt : Nat) (hd : decode cc pc = .ok (.ifCond .eq off, 3)) (ht : (pc : Int) + off = (tgt : Int)) (k1 : a = 0 → G y cc mL ret fr lo tgt lv stk h r h') (k2 : ¬ a = 0 → G y cc mL ret fr lo (pc + 3) lv stk h r h') : G y cc mL ret fr lo pc lv (.int a :: stk) h r h' :=
  g_two (fun hx hb k1 k2 => lv_if_eq hx hb hd ht k1 k2) (Classical.em _) k1 k2
theorem g_icmpeq {a b : Int32} {off : Int} (tgt : Nat) (hd : decode cc pc = .ok (.if_icmp .eq off, 3)) (ht : (pc : Int) + off = (tgt : Int)) (k1 : a = b → G y cc mL ret fr lo tgt lv stk h r h') (k2 : ¬ a = b → G y cc mL ret fr lo (pc + 3) lv stk h r h') : G y cc mL ret fr lo pc lv (.int b :: .int a :: stk) h r h' :=
  g_two (fun hx hb k1 k2 => lv_icmp_eq hx hb hd ht k1 k2) (Classical.em _) k1 k2
theorem g_ifne {a : Int32} {off : Int} (tgt : Nat) (hd : decode cc pc = .ok (.ifCond .ne off, 3)) (ht : (pc : Int) + off = (tgt : Int)) (k1 : ¬ a = 0 → G y cc mL ret fr lo tgt lv stk h r h') (k2 : a = 0 → G y cc mL ret fr lo (pc + 3) lv stk h r h') : G y cc mL ret fr lo pc lv (.int a :: stk) h r h' :=
  g_two (fun hx hb k1 k2 => lv_if_ne hx hb hd ht k1 k2) ((Classical.em _).symm) k1 k2
theorem g_icmpne {a b : Int32} {off : Int} (tgt : Nat) (hd : decode cc pc = .ok (.if_icmp .ne off, 3)) (ht : (pc : Int) + off = (tgt : Int)) (k1 : ¬ a = b → G y cc mL ret fr lo tgt lv stk h r h') (k2 : a = b → G y cc mL ret fr lo (pc + 3) lv stk h r h') : G y cc mL ret fr lo pc lv (.int b :: .int a :: stk) h r h' :=
  g_two (fun hx hb k1 k2 => lv_icmp_ne hx hb hd ht k1 k2) ((Classical.em _).symm) k1 k2
theorem g_iflt {a : Int32} {off : Int} (tgt : Nat) (hd : decode cc pc = .ok (.ifCond .lt off, 3)) (ht : (pc : Int) + off = (tgt : Int)) (k1 : a < 0 → G y cc mL ret fr lo tgt lv stk h r h') (k2 : ¬ a < 0 → G y cc mL ret fr lo (pc + 3) lv stk h r h') : G y cc mL ret fr lo pc lv (.int a :: stk) h r h' :=
  g_two (fun hx hb k1 k2 => lv_if_lt hx hb hd ht k1 k2) (Classical.em _) k1 k2
theorem g_icmplt {a b : Int32} {off : Int} (tgt : Nat) (hd : decode cc pc = .ok (.if_icmp .lt off, 3)) (ht : (pc : Int) + off = (tgt : Int)) (k1 : a < b → G y cc mL ret fr lo tgt lv stk h r h') (k2 : ¬ a < b → G y cc mL ret fr lo (pc + 3) lv stk h r h') : G y cc mL ret fr lo pc lv (.int b :: .int a :: stk) h r h' :=
  g_two (fun hx hb k1 k2 => lv_icmp_lt hx hb hd ht k1 k2) (Classical.em _) k1 k2
theorem g_ifge {a : Int32} {off : Int} (tgt : Nat) (hd : decode cc pc = .ok (.ifCond .ge off, 3)) (ht : (pc : Int) + off = (tgt : Int)) (k1 : 0 ≤ a → G y cc mL ret fr lo tgt lv stk h r h') (k2 : ¬ 0 ≤ a → G y cc mL ret fr lo (pc + 3) lv stk h r h') : G y cc mL ret fr lo pc lv (.int a :: stk) h r h' :=
  g_two (fun hx hb k1 k2 => lv_if_ge hx hb hd ht k1 k2) (Classical.em _) k1 k2
theorem g_icmpge {a b : Int32} {off : Int} (tgt : Nat) (hd : decode cc pc = .ok (.if_icmp .ge off, 3)) (ht : (pc : Int) + off = (tgt : Int)) (k1 : b ≤ a → G y cc mL ret fr lo tgt lv stk h r h') (k2 : ¬ b ≤ a → G y cc mL ret fr lo (pc + 3) lv stk h r h') : G y cc mL ret fr lo pc lv (.int b :: .int a :: stk) h r h' :=
  g_two (fun hx hb k1 k2 => lv_icmp_ge hx hb hd ht k1 k2) (Classical.em _) k1 k2
theorem g_ifgt {a : Int32} {off : Int} (tgt : Nat) (hd : decode cc pc = .ok (.ifCond .gt off, 3)) (ht : (pc : Int) + off = (tgt : Int)) (k1 : 0 < a → G y cc mL ret fr lo tgt lv stk h r h') (k2 : ¬ 0 < a → G y cc mL ret fr lo (pc + 3) lv stk h r h') : G y cc mL ret fr lo pc lv (.int a :: stk) h r h' :=
  g_two (fun hx hb k1 k2 => lv_if_gt hx hb hd ht k1 k2) (Classical.em _) k1 k2
theorem g_icmpgt {a b : Int32} {off : Int} (tgt : Nat) (hd : decode cc pc = .ok (.if_icmp .gt off, 3)) (ht : (pc : Int) + off = (tgt : Int)) (k1 : b < a → G y cc mL ret fr lo tgt lv stk h r h') (k2 : ¬ b < a → G y cc mL ret fr lo (pc + 3) lv stk h r h') : G y cc mL ret fr lo pc lv (.int b :: .int a :: stk) h r h' :=
  g_two (fun hx hb k1 k2 => lv_icmp_gt hx hb hd ht k1 k2) (Classical.em _) k1 k2
theorem g_ifle {a : Int32} {off : Int} (tgt : Nat) (hd : decode cc pc = .ok (.ifCond .le off, 3)) (ht : (pc : Int) + off = (tgt : Int)) (k1 : a ≤ 0 → G y cc mL ret fr lo tgt lv stk h r h') (k2 : ¬ a ≤ 0 → G y cc mL ret fr lo (pc + 3) lv stk h r h') : G y cc mL ret fr lo pc lv (.int a :: stk) h r h' :=
  g_two (fun hx hb k1 k2 => lv_if_le hx hb hd ht k1 k2) (Classical.em _) k1 k2
theorem g_icmple {a b : Int32} {off : Int} (tgt : Nat) (hd : decode cc pc = .ok (.if_icmp .le off, 3)) (ht : (pc : Int) + off = (tgt : Int)) (k1 : a ≤ b → G y cc mL ret fr lo tgt lv stk h r h') (k2 : ¬ a ≤ b → G y cc mL ret fr lo (pc + 3) lv stk h r h') : G y cc mL ret fr lo pc lv (.int b :: .int a :: stk) h r h' :=
  g_two (fun hx hb k1 k2 => lv_icmp_le hx hb hd ht k1 k2) (Classical.em _) k1 k2
theorem g_tabIn {dflt lo_ hi_ : Int} {offs : Array Int} {len : Nat} {a : Int32} {off : Int} (tgt : Nat) (v : Int32) (hd : decode cc pc = .ok (.tableswitch dflt lo_ hi_ offs, len)) (hv : a = v) (h1 : ¬ v.toInt < lo_) (h2 : ¬ hi_ < v.toInt) (ho : offs[(v.toInt - lo_).toNat]? = some off) (ht : (pc : Int) + off = (tgt : Int)) (k : G y cc mL ret fr lo tgt lv stk h r h') : G y cc mL ret fr lo pc lv (.int a :: stk) h r h' :=
  g_pure (fun hx hb _ _ _ k => by subst hv; exact lv_tableIn hx hb hd h1 h2 ho ht k) k
theorem g_tabOut {dflt lo_ hi_ : Int} {offs : Array Int} {len : Nat} {a : Int32} (tgt n : Nat) (hd : decode cc pc = .ok (.tableswitch dflt lo_ hi_ offs, len)) (hn : hi_ < lo_ + n) (hall : ∀ i : Nat, i < n → ¬ a = Int32.ofInt (lo_ + i)) (ht : (pc : Int) + dflt = (tgt : Int)) (k : G y cc mL ret fr lo tgt lv stk h r h') : G y cc mL ret fr lo pc lv (.int a :: stk) h r h' := by
  refine g_pure (fun hx hb _ _ _ k => lv_tableOut hx hb hd ?_ ht k) k
  rcases Int.lt_or_le a.toInt lo_ with q | q
  · exact Or.inl q
  · rcases Int.lt_or_le hi_ a.toInt with q2 | q2
    · exact Or.inr q2
    · exact absurd (by rw [show lo_ + ((a.toInt - lo_).toNat : Int) = a.toInt by omega]; exact (Int32.ofInt_toInt a).symm) (hall (a.toInt - lo_).toNat (by omega))
theorem cq_pick (ad : Nat → Nat) (lv : List (Nat × Value)) (ks : List Nat) : lv_pick (lv.map (cq ad)) ks = (lv_pick lv ks).map (cq ad) := by
  induction ks with
  | nil => rfl
  | cons a ks ih =>
    simp only [lv_pick, List.filterMap_cons, List.getElem?_map] at ih ⊢
    cases lv[a]? <;> simp [ih]
theorem cq_f1 (ad : Nat → Nat) (i : Nat) (lv : List (Nat × Value)) : (lv.map (cq ad)).filter (fun q => !(q.1 == i) && !(q.1 + 1 == i && q.2.category == 2)) = (lv.filter (fun q => !(q.1 == i) && !(q.1 + 1 == i && q.2.category == 2))).map (cq ad) := by
  rw [List.filter_map]; congr 1; apply List.filter_congr; intro q _; simp [cq, cv_cat]
theorem cq_f2 (ad : Nat → Nat) (i : Nat) (lv : List (Nat × Value)) : (lv.map (cq ad)).filter (fun q => !(q.1 == i) && (!(q.1 == i + 1) && !(q.1 + 1 == i && q.2.category == 2))) = (lv.filter (fun q => !(q.1 == i) && (!(q.1 == i + 1) && !(q.1 + 1 == i && q.2.category == 2)))).map (cq ad) := by
  rw [List.filter_map]; congr 1; apply List.filter_congr; intro q _; simp [cq, cv_cat]
/-- a row that changes locals alone -/
theorem g_loc {pc2 : Nat} {stk2 : List Value} (f : ∀ {p : Program} {l : Launch} {e : Env} {R : Room} {s : State} {m : MethodId} {args : Array Value} {below : List Frame} {meth : Method} {c : Code} {H : Heap} {locs : List Loc} {cells slots : Nat} {Q : State → Prop} {ls : Array Slot} {ad : Nat → Nat}, p.tables.exec = Jvm.exec → c.code = cc → lv_has ls mL (lv.map (cq ad)) → (∀ ls', lv_has ls' mL (lv'.map (cq ad)) → W p l e R s m args below meth c H locs cells slots Q (F0 m pc2 ls' (stk2.map (cv ad)))) → W p l e R s m args below meth c H locs cells slots Q (F0 m pc ls (stk.map (cv ad))))
    (k : G y cc mL ret fr lo pc2 lv' stk2 h r h') : G y cc mL ret fr lo pc lv stk h r h' :=
  ⟨k.1, k.2.1, fun l p e R s m args below meth c dC dI dA ad0 n0 s0 A Qc C q f1 f2 f3 f4 ad H locs ls S => f C.1 C.2.1 S.2.2.2.1 (fun ls' hl => k.2.2 l p e R s m args below meth c dC dI dA ad0 n0 s0 A Qc C q f1 f2 f3 f4 ad H locs ls' ⟨S.1, S.2.1, S.2.2.1, hl, S.2.2.2.2⟩)⟩
theorem g_lv (ks : List Nat) (hk : lv_pick lv ks = lv') (k : G y cc mL ret fr lo pc lv' stk h r h') : G y cc mL ret fr lo pc lv stk h r h' :=
  g_loc (fun _ _ hl k => k _ (lv_sub hl ks (by rw [cq_pick, hk]))) k
theorem g_istore_n {f : Fin 4} {i : Nat} {x : Int32} (lv' : List (Nat × Value)) (hd : decode cc pc = .ok (.istore_n f, 1)) (hi : (f : Nat) = i) (hn : i < mL) (hl : (i, Value.int x) :: lv.filter (fun q => !(q.1 == i) && !(q.1 + 1 == i && q.2.category == 2)) = lv') (k : G y cc mL ret fr lo (pc + 1) lv' stk h r h') : G y cc mL ret fr lo pc lv (.int x :: stk) h r h' :=
  g_loc (fun hx hb h1 k => lv_istore_n hx hb hd hi h1 hn (by rw [cq_f1, ← hl]; rfl) k) k
theorem g_istore {i : Nat} {x : Int32} (lv' : List (Nat × Value)) (hd : decode cc pc = .ok (.istore i, 2)) (hn : i < mL) (hl : (i, Value.int x) :: lv.filter (fun q => !(q.1 == i) && !(q.1 + 1 == i && q.2.category == 2)) = lv') (k : G y cc mL ret fr lo (pc + 2) lv' stk h r h') : G y cc mL ret fr lo pc lv (.int x :: stk) h r h' :=
  g_loc (fun hx hb h1 k => lv_istore hx hb hd h1 hn (by rw [cq_f1, ← hl]; rfl) k) k
theorem g_astore_n {f : Fin 4} {i : Nat} {x : Nat} (lv' : List (Nat × Value)) (hd : decode cc pc = .ok (.astore_n f, 1)) (hi : (f : Nat) = i) (hn : i < mL) (hl : (i, Value.ref x) :: lv.filter (fun q => !(q.1 == i) && !(q.1 + 1 == i && q.2.category == 2)) = lv') (k : G y cc mL ret fr lo (pc + 1) lv' stk h r h') : G y cc mL ret fr lo pc lv (.ref x :: stk) h r h' :=
  g_loc (fun hx hb h1 k => lv_astore_n hx hb hd hi h1 hn (by rw [cq_f1, ← hl]; rfl) k) k
theorem g_astore {i : Nat} {x : Nat} (lv' : List (Nat × Value)) (hd : decode cc pc = .ok (.astore i, 2)) (hn : i < mL) (hl : (i, Value.ref x) :: lv.filter (fun q => !(q.1 == i) && !(q.1 + 1 == i && q.2.category == 2)) = lv') (k : G y cc mL ret fr lo (pc + 2) lv' stk h r h') : G y cc mL ret fr lo pc lv (.ref x :: stk) h r h' :=
  g_loc (fun hx hb h1 k => lv_astore hx hb hd h1 hn (by rw [cq_f1, ← hl]; rfl) k) k
theorem g_lstore_n {f : Fin 4} {i : Nat} {x : Int64} (lv' : List (Nat × Value)) (hd : decode cc pc = .ok (.lstore_n f, 1)) (hi : (f : Nat) = i) (hn : i + 1 < mL) (hl : (i, Value.long x) :: lv.filter (fun q => !(q.1 == i) && (!(q.1 == i + 1) && !(q.1 + 1 == i && q.2.category == 2))) = lv') (k : G y cc mL ret fr lo (pc + 1) lv' stk h r h') : G y cc mL ret fr lo pc lv (.long x :: stk) h r h' :=
  g_loc (fun hx hb h1 k => lv_lstore_n hx hb hd hi h1 hn (by rw [cq_f2, ← hl]; rfl) k) k
theorem g_lstore {i : Nat} {x : Int64} (lv' : List (Nat × Value)) (hd : decode cc pc = .ok (.lstore i, 2)) (hn : i + 1 < mL) (hl : (i, Value.long x) :: lv.filter (fun q => !(q.1 == i) && (!(q.1 == i + 1) && !(q.1 + 1 == i && q.2.category == 2))) = lv') (k : G y cc mL ret fr lo (pc + 2) lv' stk h r h') : G y cc mL ret fr lo pc lv (.long x :: stk) h r h' :=
  g_loc (fun hx hb h1 k => lv_lstore hx hb hd h1 hn (by rw [cq_f2, ← hl]; rfl) k) k
theorem g_iinc {i : Nat} {n : Int} {x : Int32} (j : Nat) (v : Int32) (lv' : List (Nat × Value)) (hd : decode cc pc = .ok (.iinc i n, 3)) (hj : lv[j]? = some (i, .int x)) (hv : x + Int32.ofInt n = v) (hn : i < mL) (hl : (i, Value.int v) :: lv.filter (fun q => !(q.1 == i) && !(q.1 + 1 == i && q.2.category == 2)) = lv') (k : G y cc mL ret fr lo (pc + 3) lv' stk h r h') : G y cc mL ret fr lo pc lv stk h r h' :=
  g_loc (fun hx hb h1 k => lv_iinc hx hb hd h1 (k := j) (by rw [List.getElem?_map, hj]; rfl) hv hn (by rw [cq_f1, ← hl]; rfl) k) k
end
end
section
/-! reading and writing the model's cells -/
def gV (h : mH) (o ci k : Nat) : Option Value := match h.2.2 o with
  | .inr (c, fs) => if c = ci then fs[k]? else none
  | .inl _ => none
def gI (h : mH) (o ci k : Nat) : Option Int32 := match gV h o ci k with
  | some (.int x) => some x
  | _ => none
def gL (h : mH) (o ci k : Nat) : Option Int64 := match gV h o ci k with
  | some (.long x) => some x
  | _ => none
def gR (h : mH) (o ci k : Nat) : Option Nat := match gV h o ci k with
  | some (.ref x) => some x
  | _ => none
def pV (h : mH) (o ci k : Nat) (v : Value) : Option mH := match h.2.2 o with
  | .inr (c, fs) => if c = ci ∧ k < fs.length then some (mset h o (.inr (c, fs.set k v))) else none
  | .inl _ => none
/-- an array of ints, bytes, booleans (t says which): its cell i -/
def aI (h : mH) (t o : Nat) (i : Int32) : Option Int32 := match h.2.2 o with
  | .inl (t', n, .inl f) => if t' = t ∧ ¬ (i < 0 ∨ n ≤ i.toNatClampNeg) then some (f i.toNatClampNeg) else none
  | _ => none
def sI (h : mH) (t o : Nat) (i x : Int32) : Option mH := match h.2.2 o with
  | .inl (t', n, .inl f) => if t' = t ∧ ¬ (i < 0 ∨ n ≤ i.toNatClampNeg) then some (mset h o (.inl (t, n, .inl (upd f i.toNatClampNeg x)))) else none
  | _ => none
def aL (h : mH) (o : Nat) (i : Int32) : Option Int64 := match h.2.2 o with
  | .inl (t', n, .inr (.inl f)) => if t' = 3 ∧ ¬ (i < 0 ∨ n ≤ i.toNatClampNeg) then some (f i.toNatClampNeg) else none
  | _ => none
def sL (h : mH) (o : Nat) (i : Int32) (x : Int64) : Option mH := match h.2.2 o with
  | .inl (t', n, .inr (.inl f)) => if t' = 3 ∧ ¬ (i < 0 ∨ n ≤ i.toNatClampNeg) then some (mset h o (.inl (3, n, .inr (.inl (vp_updL f i.toNatClampNeg x))))) else none
  | _ => none
def aR (h : mH) (t o : Nat) (i : Int32) : Option Nat := match h.2.2 o with
  | .inl (t', n, .inr (.inr (.inr (.inr f)))) => if t' = t ∧ ¬ (i < 0 ∨ n ≤ i.toNatClampNeg) then f i.toNatClampNeg else none
  | _ => none
def sR (h : mH) (t o ci : Nat) (i : Int32) (v : Nat) : Option mH := match h.2.2 o, h.2.2 v with
  | .inl (t', n, .inr (.inr (.inr (.inr f)))), .inr (c, _ :: _) => if t' = t ∧ c = ci ∧ ¬ (i < 0 ∨ n ≤ i.toNatClampNeg) then some (mset h o (.inl (t, n, .inr (.inr (.inr (.inr (va_up f i.toNatClampNeg (some v)))))))) else none
  | _, _ => none
def aN (h : mH) (t o : Nat) : Option Int32 := match h.2.2 o with
  | .inl (t', n, _) => if t' = t then some (Int32.ofNat n) else none
  | _ => none
theorem gV_spec {h : mH} {o ci k : Nat} {v : Value} (e : gV h o ci k = some v) : ∃ fs, h.2.2 o = .inr (ci, fs) ∧ fs[k]? = some v := by
  unfold gV at e
  split at e
  · next c fs e1 =>
    split at e
    · next e2 => subst e2; exact ⟨fs, e1, e⟩
    · cases e
  · cases e
theorem gI_spec {h : mH} {o ci k : Nat} {x : Int32} (e : gI h o ci k = some x) : gV h o ci k = some (.int x) := by
  unfold gI at e
  split at e
  · next y e1 => rw [e1, Option.some.inj e]
  · cases e
theorem gL_spec {h : mH} {o ci k : Nat} {x : Int64} (e : gL h o ci k = some x) : gV h o ci k = some (.long x) := by
  unfold gL at e
  split at e
  · next y e1 => rw [e1, Option.some.inj e]
  · cases e
theorem gR_spec {h : mH} {o ci k : Nat} {x : Nat} (e : gR h o ci k = some x) : gV h o ci k = some (.ref x) := by
  unfold gR at e
  split at e
  · next y e1 => rw [e1, Option.some.inj e]
  · cases e
theorem pV_spec {h h2 : mH} {o ci k : Nat} {v : Value} (e : pV h o ci k v = some h2) : ∃ fs, h.2.2 o = .inr (ci, fs) ∧ k < fs.length ∧ h2 = mset h o (.inr (ci, fs.set k v)) := by
  unfold pV at e
  split at e
  · next c fs e1 =>
    split at e
    · next e2 => obtain ⟨rfl, e3⟩ := e2; exact ⟨fs, e1, e3, (Option.some.inj e).symm⟩
    · cases e
  · cases e
theorem aI_spec {h : mH} {t o : Nat} {i x : Int32} (e : aI h t o i = some x) : ∃ n f, h.2.2 o = .inl (t, n, .inl f) ∧ vp_in i n ∧ x = f i.toNatClampNeg := by
  unfold aI at e
  split at e
  · next t' n f e1 =>
    split at e
    · next e2 => obtain ⟨rfl, e3⟩ := e2; exact ⟨n, f, e1, e3, (Option.some.inj e).symm⟩
    · cases e
  · cases e
theorem sI_spec {h h2 : mH} {t o : Nat} {i x : Int32} (e : sI h t o i x = some h2) : ∃ n f, h.2.2 o = .inl (t, n, .inl f) ∧ vp_in i n ∧ h2 = mset h o (.inl (t, n, .inl (upd f i.toNatClampNeg x))) := by
  unfold sI at e
  split at e
  · next t' n f e1 =>
    split at e
    · next e2 => obtain ⟨rfl, e3⟩ := e2; exact ⟨n, f, e1, e3, (Option.some.inj e).symm⟩
    · cases e
  · cases e
theorem aL_spec {h : mH} {o : Nat} {i : Int32} {x : Int64} (e : aL h o i = some x) : ∃ n f, h.2.2 o = .inl (3, n, .inr (.inl f)) ∧ vp_in i n ∧ x = f i.toNatClampNeg := by
  unfold aL at e
  split at e
  · next t' n f e1 =>
    split at e
    · next e2 => obtain ⟨rfl, e3⟩ := e2; exact ⟨n, f, e1, e3, (Option.some.inj e).symm⟩
    · cases e
  · cases e
theorem sL_spec {h h2 : mH} {o : Nat} {i : Int32} {x : Int64} (e : sL h o i x = some h2) : ∃ n f, h.2.2 o = .inl (3, n, .inr (.inl f)) ∧ vp_in i n ∧ h2 = mset h o (.inl (3, n, .inr (.inl (vp_updL f i.toNatClampNeg x)))) := by
  unfold sL at e
  split at e
  · next t' n f e1 =>
    split at e
    · next e2 => obtain ⟨rfl, e3⟩ := e2; exact ⟨n, f, e1, e3, (Option.some.inj e).symm⟩
    · cases e
  · cases e
theorem aR_spec {h : mH} {t o : Nat} {i : Int32} {x : Nat} (e : aR h t o i = some x) : ∃ n f, h.2.2 o = .inl (t, n, .inr (.inr (.inr (.inr f)))) ∧ vp_in i n ∧ f i.toNatClampNeg = some x := by
  unfold aR at e
  split at e
  · next t' n f e1 =>
    split at e
    · next e2 => obtain ⟨rfl, e3⟩ := e2; exact ⟨n, f, e1, e3, e⟩
    · cases e
  · cases e
theorem sR_spec {h h2 : mH} {t o ci : Nat} {i : Int32} {v : Nat} (e : sR h t o ci i v = some h2) : ∃ n f fs, h.2.2 o = .inl (t, n, .inr (.inr (.inr (.inr f)))) ∧ h.2.2 v = .inr (ci, fs) ∧ h.2.2 v ≠ dead ∧ vp_in i n ∧ h2 = mset h o (.inl (t, n, .inr (.inr (.inr (.inr (va_up f i.toNatClampNeg (some v))))))) := by
  unfold sR at e
  split at e
  · next t' n f c x xs e1 e0 =>
    split at e
    · next e2 => obtain ⟨rfl, rfl, e3⟩ := e2; exact ⟨n, f, x :: xs, e1, e0, by rw [e0]; simp [dead], e3, (Option.some.inj e).symm⟩
    · cases e
  · cases e
theorem aN_spec {h : mH} {t o : Nat} {x : Int32} (e : aN h t o = some x) : ∃ a : vp_A, h.2.2 o = .inl (t, a) ∧ Int32.ofNat a.1 = x := by
  unfold aN at e
  split at e
  · next t' n b e1 =>
    split at e
    · next e2 => subst e2; exact ⟨(n, b), e1, Option.some.inj e⟩
    · cases e
  · cases e
section
variable {mL : Nat} {dC : Nat → ClassId} {dI : Nat → Nat → Nat} {dA : Nat → ClassId} {ad0 : Nat → Nat} {n0 s0 : Nat} {A : Nat → Prop} {s : State} {h : mH} {lv : List (Nat × Value)} {ad : Nat → Nat} {H : Heap} {locs : List Loc} {ls : Array Slot}
theorem Sr.live (S : Sr mL dC dI dA ad0 n0 s0 A s h lv ad H locs ls) {o : Nat} (ho : h.2.2 o ≠ dead) : o < h.1 := by
  rcases Nat.lt_or_ge o h.1 with q | q
  · exact q
  · exact absurd (S.2.2.2.2.2.2.2.2.1 o q) ho
theorem Sr.obj (S : Sr mL dC dI dA ad0 n0 s0 A s h lv ad H locs ls) {o ci : Nat} {fs : List Value} (e : h.2.2 o = .inr (ci, fs)) (hne : fs ≠ []) : (wl dA ad h)[o]? = some (ad o, .inr (ci, fs.map (cv ad))) := by
  rw [wl_at (S.live (by rw [e]; intro q; cases q; exact hne rfl)), e]
  rfl
theorem Sr.arr (S : Sr mL dC dI dA ad0 n0 s0 A s h lv ad H locs ls) {o t : Nat} {a : vp_A} (e : h.2.2 o = .inl (t, a)) : (wl dA ad h)[o]? = some (ad o, .inl (dA t, cA ad a)) := by
  rw [wl_at (S.live (by rw [e]; intro q; cases q)), e]
  rfl
theorem HW.set (w : HW h) {o : Nat} {c : mCell} (ho : o < h.1) (hc : ∀ j, hasRef c j → j < h.1) : HW (mset h o c) := by
  refine ⟨w.1, fun k hk => ?_, fun k j => ?_⟩
  · have hk2 : h.1 ≤ k := hk
    show va_up h.2.2 o c k = dead
    unfold va_up
    rw [if_neg (by omega)]
    exact w.2.1 k hk2
  · show hasRef (va_up h.2.2 o c k) j → j < h.1
    unfold va_up
    split
    · exact hc j
    · exact w.2.2 k j
theorem Sr.set (S : Sr mL dC dI dA ad0 n0 s0 A s h lv ad H locs ls) {o : Nat} {c : mCell} {H1 : Heap} {locs1 : List Loc} (ho : o < h.1) (hc : ∀ j, hasRef c j → j < h.1) (hP : va_P (dC, dI) mcls (wl dA ad (mset h o c)) H1) (hD : va_D A (wl dA ad (mset h o c))) (hS : va_S A s.heap H1 locs1) : Sr mL dC dI dA ad0 n0 s0 A s (mset h o c) lv ad H1 locs1 ls :=
  ⟨hP, hD, hS, S.2.2.2.1, S.2.2.2.2.1, S.2.2.2.2.2.1, S.2.2.2.2.2.2.1, S.2.2.2.2.2.2.2.set ho hc⟩
theorem hasRef_set (w : HW h) {o ci kk : Nat} {fs : List Value} {v : Value} (e : h.2.2 o = .inr (ci, fs)) (hv : ∀ j, v = .ref j → j < h.1) : ∀ j, hasRef (.inr (ci, fs.set kk v)) j → j < h.1 := by
  intro j hj
  rcases List.mem_or_eq_of_mem_set hj with q | q
  · exact w.2.2 o j (by rw [e]; exact q)
  · exact hv j q.symm
end
section
variable {y : MethodName} {cc : ByteArray} {mL : Nat} {ret : Option FieldType} {fr lo pc : Nat} {lv lv' : List (Nat × Value)} {stk : List Value} {h h' : mH} {r : Option Value}
theorem g_get {C : String} {T : u_T} {N index : Nat} {o kk ci : Nat} {v : Value} (hd : decode cc pc = .ok (.getfield index, 3)) (hc : mcls[ci]? = some (C, T, N)) (hin : ∀ w ∈ u_ws C T N, w ∈ tbg) (hk : kk < N) (hlink : Cond.fieldLink y.cls index (T kk).1 (T kk).2.1 (T kk).2.2.1 ∈ tbg) (hv : gV h o ci kk = some v)
    (k : G y cc mL ret fr lo (pc + 3) lv (v :: stk) h r h') : G y cc mL ret fr lo pc lv (.ref o :: stk) h r h' :=
  ⟨k.1, k.2.1, fun l p e R s m args below meth c dC dI dA ad0 n0 s0 A Qc C q f1 f2 f3 f4 ad H locs ls S => by
    obtain ⟨fs, e1, e2⟩ := gV_spec hv
    have he := S.obj e1 (by intro q; rw [q] at e2; cases e2)
    exact va_get (D := (dC, dI)) (tys := mtys dA) C.1 C.2.1 C.2.2.2.2.2.2.2.1 hin C.2.2.2.2.2.1 C.2.2.2.2.2.2.2.2.1 S.1 o he hc kk hk (C.2.2.2.2.2.2.2.1 _ hlink) (fun _ z => z) (v := cv ad v) (by rw [List.getElem?_map, e2]; rfl) hd (k.2.2 l p e R s m args below meth c dC dI dA ad0 n0 s0 A Qc C q f1 f2 f3 f4 ad H locs ls S)⟩
theorem map_set {α β : Type} (f : α → β) (l : List α) (k : Nat) (v : α) : (l.set k v).map f = (l.map f).set k (f v) := List.map_set
theorem g_put {C : String} {T : u_T} {N index : Nat} {o kk ci : Nat} {v : Value} {h2 : mH} (ty0 : Nat → FieldType) (hty : ∀ k, k < N → parseFieldDescriptor (T k).2.2.1 = some (ty0 k)) (hnm : ∀ a, a < N → ∀ b, b < N → a ≠ b → (T a).2.1 ≠ (T b).2.1) (hd : decode cc pc = .ok (.putfield index, 3)) (hc : mcls[ci]? = some (C, T, N)) (hin : ∀ w ∈ u_ws C T N, w ∈ tbg) (hk : kk < N) (hlink : Cond.fieldLink y.cls index (T kk).1 (T kk).2.1 (T kk).2.2.1 ∈ tbg) (hfin : (T kk).2.2.2 = false) (hn : ∀ ad, narrow (ty0 kk) (cv ad v) = cv ad v) (hf : ∀ ad, fits (ty0 kk) (cv ad v) = true) (hr : ∀ j, v = .ref j → j < h.1) (hv : pV h o ci kk v = some h2)
    (k : G y cc mL ret fr lo (pc + 3) lv stk h2 r h') : G y cc mL ret fr lo pc lv (v :: .ref o :: stk) h r h' := by
  obtain ⟨fs, e1, e2, rfl⟩ := pV_spec hv
  refine ⟨k.1, k.2.1, fun l p e R s m args below meth c dC dI dA ad0 n0 s0 A Qc C q f1 f2 f3 f4 ad H locs ls S => ?_⟩
  have hne : fs ≠ [] := by intro q; rw [q] at e2; simp at e2
  have he := S.obj e1 hne
  have ho : o < h.1 := S.live (by rw [e1]; intro q; cases q; exact hne rfl)
  refine va_put (D := (dC, dI)) (tys := mtys dA) C.1 C.2.1 C.2.2.2.2.2.2.2.1 hin ty0 hty hnm C.2.2.2.2.2.1 C.2.2.2.2.2.2.2.2.1 S.1 S.2.1 S.2.2.1 o he hc kk hk (C.2.2.2.2.2.2.2.1 _ hlink) (fun _ z => z) hfin (v := cv ad v) (hty kk hk) (hn ad) (hf ad) (by rw [List.length_map]; exact e2) hd (fun H1 locs1 hP hD hS => ?_)
  have ew : (wl dA ad h).set o (ad o, .inr (ci, (fs.map (cv ad)).set kk (cv ad v))) = wl dA ad (mset h o (.inr (ci, fs.set kk v))) := by
    rw [← map_set]
    exact wl_set (c := .inr (ci, fs.set kk v))
  rw [ew] at hP hD
  exact k.2.2 l p e R s m args below meth c dC dI dA ad0 n0 s0 A Qc C q f1 f2 f3 f4 ad H1 locs1 ls (S.set ho (hasRef_set S.2.2.2.2.2.2.2 e1 hr) hP hD hS)
theorem g_putF {C : String} {T : u_T} {N index : Nat} {o kk ci : Nat} {v : Value} {h2 : mH} (ty0 : Nat → FieldType) (hty : ∀ k, k < N → parseFieldDescriptor (T k).2.2.1 = some (ty0 k)) (hnm : ∀ a, a < N → ∀ b, b < N → a ≠ b → (T a).2.1 ≠ (T b).2.1) (hd : decode cc pc = .ok (.putfield index, 3)) (hc : mcls[ci]? = some (C, T, N)) (hin : ∀ w ∈ u_ws C T N, w ∈ tbg) (hk : kk < N) (hlink : Cond.fieldLink y.cls index (T kk).1 (T kk).2.1 (T kk).2.2.1 ∈ tbg) (hfin : (T kk).2.2.2 = true) (hy : y.name = "<init>") (hdecl : (T kk).1 = y.cls) (hn : ∀ ad, narrow (ty0 kk) (cv ad v) = cv ad v) (hf : ∀ ad, fits (ty0 kk) (cv ad v) = true) (hr : ∀ j, v = .ref j → j < h.1) (hv : pV h o ci kk v = some h2)
    (k : G y cc mL ret fr lo (pc + 3) lv stk h2 r h') : G y cc mL ret fr lo pc lv (v :: .ref o :: stk) h r h' := by
  obtain ⟨fs, e1, e2, rfl⟩ := pV_spec hv
  refine ⟨k.1, k.2.1, fun l p e R s m args below meth c dC dI dA ad0 n0 s0 A Qc C q f1 f2 f3 f4 ad H locs ls S => ?_⟩
  have hne : fs ≠ [] := by intro q; rw [q] at e2; simp at e2
  have he := S.obj e1 hne
  have ho : o < h.1 := S.live (by rw [e1]; intro q; cases q; exact hne rfl)
  refine va_putF (D := (dC, dI)) (tys := mtys dA) C.1 C.2.1 C.2.2.2.2.2.2.2.1 hin ty0 hty hnm C.2.2.2.2.2.1 C.2.2.2.2.2.2.2.2.1 S.1 S.2.1 S.2.2.1 o he hc kk hk (C.2.2.2.2.2.2.2.1 _ hlink) (fun _ z => z) hfin (C.2.2.2.2.2.2.1.trans hy) hdecl (v := cv ad v) (hty kk hk) (hn ad) (hf ad) (by rw [List.length_map]; exact e2) hd (fun H1 locs1 hP hD hS => ?_)
  have ew : (wl dA ad h).set o (ad o, .inr (ci, (fs.map (cv ad)).set kk (cv ad v))) = wl dA ad (mset h o (.inr (ci, fs.set kk v))) := by
    rw [← map_set]
    exact wl_set (c := .inr (ci, fs.set kk v))
  rw [ew] at hP hD
  exact k.2.2 l p e R s m args below meth c dC dI dA ad0 n0 s0 A Qc C q f1 f2 f3 f4 ad H1 locs1 ls (S.set ho (hasRef_set S.2.2.2.2.2.2.2 e1 hr) hP hD hS)
theorem g_iald {o : Nat} {i x : Int32} (hd : decode cc pc = .ok (.iaload, 1)) (hv : aI h 0 o i = some x) (k : G y cc mL ret fr lo (pc + 1) lv (.int x :: stk) h r h') : G y cc mL ret fr lo pc lv (.int i :: .ref o :: stk) h r h' := by
  obtain ⟨n, f, e1, e2, rfl⟩ := aI_spec hv
  exact ⟨k.1, k.2.1, fun l p e R s m args below meth c dC dI dA ad0 n0 s0 A Qc C q f1 f2 f3 f4 ad H locs ls S => va_iald (D := (dC, dI)) C.1 C.2.1 C.2.2.2.2.2.2.2.2.1 S.1 o 0 (S.arr e1) rfl e2 hd (k.2.2 l p e R s m args below meth c dC dI dA ad0 n0 s0 A Qc C q f1 f2 f3 f4 ad H locs ls S)⟩
theorem g_bald {o : Nat} {i x : Int32} (hd : decode cc pc = .ok (.baload, 1)) (hv : aI h 1 o i = some x) (k : G y cc mL ret fr lo (pc + 1) lv (.int x :: stk) h r h') : G y cc mL ret fr lo pc lv (.int i :: .ref o :: stk) h r h' := by
  obtain ⟨n, f, e1, e2, rfl⟩ := aI_spec hv
  exact ⟨k.1, k.2.1, fun l p e R s m args below meth c dC dI dA ad0 n0 s0 A Qc C q f1 f2 f3 f4 ad H locs ls S => va_bald (D := (dC, dI)) C.1 C.2.1 C.2.2.2.2.2.2.2.2.1 S.1 o 1 (S.arr e1) rfl e2 hd (k.2.2 l p e R s m args below meth c dC dI dA ad0 n0 s0 A Qc C q f1 f2 f3 f4 ad H locs ls S)⟩
theorem g_zald {o : Nat} {i x : Int32} (hd : decode cc pc = .ok (.baload, 1)) (hv : aI h 2 o i = some x) (k : G y cc mL ret fr lo (pc + 1) lv (.int x :: stk) h r h') : G y cc mL ret fr lo pc lv (.int i :: .ref o :: stk) h r h' := by
  obtain ⟨n, f, e1, e2, rfl⟩ := aI_spec hv
  exact ⟨k.1, k.2.1, fun l p e R s m args below meth c dC dI dA ad0 n0 s0 A Qc C q f1 f2 f3 f4 ad H locs ls S => va_zald (D := (dC, dI)) C.1 C.2.1 C.2.2.2.2.2.2.2.2.1 S.1 o 2 (S.arr e1) rfl e2 hd (k.2.2 l p e R s m args below meth c dC dI dA ad0 n0 s0 A Qc C q f1 f2 f3 f4 ad H locs ls S)⟩
theorem g_lald {o : Nat} {i : Int32} {x : Int64} (hd : decode cc pc = .ok (.laload, 1)) (hv : aL h o i = some x) (k : G y cc mL ret fr lo (pc + 1) lv (.long x :: stk) h r h') : G y cc mL ret fr lo pc lv (.int i :: .ref o :: stk) h r h' := by
  obtain ⟨n, f, e1, e2, rfl⟩ := aL_spec hv
  exact ⟨k.1, k.2.1, fun l p e R s m args below meth c dC dI dA ad0 n0 s0 A Qc C q f1 f2 f3 f4 ad H locs ls S => va_lald (D := (dC, dI)) C.1 C.2.1 C.2.2.2.2.2.2.2.2.1 S.1 o 3 (S.arr e1) rfl e2 hd (k.2.2 l p e R s m args below meth c dC dI dA ad0 n0 s0 A Qc C q f1 f2 f3 f4 ad H locs ls S)⟩
theorem g_aald {t o x : Nat} {i : Int32} (Cn : String) (hd : decode cc pc = .ok (.aaload, 1)) (ht : ∀ dA, (mtys dA)[t]? = some (dA t, .object Cn)) (hv : aR h t o i = some x) (k : G y cc mL ret fr lo (pc + 1) lv (.ref x :: stk) h r h') : G y cc mL ret fr lo pc lv (.int i :: .ref o :: stk) h r h' := by
  obtain ⟨n, f, e1, e2, e3⟩ := aR_spec hv
  exact ⟨k.1, k.2.1, fun l p e R s m args below meth c dC dI dA ad0 n0 s0 A Qc C q f1 f2 f3 f4 ad H locs ls S => va_aldq (D := (dC, dI)) C.1 C.2.1 C.2.2.2.2.2.2.2.2.1 S.1 o t (S.arr e1) (ht dA) e2 hd (by rw [e3]; exact k.2.2 l p e R s m args below meth c dC dI dA ad0 n0 s0 A Qc C q f1 f2 f3 f4 ad H locs ls S)⟩
theorem g_iast {o : Nat} {i x : Int32} {h2 : mH} (hd : decode cc pc = .ok (.iastore, 1)) (hv : sI h 0 o i x = some h2) (k : G y cc mL ret fr lo (pc + 1) lv stk h2 r h') : G y cc mL ret fr lo pc lv (.int x :: .int i :: .ref o :: stk) h r h' := by
  obtain ⟨n, f, e1, e2, rfl⟩ := sI_spec hv
  refine ⟨k.1, k.2.1, fun l p e R s m args below meth c dC dI dA ad0 n0 s0 A Qc C q f1 f2 f3 f4 ad H locs ls S => ?_⟩
  refine va_iast (D := (dC, dI)) C.1 C.2.1 C.2.2.2.2.2.2.2.2.1 S.1 S.2.1 S.2.2.1 o 0 (S.arr e1) rfl e2 hd (fun H1 locs1 hP hD hS => ?_)
  have ew := wl_set (dA := dA) (ad := ad) (h := h) (o := o) (c := .inl (0, n, .inl (upd f i.toNatClampNeg x)))
  exact k.2.2 l p e R s m args below meth c dC dI dA ad0 n0 s0 A Qc C q f1 f2 f3 f4 ad H1 locs1 ls (S.set (S.live (by rw [e1]; intro q; cases q)) (fun j z => absurd z id) (ew ▸ hP) (ew ▸ hD) hS)
theorem g_bast {o : Nat} {i x : Int32} {h2 : mH} (hd : decode cc pc = .ok (.bastore, 1)) (hv : sI h 1 o i (vp_nar .byte x) = some h2) (k : G y cc mL ret fr lo (pc + 1) lv stk h2 r h') : G y cc mL ret fr lo pc lv (.int x :: .int i :: .ref o :: stk) h r h' := by
  obtain ⟨n, f, e1, e2, rfl⟩ := sI_spec hv
  refine ⟨k.1, k.2.1, fun l p e R s m args below meth c dC dI dA ad0 n0 s0 A Qc C q f1 f2 f3 f4 ad H locs ls S => ?_⟩
  refine va_bast (D := (dC, dI)) C.1 C.2.1 C.2.2.2.2.2.2.2.2.1 S.1 S.2.1 S.2.2.1 o 1 (S.arr e1) rfl e2 hd (fun H1 locs1 hP hD hS => ?_)
  have ew := wl_set (dA := dA) (ad := ad) (h := h) (o := o) (c := .inl (1, n, .inl (upd f i.toNatClampNeg (vp_nar .byte x))))
  exact k.2.2 l p e R s m args below meth c dC dI dA ad0 n0 s0 A Qc C q f1 f2 f3 f4 ad H1 locs1 ls (S.set (S.live (by rw [e1]; intro q; cases q)) (fun j z => absurd z id) (ew ▸ hP) (ew ▸ hD) hS)
theorem g_zast {o : Nat} {i x : Int32} {h2 : mH} (hd : decode cc pc = .ok (.bastore, 1)) (hv : sI h 2 o i (vp_nar .boolean x) = some h2) (k : G y cc mL ret fr lo (pc + 1) lv stk h2 r h') : G y cc mL ret fr lo pc lv (.int x :: .int i :: .ref o :: stk) h r h' := by
  obtain ⟨n, f, e1, e2, rfl⟩ := sI_spec hv
  refine ⟨k.1, k.2.1, fun l p e R s m args below meth c dC dI dA ad0 n0 s0 A Qc C q f1 f2 f3 f4 ad H locs ls S => ?_⟩
  refine va_zast (D := (dC, dI)) C.1 C.2.1 C.2.2.2.2.2.2.2.2.1 S.1 S.2.1 S.2.2.1 o 2 (S.arr e1) rfl e2 hd (fun H1 locs1 hP hD hS => ?_)
  have ew := wl_set (dA := dA) (ad := ad) (h := h) (o := o) (c := .inl (2, n, .inl (upd f i.toNatClampNeg (vp_nar .boolean x))))
  exact k.2.2 l p e R s m args below meth c dC dI dA ad0 n0 s0 A Qc C q f1 f2 f3 f4 ad H1 locs1 ls (S.set (S.live (by rw [e1]; intro q; cases q)) (fun j z => absurd z id) (ew ▸ hP) (ew ▸ hD) hS)
theorem g_last {o : Nat} {i : Int32} {x : Int64} {h2 : mH} (hd : decode cc pc = .ok (.lastore, 1)) (hv : sL h o i x = some h2) (k : G y cc mL ret fr lo (pc + 1) lv stk h2 r h') : G y cc mL ret fr lo pc lv (.long x :: .int i :: .ref o :: stk) h r h' := by
  obtain ⟨n, f, e1, e2, rfl⟩ := sL_spec hv
  refine ⟨k.1, k.2.1, fun l p e R s m args below meth c dC dI dA ad0 n0 s0 A Qc C q f1 f2 f3 f4 ad H locs ls S => ?_⟩
  refine va_last (D := (dC, dI)) C.1 C.2.1 C.2.2.2.2.2.2.2.2.1 S.1 S.2.1 S.2.2.1 o 3 (S.arr e1) rfl e2 hd (fun H1 locs1 hP hD hS => ?_)
  have ew := wl_set (dA := dA) (ad := ad) (h := h) (o := o) (c := .inl (3, n, .inr (.inl (vp_updL f i.toNatClampNeg x))))
  exact k.2.2 l p e R s m args below meth c dC dI dA ad0 n0 s0 A Qc C q f1 f2 f3 f4 ad H1 locs1 ls (S.set (S.live (by rw [e1]; intro q; cases q)) (fun j z => absurd z id) (ew ▸ hP) (ew ▸ hD) hS)
theorem g_alen {t o : Nat} {x : Int32} (ty : FieldType) (hd : decode cc pc = .ok (.arraylength, 1)) (ht : ∀ dA, (mtys dA)[t]? = some (dA t, ty)) (hv : aN h t o = some x) (k : G y cc mL ret fr lo (pc + 1) lv (.int x :: stk) h r h') : G y cc mL ret fr lo pc lv (.ref o :: stk) h r h' := by
  obtain ⟨a, e1, e2⟩ := aN_spec hv
  have e3 : ∀ ad, (cA ad a).1 = a.1 := by intro ad; unfold cA; split <;> rfl
  exact ⟨k.1, k.2.1, fun l p e R s m args below meth c dC dI dA ad0 n0 s0 A Qc C q f1 f2 f3 f4 ad H locs ls S => va_alen (D := (dC, dI)) C.1 C.2.1 C.2.2.2.2.2.2.2.2.1 S.1 o t (S.arr e1) (ht dA) (by rw [e3, e2]) hd (k.2.2 l p e R s m args below meth c dC dI dA ad0 n0 s0 A Qc C q f1 f2 f3 f4 ad H locs ls S)⟩
theorem g_iret {x : Int32} (hr : ret = some .int) (hd : decode cc pc = .ok (.ireturn, 1)) : G y cc mL ret fr lo pc lv [.int x] h (some (.int x)) h :=
  ⟨nle_rf, nle_rf, fun l p e R s m args below meth c dC dI dA ad0 n0 s0 A Qc C q f1 f2 f3 f4 ad H locs ls S => W.iret C.1 C.2.1 (C.2.2.1.trans hr) (fun t ht hW => q ad H locs t S.1 S.2.1 S.2.2.1 S.2.2.2.2.1 S.2.2.2.2.2.2.2 ht hW) S.2.2.1.2.2 hd C.2.2.2.2.1⟩
theorem g_zret {x : Int32} {ty : FieldType} (hr : ret = some ty) (hn : narrow ty (.int x) = .int x) (hd : decode cc pc = .ok (.ireturn, 1)) : G y cc mL ret fr lo pc lv [.int x] h (some (.int x)) h :=
  ⟨nle_rf, nle_rf, fun l p e R s m args below meth c dC dI dA ad0 n0 s0 A Qc C q f1 f2 f3 f4 ad H locs ls S => W.zret C.1 C.2.1 (C.2.2.1.trans hr) hn (fun t ht hW => q ad H locs t S.1 S.2.1 S.2.2.1 S.2.2.2.2.1 S.2.2.2.2.2.2.2 ht hW) S.2.2.1.2.2 hd C.2.2.2.2.1⟩
theorem g_lret {x : Int64} (hr : ret = some .long) (hd : decode cc pc = .ok (.lreturn, 1)) : G y cc mL ret fr lo pc lv [.long x] h (some (.long x)) h :=
  ⟨nle_rf, nle_rf, fun l p e R s m args below meth c dC dI dA ad0 n0 s0 A Qc C q f1 f2 f3 f4 ad H locs ls S => W.lret C.1 C.2.1 (C.2.2.1.trans hr) (fun t ht hW => q ad H locs t S.1 S.2.1 S.2.2.1 S.2.2.2.2.1 S.2.2.2.2.2.2.2 ht hW) S.2.2.1.2.2 hd C.2.2.2.2.1⟩
theorem g_vret (hr : ret = none) (hd : decode cc pc = .ok (.return_, 1)) : G y cc mL ret fr lo pc lv [] h none h :=
  ⟨nle_rf, nle_rf, fun l p e R s m args below meth c dC dI dA ad0 n0 s0 A Qc C q f1 f2 f3 f4 ad H locs ls S => W.vret C.1 C.2.1 (C.2.2.1.trans hr) (fun t ht hW => q ad H locs t S.1 S.2.1 S.2.2.1 S.2.2.2.2.1 S.2.2.2.2.2.2.2 ht hW) S.2.2.1.2.2 hd C.2.2.2.2.1⟩
end
end
section
/-! a method's contract over the model, out of the judgement of its body -/
def PM (dC : Nat → ClassId) (dI : Nat → Nat → Nat) (dA : Nat → ClassId) (ad : Nat → Nat) (sz : Nat) (h : mH) : State → Prop := fun U =>
  U.heap.size = sz ∧ va_P (dC, dI) mcls (wl dA ad h) U.heap ∧ va_D (fun _ => True) (wl dA ad h) ∧ va_K (dC, dI) mcls (mtys dA) U ∧ EX ad (va_A (wl dA ad h) sz) U ∧ HW h
def QM (dC : Nat → ClassId) (dI : Nat → Nat → Nat) (dA : Nat → ClassId) (ad : Nat → Nat) (sz : Nat) (h : mH) (r : Option Value) (h' : mH) : Array Value → State → Outcome → State → Prop := fun _ st oc t =>
  (∃ ad' : Nat → Nat, (∀ k, k < h.1 ∨ h'.1 ≤ k → ad' k = ad k) ∧ oc = .returned (r.map (cv ad')) ∧ va_P (dC, dI) mcls (wl dA ad' h') t.heap ∧ va_D (va_A (wl dA ad h) sz) (wl dA ad' h') ∧ HW h') ∧ va_F (va_A (wl dA ad h) sz) st t
def MM (y : MethodName) (cc : ByteArray) (mL : Nat) (ret : Option FieldType) (fr lo : Nat) (args : List Value) (h : mH) (r : Option Value) (h' : mH) : Prop :=
  nle y h.1 h'.1 ∧ nle y h.2.1 h'.2.1 ∧ ∀ (l : Launch) (dC : Nat → ClassId) (dI : Nat → Nat → Nat) (dA : Nat → ClassId) (ad : Nat → Nat) (sz : Nat), Met l y (.code y cc mL ret :: tbg) { frames := fr, cells := h'.1 - h.1, slots := h'.2.1 - h.2.1, locals := lo } (va_Pc (args.map (cv ad)) (PM dC dI dA ad sz h)) (QM dC dI dA ad sz h r h') (h'.1 - h.1) (h'.2.1 - h.2.1) (va_A (wl dA ad h) sz)
theorem lv_args_cv (ad : Nat → Nat) (vs : List Value) : ∀ i, lv_args i (vs.map (cv ad)) = (lv_args i vs).map (cq ad) := by
  induction vs with
  | nil => intro i; rfl
  | cons v vs ih => intro i; simp [lv_args, cv_cat, ih, cq]
theorem lg_sl_cv (ad : Nat → Nat) (vs : List Value) : (lg_sl (vs.map (cv ad))).length = (lg_sl vs).length := by
  induction vs with
  | nil => rfl
  | cons v vs ih =>
    simp only [lg_sl, List.map_cons, List.flatMap_cons, List.length_append] at ih ⊢
    rw [ih, cv_cat]
    split <;> rfl
theorem mm_of_G {y : MethodName} {cc : ByteArray} {mL : Nat} {ret : Option FieldType} {fr lo : Nat} {args : List Value} {h h' : mH} {r : Option Value} (hy : plainName y.cls = true) (hlen : (lg_sl args).length ≤ mL) (hg : G y cc mL ret fr lo 0 (lv_args 0 args) [] h r h') : MM y cc mL ret fr lo args h r h' := by
  refine ⟨hg.1, hg.2.1, fun l dC dI dA ad sz => ?_⟩
  refine Met.ofW (cc := cc) (maxL := mL) (ret := ret) hy rfl ?_
  intro p e s m args' below meth c s₁ B hml hv
  obtain ⟨rfl, hsz, hP, hD0, hK, hE, hw⟩ := hv
  have hts := atoms_spec (ws := .code y cc mL ret :: tbg) B.pre
  subst hsz
  have hD := hD0.self (sz := s.heap.size)
  have hl := lv_entry (args.map (cv ad)) (n := mL) (by rw [lg_sl_cv]; exact hlen)
  rw [lg_entry_eq]
  generalize (lg_sl (args.map (cv ad)) ++ List.replicate (mL - (lg_sl (args.map (cv ad))).length) Slot.unset).toArray = ls at hl ⊢
  rw [lv_args_cv] at hl
  have key := hg.2.2 l p e { frames := fr, cells := h'.1 - h.1, slots := h'.2.1 - h.2.1, locals := lo } s m (args.map (cv ad)).toArray below meth c dC dI dA ad h.1 h.2.1 (va_A (wl dA ad h) s.heap.size) (QM dC dI dA ad s.heap.size h r h')
    ⟨B.exec, B.bytes, B.returns, hml, B.notSynchronized, findClass_of_methodNamed B.named, (name_of_methodNamed B.named B.method).1, fun w hw => hts w (List.mem_cons_of_mem _ hw), hK, hE, fun q hq => Or.inr hq⟩
    (fun ad' H locs t hP hD hS had hw ht hW => ⟨⟨ad', had, rfl, by rw [ht]; exact hP, hD, hw⟩, hS.F ht⟩)
    (Nat.le_refl _) (Nat.le_refl _) (Nat.le_refl _) (Nat.le_refl _) ad s.heap [] ls ⟨hP, hD, va_S.rf, hl, fun _ _ => rfl, Nat.le_refl _, Nat.le_refl _, hw⟩
  rw [Nat.sub_self, Nat.sub_self] at key
  exact key
section
variable {y : MethodName} {cc : ByteArray} {mL : Nat} {ret : Option FieldType} {fr lo pc : Nat} {lv lv' : List (Nat × Value)} {stk rest : List Value} {h h1 h' : mH} {r r1 : Option Value}
/-- a value's places lie below n, or are none of the cells -/
def okv (n n1 : Nat) (v : Value) : Prop := ∀ k, v = .ref k → k < n ∨ n1 ≤ k
theorem cv_ok {ad ad' : Nat → Nat} {n n1 : Nat} {v : Value} (hv : okv n n1 v) (had : ∀ k, k < n ∨ n1 ≤ k → ad' k = ad k) : cv ad' v = cv ad v := by
  cases v with
  | ref k => show Value.ref (ad' k) = Value.ref (ad k); rw [had k (hv k rfl)]
  | _ => rfl
theorem okv_same {n : Nat} (v : Value) : okv n n v := fun k _ => Nat.lt_or_ge k n
theorem g_run {y2 : MethodName} (ha : nle y2 h.1 h1.1 ∧ nle y2 h.2.1 h1.2.1) (hal : al y2 = true → al y = true) (hlv : al y2 = true → ∀ q ∈ lv, okv h.1 h1.1 q.2) (hst : al y2 = true → ∀ v ∈ rest, okv h.1 h1.1 v)
    (run : ∀ (l : Launch) (p : Program) (e : Env) (R : Room) (s : State) (m : MethodId) (args : Array Value) (below : List Frame) (meth : Method) (c : Code) (dC : Nat → ClassId) (dI : Nat → Nat → Nat) (dA : Nat → ClassId) (ad0 : Nat → Nat) (n0 s0 : Nat) (A : Nat → Prop), Cx y cc mL ret dC dI dA ad0 A p s m args meth c → fr ≤ R.frames → lo ≤ R.locals → h1.1 - n0 ≤ R.cells → h1.2.1 - s0 ≤ R.slots →
      ∀ (ad : Nat → Nat) (H : Heap) (locs : List Loc) (ls : Array Slot), Sr mL dC dI dA ad0 n0 s0 A s h lv ad H locs ls → (∀ U : State, U.heap = H → s.WarmedH U.vm → PM dC dI dA ad H.size h U) →
        ∃ a, va_Run p l e R s m args below meth c H locs (h.1 - n0) (h.2.1 - s0) (h1.1 - h.1) (h1.2.1 - h.2.1) (F0 m pc ls (stk.map (cv ad))) (rest.map (cv ad)) (QM dC dI dA ad H.size h r1 h1 a) (va_A (wl dA ad h) H.size))
    (k : G y cc mL ret fr lo (pc + 3) lv (r1.toList ++ rest) h1 r h') : G y cc mL ret fr lo pc lv stk h r h' := by
  have hlv : ∀ q ∈ lv, okv h.1 h1.1 q.2 := by
    cases z : al y2 with
    | true => exact hlv z
    | false => intro q _; rw [← ha.1.2 z]; exact okv_same _
  have hst : ∀ v ∈ rest, okv h.1 h1.1 v := by
    cases z : al y2 with
    | true => exact hst z
    | false => intro q _; rw [← ha.1.2 z]; exact okv_same _
  have u1 := ha.1.1
  have u2 := ha.2.1
  refine ⟨nle_tr ha.1 hal k.1, nle_tr ha.2 hal k.2.1, fun l p e R s m args below meth c dC dI dA ad0 n0 s0 A Qc C q f1 f2 f3 f4 ad H locs ls S => ?_⟩
  obtain ⟨hP, hD, hS, hl, had0, hn0, hs0, hw⟩ := id S
  have hF : ∀ q, va_A (wl dA ad h) H.size q → A q := by
    rintro q (⟨k2, e2, z⟩ | z)
    · exact hD.2 k2 _ z
    · exact C.2.2.2.2.2.2.2.2.2.2 q (Nat.le_trans hS.1 z)
  have hpm : ∀ U : State, U.heap = H → s.WarmedH U.vm → PM dC dI dA ad H.size h U := fun U hU hW =>
    ⟨by rw [hU], by rw [hU]; exact hP, hD.weaken (fun _ _ _ _ => trivial), va_K.moved hW.alike C.2.2.2.2.2.2.2.2.1, C.2.2.2.2.2.2.2.2.2.1.go hW hS hU hF (fun k hk => had0 k (Or.inr (Nat.le_trans hw.1 hk))), hw⟩
  have e1 := k.1.1
  have e2 := k.2.1.1
  obtain ⟨ar, hr⟩ := run l p e R s m args below meth c dC dI dA ad0 n0 s0 A C f1 f2 (by omega) (by omega) ad H locs ls S hpm
  intro T hT X
  obtain ⟨v, st₀, t, T', L, h0, X', hL, g1, g2, ⟨⟨ad', had, hv, hP1, hD1, hw1⟩, hz, hk⟩, st⟩ := hr T hT X
  cases hv
  rw [h0] at hz hk
  have ec : h.1 - n0 + (h1.1 - h.1) = h1.1 - n0 := by omega
  have es : h.2.1 - s0 + (h1.2.1 - h.2.1) = h1.2.1 - s0 := by omega
  rw [ec, es] at X'
  have hs2 : va_S A s.heap T'.heap (locs ++ L) := ⟨Nat.le_trans hS.1 (by rw [g1]; exact hz), fun q a1 a2 => by rw [g1, hk q (Nat.lt_of_lt_of_le a1 hS.1) (fun z => a2 (hF q z))]; exact hS.2.1 q a1 a2, fun q hq => by
      rcases List.mem_append.mp hq with z | z
      · exact hS.2.2 q z
      · exact hF _ (hL q z)⟩
  have hlv2 : lv.map (cq ad') = lv.map (cq ad) := List.map_congr_left (fun q hq => by unfold cq; rw [cv_ok (hlv q hq) had])
  have hst2 : rest.map (cv ad') = rest.map (cv ad) := List.map_congr_left (fun v hv => cv_ok (hst v hv) had)
  obtain ⟨t2, a1, b1⟩ := k.2.2 l p e R s m args below meth c dC dI dA ad0 n0 s0 A Qc C q f1 f2 f3 f4 ad' T'.heap (locs ++ L) ls
    ⟨by rw [g1]; exact hP1, hD1.weaken (fun _ q _ z => hF q.1 z), hs2, by rw [hlv2]; exact hl, fun k2 hk2 => by rw [had k2 (by omega)]; exact had0 k2 (by omega), by omega, by omega, hw1⟩ T' rfl X'
  have eg : ((r1.toList ++ rest).map (cv ad')) = (r1.map (cv ad')).toList ++ rest.map (cv ad) := by
    rw [List.map_append, hst2]
    cases r1 <;> rfl
  rw [eg] at a1
  exact ⟨t2, st t2 a1, b1⟩
end
end
section
/-- the cell is an object of that class -/
def kC (h : mH) (b ci : Nat) : Option Unit := match h.2.2 b with
  | .inr (c, _ :: _) => if c = ci then some () else none
  | _ => none
theorem kC_spec {h : mH} {b ci : Nat} {u : Unit} (e : kC h b ci = some u) : ∃ fs, h.2.2 b = .inr (ci, fs) ∧ fs ≠ [] := by
  unfold kC at e
  split at e
  · next c x xs e1 =>
    split at e
    · next e2 => subst e2; exact ⟨x :: xs, e1, by simp⟩
    · cases e
  · cases e
def cpI (h : mH) (t src : Nat) (sp : Int32) (dst : Nat) (dp n : Int32) : Option mH := match h.2.2 src, h.2.2 dst with
  | .inl (t1, n0, .inl f), .inl (t2, n1, .inl g) => if (t1 = t ∧ t2 = t) ∧ ¬ sp < 0 ∧ ¬ dp < 0 ∧ ¬ n < 0 ∧ sp.toNatClampNeg + n.toNatClampNeg ≤ n0 ∧ dp.toNatClampNeg + n.toNatClampNeg ≤ n1 then some (mset h dst (.inl (t, n1, .inl (va_cpy f g sp.toNatClampNeg dp.toNatClampNeg n.toNatClampNeg)))) else none
  | _, _ => none
theorem cpI_spec {h h2 : mH} {t src dst : Nat} {sp dp n : Int32} (e : cpI h t src sp dst dp n = some h2) : ∃ n0 n1 f g, h.2.2 src = .inl (t, n0, .inl f) ∧ h.2.2 dst = .inl (t, n1, .inl g) ∧ (¬ sp < 0 ∧ ¬ dp < 0 ∧ ¬ n < 0 ∧ sp.toNatClampNeg + n.toNatClampNeg ≤ n0 ∧ dp.toNatClampNeg + n.toNatClampNeg ≤ n1) ∧ h2 = mset h dst (.inl (t, n1, .inl (va_cpy f g sp.toNatClampNeg dp.toNatClampNeg n.toNatClampNeg))) := by
  unfold cpI at e
  split at e
  · next t1 n0 f t2 n1 g e1 e2 =>
    split at e
    · next e3 => obtain ⟨⟨rfl, rfl⟩, e4⟩ := e3; exact ⟨n0, n1, f, g, e1, e2, e4, (Option.some.inj e).symm⟩
    · cases e
  · cases e
theorem ws_good {y2 : MethodName} {cc2 : ByteArray} {mL2 : Nat} {ret2 : Option FieldType} (hcode : Cond.code y2 cc2 mL2 ret2 ∈ tbg) : GoodIn tbg (.code y2 cc2 mL2 ret2 :: tbg) := by
  intro w hw
  rcases List.mem_cons.mp hw with rfl | hw
  · exact tbg_good (fun _ z => z) _ hcode
  · exact tbg_good (fun _ z => z) w hw
theorem PM_blind {dC : Nat → ClassId} {dI : Nat → Nat → Nat} {dA : Nat → ClassId} {ad : Nat → Nat} {sz : Nat} {h : mH} {av : List Value} : FrameBlind (va_Pc av (PM dC dI dA ad sz h)) := by
  intro a U g mk q
  obtain ⟨q0, q1, qP, qD, qK, qE, qw⟩ := q
  exact ⟨q0, q1, qP, qD, va_K.moved (u := U) (U := U.calling g mk a) (Vm.Alike.refl U.vm) qK, qE.blind, qw⟩
theorem cat_cv (ad : Nat → Nat) (l : List Value) : ((l.map (cv ad)).map fun v => v.category) = l.map fun v => v.category := by
  rw [List.map_map]
  exact List.map_congr_left (fun v _ => cv_cat ad v)
section
variable {y : MethodName} {cc : ByteArray} {mL : Nat} {ret : Option FieldType} {fr lo pc : Nat} {lv lv' : List (Nat × Value)} {stk rest : List Value} {h h1 h' : mH} {r r1 : Option Value}
variable {y2 : MethodName} {cc2 : ByteArray} {mL2 : Nat} {ret2 : Option FieldType} {fr2 lo2 : Nat}
theorem len_of {n : Nat} (hn : (parseMethodDescriptor y2.desc).map (fun d => d.parameters.length) = some n) : ∀ sig, parseMethodDescriptor y2.desc = some sig → n = sig.parameters.length := by
  intro sig hs
  rw [hs] at hn
  exact (Option.some.inj hn).symm
/-- what a call's site must have: the callee's words, and room -/
def site (y y2 : MethodName) (cc2 : ByteArray) (mL2 : Nat) (ret2 : Option FieldType) (fr lo fr2 lo2 n : Nat) : Prop :=
  Cond.code y2 cc2 mL2 ret2 ∈ tbg ∧ Cond.initialized y2.cls ∈ tbg ∧ (y2.cls ≠ "java/lang/invoke/MethodHandle" ∧ y2.cls ≠ "java/lang/invoke/VarHandle") ∧ (parseMethodDescriptor y2.desc).map (fun d => d.parameters.length) = some n ∧ fr2 + 1 ≤ fr ∧ 8 + (mL2 + 11) + lo2 ≤ lo
theorem g_callV {index b ci : Nat} {T : u_T} {N : Nat} (As : List Value) (hs : site y y2 cc2 mL2 ret2 fr lo fr2 lo2 As.length) (hlink : Cond.methodLink y.cls index y2 ∈ tbg) (hin : Cond.instanceMethod y2 ∈ tbg) (hsel : Cond.selects y2.cls y2 y2 ∈ tbg) (hd : decode cc pc = .ok (.invokevirtual index, 3)) (hc : mcls[ci]? = some (y2.cls, T, N)) {u : Unit} (hb : kC h b ci = some u) (hcat : (rest.map fun v => v.category).sum ≤ 8) (hal : al y2 = true → al y = true) (hlv : al y2 = true → ∀ q ∈ lv, okv h.1 h1.1 q.2) (hst : al y2 = true → ∀ v ∈ rest, okv h.1 h1.1 v) (M : MM y2 cc2 mL2 ret2 fr2 lo2 (.ref b :: As) h r1 h1) (hk : stk = As.reverse ++ .ref b :: rest)
    (k : G y cc mL ret fr lo (pc + 3) lv (r1.toList ++ rest) h1 r h') : G y cc mL ret fr lo pc lv stk h r h' := by
  obtain ⟨s1, s2, s3, s4, s5, s6⟩ := hs
  subst hk
  refine g_run ⟨M.1, M.2.1⟩ hal hlv hst (fun l p e R s m args below meth c dC dI dA ad0 n0 s0 A C f1 f2 f3 f4 ad H locs ls S hpm => ?_) k
  obtain ⟨fs, e1, e2⟩ := kC_spec hb
  have hts := C.2.2.2.2.2.2.2.1
  have z1 := M.1.1
  have z2 := M.2.1.1
  have z3 := S.2.2.2.2.2.1
  have z4 := S.2.2.2.2.2.2.1
  exact ⟨_, va_runV (C := y2.cls) (b := ad b) (As := As.map (cv ad)) (rest := rest.map (cv ad)) (Ts := tbg) (own := y.cls) (nL := mL) ⟨C.1, C.2.1, C.2.2.2.1, C.2.2.2.2.2.1, hts⟩ (M.2.2 l dC dI dA ad H.size)
    ⟨⟨rfl, rfl, by show fr2 + 1 ≤ _; omega, by show 8 + (mL2 + 11) + lo2 ≤ _; omega, pay_in hts (ws_good s1), List.mem_cons_self, hts _ s1, hts _ s2, s3, len_of s4, hts _ hlink⟩, hts _ hin, hts _ hsel⟩
    ⟨PM_blind, va_recv C.2.2.2.2.2.2.2.2.1 S.1 hc (S.obj e1 e2), fun U hU hW => ⟨rfl, hpm U hU hW⟩⟩ rfl (by rw [List.length_map]) S.2.2.2.1.1 (by simp [cv]) (lv_room (by rw [cat_cv]; exact hcat)) hd ⟨by omega, by omega⟩⟩
theorem g_callS {index : Nat} (As : List Value) (hs : site y y2 cc2 mL2 ret2 fr lo fr2 lo2 As.length) (hlink : Cond.methodLink y.cls index y2 ∈ tbg) (hstat : Cond.static y2 ∈ tbg) (hd : decode cc pc = .ok (.invokestatic index, 3)) (hcat : (rest.map fun v => v.category).sum ≤ 8) (hal : al y2 = true → al y = true) (hlv : al y2 = true → ∀ q ∈ lv, okv h.1 h1.1 q.2) (hst : al y2 = true → ∀ v ∈ rest, okv h.1 h1.1 v) (M : MM y2 cc2 mL2 ret2 fr2 lo2 As h r1 h1) (hk : stk = As.reverse ++ rest)
    (k : G y cc mL ret fr lo (pc + 3) lv (r1.toList ++ rest) h1 r h') : G y cc mL ret fr lo pc lv stk h r h' := by
  obtain ⟨s1, s2, s3, s4, s5, s6⟩ := hs
  subst hk
  refine g_run ⟨M.1, M.2.1⟩ hal hlv hst (fun l p e R s m args below meth c dC dI dA ad0 n0 s0 A C f1 f2 f3 f4 ad H locs ls S hpm => ?_) k
  have hts := C.2.2.2.2.2.2.2.1
  have z1 := M.1.1
  have z2 := M.2.1.1
  have z3 := S.2.2.2.2.2.1
  have z4 := S.2.2.2.2.2.2.1
  exact ⟨_, va_runS (As := As.map (cv ad)) (rest := rest.map (cv ad)) (Ts := tbg) (own := y.cls) (nL := mL) ⟨C.1, C.2.1, C.2.2.2.1, C.2.2.2.2.2.1, hts⟩ (M.2.2 l dC dI dA ad H.size)
    ⟨⟨rfl, rfl, by show fr2 + 1 ≤ _; omega, by show 8 + (mL2 + 11) + lo2 ≤ _; omega, pay_in hts (ws_good s1), List.mem_cons_self, hts _ s1, hts _ s2, s3, len_of s4, hts _ hlink⟩, hts _ hstat⟩
    ⟨PM_blind, fun U hU hW => ⟨rfl, hpm U hU hW⟩⟩ rfl (by rw [List.length_map]) S.2.2.2.1.1 (by simp) (lv_room (by rw [cat_cv]; exact hcat)) hd ⟨by omega, by omega⟩⟩
theorem g_callSN {index : Nat} (host : String) (As : List Value) (hs : site y y2 cc2 mL2 ret2 fr lo fr2 lo2 As.length) (hlink : Cond.methodLinkNest y.cls index y2 host ∈ nests) (hstat : Cond.static y2 ∈ tbg) (hd : decode cc pc = .ok (.invokestatic index, 3)) (hcat : (rest.map fun v => v.category).sum ≤ 8) (hal : al y2 = true → al y = true) (hlv : al y2 = true → ∀ q ∈ lv, okv h.1 h1.1 q.2) (hst : al y2 = true → ∀ v ∈ rest, okv h.1 h1.1 v) (M : MM y2 cc2 mL2 ret2 fr2 lo2 As h r1 h1) (hk : stk = As.reverse ++ rest)
    (k : G y cc mL ret fr lo (pc + 3) lv (r1.toList ++ rest) h1 r h') : G y cc mL ret fr lo pc lv stk h r h' := by
  obtain ⟨s1, s2, s3, s4, s5, s6⟩ := hs
  subst hk
  refine g_run ⟨M.1, M.2.1⟩ hal hlv hst (fun l p e R s m args below meth c dC dI dA ad0 n0 s0 A C f1 f2 f3 f4 ad H locs ls S hpm => ?_) k
  have hts := C.2.2.2.2.2.2.2.1
  have z1 := M.1.1
  have z2 := M.2.1.1
  have z3 := S.2.2.2.2.2.1
  have z4 := S.2.2.2.2.2.2.1
  exact ⟨_, va_runSN (host := host) (As := As.map (cv ad)) (rest := rest.map (cv ad)) (Ts := tbg) (own := y.cls) (nL := mL) ⟨C.1, C.2.1, C.2.2.2.1, C.2.2.2.2.2.1, hts⟩ (M.2.2 l dC dI dA ad H.size)
    ⟨⟨⟨rfl, rfl, by show fr2 + 1 ≤ _; omega, by show 8 + (mL2 + 11) + lo2 ≤ _; omega, pay_in hts (ws_good s1), List.mem_cons_self⟩, hts _ s1, hts _ s2, s3, len_of s4, va_Nw.use rfl (C.2.2.2.2.2.2.2.2.2.1.1 _ hlink)⟩, hts _ hstat, trivial⟩
    ⟨PM_blind, fun U hU hW => ⟨rfl, hpm U hU hW⟩⟩ rfl (by rw [List.length_map]) S.2.2.2.1.1 (by simp) (lv_room (by rw [cat_cv]; exact hcat)) hd ⟨by omega, by omega⟩⟩
theorem g_callI {index b : Nat} (As : List Value) (hs : site y y2 cc2 mL2 none fr lo fr2 lo2 As.length) (hy2 : y2.name = "<init>") (hlink : Cond.methodLink y.cls index y2 ∈ tbg) (hin : Cond.instanceMethod y2 ∈ tbg) (hd : decode cc pc = .ok (.invokespecial index, 3)) (hcat : (rest.map fun v => v.category).sum ≤ 8) (hal : al y2 = true → al y = true) (hlv : al y2 = true → ∀ q ∈ lv, okv h.1 h1.1 q.2) (hst : al y2 = true → ∀ v ∈ rest, okv h.1 h1.1 v) (M : MM y2 cc2 mL2 none fr2 lo2 (.ref b :: As) h r1 h1) (hk : stk = As.reverse ++ .ref b :: rest)
    (k : G y cc mL ret fr lo (pc + 3) lv (r1.toList ++ rest) h1 r h') : G y cc mL ret fr lo pc lv stk h r h' := by
  obtain ⟨s1, s2, s3, s4, s5, s6⟩ := hs
  subst hk
  refine g_run ⟨M.1, M.2.1⟩ hal hlv hst (fun l p e R s m args below meth c dC dI dA ad0 n0 s0 A C f1 f2 f3 f4 ad H locs ls S hpm => ?_) k
  have hts := C.2.2.2.2.2.2.2.1
  have z1 := M.1.1
  have z2 := M.2.1.1
  have z3 := S.2.2.2.2.2.1
  have z4 := S.2.2.2.2.2.2.1
  exact ⟨_, va_runI (b := ad b) (As := As.map (cv ad)) (rest := rest.map (cv ad)) (Ts := tbg) (own := y.cls) (nL := mL) ⟨C.1, C.2.1, C.2.2.2.1, C.2.2.2.2.2.1, hts⟩ (M.2.2 l dC dI dA ad H.size)
    ⟨⟨rfl, rfl, by show fr2 + 1 ≤ _; omega, by show 8 + (mL2 + 11) + lo2 ≤ _; omega, pay_in hts (ws_good s1), List.mem_cons_self, hts _ s1, hts _ s2, s3, len_of s4, hts _ hlink⟩, hy2, hts _ hin⟩
    ⟨PM_blind, fun U hU hW => ⟨rfl, hpm U hU hW⟩⟩ rfl (by rw [List.length_map]) S.2.2.2.1.1 (by simp [cv]) (lv_room (by rw [cat_cv]; exact hcat)) hd ⟨by omega, by omega⟩⟩
theorem g_callIN {index b : Nat} (host : String) (As : List Value) (hs : site y y2 cc2 mL2 none fr lo fr2 lo2 As.length) (hy2 : y2.name = "<init>") (hlink : Cond.methodLinkNest y.cls index y2 host ∈ nests) (hin : Cond.instanceMethod y2 ∈ tbg) (hd : decode cc pc = .ok (.invokespecial index, 3)) (hcat : (rest.map fun v => v.category).sum ≤ 8) (hal : al y2 = true → al y = true) (hlv : al y2 = true → ∀ q ∈ lv, okv h.1 h1.1 q.2) (hst : al y2 = true → ∀ v ∈ rest, okv h.1 h1.1 v) (M : MM y2 cc2 mL2 none fr2 lo2 (.ref b :: As) h r1 h1) (hk : stk = As.reverse ++ .ref b :: rest)
    (k : G y cc mL ret fr lo (pc + 3) lv (r1.toList ++ rest) h1 r h') : G y cc mL ret fr lo pc lv stk h r h' := by
  obtain ⟨s1, s2, s3, s4, s5, s6⟩ := hs
  subst hk
  refine g_run ⟨M.1, M.2.1⟩ hal hlv hst (fun l p e R s m args below meth c dC dI dA ad0 n0 s0 A C f1 f2 f3 f4 ad H locs ls S hpm => ?_) k
  have hts := C.2.2.2.2.2.2.2.1
  have z1 := M.1.1
  have z2 := M.2.1.1
  have z3 := S.2.2.2.2.2.1
  have z4 := S.2.2.2.2.2.2.1
  exact ⟨_, va_runIN (host := host) (b := ad b) (As := As.map (cv ad)) (rest := rest.map (cv ad)) (Ts := tbg) (own := y.cls) (nL := mL) ⟨C.1, C.2.1, C.2.2.2.1, C.2.2.2.2.2.1, hts⟩ (M.2.2 l dC dI dA ad H.size)
    ⟨⟨⟨rfl, rfl, by show fr2 + 1 ≤ _; omega, by show 8 + (mL2 + 11) + lo2 ≤ _; omega, pay_in hts (ws_good s1), List.mem_cons_self⟩, hts _ s1, hts _ s2, s3, len_of s4, va_Nw.use rfl (C.2.2.2.2.2.2.2.2.2.1.1 _ hlink)⟩, hy2, hts _ hin⟩
    ⟨PM_blind, fun U hU hW => ⟨rfl, hpm U hU hW⟩⟩ rfl (by rw [List.length_map]) S.2.2.2.1.1 (by simp [cv]) (lv_room (by rw [cat_cv]; exact hcat)) hd ⟨by omega, by omega⟩⟩
theorem g_mmax {index : Nat} {a b : Int32} (hd : decode cc pc = .ok (.invokestatic index, 3)) (hlink : Cond.methodLink y.cls index Lib.Math.max.name ∈ tbg) (hstat : Cond.static Lib.Math.max.name ∈ tbg) (hini : Cond.initialized "java/lang/Math" ∈ tbg) (hcode : Cond.code Lib.Math.max.name Lib.Math.max.code 2 (some .int) ∈ tbg) (hfr : 1 ≤ fr) (hlo : (stk.map fun v => v.category).sum + 13 ≤ lo)
    (k : G y cc mL ret fr lo (pc + 3) lv (.int (if a < b then b else a) :: stk) h r h') : G y cc mL ret fr lo pc lv (.int b :: .int a :: stk) h r h' :=
  ⟨k.1, k.2.1, fun l p e R s m args below meth c dC dI dA ad0 n0 s0 A Qc C q f1 f2 f3 f4 ad H locs ls S => by
    have hts := C.2.2.2.2.2.2.2.1
    have z1 := k.1.1
    have z2 := k.2.1.1
    exact va_mmax C.1 C.2.1 (C.2.2.2.1.trans S.2.2.2.1.1.symm) C.2.2.2.2.2.1 (hts _ hlink) (hts _ hstat) (hts _ hini) (hts _ hcode) (by omega) (by rw [cat_cv]; omega) (by omega) (by omega) hd (k.2.2 l p e R s m args below meth c dC dI dA ad0 n0 s0 A Qc C q f1 f2 f3 f4 ad H locs ls S)⟩
theorem g_mmin {index : Nat} {a b : Int32} (hd : decode cc pc = .ok (.invokestatic index, 3)) (hlink : Cond.methodLink y.cls index Lib.Math.min.name ∈ tbg) (hstat : Cond.static Lib.Math.min.name ∈ tbg) (hini : Cond.initialized "java/lang/Math" ∈ tbg) (hcode : Cond.code Lib.Math.min.name Lib.Math.min.code 2 (some .int) ∈ tbg) (hfr : 1 ≤ fr) (hlo : (stk.map fun v => v.category).sum + 13 ≤ lo)
    (k : G y cc mL ret fr lo (pc + 3) lv (.int (if b < a then b else a) :: stk) h r h') : G y cc mL ret fr lo pc lv (.int b :: .int a :: stk) h r h' :=
  ⟨k.1, k.2.1, fun l p e R s m args below meth c dC dI dA ad0 n0 s0 A Qc C q f1 f2 f3 f4 ad H locs ls S => by
    have hts := C.2.2.2.2.2.2.2.1
    have z1 := k.1.1
    have z2 := k.2.1.1
    exact va_mmin C.1 C.2.1 (C.2.2.2.1.trans S.2.2.2.1.1.symm) C.2.2.2.2.2.1 (hts _ hlink) (hts _ hstat) (hts _ hini) (hts _ hcode) (by omega) (by rw [cat_cv]; omega) (by omega) (by omega) hd (k.2.2 l p e R s m args below meth c dC dI dA ad0 n0 s0 A Qc C q f1 f2 f3 f4 ad H locs ls S)⟩
theorem g_objInit {index b : Nat} (hd : decode cc pc = .ok (.invokespecial index, 3)) (hlink : Cond.methodLink y.cls index Lib.objectInit ∈ tbg) (hin : Cond.instanceMethod Lib.objectInit ∈ tbg) (hcode : Cond.code Lib.objectInit ⟨#[0xb1]⟩ 1 none ∈ tbg) (hfr : 1 ≤ fr) (hlo : (stk.map fun v => v.category).sum + 12 ≤ lo)
    (k : G y cc mL ret fr lo (pc + 3) lv stk h r h') : G y cc mL ret fr lo pc lv (.ref b :: stk) h r h' :=
  ⟨k.1, k.2.1, fun l p e R s m args below meth c dC dI dA ad0 n0 s0 A Qc C q f1 f2 f3 f4 ad H locs ls S => by
    have hts := C.2.2.2.2.2.2.2.1
    exact W.objInit C.1 C.2.1 C.2.2.2.2.2.1 (hts _ hlink) (hts _ hin) (hts _ hcode) rfl (S.2.2.2.1.1.trans C.2.2.2.1.symm) rfl hd (by omega) (by show 2 * 0 + ((stk.map (cv ad)).map fun v => v.category).sum + 12 ≤ _; rw [cat_cv]; omega) (k.2.2 l p e R s m args below meth c dC dI dA ad0 n0 s0 A Qc C q f1 f2 f3 f4 ad H locs ls S)⟩
theorem g_copyi {index src dst : Nat} {sp dp n : Int32} {h2 : mH} (hd : decode cc pc = .ok (.invokestatic index, 3)) (hlink : Cond.methodLink y.cls index arraycopyName ∈ tbg) (hnat : Cond.native arraycopyName ∈ tbg) (hstat : Cond.static arraycopyName ∈ tbg) (hini : Cond.initialized "java/lang/System" ∈ tbg) (hfr : 1 ≤ fr) (hlo : (stk.map fun v => v.category).sum + (nativeFrameWords "java/lang/System" "arraycopy" 5 + 11) ≤ lo) (hv : cpI h 0 src sp dst dp n = some h2)
    (k : G y cc mL ret fr lo (pc + 3) lv stk h2 r h') : G y cc mL ret fr lo pc lv (.int n :: .int dp :: .ref dst :: .int sp :: .ref src :: stk) h r h' := by
  obtain ⟨n0, n1, f, g, e1, e2, ⟨b1, b2, b3, b4, b5⟩, rfl⟩ := cpI_spec hv
  refine ⟨k.1, k.2.1, fun l p e R s m args below meth c dC dI dA ad0 n0 s0 A Qc C q f1 f2 f3 f4 ad H locs ls S => ?_⟩
  have hts := C.2.2.2.2.2.2.2.1
  refine va_copyi (D := (dC, dI)) (ty := .int) C.1 C.2.1 (C.2.2.2.1.trans S.2.2.2.1.1.symm) C.2.2.2.2.2.1 (hts _ hlink) (hts _ hnat) (hts _ hstat) (hts _ hini) C.2.2.2.2.2.2.2.2.1 S.1 S.2.1 S.2.2.1 src dst 0 0 (S.arr e1) (S.arr e2) rfl rfl rfl b1 b2 b3 b4 b5 (fun _ _ => rfl) (by omega) (by rw [cat_cv]; omega) hd (fun H1 locs1 hP hD hS => ?_)
  have ew := wl_set (dA := dA) (ad := ad) (h := h) (o := dst) (c := .inl (0, n1, .inl (va_cpy f g sp.toNatClampNeg dp.toNatClampNeg n.toNatClampNeg)))
  exact k.2.2 l p e R s m args below meth c dC dI dA ad0 _ s0 A Qc C q f1 f2 f3 f4 ad H1 locs1 ls (S.set (S.live (by rw [e2]; intro q; cases q)) (fun j z => absurd z id) (ew ▸ hP) (ew ▸ hD) hS)
end
end
section
/-! making cells -/
def mnew (h : mH) (sl : Nat) (c : mCell) : mH := (h.1 + 1, h.2.1 + sl, va_up h.2.2 h.1 c)
theorem cE_ok {dA : Nat → ClassId} {ad ad' : Nat → Nat} {c : mCell} (hc : ∀ j, hasRef c j → ad' j = ad j) : cE dA ad' c = cE dA ad c := by
  cases c with
  | inr q =>
    obtain ⟨ci, fs⟩ := q
    show Sum.inr (ci, fs.map (cv ad')) = Sum.inr (ci, fs.map (cv ad))
    rw [List.map_congr_left (fun v hv => ?_)]
    cases v with
    | ref k => show Value.ref (ad' k) = Value.ref (ad k); rw [hc k hv]
    | _ => rfl
  | inl q =>
    obtain ⟨t, n, a⟩ := q
    rcases a with f | f | f | f | f
    · rfl
    · rfl
    · rfl
    · rfl
    · show Sum.inl (dA t, n, Sum.inr (Sum.inr (Sum.inr (Sum.inr (fun j => (f j).map ad'))))) = Sum.inl (dA t, n, Sum.inr (Sum.inr (Sum.inr (Sum.inr (fun j => (f j).map ad)))))
      have e : (fun j => (f j).map ad') = (fun j => (f j).map ad) := by
        funext j
        cases hj : f j with
        | none => rfl
        | some x => show some (ad' x) = some (ad x); rw [hc x ⟨j, hj⟩]
      rw [e]
theorem wl_new {dA : Nat → ClassId} {ad : Nat → Nat} {h : mH} {sl q : Nat} {c : mCell} (w : HW h) (hc : ∀ j, ¬ hasRef c j) : wl dA ad h ++ [(q, cE dA ad c)] = wl dA (va_up ad h.1 q) (mnew h sl c) := by
  have e0 : ∀ k, k < h.1 → va_up ad h.1 q k = ad k := fun k hk => by unfold va_up; rw [if_neg (by omega)]
  unfold wl mnew
  show _ = (List.range (h.1 + 1)).map _
  rw [List.range_succ, List.map_append]
  congr 1
  · refine List.map_congr_left (fun k hk => ?_)
    have hk2 := List.mem_range.mp hk
    have e1 : va_up h.2.2 h.1 c k = h.2.2 k := by unfold va_up; rw [if_neg (by omega)]
    show (ad k, cE dA ad (h.2.2 k)) = (va_up ad h.1 q k, cE dA (va_up ad h.1 q) (va_up h.2.2 h.1 c k))
    rw [e1, e0 k hk2, cE_ok (ad := ad) (fun j hj => e0 j (w.2.2 k j hj))]
  · show [(q, cE dA ad c)] = [(va_up ad h.1 q h.1, cE dA (va_up ad h.1 q) (va_up h.2.2 h.1 c h.1))]
    have e1 : va_up h.2.2 h.1 c h.1 = c := by unfold va_up; rw [if_pos rfl]
    have e2 : va_up ad h.1 q h.1 = q := by unfold va_up; rw [if_pos rfl]
    rw [e1, e2, cE_ok (ad := ad) (ad' := va_up ad h.1 q) (fun j hj => absurd hj (hc j))]
theorem HW.new {h : mH} {sl : Nat} {c : mCell} (w : HW h) (hlt : h.1 < 1000) (hc : ∀ j, ¬ hasRef c j) : HW (mnew h sl c) := by
  refine ⟨hlt, fun k hk => ?_, fun k j => ?_⟩
  · have hk2 : h.1 + 1 ≤ k := hk
    show va_up h.2.2 h.1 c k = dead
    unfold va_up
    rw [if_neg (by omega)]
    exact w.2.1 k (by omega)
  · show hasRef (va_up h.2.2 h.1 c k) j → j < h.1 + 1
    unfold va_up
    split
    · exact fun z => absurd z (hc j)
    · exact fun z => Nat.lt_succ_of_lt (w.2.2 k j z)
section
variable {mL : Nat} {dC : Nat → ClassId} {dI : Nat → Nat → Nat} {dA : Nat → ClassId} {ad0 : Nat → Nat} {n0 s0 : Nat} {A : Nat → Prop} {s : State} {h : mH} {lv : List (Nat × Value)} {ad : Nat → Nat} {H : Heap} {locs : List Loc} {ls : Array Slot}
theorem Sr.new (S : Sr mL dC dI dA ad0 n0 s0 A s h lv ad H locs ls) {sl q : Nat} {c : mCell} {H1 : Heap} {locs1 : List Loc} (hlt : h.1 < 1000) (hc : ∀ j, ¬ hasRef c j) (hlv : ∀ q ∈ lv, okv h.1 (h.1 + 1) q.2) (hP : va_P (dC, dI) mcls (wl dA ad h ++ [(q, cE dA ad c)]) H1) (hD : va_D A (wl dA ad h ++ [(q, cE dA ad c)])) (hS : va_S A s.heap H1 locs1) : Sr mL dC dI dA ad0 n0 s0 A s (mnew h sl c) lv (va_up ad h.1 q) H1 locs1 ls := by
  obtain ⟨-, -, -, h4, h5, h6, h7, w⟩ := S
  rw [wl_new (sl := sl) w hc] at hP hD
  have e0 : ∀ k, k < h.1 ∨ h.1 + 1 ≤ k → va_up ad h.1 q k = ad k := fun k hk => by unfold va_up; rw [if_neg (by omega)]
  have hlv2 : lv.map (cq (va_up ad h.1 q)) = lv.map (cq ad) := List.map_congr_left (fun z hz => by unfold cq; rw [cv_ok (hlv z hz) e0])
  refine ⟨hP, hD, hS, by rw [hlv2]; exact h4, fun k hk => ?_, Nat.le_succ_of_le h6, Nat.le_trans h7 (Nat.le_add_right _ _), w.new hlt hc⟩
  have hk2 : k < n0 ∨ h.1 + 1 ≤ k := hk
  rw [e0 k (by omega)]
  exact h5 k (by omega)
end
section
variable {y : MethodName} {cc : ByteArray} {mL : Nat} {ret : Option FieldType} {fr lo pc : Nat} {lv lv' : List (Nat × Value)} {stk rest : List Value} {h h1 h' : mH} {r r1 : Option Value}
theorem up_at {α : Type} (f : Nat → α) (k : Nat) (v : α) : va_up f k v k = v := by unfold va_up; rw [if_pos rfl]
theorem stk_new {ad : Nat → Nat} {n q : Nat} (hst : ∀ v ∈ stk, okv n (n + 1) v) : (Value.ref n :: stk).map (cv (va_up ad n q)) = .ref q :: stk.map (cv ad) := by
  have e0 : ∀ k, k < n ∨ n + 1 ≤ k → va_up ad n q k = ad k := fun k hk => by unfold va_up; rw [if_neg (by omega)]
  rw [List.map_cons, List.map_congr_left (fun v hv => cv_ok (hst v hv) e0)]
  show Value.ref (va_up ad n q n) :: _ = _
  rw [up_at]
theorem g_new (hyl : al y = true) {C : String} {T : u_T} {N index ci : Nat} (fs : List Value) (ty0 : Nat → FieldType) (hty : ∀ k, k < N → parseFieldDescriptor (T k).2.2.1 = some (ty0 k)) (hd : decode cc pc = .ok (.new index, 3)) (hc : mcls[ci]? = some (C, T, N)) (hin : ∀ w ∈ u_ws C T N, w ∈ tbg) (hcl : Cond.classLink y.cls index C ∈ tbg) (hinst : Cond.instantiable C N ∈ tbg) (hini : Cond.initialized C ∈ tbg) (hfs : ∀ j, j < N → defaultValue (ty0 j) = vp_V fs j) (hnr : ∀ v ∈ fs, ∀ k, v ≠ .ref k) (hlt : h.1 < 1000) (hlv : ∀ q ∈ lv, okv h.1 (h.1 + 1) q.2) (hst : ∀ v ∈ stk, okv h.1 (h.1 + 1) v)
    (k : G y cc mL ret fr lo (pc + 3) lv (.ref h.1 :: stk) (mnew h N (.inr (ci, fs))) r h') : G y cc mL ret fr lo pc lv stk h r h' := by
  have k1 : h.1 + 1 ≤ h'.1 := k.1.1
  have k2 : h.2.1 + N ≤ h'.2.1 := k.2.1.1
  refine ⟨⟨by omega, fun z => absurd (hyl.symm.trans z) (by decide)⟩, ⟨by omega, fun z => absurd (hyl.symm.trans z) (by decide)⟩, fun l p e R s m args below meth c dC dI dA ad0 n0 s0 A Qc C q f1 f2 f3 f4 ad H locs ls S => ?_⟩
  have hts := C.2.2.2.2.2.2.2.1
  have z3 := S.2.2.2.2.2.1
  have z4 := S.2.2.2.2.2.2.1
  have efs : fs.map (cv ad) = fs := by
    have e : fs.map (cv ad) = fs.map id := List.map_congr_left (fun v hv => by
      cases v with
      | ref k => exact absurd rfl (hnr _ hv k)
      | _ => rfl)
    rw [e, List.map_id]
  have hcr : ∀ j, ¬ hasRef (.inr (ci, fs)) j := fun j hj => hnr _ hj j rfl
  refine va_new (D := (dC, dI)) (tys := mtys dA) (fs := fs) C.1 C.2.1 hts hin ty0 hty C.2.2.2.2.2.1 (hts _ hcl) (hts _ hinst) (hts _ hini) C.2.2.2.2.2.2.2.2.1 S.1 S.2.1 S.2.2.1 C.2.2.2.2.2.2.2.2.2.2 hc hfs (by omega) (by omega) hd (fun qa H1 hP hD hS => ?_)
  have ec : cE dA ad (.inr (ci, fs)) = .inr (ci, fs) := by show Sum.inr (ci, fs.map (cv ad)) = _; rw [efs]
  have key := k.2.2 l p e R s m args below meth c dC dI dA ad0 n0 s0 A Qc C q f1 f2 f3 f4 (va_up ad h.1 qa) H1 locs ls (S.new hlt hcr hlv (by rw [ec]; exact hP) (by rw [ec]; exact hD) hS)
  rw [stk_new hst, show (mnew h N (.inr (ci, fs))).1 - n0 = h.1 - n0 + 1 by show h.1 + 1 - n0 = _; omega, show (mnew h N (.inr (ci, fs))).2.1 - s0 = h.2.1 - s0 + N by show h.2.1 + N - s0 = _; omega] at key
  exact key
theorem g_newa (hyl : al y = true) {atype : ArrayType} {n : Int32} (t N' : Nat) (ty : FieldType) (a0 : vp_A) (harr : Cond.arrayClass ty ∈ tbg) (hty : newarray.typeOf atype = ty) (ht : ∀ dA, (mtys dA)[t]? = some (dA t, ty)) (hra : ∀ (U : State) (c1 c2 : ClassId), va_RA U c1 ty → va_RA U c2 ty → c1 = c2) (ha : ∀ cA : ClassId, vp_cell cA a0 = arrV cA N' (fun _ => defaultValue ty)) (ha2 : ∀ ad, cA ad a0 = a0) (hnr : ∀ j, ¬ hasRef (.inl (t, a0)) j) (hn : ¬ n < 0) (hN : n.toNatClampNeg = N') (hbytes : N' * componentBytes ty ≤ 536870912) (hd : decode cc pc = .ok (.newarray atype, 2)) (hlt : h.1 < 1000) (hlv : ∀ q ∈ lv, okv h.1 (h.1 + 1) q.2) (hst : ∀ v ∈ stk, okv h.1 (h.1 + 1) v)
    (k : G y cc mL ret fr lo (pc + 2) lv (.ref h.1 :: stk) (mnew h N' (.inl (t, a0))) r h') : G y cc mL ret fr lo pc lv (.int n :: stk) h r h' := by
  have k1 : h.1 + 1 ≤ h'.1 := k.1.1
  have k2 : h.2.1 + N' ≤ h'.2.1 := k.2.1.1
  refine ⟨⟨by omega, fun z => absurd (hyl.symm.trans z) (by decide)⟩, ⟨by omega, fun z => absurd (hyl.symm.trans z) (by decide)⟩, fun l p e R s m args below meth c dC dI dA ad0 n0 s0 A Qc C q f1 f2 f3 f4 ad H locs ls S => ?_⟩
  have hts := C.2.2.2.2.2.2.2.1
  have hK := C.2.2.2.2.2.2.2.2.1
  have z3 := S.2.2.2.2.2.1
  have z4 := S.2.2.2.2.2.2.1
  refine va_newa (D := (dC, dI)) (tys := mtys dA) (a0 := a0) C.1 C.2.1 (by rw [hty]; exact hts _ harr) hty hK S.1 S.2.1 S.2.2.1 C.2.2.2.2.2.2.2.2.2.2 ha hn hN hbytes (by omega) (by omega) hd (fun qa cA1 H1 hK1 hP hD hS => ?_)
  have hcA : cA1 = dA t := hra s _ _ (hK1.2 (mtys dA).length (cA1, ty) (by simp)).2 (hK.2 t _ (ht dA)).2
  subst hcA
  have ec : cE dA ad (.inl (t, a0)) = .inl (dA t, a0) := by show Sum.inl (dA t, cA ad a0) = _; rw [ha2]
  have key := k.2.2 l p e R s m args below meth c dC dI dA ad0 n0 s0 A Qc C q f1 f2 f3 f4 (va_up ad h.1 qa) H1 locs ls (S.new hlt hnr hlv (by rw [ec]; exact hP) (by rw [ec]; exact hD) hS)
  rw [stk_new hst, show (mnew h N' (.inl (t, a0))).1 - n0 = h.1 - n0 + 1 by show h.1 + 1 - n0 = _; omega, show (mnew h N' (.inl (t, a0))).2.1 - s0 = h.2.1 - s0 + N' by show h.2.1 + N' - s0 = _; omega] at key
  exact key
theorem g_newq (hyl : al y = true) {index : Nat} {n : Int32} (t N' : Nat) (Cn : String) (hcl : Cond.classLink y.cls index Cn ∈ tbg) (hov : Cn ∈ overs) (ht : ∀ dA, (mtys dA)[t]? = some (dA t, .object Cn)) (hn : ¬ n < 0) (hN : n.toNatClampNeg = N') (hbytes : N' * 4 ≤ 536870912) (hd : decode cc pc = .ok (.anewarray index, 3)) (hlt : h.1 < 1000) (hlv : ∀ q ∈ lv, okv h.1 (h.1 + 1) q.2) (hst : ∀ v ∈ stk, okv h.1 (h.1 + 1) v)
    (k : G y cc mL ret fr lo (pc + 3) lv (.ref h.1 :: stk) (mnew h N' (.inl (t, N', .inr (.inr (.inr (.inr (fun _ => none))))))) r h') : G y cc mL ret fr lo pc lv (.int n :: stk) h r h' := by
  have k1 : h.1 + 1 ≤ h'.1 := k.1.1
  have k2 : h.2.1 + N' ≤ h'.2.1 := k.2.1.1
  refine ⟨⟨by omega, fun z => absurd (hyl.symm.trans z) (by decide)⟩, ⟨by omega, fun z => absurd (hyl.symm.trans z) (by decide)⟩, fun l p e R s m args below meth c dC dI dA ad0 n0 s0 A Qc C q f1 f2 f3 f4 ad H locs ls S => ?_⟩
  have hts := C.2.2.2.2.2.2.2.1
  have hK := C.2.2.2.2.2.2.2.2.1
  have z3 := S.2.2.2.2.2.1
  have z4 := S.2.2.2.2.2.2.1
  refine va_newq (D := (dC, dI)) (tys := mtys dA) C.1 C.2.1 C.2.2.2.2.2.1 (hts _ hcl) (C.2.2.2.2.2.2.2.2.2.1.2.2.2.2.2 _ hov) hK S.1 S.2.1 S.2.2.1 C.2.2.2.2.2.2.2.2.2.2 hn hN hbytes (by omega) (by omega) hd (fun qa cA1 H1 hK1 hP hD hS => ?_)
  have hcA : cA1 = dA t := by
    obtain ⟨_, _, _, _, _, g1⟩ := (hK1.2 (mtys dA).length (cA1, .object Cn) (by simp)).2
    obtain ⟨_, _, _, _, _, g2⟩ := (hK.2 t _ (ht dA)).2
    exact Option.some.inj (g1.symm.trans g2)
  subst hcA
  have hnr : ∀ j, ¬ hasRef (.inl (t, N', .inr (.inr (.inr (.inr (fun _ => none)))))) j := fun j hj => by obtain ⟨i, hi⟩ := hj; cases hi
  have ec : cE dA ad (.inl (t, N', .inr (.inr (.inr (.inr (fun _ => none)))))) = .inl (dA t, N', .inr (.inr (.inr (.inr (fun _ => none))))) := rfl
  have key := k.2.2 l p e R s m args below meth c dC dI dA ad0 n0 s0 A Qc C q f1 f2 f3 f4 (va_up ad h.1 qa) H1 locs ls (S.new hlt hnr hlv (by rw [ec]; exact hP) (by rw [ec]; exact hD) hS)
  rw [stk_new hst, show (mnew h N' (.inl (t, N', .inr (.inr (.inr (.inr (fun _ => none))))))).1 - n0 = h.1 - n0 + 1 by show h.1 + 1 - n0 = _; omega, show (mnew h N' (.inl (t, N', .inr (.inr (.inr (.inr (fun _ => none))))))).2.1 - s0 = h.2.1 - s0 + N' by show h.2.1 + N' - s0 = _; omega] at key
  exact key
theorem g_aast {t o v ci : Nat} {i : Int32} {h2 : mH} {q : vw_C} (hd : decode cc pc = .ok (.aastore, 1)) (hc : mcls[ci]? = some q) (ht : ∀ dA, (mtys dA)[t]? = some (dA t, .object q.1)) (hv : sR h t o ci i v = some h2) (k : G y cc mL ret fr lo (pc + 1) lv stk h2 r h') : G y cc mL ret fr lo pc lv (.ref v :: .int i :: .ref o :: stk) h r h' := by
  obtain ⟨n, f, fs, e1, e0, e5, e2, rfl⟩ := sR_spec hv
  refine ⟨k.1, k.2.1, fun l p e R s m args below meth c dC dI dA ad0 n0 s0 A Qc C q f1 f2 f3 f4 ad H locs ls S => ?_⟩
  have ho : o < h.1 := S.live (by rw [e1]; intro q; cases q)
  have hvl : v < h.1 := S.live e5
  have hov : (wl dA ad h)[v]? = some (ad v, .inr (ci, fs.map (cv ad))) := by rw [wl_at hvl, e0]; rfl
  refine va_astq (D := (dC, dI)) C.1 C.2.1 C.2.2.2.2.2.2.2.2.1 S.1 S.2.1 S.2.2.1 o t v ci (S.arr e1) (ht dA) hov hc e2 hd (fun H1 locs1 hP hD hS => ?_)
  have ef : va_up (fun j => (f j).map ad) i.toNatClampNeg (some (ad v)) = fun j => (va_up f i.toNatClampNeg (some v) j).map ad := by
    funext j
    unfold va_up
    split <;> rfl
  have ew := wl_set (dA := dA) (ad := ad) (h := h) (o := o) (c := .inl (t, n, .inr (.inr (.inr (.inr (va_up f i.toNatClampNeg (some v)))))))
  have ew2 : cE dA ad (.inl (t, n, .inr (.inr (.inr (.inr (va_up f i.toNatClampNeg (some v))))))) = .inl (dA t, n, .inr (.inr (.inr (.inr (va_up (fun j => (f j).map ad) i.toNatClampNeg (some (ad v))))))) := by rw [ef]; rfl
  rw [ew2] at ew
  refine k.2.2 l p e R s m args below meth c dC dI dA ad0 n0 s0 A Qc C q f1 f2 f3 f4 ad H1 locs1 ls (S.set ho (fun j hj => ?_) (ew ▸ hP) (ew ▸ hD) hS)
  obtain ⟨x, hx⟩ := hj
  unfold va_up at hx
  split at hx
  · cases hx; exact hvl
  · exact S.2.2.2.2.2.2.2.2.2 o j (by rw [e1]; exact ⟨x, hx⟩)
end
end
section
/-! facts of the names: printed by wip/gen/gen_names.py -/
theorem nm_Q : ∀ a, a < 10 → ∀ b, b < 10 → a ≠ b → (T_Q a).2.1 ≠ (T_Q b).2.1 := by decide +kernel
theorem tyok_Q : ∀ k, k < 10 → parseFieldDescriptor (T_Q k).2.2.1 = some (ty_Q k) := by decide +kernel
theorem in_Q : ∀ w ∈ u_ws "QuotaLaws" T_Q 10, w ∈ tbg := by decide +kernel
theorem nm_Odds : ∀ a, a < 3 → ∀ b, b < 3 → a ≠ b → (T_Odds a).2.1 ≠ (T_Odds b).2.1 := by decide +kernel
theorem tyok_Odds : ∀ k, k < 3 → parseFieldDescriptor (T_Odds k).2.2.1 = some (ty_Odds k) := by decide +kernel
theorem in_Odds : ∀ w ∈ u_ws "QuotaLaws$Odds" T_Odds 3, w ∈ tbg := by decide +kernel
theorem nm_Planner : ∀ a, a < 8 → ∀ b, b < 8 → a ≠ b → (T_Planner a).2.1 ≠ (T_Planner b).2.1 := by decide +kernel
theorem tyok_Planner : ∀ k, k < 8 → parseFieldDescriptor (T_Planner k).2.2.1 = some (ty_Planner k) := by decide +kernel
theorem in_Planner : ∀ w ∈ u_ws "QuotaLaws$Planner" T_Planner 8, w ∈ tbg := by decide +kernel
theorem nm_Reader : ∀ a, a < 9 → ∀ b, b < 9 → a ≠ b → (T_Reader a).2.1 ≠ (T_Reader b).2.1 := by decide +kernel
theorem tyok_Reader : ∀ k, k < 9 → parseFieldDescriptor (T_Reader k).2.2.1 = some (ty_Reader k) := by decide +kernel
theorem in_Reader : ∀ w ∈ u_ws "QuotaLaws$Reader" T_Reader 9, w ∈ tbg := by decide +kernel
theorem nm_Realm : ∀ a, a < 19 → ∀ b, b < 19 → a ≠ b → (T_Realm a).2.1 ≠ (T_Realm b).2.1 := by decide +kernel
theorem tyok_Realm : ∀ k, k < 19 → parseFieldDescriptor (T_Realm k).2.2.1 = some (ty_Realm k) := by decide +kernel
theorem in_Realm : ∀ w ∈ u_ws "QuotaLaws$Realm" T_Realm 19, w ∈ tbg := by decide +kernel
theorem nm_Sheet : ∀ a, a < 3 → ∀ b, b < 3 → a ≠ b → (T_Sheet a).2.1 ≠ (T_Sheet b).2.1 := by decide +kernel
theorem tyok_Sheet : ∀ k, k < 3 → parseFieldDescriptor (T_Sheet k).2.2.1 = some (ty_Sheet k) := by decide +kernel
theorem in_Sheet : ∀ w ∈ u_ws "QuotaLaws$Sheet" T_Sheet 3, w ∈ tbg := by decide +kernel
theorem nm_Sightings : ∀ a, a < 4 → ∀ b, b < 4 → a ≠ b → (T_Sightings a).2.1 ≠ (T_Sightings b).2.1 := by decide +kernel
theorem tyok_Sightings : ∀ k, k < 4 → parseFieldDescriptor (T_Sightings k).2.2.1 = some (ty_Sightings k) := by decide +kernel
theorem in_Sightings : ∀ w ∈ u_ws "QuotaLaws$Sightings" T_Sightings 4, w ∈ tbg := by decide +kernel
theorem nm_Tables : ∀ a, a < 8 → ∀ b, b < 8 → a ≠ b → (T_Tables a).2.1 ≠ (T_Tables b).2.1 := by decide +kernel
theorem tyok_Tables : ∀ k, k < 8 → parseFieldDescriptor (T_Tables k).2.2.1 = some (ty_Tables k) := by decide +kernel
theorem in_Tables : ∀ w ∈ u_ws "QuotaLaws$Tables" T_Tables 8, w ∈ tbg := by decide +kernel
theorem nm_M : ∀ a, a < 39 → ∀ b, b < 39 → a ≠ b → (T_M a).2.1 ≠ (T_M b).2.1 := by decide +kernel
theorem tyok_M : ∀ k, k < 39 → parseFieldDescriptor (T_M k).2.2.1 = some (ty_M k) := by decide +kernel
theorem in_M : ∀ w ∈ u_ws "QuotaLawsModel" T_M 39, w ∈ tbg := by decide +kernel
end
section
/-! small words of the printed functions and proofs -/
def FU : Nat := 600
def bd1 {α β : Type} (x : Option α) (f : α → Option β) : Option β := match x with
  | some a => f a
  | none => none
def bd2 {α β γ : Type} (x : Option (α × γ)) (f : α → γ → Option β) : Option β := match x with
  | some a => f a.1 a.2
  | none => none
theorem bd1_s {α β : Type} (a : α) (f : α → Option β) : bd1 (some a) f = f a := rfl
theorem bd2_s {α β γ : Type} (a : α) (c : γ) (f : α → γ → Option β) : bd2 (some (a, c)) f = f a c := rfl
theorem bd1_e {α β : Type} {x : Option α} {f : α → Option β} {b : β} (h : bd1 x f = some b) : ∃ a, x = some a ∧ f a = some b := by
  cases x with
  | none => cases h
  | some a => exact ⟨a, rfl, h⟩
theorem bd2_e {α β γ : Type} {x : Option (α × γ)} {f : α → γ → Option β} {b : β} (h : bd2 x f = some b) : ∃ a c, x = some (a, c) ∧ f a c = some b := by
  cases x with
  | none => cases h
  | some a => exact ⟨a.1, a.2, rfl, h⟩
theorem ret1 {α : Type} {a b : α} (h : some a = some b) : b = a := (Option.some.inj h).symm
theorem ret2 {α β : Type} {a c : α} {b d : β} (h : some (a, b) = some (c, d)) : c = a ∧ d = b := by
  have := Option.some.inj h
  exact ⟨(congrArg Prod.fst this).symm, (congrArg Prod.snd this).symm⟩
theorem nar_z {x : Int32} (h : x = 0 ∨ x = 1) : narrow .boolean (.int x) = .int x := by
  rcases h with rfl | rfl <;> rfl
theorem tbg_in2 {w : Cond} (i : Nat) (h : tables_1[i]? = some w) (hg : goodWord w = true) : w ∈ tbg := List.mem_filter.mpr ⟨List.mem_append_right _ (List.mem_of_getElem? h), hg⟩
theorem tbg_in3 {w : Cond} (i : Nat) (h : (k2_sels lw_privs)[i]? = some w) (hg : goodWord w = true) : w ∈ tbg := List.mem_filter.mpr ⟨List.mem_append_left _ (List.mem_of_getElem? h), hg⟩
theorem nests_in2 {w : Cond} (i : Nat) (h : tables_1[i]? = some w) (hg : isNest w = true) : w ∈ nests := List.mem_filter.mpr ⟨List.mem_append_right _ (List.mem_of_getElem? h), hg⟩
def site0 (y2 : MethodName) (cc2 : ByteArray) (mL2 : Nat) (ret2 : Option FieldType) (n : Nat) : Prop :=
  Cond.code y2 cc2 mL2 ret2 ∈ tbg ∧ Cond.initialized y2.cls ∈ tbg ∧ (y2.cls ≠ "java/lang/invoke/MethodHandle" ∧ y2.cls ≠ "java/lang/invoke/VarHandle") ∧ (parseMethodDescriptor y2.desc).map (fun d => d.parameters.length) = some n
theorem site_of {y y2 : MethodName} {cc2 : ByteArray} {mL2 : Nat} {ret2 : Option FieldType} {fr lo fr2 lo2 n : Nat} (h : site0 y2 cc2 mL2 ret2 n) (h1 : fr2 + 1 ≤ fr) (h2 : 8 + (mL2 + 11) + lo2 ≤ lo) : site y y2 cc2 mL2 ret2 fr lo fr2 lo2 n := ⟨h.1, h.2.1, h.2.2.1, h.2.2.2, h1, h2⟩
section
variable {y : MethodName} {cc : ByteArray} {mL : Nat} {ret : Option FieldType} {fr lo pc : Nat} {lv lv' : List (Nat × Value)} {stk stk2 : List Value} {h h' : mH} {r : Option Value}
theorem g_st (stk2 : List Value) (e : stk = stk2) (k : G y cc mL ret fr lo pc lv stk2 h r h') : G y cc mL ret fr lo pc lv stk h r h' := e ▸ k
theorem g_lookIn {dflt : Int} {ps : Array (Int × Int)} {len : Nat} {a : Int32} (tgt : Nat) (v : Int32) (hd : decode cc pc = .ok (.lookupswitch dflt ps, len)) (hv : a = v) (hp : (ps.toList.zip (ps.toList.drop 1)).all (fun (a, next) => a.1 < next.1) = true) (ho : (pc : Int) + Op.lookupswitch.offset ps.toList dflt v.toInt = (tgt : Int)) (k : G y cc mL ret fr lo tgt lv stk h r h') : G y cc mL ret fr lo pc lv (.int a :: stk) h r h' :=
  g_pure (fun hx hb _ _ _ k => by subst hv; exact lv_lookup hx hb hd hp rfl ho k) k
theorem look_out (ps : List (Int × Int)) (dflt k : Int) (hall : ∀ q ∈ ps, k ≠ q.1) : Op.lookupswitch.offset ps dflt k = dflt := by
  induction ps with
  | nil => rfl
  | cons q ps ih =>
    rw [Op.lookupswitch.offset_cons, ih (fun z hz => hall z (List.mem_cons_of_mem _ hz))]
    have := hall q List.mem_cons_self
    simp
    intro e
    exact absurd e (by first | exact this | exact fun z => this z.symm)
theorem g_lookOut {dflt : Int} {ps : Array (Int × Int)} {len : Nat} {a : Int32} (tgt : Nat) (hd : decode cc pc = .ok (.lookupswitch dflt ps, len)) (hp : (ps.toList.zip (ps.toList.drop 1)).all (fun (a, next) => a.1 < next.1) = true) (hall : ∀ q ∈ ps.toList, ¬ a = Int32.ofInt q.1) (ht : (pc : Int) + dflt = (tgt : Int)) (k : G y cc mL ret fr lo tgt lv stk h r h') : G y cc mL ret fr lo pc lv (.int a :: stk) h r h' :=
  g_pure (fun hx hb _ _ _ k => lv_lookup hx hb hd hp (look_out _ _ _ (fun q hq e => hall q hq (by rw [← e]; exact (Int32.ofInt_toInt a).symm))) ht k) k
theorem g_ldcS {index : Nat} {tx : String} (i : Nat) (hd : decode cc pc = .ok (.ldc index, 2)) (hi : strK[i]? = some (y.cls, index, tx)) (k : G y cc mL ret fr lo (pc + 2) lv (.ref (1000 + i) :: stk) h r h') : G y cc mL ret fr lo pc lv stk h r h' :=
  ⟨k.1, k.2.1, fun l p e R s m args below meth c dC dI dA ad0 n0 s0 A Qc C q f1 f2 f3 f4 ad H locs ls S => by
    have e1 : ad (1000 + i) = ad0 (1000 + i) := S.2.2.2.2.1 _ (Or.inr (Nat.le_trans S.2.2.2.2.2.2.2.1 (by omega)))
    exact va_ldcS C.1 C.2.1 C.2.2.2.2.2.1 (by rw [e1]; exact C.2.2.2.2.2.2.2.2.2.1.2.1 i _ hi) hd (k.2.2 l p e R s m args below meth c dC dI dA ad0 n0 s0 A Qc C q f1 f2 f3 f4 ad H locs ls S)⟩
end
end
section
/-! names of the methods, and the words that their calls and fields need: printed by wip/gen/gen_all.py -/
def y_Q_new : MethodName := ⟨"QuotaLaws", "<init>", "()V"⟩
def y_Reader_new : MethodName := ⟨"QuotaLaws$Reader", "<init>", "()V"⟩
def y_Realm_new : MethodName := ⟨"QuotaLaws$Realm", "<init>", "()V"⟩
def y_Sightings_new : MethodName := ⟨"QuotaLaws$Sightings", "<init>", "()V"⟩
def y_Planner_new : MethodName := ⟨"QuotaLaws$Planner", "<init>", "()V"⟩
def y_Tables_new : MethodName := ⟨"QuotaLaws$Tables", "<init>", "()V"⟩
def y_Odds_new : MethodName := ⟨"QuotaLaws$Odds", "<init>", "()V"⟩
def y_Sheet_new : MethodName := ⟨"QuotaLaws$Sheet", "<init>", "()V"⟩
def y_Q_feed : MethodName := ⟨"QuotaLaws", "feed", "(I)I"⟩
def y_Q_isWithin : MethodName := ⟨"QuotaLaws", "isWithin", "(III)Z"⟩
def y_Reader_append : MethodName := ⟨"QuotaLaws$Reader", "append", "(I)Z"⟩
def y_Q_end : MethodName := ⟨"QuotaLaws", "end", "(I)I"⟩
def y_Q_text : MethodName := ⟨"QuotaLaws", "text", "()I"⟩
def y_Reader_readInto : MethodName := ⟨"QuotaLaws$Reader", "readInto", "(LQuotaLaws$Realm;)Z"⟩
def y_Realm_empty : MethodName := ⟨"QuotaLaws$Realm", "empty", "()V"⟩
def y_Arrays_fillI : MethodName := ⟨"java/util/Arrays", "fill", "([II)V"⟩
def y_Reader_takeToken : MethodName := ⟨"QuotaLaws$Reader", "takeToken", "()Z"⟩
def y_Reader_passRun : MethodName := ⟨"QuotaLaws$Reader", "passRun", "(II)V"⟩
def y_Reader_kindHere : MethodName := ⟨"QuotaLaws$Reader", "kindHere", "()I"⟩
def y_Reader_valueOfRun : MethodName := ⟨"QuotaLaws$Reader", "valueOfRun", "()I"⟩
def y_Reader_fail : MethodName := ⟨"QuotaLaws$Reader", "fail", "(II)Z"⟩
def y_Reader_takeLine : MethodName := ⟨"QuotaLaws$Reader", "takeLine", "(LQuotaLaws$Realm;)Z"⟩
def y_Reader_isWord : MethodName := ⟨"QuotaLaws$Reader", "isWord", "(Ljava/lang/String;)Z"⟩
def y_String_length : MethodName := ⟨"java/lang/String", "length", "()I"⟩
def y_String_coder : MethodName := ⟨"java/lang/String", "coder", "()B"⟩
def y_String_charAt : MethodName := ⟨"java/lang/String", "charAt", "(I)C"⟩
def y_String_isLatin1 : MethodName := ⟨"java/lang/String", "isLatin1", "()Z"⟩
def y_StringLatin1_charAt : MethodName := ⟨"java/lang/StringLatin1", "charAt", "([BI)C"⟩
def y_String_checkIndex : MethodName := ⟨"java/lang/String", "checkIndex", "(II)V"⟩
def y_Preconditions_checkIndex : MethodName := ⟨"jdk/internal/util/Preconditions", "checkIndex", "(IILjava/util/function/BiFunction;)I"⟩
def y_StringUTF16_charAt : MethodName := ⟨"java/lang/StringUTF16", "charAt", "([BI)C"⟩
def y_StringUTF16_checkIndex : MethodName := ⟨"java/lang/StringUTF16", "checkIndex", "(I[B)V"⟩
def y_StringUTF16_length : MethodName := ⟨"java/lang/StringUTF16", "length", "([B)I"⟩
def y_StringUTF16_getChar : MethodName := ⟨"java/lang/StringUTF16", "getChar", "([BI)C"⟩
def y_Reader_takeLaw : MethodName := ⟨"QuotaLaws$Reader", "takeLaw", "(LQuotaLaws$Realm;I)Z"⟩
def y_Reader_takeNumber : MethodName := ⟨"QuotaLaws$Reader", "takeNumber", "(II)Z"⟩
def y_Reader_isBounded : MethodName := ⟨"QuotaLaws$Reader", "isBounded", "(II)Z"⟩
def y_Reader_putInto : MethodName := ⟨"QuotaLaws$Reader", "putInto", "([II)Z"⟩
def y_Reader_takeCarried : MethodName := ⟨"QuotaLaws$Reader", "takeCarried", "(LQuotaLaws$Realm;I)Z"⟩
def y_Reader_isStop : MethodName := ⟨"QuotaLaws$Reader", "isStop", "()Z"⟩
def y_Reader_takeOne : MethodName := ⟨"QuotaLaws$Reader", "takeOne", "(LQuotaLaws$Realm;I)Z"⟩
def y_Reader_addLaw : MethodName := ⟨"QuotaLaws$Reader", "addLaw", "([II)Z"⟩
def y_Q_hasBit : MethodName := ⟨"QuotaLaws", "hasBit", "(II)Z"⟩
def y_Reader_takeWant : MethodName := ⟨"QuotaLaws$Reader", "takeWant", "(LQuotaLaws$Realm;)Z"⟩
def y_Reader_takeWatch : MethodName := ⟨"QuotaLaws$Reader", "takeWatch", "(LQuotaLaws$Realm;)Z"⟩
def y_Reader_allThere : MethodName := ⟨"QuotaLaws$Reader", "allThere", "(LQuotaLaws$Realm;)Z"⟩
def y_Q_isPart : MethodName := ⟨"QuotaLaws", "isPart", "(II)Z"⟩
def y_Realm_hasLaw : MethodName := ⟨"QuotaLaws$Realm", "hasLaw", "(I)Z"⟩
def y_Realm_hasOne : MethodName := ⟨"QuotaLaws$Realm", "hasOne", "(I)Z"⟩
def y_Realm_copyFrom : MethodName := ⟨"QuotaLaws$Realm", "copyFrom", "(LQuotaLaws$Realm;)V"⟩
def y_Sightings_copyFrom : MethodName := ⟨"QuotaLaws$Sightings", "copyFrom", "(LQuotaLaws$Sightings;)V"⟩
def y_Q_fault : MethodName := ⟨"QuotaLaws", "fault", "()I"⟩
def y_Q_rule : MethodName := ⟨"QuotaLaws", "rule", "(I)I"⟩
def y_Q_law : MethodName := ⟨"QuotaLaws", "law", "(II)I"⟩
def y_Realm_needOf : MethodName := ⟨"QuotaLaws$Realm", "needOf", "(I)I"⟩
def y_Realm_brokenBy : MethodName := ⟨"QuotaLaws$Realm", "brokenBy", "(II)I"⟩
def y_Realm_chainOf : MethodName := ⟨"QuotaLaws$Realm", "chainOf", "(I)I"⟩
def y_Q_one : MethodName := ⟨"QuotaLaws", "one", "(II)I"⟩
def y_Realm_brokenByOne : MethodName := ⟨"QuotaLaws$Realm", "brokenByOne", "(I)I"⟩
def y_Realm_breakable : MethodName := ⟨"QuotaLaws$Realm", "breakable", "(I)I"⟩
def y_Realm_ableAlone : MethodName := ⟨"QuotaLaws$Realm", "ableAlone", "(II)I"⟩
def y_Realm_roomOf : MethodName := ⟨"QuotaLaws$Realm", "roomOf", "(II)I"⟩
def y_Realm_timeLeft : MethodName := ⟨"QuotaLaws$Realm", "timeLeft", "(I)I"⟩
def y_Q_broken : MethodName := ⟨"QuotaLaws", "broken", "(II)I"⟩
def y_Realm_hasBoth : MethodName := ⟨"QuotaLaws$Realm", "hasBoth", "(II)Z"⟩
def y_Q_quota : MethodName := ⟨"QuotaLaws", "quota", "(II)I"⟩
def y_Q_carry : MethodName := ⟨"QuotaLaws", "carry", "(II)I"⟩
def y_Q_watch : MethodName := ⟨"QuotaLaws", "watch", "(IZ)I"⟩
def y_Q_bitOf : MethodName := ⟨"QuotaLaws", "bitOf", "(II)I"⟩
def y_Q_withBit : MethodName := ⟨"QuotaLaws", "withBit", "(IIZ)I"⟩
def y_Q_time : MethodName := ⟨"QuotaLaws", "time", "(II)I"⟩
def y_Q_refuse : MethodName := ⟨"QuotaLaws", "refuse", "(IIZ)I"⟩
def y_Q_want : MethodName := ⟨"QuotaLaws", "want", "(IIZ)I"⟩
def y_Q_fund : MethodName := ⟨"QuotaLaws", "fund", "(II)I"⟩
def y_Q_revive : MethodName := ⟨"QuotaLaws", "revive", "(I)I"⟩
def y_Integer_bitCount : MethodName := ⟨"java/lang/Integer", "bitCount", "(I)I"⟩
def y_Q_breaks : MethodName := ⟨"QuotaLaws", "breaks", "(II)I"⟩
def y_Realm_breakOnce : MethodName := ⟨"QuotaLaws$Realm", "breakOnce", "(II)I"⟩
def y_Realm_mark : MethodName := ⟨"QuotaLaws$Realm", "mark", "(II)I"⟩
def y_Q_year : MethodName := ⟨"QuotaLaws", "year", "()I"⟩
def y_Realm_endYear : MethodName := ⟨"QuotaLaws$Realm", "endYear", "()I"⟩
def y_Realm_lapsing : MethodName := ⟨"QuotaLaws$Realm", "lapsing", "()I"⟩
def y_Q_falls : MethodName := ⟨"QuotaLaws", "falls", "()I"⟩
def y_Q_most : MethodName := ⟨"QuotaLaws", "most", "(I)I"⟩
def y_Q_rota : MethodName := ⟨"QuotaLaws", "rota", "(I)I"⟩
def y_Planner_load : MethodName := ⟨"QuotaLaws$Planner", "load", "(LQuotaLaws$Realm;)V"⟩
def y_Planner_leastHarm : MethodName := ⟨"QuotaLaws$Planner", "leastHarm", "()I"⟩
def y_Planner_leftToLast : MethodName := ⟨"QuotaLaws$Planner", "leftToLast", "(III)I"⟩
def y_Planner_stateOf : MethodName := ⟨"QuotaLaws$Planner", "stateOf", "(III)I"⟩
def y_Planner_search : MethodName := ⟨"QuotaLaws$Planner", "search", "(III)I"⟩
def y_Planner_timesInFirst : MethodName := ⟨"QuotaLaws$Planner", "timesInFirst", "(II)I"⟩
def y_Q_more : MethodName := ⟨"QuotaLaws", "more", "(I)I"⟩
def y_Planner_grant : MethodName := ⟨"QuotaLaws$Planner", "grant", "(II)V"⟩
def y_Planner_canMeet : MethodName := ⟨"QuotaLaws$Planner", "canMeet", "(I)Z"⟩
def y_Planner_needOfAll : MethodName := ⟨"QuotaLaws$Planner", "needOfAll", "(I)I"⟩
def y_Planner_givenTo : MethodName := ⟨"QuotaLaws$Planner", "givenTo", "(I)I"⟩
def y_Q_together : MethodName := ⟨"QuotaLaws", "together", "(I)I"⟩
def y_Q_kill : MethodName := ⟨"QuotaLaws", "kill", "(II)I"⟩
def y_Realm_ableWithout : MethodName := ⟨"QuotaLaws$Realm", "ableWithout", "(II)I"⟩
def y_Q_selfish : MethodName := ⟨"QuotaLaws", "selfish", "(I)I"⟩
def y_Realm_eachForHimself : MethodName := ⟨"QuotaLaws$Realm", "eachForHimself", "()I"⟩
def y_Realm_mostNeeded : MethodName := ⟨"QuotaLaws$Realm", "mostNeeded", "(I)I"⟩
def y_Realm_met : MethodName := ⟨"QuotaLaws$Realm", "met", "()I"⟩
def y_Q_luck : MethodName := ⟨"QuotaLaws", "luck", "(II)J"⟩
def y_Odds_weigh : MethodName := ⟨"QuotaLaws$Odds", "weigh", "(LQuotaLaws$Realm;I)V"⟩
def y_Arrays_fillJ : MethodName := ⟨"java/util/Arrays", "fill", "([JJ)V"⟩
def y_Odds_addTry : MethodName := ⟨"QuotaLaws$Odds", "addTry", "(I)V"⟩
def y_Odds_reduce : MethodName := ⟨"QuotaLaws$Odds", "reduce", "()V"⟩
def y_Q_see : MethodName := ⟨"QuotaLaws", "see", "(III)I"⟩
def y_Sightings_append : MethodName := ⟨"QuotaLaws$Sightings", "append", "(III)Z"⟩
def y_Q_forget : MethodName := ⟨"QuotaLaws", "forget", "(I)I"⟩
def y_Q_books : MethodName := ⟨"QuotaLaws", "books", "()J"⟩
def y_Tables_load : MethodName := ⟨"QuotaLaws$Tables", "load", "(LQuotaLaws$Realm;)V"⟩
def y_Sightings_sumDue : MethodName := ⟨"QuotaLaws$Sightings", "sumDue", "(II)I"⟩
def y_Tables_fitting : MethodName := ⟨"QuotaLaws$Tables", "fitting", "()J"⟩
def y_Tables_spendAlone : MethodName := ⟨"QuotaLaws$Tables", "spendAlone", "(II)V"⟩
def y_Tables_joinAll : MethodName := ⟨"QuotaLaws$Tables", "joinAll", "()V"⟩
def y_Tables_stateOf : MethodName := ⟨"QuotaLaws$Tables", "stateOf", "(III)I"⟩
def y_Tables_spendTogether : MethodName := ⟨"QuotaLaws$Tables", "spendTogether", "(I)V"⟩
def y_Tables_waysTo : MethodName := ⟨"QuotaLaws$Tables", "waysTo", "(IIII)J"⟩
def y_Tables_sumOfDue : MethodName := ⟨"QuotaLaws$Tables", "sumOfDue", "()J"⟩
def y_Tables_isDueOf : MethodName := ⟨"QuotaLaws$Tables", "isDueOf", "(II)Z"⟩
def y_Q_entry : MethodName := ⟨"QuotaLaws", "entry", "(III)I"⟩
def y_Tables_firstThatFits : MethodName := ⟨"QuotaLaws$Tables", "firstThatFits", "(IIZ)I"⟩
def y_Q_wild : MethodName := ⟨"QuotaLaws", "wild", "(III)I"⟩
def y_Realm_breakBySeed : MethodName := ⟨"QuotaLaws$Realm", "breakBySeed", "(II)I"⟩
def y_Realm_nextSeed : MethodName := ⟨"QuotaLaws$Realm", "nextSeed", "(I)I"⟩
def y_Realm_drawn : MethodName := ⟨"QuotaLaws$Realm", "drawn", "(I)I"⟩
def y_Q_keep : MethodName := ⟨"QuotaLaws", "keep", "(I)I"⟩
def y_Q_back : MethodName := ⟨"QuotaLaws", "back", "(I)I"⟩
def y_Q_sheet : MethodName := ⟨"QuotaLaws", "sheet", "(III)I"⟩
def y_Sheet_renew : MethodName := ⟨"QuotaLaws$Sheet", "renew", "(II)V"⟩
def y_Q_lay : MethodName := ⟨"QuotaLaws", "lay", "(III)I"⟩
def y_Sheet_faultAt : MethodName := ⟨"QuotaLaws$Sheet", "faultAt", "(J)I"⟩
def y_Sheet_put : MethodName := ⟨"QuotaLaws$Sheet", "put", "(II)V"⟩
def y_Q_read : MethodName := ⟨"QuotaLaws", "read", "(IIII)I"⟩
def y_Sheet_faultAs : MethodName := ⟨"QuotaLaws$Sheet", "faultAs", "(I)I"⟩
def y_Sheet_faultOfPair : MethodName := ⟨"QuotaLaws$Sheet", "faultOfPair", "(J)I"⟩
def y_Sheet_cellAt : MethodName := ⟨"QuotaLaws$Sheet", "cellAt", "(J)I"⟩
def y_Q_torn : MethodName := ⟨"QuotaLaws", "torn", "()I"⟩
def y_Q_count : MethodName := ⟨"QuotaLaws", "count", "(I)I"⟩
def y_Realm_brokenInAll : MethodName := ⟨"QuotaLaws$Realm", "brokenInAll", "()I"⟩
def y_Q_countKept : MethodName := ⟨"QuotaLaws", "countKept", "()I"⟩
def y_Realm_allPurses : MethodName := ⟨"QuotaLaws$Realm", "allPurses", "()I"⟩
def y_Realm_allNeed : MethodName := ⟨"QuotaLaws$Realm", "allNeed", "()I"⟩
def y_M_new : MethodName := ⟨"QuotaLawsModel", "<init>", "()V"⟩
def y_M_firstDraft : MethodName := ⟨"QuotaLawsModel", "firstDraft", "()V"⟩
def y_M_keepDraft : MethodName := ⟨"QuotaLawsModel", "keepDraft", "()V"⟩
def y_M_feed : MethodName := ⟨"QuotaLawsModel", "feed", "(I)I"⟩
def y_M_in : MethodName := ⟨"QuotaLawsModel", "in", "(JJJ)Z"⟩
def y_M_end : MethodName := ⟨"QuotaLawsModel", "end", "(I)I"⟩
def y_M_text : MethodName := ⟨"QuotaLawsModel", "text", "()I"⟩
def y_M_next : MethodName := ⟨"QuotaLawsModel", "next", "()V"⟩
def y_M_look : MethodName := ⟨"QuotaLawsModel", "look", "(I)I"⟩
def y_M_needs : MethodName := ⟨"QuotaLawsModel", "needs", "(ZI)V"⟩
def y_M_readLine : MethodName := ⟨"QuotaLawsModel", "readLine", "()V"⟩
def y_M_lineNow : MethodName := ⟨"QuotaLawsModel", "lineNow", "()I"⟩
def y_M_is : MethodName := ⟨"QuotaLawsModel", "is", "(IIII)Z"⟩
def y_M_readLineOf : MethodName := ⟨"QuotaLawsModel", "readLineOf", "(I)V"⟩
def y_M_readLaw : MethodName := ⟨"QuotaLawsModel", "readLaw", "()V"⟩
def y_M_readNumber : MethodName := ⟨"QuotaLawsModel", "readNumber", "(II)I"⟩
def y_M_looked : MethodName := ⟨"QuotaLawsModel", "looked", "(II)I"⟩
def y_M_readLawOf : MethodName := ⟨"QuotaLawsModel", "readLawOf", "(I)I"⟩
def y_M_readOne : MethodName := ⟨"QuotaLawsModel", "readOne", "()V"⟩
def y_M_fault : MethodName := ⟨"QuotaLawsModel", "fault", "()I"⟩
def y_M_rule : MethodName := ⟨"QuotaLawsModel", "rule", "(I)I"⟩
def y_M_law : MethodName := ⟨"QuotaLawsModel", "law", "(II)I"⟩
def y_M_isLaw : MethodName := ⟨"QuotaLawsModel", "isLaw", "(I)Z"⟩
def y_M_needOf : MethodName := ⟨"QuotaLawsModel", "needOf", "(I)I"⟩
def y_M_doesStand : MethodName := ⟨"QuotaLawsModel", "doesStand", "(I)Z"⟩
def y_M_brokenBy : MethodName := ⟨"QuotaLawsModel", "brokenBy", "(II)I"⟩
def y_M_chainOf : MethodName := ⟨"QuotaLawsModel", "chainOf", "(I)I"⟩
def y_M_one : MethodName := ⟨"QuotaLawsModel", "one", "(II)I"⟩
def y_M_isOne : MethodName := ⟨"QuotaLawsModel", "isOne", "(I)Z"⟩
def y_M_canBreak : MethodName := ⟨"QuotaLawsModel", "canBreak", "(II)Z"⟩
def y_M_roomOf : MethodName := ⟨"QuotaLawsModel", "roomOf", "(II)I"⟩
def y_M_timeLeft : MethodName := ⟨"QuotaLawsModel", "timeLeft", "(I)I"⟩
def y_M_allBy : MethodName := ⟨"QuotaLawsModel", "allBy", "(I)I"⟩
def y_M_flag : MethodName := ⟨"QuotaLawsModel", "flag", "(Z)I"⟩
def y_M_broken : MethodName := ⟨"QuotaLawsModel", "broken", "(II)I"⟩
def y_M_quota : MethodName := ⟨"QuotaLawsModel", "quota", "(II)I"⟩
def y_M_becomes : MethodName := ⟨"QuotaLawsModel", "becomes", "(II)I"⟩
def y_M_carry : MethodName := ⟨"QuotaLawsModel", "carry", "(II)I"⟩
def y_M_watch : MethodName := ⟨"QuotaLawsModel", "watch", "(IZ)I"⟩
def y_M_becomesBit : MethodName := ⟨"QuotaLawsModel", "becomesBit", "(IIZ)I"⟩
def y_M_time : MethodName := ⟨"QuotaLawsModel", "time", "(II)I"⟩
def y_M_refuse : MethodName := ⟨"QuotaLawsModel", "refuse", "(IIZ)I"⟩
def y_M_want : MethodName := ⟨"QuotaLawsModel", "want", "(IIZ)I"⟩
def y_M_fund : MethodName := ⟨"QuotaLawsModel", "fund", "(II)I"⟩
def y_M_revive : MethodName := ⟨"QuotaLawsModel", "revive", "(I)I"⟩
def y_M_bitsOf : MethodName := ⟨"QuotaLawsModel", "bitsOf", "(I)I"⟩
def y_M_breaks : MethodName := ⟨"QuotaLawsModel", "breaks", "(II)I"⟩
def y_M_year : MethodName := ⟨"QuotaLawsModel", "year", "()I"⟩
def y_M_fallsNow : MethodName := ⟨"QuotaLawsModel", "fallsNow", "()I"⟩
def y_M_falls : MethodName := ⟨"QuotaLawsModel", "falls", "()I"⟩
def y_M_most : MethodName := ⟨"QuotaLawsModel", "most", "(I)I"⟩
def y_M_rota : MethodName := ⟨"QuotaLawsModel", "rota", "(I)I"⟩
def y_M_startsRota : MethodName := ⟨"QuotaLawsModel", "startsRota", "(I)V"⟩
def y_M_findRota : MethodName := ⟨"QuotaLawsModel", "findRota", "()I"⟩
def y_M_at : MethodName := ⟨"QuotaLawsModel", "at", "(IIII)I"⟩
def y_M_leastOf : MethodName := ⟨"QuotaLawsModel", "leastOf", "(IIII)I"⟩
def y_M_harmBy : MethodName := ⟨"QuotaLawsModel", "harmBy", "(IIIIIII)I"⟩
def y_M_roomAt : MethodName := ⟨"QuotaLawsModel", "roomAt", "(II)I"⟩
def y_M_sharesOf : MethodName := ⟨"QuotaLawsModel", "sharesOf", "(IIII)V"⟩
def y_M_more : MethodName := ⟨"QuotaLawsModel", "more", "(I)I"⟩
def y_M_together : MethodName := ⟨"QuotaLawsModel", "together", "(I)I"⟩
def y_M_kill : MethodName := ⟨"QuotaLawsModel", "kill", "(II)I"⟩
def y_M_triesOf : MethodName := ⟨"QuotaLawsModel", "triesOf", "(II)I"⟩
def y_M_selfish : MethodName := ⟨"QuotaLawsModel", "selfish", "(I)I"⟩
def y_M_saves : MethodName := ⟨"QuotaLawsModel", "saves", "()V"⟩
def y_M_wantedBy : MethodName := ⟨"QuotaLawsModel", "wantedBy", "(I)I"⟩
def y_M_returns : MethodName := ⟨"QuotaLawsModel", "returns", "()V"⟩
def y_M_luck : MethodName := ⟨"QuotaLawsModel", "luck", "(II)J"⟩
def y_M_common : MethodName := ⟨"QuotaLawsModel", "common", "(JJ)J"⟩
def y_M_see : MethodName := ⟨"QuotaLawsModel", "see", "(III)I"⟩
def y_M_forget : MethodName := ⟨"QuotaLawsModel", "forget", "(I)I"⟩
def y_M_books : MethodName := ⟨"QuotaLawsModel", "books", "()J"⟩
def y_M_tablesBy : MethodName := ⟨"QuotaLawsModel", "tablesBy", "(III)J"⟩
def y_M_addsLaw : MethodName := ⟨"QuotaLawsModel", "addsLaw", "(IIII)V"⟩
def y_M_mostOf : MethodName := ⟨"QuotaLawsModel", "mostOf", "(II)I"⟩
def y_M_isSo : MethodName := ⟨"QuotaLawsModel", "isSo", "(III)Z"⟩
def y_M_isAsked : MethodName := ⟨"QuotaLawsModel", "isAsked", "(IIIIII)Z"⟩
def y_M_addsTables : MethodName := ⟨"QuotaLawsModel", "addsTables", "(III)V"⟩
def y_M_isTime : MethodName := ⟨"QuotaLawsModel", "isTime", "(II)Z"⟩
def y_M_entry : MethodName := ⟨"QuotaLawsModel", "entry", "(III)I"⟩
def y_M_wild : MethodName := ⟨"QuotaLawsModel", "wild", "(III)I"⟩
def y_M_keep : MethodName := ⟨"QuotaLawsModel", "keep", "(I)I"⟩
def y_M_copies : MethodName := ⟨"QuotaLawsModel", "copies", "(II)V"⟩
def y_M_back : MethodName := ⟨"QuotaLawsModel", "back", "(I)I"⟩
def y_M_sheet : MethodName := ⟨"QuotaLawsModel", "sheet", "(III)I"⟩
def y_M_isSheet : MethodName := ⟨"QuotaLawsModel", "isSheet", "(II)Z"⟩
def y_M_lay : MethodName := ⟨"QuotaLawsModel", "lay", "(III)I"⟩
def y_M_read : MethodName := ⟨"QuotaLawsModel", "read", "(IIII)I"⟩
def y_M_torn : MethodName := ⟨"QuotaLawsModel", "torn", "()I"⟩
def y_M_count : MethodName := ⟨"QuotaLawsModel", "count", "(I)I"⟩
theorem wd_1 : (.initialized "QuotaLaws" : Cond) ∈ tbg := tbg_in2 1 (by decide +kernel) rfl
theorem wd_2 : (.initialized "QuotaLaws$Reader" : Cond) ∈ tbg := tbg_in2 2 (by decide +kernel) rfl
theorem wd_3 : (.initialized "QuotaLaws$Realm" : Cond) ∈ tbg := tbg_in2 3 (by decide +kernel) rfl
theorem wd_4 : (.initialized "QuotaLaws$Sightings" : Cond) ∈ tbg := tbg_in2 4 (by decide +kernel) rfl
theorem wd_5 : (.initialized "QuotaLaws$Planner" : Cond) ∈ tbg := tbg_in2 5 (by decide +kernel) rfl
theorem wd_6 : (.initialized "QuotaLaws$Tables" : Cond) ∈ tbg := tbg_in2 6 (by decide +kernel) rfl
theorem wd_7 : (.initialized "QuotaLaws$Odds" : Cond) ∈ tbg := tbg_in2 7 (by decide +kernel) rfl
theorem wd_8 : (.initialized "QuotaLaws$Sheet" : Cond) ∈ tbg := tbg_in2 8 (by decide +kernel) rfl
theorem wd_9 : (.initialized "QuotaLawsModel" : Cond) ∈ tbg := tbg_in2 9 (by decide +kernel) rfl
theorem wd_10 : (.initialized "java/util/Arrays" : Cond) ∈ tbg := tbg_in2 10 (by decide +kernel) rfl
theorem wd_11 : (.initialized "java/lang/String" : Cond) ∈ tbg := tbg_in2 11 (by decide +kernel) rfl
theorem wd_12 : (.initialized "java/lang/StringLatin1" : Cond) ∈ tbg := tbg_in2 12 (by decide +kernel) rfl
theorem wd_13 : (.initialized "jdk/internal/util/Preconditions" : Cond) ∈ tbg := tbg_in2 13 (by decide +kernel) rfl
theorem wd_15 : (.initialized "java/lang/System" : Cond) ∈ tbg := tbg_in2 15 (by decide +kernel) rfl
theorem wd_16 : (.initialized "java/lang/Math" : Cond) ∈ tbg := tbg_in2 16 (by decide +kernel) rfl
theorem wd_17 : (.initialized "java/lang/Integer" : Cond) ∈ tbg := tbg_in2 17 (by decide +kernel) rfl
theorem wd_32 : (.fieldLink "QuotaLaws$Reader" 9 "QuotaLaws$Reader" "tape" "[B" : Cond) ∈ tbg := tbg_in2 32 (by decide +kernel) rfl
theorem wd_33 : (.fieldLink "QuotaLaws$Reader" 15 "QuotaLaws$Reader" "length" "I" : Cond) ∈ tbg := tbg_in2 33 (by decide +kernel) rfl
theorem wd_34 : (.fieldLink "QuotaLaws" 70 "QuotaLaws$Reader" "length" "I" : Cond) ∈ tbg := tbg_in2 34 (by decide +kernel) rfl
theorem wd_35 : (.fieldLink "QuotaLaws$Reader" 24 "QuotaLaws$Reader" "fault" "I" : Cond) ∈ tbg := tbg_in2 35 (by decide +kernel) rfl
theorem wd_36 : (.fieldLink "QuotaLaws" 88 "QuotaLaws$Reader" "fault" "I" : Cond) ∈ tbg := tbg_in2 36 (by decide +kernel) rfl
theorem wd_37 : (.fieldLink "QuotaLaws$Reader" 27 "QuotaLaws$Reader" "faultPlace" "I" : Cond) ∈ tbg := tbg_in2 37 (by decide +kernel) rfl
theorem wd_38 : (.fieldLink "QuotaLaws" 78 "QuotaLaws$Reader" "faultPlace" "I" : Cond) ∈ tbg := tbg_in2 38 (by decide +kernel) rfl
theorem wd_39 : (.fieldLink "QuotaLaws$Reader" 30 "QuotaLaws$Reader" "lines" "I" : Cond) ∈ tbg := tbg_in2 39 (by decide +kernel) rfl
theorem wd_40 : (.fieldLink "QuotaLaws" 85 "QuotaLaws$Reader" "lines" "I" : Cond) ∈ tbg := tbg_in2 40 (by decide +kernel) rfl
theorem wd_41 : (.fieldLink "QuotaLaws$Reader" 33 "QuotaLaws$Reader" "place" "I" : Cond) ∈ tbg := tbg_in2 41 (by decide +kernel) rfl
theorem wd_42 : (.fieldLink "QuotaLaws$Reader" 40 "QuotaLaws$Reader" "kind" "I" : Cond) ∈ tbg := tbg_in2 42 (by decide +kernel) rfl
theorem wd_43 : (.fieldLink "QuotaLaws$Reader" 85 "QuotaLaws$Reader" "start" "I" : Cond) ∈ tbg := tbg_in2 43 (by decide +kernel) rfl
theorem wd_44 : (.fieldLink "QuotaLaws$Reader" 123 "QuotaLaws$Reader" "value" "I" : Cond) ∈ tbg := tbg_in2 44 (by decide +kernel) rfl
theorem wd_77 : (.fieldLink "QuotaLaws$Sightings" 21 "QuotaLaws$Sightings" "size" "I" : Cond) ∈ tbg := tbg_in2 77 (by decide +kernel) rfl
theorem wd_78 : (.fieldLink "QuotaLaws$Realm" 74 "QuotaLaws$Sightings" "size" "I" : Cond) ∈ tbg := tbg_in2 78 (by decide +kernel) rfl
theorem wd_79 : (.fieldLink "QuotaLaws" 244 "QuotaLaws$Sightings" "size" "I" : Cond) ∈ tbg := tbg_in2 79 (by decide +kernel) rfl
theorem wd_80 : (.fieldLink "QuotaLaws$Sightings" 9 "QuotaLaws$Sightings" "kinds" "[I" : Cond) ∈ tbg := tbg_in2 80 (by decide +kernel) rfl
theorem wd_81 : (.fieldLink "QuotaLaws$Sightings" 15 "QuotaLaws$Sightings" "whose" "[I" : Cond) ∈ tbg := tbg_in2 81 (by decide +kernel) rfl
theorem wd_82 : (.fieldLink "QuotaLaws$Sightings" 18 "QuotaLaws$Sightings" "times" "[I" : Cond) ∈ tbg := tbg_in2 82 (by decide +kernel) rfl
theorem wd_93 : (.fieldLink "QuotaLaws$Realm" 55 "QuotaLaws$Realm" "laws" "I" : Cond) ∈ tbg := tbg_in2 93 (by decide +kernel) rfl
theorem wd_94 : (.fieldLink "QuotaLaws$Planner" 33 "QuotaLaws$Realm" "laws" "I" : Cond) ∈ tbg := tbg_in2 94 (by decide +kernel) rfl
theorem wd_95 : (.fieldLink "QuotaLaws$Tables" 34 "QuotaLaws$Realm" "laws" "I" : Cond) ∈ tbg := tbg_in2 95 (by decide +kernel) rfl
theorem wd_96 : (.fieldLink "QuotaLaws$Reader" 60 "QuotaLaws$Realm" "laws" "I" : Cond) ∈ tbg := tbg_in2 96 (by decide +kernel) rfl
theorem wd_97 : (.fieldLink "QuotaLaws" 91 "QuotaLaws$Realm" "laws" "I" : Cond) ∈ tbg := tbg_in2 97 (by decide +kernel) rfl
theorem wd_98 : (.fieldLink "QuotaLaws$Realm" 59 "QuotaLaws$Realm" "people" "I" : Cond) ∈ tbg := tbg_in2 98 (by decide +kernel) rfl
theorem wd_99 : (.fieldLink "QuotaLaws$Odds" 25 "QuotaLaws$Realm" "people" "I" : Cond) ∈ tbg := tbg_in2 99 (by decide +kernel) rfl
theorem wd_100 : (.fieldLink "QuotaLaws$Planner" 57 "QuotaLaws$Realm" "people" "I" : Cond) ∈ tbg := tbg_in2 100 (by decide +kernel) rfl
theorem wd_101 : (.fieldLink "QuotaLaws$Reader" 69 "QuotaLaws$Realm" "people" "I" : Cond) ∈ tbg := tbg_in2 101 (by decide +kernel) rfl
theorem wd_102 : (.fieldLink "QuotaLaws" 94 "QuotaLaws$Realm" "people" "I" : Cond) ∈ tbg := tbg_in2 102 (by decide +kernel) rfl
theorem wd_103 : (.fieldLink "QuotaLaws$Realm" 62 "QuotaLaws$Realm" "year" "I" : Cond) ∈ tbg := tbg_in2 103 (by decide +kernel) rfl
theorem wd_104 : (.fieldLink "QuotaLaws" 97 "QuotaLaws$Realm" "year" "I" : Cond) ∈ tbg := tbg_in2 104 (by decide +kernel) rfl
theorem wd_105 : (.fieldLink "QuotaLaws$Realm" 65 "QuotaLaws$Realm" "done" "I" : Cond) ∈ tbg := tbg_in2 105 (by decide +kernel) rfl
theorem wd_106 : (.fieldLink "QuotaLaws" 100 "QuotaLaws$Realm" "done" "I" : Cond) ∈ tbg := tbg_in2 106 (by decide +kernel) rfl
theorem wd_107 : (.fieldLink "QuotaLaws$Realm" 68 "QuotaLaws$Realm" "stands" "I" : Cond) ∈ tbg := tbg_in2 107 (by decide +kernel) rfl
theorem wd_108 : (.fieldLink "QuotaLaws$Reader" 92 "QuotaLaws$Realm" "stands" "I" : Cond) ∈ tbg := tbg_in2 108 (by decide +kernel) rfl
theorem wd_109 : (.fieldLink "QuotaLaws" 103 "QuotaLaws$Realm" "stands" "I" : Cond) ∈ tbg := tbg_in2 109 (by decide +kernel) rfl
theorem wd_110 : (.fieldLink "QuotaLaws$Realm" 71 "QuotaLaws$Realm" "watched" "I" : Cond) ∈ tbg := tbg_in2 110 (by decide +kernel) rfl
theorem wd_111 : (.fieldLink "QuotaLaws" 106 "QuotaLaws$Realm" "watched" "I" : Cond) ∈ tbg := tbg_in2 111 (by decide +kernel) rfl
theorem wd_112 : (.fieldLink "QuotaLaws$Reader" 147 "QuotaLaws$Realm" "watched" "I" : Cond) ∈ tbg := tbg_in2 112 (by decide +kernel) rfl
theorem wd_113 : (.fieldLink "QuotaLaws$Realm" 9 "QuotaLaws$Realm" "quota" "[I" : Cond) ∈ tbg := tbg_in2 113 (by decide +kernel) rfl
theorem wd_114 : (.fieldLink "QuotaLaws$Reader" 98 "QuotaLaws$Realm" "quota" "[I" : Cond) ∈ tbg := tbg_in2 114 (by decide +kernel) rfl
theorem wd_115 : (.fieldLink "QuotaLaws" 112 "QuotaLaws$Realm" "quota" "[I" : Cond) ∈ tbg := tbg_in2 115 (by decide +kernel) rfl
theorem wd_116 : (.fieldLink "QuotaLaws$Realm" 15 "QuotaLaws$Realm" "cap" "[I" : Cond) ∈ tbg := tbg_in2 116 (by decide +kernel) rfl
theorem wd_117 : (.fieldLink "QuotaLaws$Tables" 69 "QuotaLaws$Realm" "cap" "[I" : Cond) ∈ tbg := tbg_in2 117 (by decide +kernel) rfl
theorem wd_118 : (.fieldLink "QuotaLaws$Reader" 105 "QuotaLaws$Realm" "cap" "[I" : Cond) ∈ tbg := tbg_in2 118 (by decide +kernel) rfl
theorem wd_119 : (.fieldLink "QuotaLaws" 116 "QuotaLaws$Realm" "cap" "[I" : Cond) ∈ tbg := tbg_in2 119 (by decide +kernel) rfl
theorem wd_120 : (.fieldLink "QuotaLaws$Realm" 18 "QuotaLaws$Realm" "harm" "[I" : Cond) ∈ tbg := tbg_in2 120 (by decide +kernel) rfl
theorem wd_121 : (.fieldLink "QuotaLaws$Planner" 64 "QuotaLaws$Realm" "harm" "[I" : Cond) ∈ tbg := tbg_in2 121 (by decide +kernel) rfl
theorem wd_122 : (.fieldLink "QuotaLaws$Reader" 108 "QuotaLaws$Realm" "harm" "[I" : Cond) ∈ tbg := tbg_in2 122 (by decide +kernel) rfl
theorem wd_123 : (.fieldLink "QuotaLaws" 119 "QuotaLaws$Realm" "harm" "[I" : Cond) ∈ tbg := tbg_in2 123 (by decide +kernel) rfl
theorem wd_124 : (.fieldLink "QuotaLaws$Realm" 21 "QuotaLaws$Realm" "fine" "[I" : Cond) ∈ tbg := tbg_in2 124 (by decide +kernel) rfl
theorem wd_125 : (.fieldLink "QuotaLaws$Reader" 111 "QuotaLaws$Realm" "fine" "[I" : Cond) ∈ tbg := tbg_in2 125 (by decide +kernel) rfl
theorem wd_126 : (.fieldLink "QuotaLaws" 122 "QuotaLaws$Realm" "fine" "[I" : Cond) ∈ tbg := tbg_in2 126 (by decide +kernel) rfl
theorem wd_127 : (.fieldLink "QuotaLaws$Realm" 24 "QuotaLaws$Realm" "carries" "[I" : Cond) ∈ tbg := tbg_in2 127 (by decide +kernel) rfl
theorem wd_128 : (.fieldLink "QuotaLaws$Reader" 88 "QuotaLaws$Realm" "carries" "[I" : Cond) ∈ tbg := tbg_in2 128 (by decide +kernel) rfl
theorem wd_129 : (.fieldLink "QuotaLaws" 125 "QuotaLaws$Realm" "carries" "[I" : Cond) ∈ tbg := tbg_in2 129 (by decide +kernel) rfl
theorem wd_130 : (.fieldLink "QuotaLaws$Realm" 27 "QuotaLaws$Realm" "time" "[I" : Cond) ∈ tbg := tbg_in2 130 (by decide +kernel) rfl
theorem wd_131 : (.fieldLink "QuotaLaws$Tables" 61 "QuotaLaws$Realm" "time" "[I" : Cond) ∈ tbg := tbg_in2 131 (by decide +kernel) rfl
theorem wd_132 : (.fieldLink "QuotaLaws$Reader" 126 "QuotaLaws$Realm" "time" "[I" : Cond) ∈ tbg := tbg_in2 132 (by decide +kernel) rfl
theorem wd_133 : (.fieldLink "QuotaLaws" 138 "QuotaLaws$Realm" "time" "[I" : Cond) ∈ tbg := tbg_in2 133 (by decide +kernel) rfl
theorem wd_134 : (.fieldLink "QuotaLaws$Realm" 30 "QuotaLaws$Realm" "clumsy" "[I" : Cond) ∈ tbg := tbg_in2 134 (by decide +kernel) rfl
theorem wd_135 : (.fieldLink "QuotaLaws$Planner" 65 "QuotaLaws$Realm" "clumsy" "[I" : Cond) ∈ tbg := tbg_in2 135 (by decide +kernel) rfl
theorem wd_136 : (.fieldLink "QuotaLaws$Reader" 129 "QuotaLaws$Realm" "clumsy" "[I" : Cond) ∈ tbg := tbg_in2 136 (by decide +kernel) rfl
theorem wd_137 : (.fieldLink "QuotaLaws" 141 "QuotaLaws$Realm" "clumsy" "[I" : Cond) ∈ tbg := tbg_in2 137 (by decide +kernel) rfl
theorem wd_138 : (.fieldLink "QuotaLaws$Realm" 33 "QuotaLaws$Realm" "nerve" "[I" : Cond) ∈ tbg := tbg_in2 138 (by decide +kernel) rfl
theorem wd_139 : (.fieldLink "QuotaLaws$Odds" 35 "QuotaLaws$Realm" "nerve" "[I" : Cond) ∈ tbg := tbg_in2 139 (by decide +kernel) rfl
theorem wd_140 : (.fieldLink "QuotaLaws$Reader" 132 "QuotaLaws$Realm" "nerve" "[I" : Cond) ∈ tbg := tbg_in2 140 (by decide +kernel) rfl
theorem wd_141 : (.fieldLink "QuotaLaws" 144 "QuotaLaws$Realm" "nerve" "[I" : Cond) ∈ tbg := tbg_in2 141 (by decide +kernel) rfl
theorem wd_142 : (.fieldLink "QuotaLaws$Realm" 36 "QuotaLaws$Realm" "purse" "[I" : Cond) ∈ tbg := tbg_in2 142 (by decide +kernel) rfl
theorem wd_143 : (.fieldLink "QuotaLaws$Reader" 135 "QuotaLaws$Realm" "purse" "[I" : Cond) ∈ tbg := tbg_in2 143 (by decide +kernel) rfl
theorem wd_144 : (.fieldLink "QuotaLaws" 147 "QuotaLaws$Realm" "purse" "[I" : Cond) ∈ tbg := tbg_in2 144 (by decide +kernel) rfl
theorem wd_145 : (.fieldLink "QuotaLaws$Realm" 39 "QuotaLaws$Realm" "refused" "[I" : Cond) ∈ tbg := tbg_in2 145 (by decide +kernel) rfl
theorem wd_146 : (.fieldLink "QuotaLaws$Tables" 62 "QuotaLaws$Realm" "refused" "[I" : Cond) ∈ tbg := tbg_in2 146 (by decide +kernel) rfl
theorem wd_147 : (.fieldLink "QuotaLaws$Reader" 138 "QuotaLaws$Realm" "refused" "[I" : Cond) ∈ tbg := tbg_in2 147 (by decide +kernel) rfl
theorem wd_148 : (.fieldLink "QuotaLaws" 150 "QuotaLaws$Realm" "refused" "[I" : Cond) ∈ tbg := tbg_in2 148 (by decide +kernel) rfl
theorem wd_149 : (.fieldLink "QuotaLaws$Realm" 42 "QuotaLaws$Realm" "wanted" "[I" : Cond) ∈ tbg := tbg_in2 149 (by decide +kernel) rfl
theorem wd_150 : (.fieldLink "QuotaLaws$Reader" 144 "QuotaLaws$Realm" "wanted" "[I" : Cond) ∈ tbg := tbg_in2 150 (by decide +kernel) rfl
theorem wd_151 : (.fieldLink "QuotaLaws" 153 "QuotaLaws$Realm" "wanted" "[I" : Cond) ∈ tbg := tbg_in2 151 (by decide +kernel) rfl
theorem wd_152 : (.fieldLink "QuotaLaws$Realm" 45 "QuotaLaws$Realm" "breakings" "[I" : Cond) ∈ tbg := tbg_in2 152 (by decide +kernel) rfl
theorem wd_153 : (.fieldLink "QuotaLaws$Realm" 51 "QuotaLaws$Realm" "seen" "LQuotaLaws$Sightings;" : Cond) ∈ tbg := tbg_in2 153 (by decide +kernel) rfl
theorem wd_154 : (.fieldLink "QuotaLaws$Tables" 47 "QuotaLaws$Realm" "seen" "LQuotaLaws$Sightings;" : Cond) ∈ tbg := tbg_in2 154 (by decide +kernel) rfl
theorem wd_155 : (.fieldLink "QuotaLaws" 236 "QuotaLaws$Realm" "seen" "LQuotaLaws$Sightings;" : Cond) ∈ tbg := tbg_in2 155 (by decide +kernel) rfl
theorem wd_204 : (.fieldLink "QuotaLaws$Planner" 39 "QuotaLaws$Planner" "laws" "I" : Cond) ∈ tbg := tbg_in2 204 (by decide +kernel) rfl
theorem wd_205 : (.fieldLink "QuotaLaws$Planner" 9 "QuotaLaws$Planner" "left" "[I" : Cond) ∈ tbg := tbg_in2 205 (by decide +kernel) rfl
theorem wd_206 : (.fieldLink "QuotaLaws$Planner" 15 "QuotaLaws$Planner" "need" "[I" : Cond) ∈ tbg := tbg_in2 206 (by decide +kernel) rfl
theorem wd_207 : (.fieldLink "QuotaLaws$Planner" 18 "QuotaLaws$Planner" "needAhead" "[I" : Cond) ∈ tbg := tbg_in2 207 (by decide +kernel) rfl
theorem wd_208 : (.fieldLink "QuotaLaws$Planner" 21 "QuotaLaws$Planner" "room" "[I" : Cond) ∈ tbg := tbg_in2 208 (by decide +kernel) rfl
theorem wd_209 : (.fieldLink "QuotaLaws$Planner" 24 "QuotaLaws$Planner" "harm" "[I" : Cond) ∈ tbg := tbg_in2 209 (by decide +kernel) rfl
theorem wd_210 : (.fieldLink "QuotaLaws$Planner" 27 "QuotaLaws$Planner" "first" "[I" : Cond) ∈ tbg := tbg_in2 210 (by decide +kernel) rfl
theorem wd_211 : (.fieldLink "QuotaLaws$Planner" 30 "QuotaLaws$Planner" "best" "[I" : Cond) ∈ tbg := tbg_in2 211 (by decide +kernel) rfl
theorem wd_236 : (.fieldLink "QuotaLaws$Tables" 40 "QuotaLaws$Tables" "laws" "I" : Cond) ∈ tbg := tbg_in2 236 (by decide +kernel) rfl
theorem wd_237 : (.fieldLink "QuotaLaws$Tables" 9 "QuotaLaws$Tables" "low" "[I" : Cond) ∈ tbg := tbg_in2 237 (by decide +kernel) rfl
theorem wd_238 : (.fieldLink "QuotaLaws$Tables" 15 "QuotaLaws$Tables" "high" "[I" : Cond) ∈ tbg := tbg_in2 238 (by decide +kernel) rfl
theorem wd_239 : (.fieldLink "QuotaLaws$Tables" 18 "QuotaLaws$Tables" "lawDue" "[I" : Cond) ∈ tbg := tbg_in2 239 (by decide +kernel) rfl
theorem wd_240 : (.fieldLink "QuotaLaws$Tables" 21 "QuotaLaws$Tables" "oneDue" "[I" : Cond) ∈ tbg := tbg_in2 240 (by decide +kernel) rfl
theorem wd_241 : (.fieldLink "QuotaLaws$Tables" 24 "QuotaLaws$Tables" "time" "[I" : Cond) ∈ tbg := tbg_in2 241 (by decide +kernel) rfl
theorem wd_242 : (.fieldLink "QuotaLaws$Tables" 27 "QuotaLaws$Tables" "alone" "[J" : Cond) ∈ tbg := tbg_in2 242 (by decide +kernel) rfl
theorem wd_243 : (.fieldLink "QuotaLaws$Tables" 31 "QuotaLaws$Tables" "ways" "[J" : Cond) ∈ tbg := tbg_in2 243 (by decide +kernel) rfl
theorem wd_268 : (.fieldLink "QuotaLaws$Odds" 43 "QuotaLaws$Odds" "over" "J" : Cond) ∈ tbg := tbg_in2 268 (by decide +kernel) rfl
theorem wd_269 : (.fieldLink "QuotaLaws" 229 "QuotaLaws$Odds" "over" "J" : Cond) ∈ tbg := tbg_in2 269 (by decide +kernel) rfl
theorem wd_270 : (.fieldLink "QuotaLaws$Odds" 21 "QuotaLaws$Odds" "under" "J" : Cond) ∈ tbg := tbg_in2 270 (by decide +kernel) rfl
theorem wd_271 : (.fieldLink "QuotaLaws" 233 "QuotaLaws$Odds" "under" "J" : Cond) ∈ tbg := tbg_in2 271 (by decide +kernel) rfl
theorem wd_272 : (.fieldLink "QuotaLaws$Odds" 11 "QuotaLaws$Odds" "weights" "[J" : Cond) ∈ tbg := tbg_in2 272 (by decide +kernel) rfl
theorem wd_285 : (.fieldLink "QuotaLaws$Sheet" 9 "QuotaLaws$Sheet" "size" "I" : Cond) ∈ tbg := tbg_in2 285 (by decide +kernel) rfl
theorem wd_286 : (.fieldLink "QuotaLaws" 286 "QuotaLaws$Sheet" "size" "I" : Cond) ∈ tbg := tbg_in2 286 (by decide +kernel) rfl
theorem wd_287 : (.fieldLink "QuotaLaws$Sheet" 19 "QuotaLaws$Sheet" "lane" "I" : Cond) ∈ tbg := tbg_in2 287 (by decide +kernel) rfl
theorem wd_288 : (.fieldLink "QuotaLaws$Sheet" 15 "QuotaLaws$Sheet" "cells" "[I" : Cond) ∈ tbg := tbg_in2 288 (by decide +kernel) rfl
theorem wd_296 : (.fieldLink "QuotaLaws" 10 "QuotaLaws" "reader" "LQuotaLaws$Reader;" : Cond) ∈ tbg := tbg_in2 296 (by decide +kernel) rfl
theorem wd_297 : (.fieldLink "QuotaLaws" 19 "QuotaLaws" "now" "LQuotaLaws$Realm;" : Cond) ∈ tbg := tbg_in2 297 (by decide +kernel) rfl
theorem wd_298 : (.fieldLink "QuotaLaws" 23 "QuotaLaws" "trial" "LQuotaLaws$Realm;" : Cond) ∈ tbg := tbg_in2 298 (by decide +kernel) rfl
theorem wd_299 : (.fieldLink "QuotaLaws" 26 "QuotaLaws" "images" "[LQuotaLaws$Realm;" : Cond) ∈ tbg := tbg_in2 299 (by decide +kernel) rfl
theorem wd_300 : (.fieldLink "QuotaLaws" 30 "QuotaLaws" "kept" "[Z" : Cond) ∈ tbg := tbg_in2 300 (by decide +kernel) rfl
theorem wd_301 : (.fieldLink "QuotaLaws" 36 "QuotaLaws" "sheets" "[LQuotaLaws$Sheet;" : Cond) ∈ tbg := tbg_in2 301 (by decide +kernel) rfl
theorem wd_302 : (.fieldLink "QuotaLaws" 43 "QuotaLaws" "planner" "LQuotaLaws$Planner;" : Cond) ∈ tbg := tbg_in2 302 (by decide +kernel) rfl
theorem wd_303 : (.fieldLink "QuotaLaws" 50 "QuotaLaws" "tables" "LQuotaLaws$Tables;" : Cond) ∈ tbg := tbg_in2 303 (by decide +kernel) rfl
theorem wd_304 : (.fieldLink "QuotaLaws" 57 "QuotaLaws" "odds" "LQuotaLaws$Odds;" : Cond) ∈ tbg := tbg_in2 304 (by decide +kernel) rfl
theorem wd_305 : (.fieldLink "QuotaLaws" 277 "QuotaLaws" "tornFault" "I" : Cond) ∈ tbg := tbg_in2 305 (by decide +kernel) rfl
theorem wd_331 : (.methodLink "QuotaLaws" 62 y_Q_isWithin : Cond) ∈ tbg := tbg_in2 331 (by decide +kernel) rfl
theorem wd_332 : (.static y_Q_isWithin : Cond) ∈ tbg := tbg_in2 332 (by decide +kernel) rfl
set_option maxRecDepth 100000 in
theorem wd_333 : (.code y_Q_isWithin prog_1_method_41_code 3 (some .boolean) : Cond) ∈ tbg := tbg_in2 333 rfl rfl
theorem wd_334 : (.methodLink "QuotaLaws" 66 y_Reader_append : Cond) ∈ tbg := tbg_in2 334 (by decide +kernel) rfl
theorem wd_335 : (.instanceMethod y_Reader_append : Cond) ∈ tbg := tbg_in2 335 (by decide +kernel) rfl
theorem wd_336 : (.selects "QuotaLaws$Reader" y_Reader_append y_Reader_append : Cond) ∈ tbg := tbg_in2 336 (by decide +kernel) rfl
set_option maxRecDepth 100000 in
theorem wd_337 : (.code y_Reader_append prog_4_method_2_code 2 (some .boolean) : Cond) ∈ tbg := tbg_in2 337 rfl rfl
theorem wd_346 : (.methodLink "QuotaLaws" 74 y_Reader_readInto : Cond) ∈ tbg := tbg_in2 346 (by decide +kernel) rfl
theorem wd_347 : (.instanceMethod y_Reader_readInto : Cond) ∈ tbg := tbg_in2 347 (by decide +kernel) rfl
theorem wd_348 : (.selects "QuotaLaws$Reader" y_Reader_readInto y_Reader_readInto : Cond) ∈ tbg := tbg_in2 348 (by decide +kernel) rfl
set_option maxRecDepth 100000 in
theorem wd_349 : (.code y_Reader_readInto prog_4_method_3_code 4 (some .boolean) : Cond) ∈ tbg := tbg_in2 349 rfl rfl
theorem wd_350 : (.methodLink "QuotaLaws$Reader" 19 y_Realm_empty : Cond) ∈ tbg := tbg_in2 350 (by decide +kernel) rfl
theorem wd_351 : (.instanceMethod y_Realm_empty : Cond) ∈ tbg := tbg_in2 351 (by decide +kernel) rfl
theorem wd_352 : (.selects "QuotaLaws$Realm" y_Realm_empty y_Realm_empty : Cond) ∈ tbg := tbg_in2 352 (by decide +kernel) rfl
set_option maxRecDepth 100000 in
theorem wd_353 : (.code y_Realm_empty prog_5_method_2_code 1 none : Cond) ∈ tbg := tbg_in2 353 rfl rfl
theorem wd_354 : (.methodLink "QuotaLaws$Realm" 77 y_Arrays_fillI : Cond) ∈ tbg := tbg_in2 354 (by decide +kernel) rfl
theorem wd_355 : (.static y_Arrays_fillI : Cond) ∈ tbg := tbg_in2 355 (by decide +kernel) rfl
set_option maxRecDepth 100000 in
theorem wd_356 : (.code y_Arrays_fillI prog_17_method_103_code 4 none : Cond) ∈ tbg := tbg_in2 356 rfl rfl
theorem wd_357 : (.methodLink "QuotaLaws$Reader" 36 y_Reader_takeToken : Cond) ∈ tbg := tbg_in2 357 (by decide +kernel) rfl
theorem wd_359 : (.instanceMethod y_Reader_takeToken : Cond) ∈ tbg := tbg_in2 359 (by decide +kernel) rfl
set_option maxRecDepth 100000 in
theorem wd_360 : (.code y_Reader_takeToken prog_4_method_17_code 1 (some .boolean) : Cond) ∈ tbg := tbg_in2 360 rfl rfl
theorem wd_361 : (.methodLink "QuotaLaws$Reader" 176 y_Reader_passRun : Cond) ∈ tbg := tbg_in2 361 (by decide +kernel) rfl
theorem wd_363 : (.instanceMethod y_Reader_passRun : Cond) ∈ tbg := tbg_in2 363 (by decide +kernel) rfl
set_option maxRecDepth 100000 in
theorem wd_364 : (.code y_Reader_passRun prog_4_method_19_code 3 none : Cond) ∈ tbg := tbg_in2 364 rfl rfl
theorem wd_365 : (.methodLink "QuotaLaws$Reader" 180 y_Reader_kindHere : Cond) ∈ tbg := tbg_in2 365 (by decide +kernel) rfl
theorem wd_367 : (.instanceMethod y_Reader_kindHere : Cond) ∈ tbg := tbg_in2 367 (by decide +kernel) rfl
set_option maxRecDepth 100000 in
theorem wd_368 : (.code y_Reader_kindHere prog_4_method_18_code 2 (some .int) : Cond) ∈ tbg := tbg_in2 368 rfl rfl
theorem wd_369 : (.methodLink "QuotaLaws$Reader" 183 y_Reader_valueOfRun : Cond) ∈ tbg := tbg_in2 369 (by decide +kernel) rfl
theorem wd_371 : (.instanceMethod y_Reader_valueOfRun : Cond) ∈ tbg := tbg_in2 371 (by decide +kernel) rfl
set_option maxRecDepth 100000 in
theorem wd_372 : (.code y_Reader_valueOfRun prog_4_method_20_code 3 (some .int) : Cond) ∈ tbg := tbg_in2 372 rfl rfl
theorem wd_373 : (.methodLink "QuotaLaws$Reader" 50 y_Reader_fail : Cond) ∈ tbg := tbg_in2 373 (by decide +kernel) rfl
theorem wd_375 : (.instanceMethod y_Reader_fail : Cond) ∈ tbg := tbg_in2 375 (by decide +kernel) rfl
set_option maxRecDepth 100000 in
theorem wd_376 : (.code y_Reader_fail prog_4_method_21_code 3 (some .boolean) : Cond) ∈ tbg := tbg_in2 376 rfl rfl
theorem wd_377 : (.methodLink "QuotaLaws$Reader" 43 y_Reader_takeLine : Cond) ∈ tbg := tbg_in2 377 (by decide +kernel) rfl
theorem wd_379 : (.instanceMethod y_Reader_takeLine : Cond) ∈ tbg := tbg_in2 379 (by decide +kernel) rfl
set_option maxRecDepth 100000 in
theorem wd_380 : (.code y_Reader_takeLine prog_4_method_4_code 2 (some .boolean) : Cond) ∈ tbg := tbg_in2 380 rfl rfl
theorem wd_382 : (.methodLink "QuotaLaws$Reader" 56 y_Reader_isWord : Cond) ∈ tbg := tbg_in2 382 (by decide +kernel) rfl
theorem wd_384 : (.instanceMethod y_Reader_isWord : Cond) ∈ tbg := tbg_in2 384 (by decide +kernel) rfl
set_option maxRecDepth 100000 in
theorem wd_385 : (.code y_Reader_isWord prog_4_method_16_code 3 (some .boolean) : Cond) ∈ tbg := tbg_in2 385 rfl rfl
theorem wd_386 : (.methodLink "QuotaLaws$Reader" 167 y_String_length : Cond) ∈ tbg := tbg_in2 386 (by decide +kernel) rfl
theorem wd_387 : (.instanceMethod y_String_length : Cond) ∈ tbg := tbg_in2 387 (by decide +kernel) rfl
theorem wd_388 : (.selects "java/lang/String" y_String_length y_String_length : Cond) ∈ tbg := tbg_in2 388 (by decide +kernel) rfl
set_option maxRecDepth 100000 in
theorem wd_389 : (.code y_String_length prog_13_method_54_code 1 (some .int) : Cond) ∈ tbg := tbg_in2 389 rfl rfl
theorem wd_390 : (.methodLink "java/lang/String" 335 y_String_coder : Cond) ∈ tbg := tbg_in2 390 (by decide +kernel) rfl
theorem wd_391 : (.instanceMethod y_String_coder : Cond) ∈ tbg := tbg_in2 391 (by decide +kernel) rfl
theorem wd_392 : (.selects "java/lang/String" y_String_coder y_String_coder : Cond) ∈ tbg := tbg_in2 392 (by decide +kernel) rfl
set_option maxRecDepth 100000 in
theorem wd_393 : (.code y_String_coder prog_13_method_152_code 1 (some .byte) : Cond) ∈ tbg := tbg_in2 393 rfl rfl
theorem wd_394 : (.fieldLink "java/lang/String" 38 "java/lang/String" "COMPACT_STRINGS" "Z" : Cond) ∈ tbg := tbg_in2 394 (by decide +kernel) rfl
theorem wd_396 : (.methodLink "QuotaLaws$Reader" 172 y_String_charAt : Cond) ∈ tbg := tbg_in2 396 (by decide +kernel) rfl
theorem wd_397 : (.instanceMethod y_String_charAt : Cond) ∈ tbg := tbg_in2 397 (by decide +kernel) rfl
theorem wd_398 : (.selects "java/lang/String" y_String_charAt y_String_charAt : Cond) ∈ tbg := tbg_in2 398 (by decide +kernel) rfl
set_option maxRecDepth 100000 in
theorem wd_399 : (.code y_String_charAt prog_13_method_56_code 2 (some .char) : Cond) ∈ tbg := tbg_in2 399 rfl rfl
theorem wd_400 : (.methodLink "java/lang/String" 492 y_String_isLatin1 : Cond) ∈ tbg := tbg_in2 400 (by decide +kernel) rfl
theorem wd_401 : (.instanceMethod y_String_isLatin1 : Cond) ∈ tbg := tbg_in2 401 (by decide +kernel) rfl
theorem wd_402 : (.selects "java/lang/String" y_String_isLatin1 y_String_isLatin1 : Cond) ∈ tbg := tbg_in2 402 (by decide +kernel) rfl
set_option maxRecDepth 100000 in
theorem wd_403 : (.code y_String_isLatin1 prog_13_method_154_code 1 (some .boolean) : Cond) ∈ tbg := tbg_in2 403 rfl rfl
theorem wd_404 : (.methodLink "java/lang/String" 495 y_StringLatin1_charAt : Cond) ∈ tbg := tbg_in2 404 (by decide +kernel) rfl
theorem wd_405 : (.static y_StringLatin1_charAt : Cond) ∈ tbg := tbg_in2 405 (by decide +kernel) rfl
set_option maxRecDepth 100000 in
theorem wd_406 : (.code y_StringLatin1_charAt prog_14_method_2_code 2 (some .char) : Cond) ∈ tbg := tbg_in2 406 rfl rfl
theorem wd_407 : (.methodLink "java/lang/StringLatin1" 9 y_String_checkIndex : Cond) ∈ tbg := tbg_in2 407 (by decide +kernel) rfl
theorem wd_408 : (.static y_String_checkIndex : Cond) ∈ tbg := tbg_in2 408 (by decide +kernel) rfl
set_option maxRecDepth 100000 in
theorem wd_409 : (.code y_String_checkIndex prog_13_method_155_code 2 none : Cond) ∈ tbg := tbg_in2 409 rfl rfl
theorem wd_410 : (.fieldLink "java/lang/String" 1053 "jdk/internal/util/Preconditions" "SIOOBE_FORMATTER" "Ljava/util/function/BiFunction;" : Cond) ∈ tbg := tbg_in2 410 (by decide +kernel) rfl
theorem wd_412 : (.methodLink "java/lang/String" 1059 y_Preconditions_checkIndex : Cond) ∈ tbg := tbg_in2 412 (by decide +kernel) rfl
theorem wd_413 : (.static y_Preconditions_checkIndex : Cond) ∈ tbg := tbg_in2 413 (by decide +kernel) rfl
set_option maxRecDepth 100000 in
theorem wd_414 : (.code y_Preconditions_checkIndex prog_18_method_11_code 3 (some .int) : Cond) ∈ tbg := tbg_in2 414 rfl rfl
theorem wd_415 : (.methodLink "java/lang/String" 498 y_StringUTF16_charAt : Cond) ∈ tbg := tbg_in2 415 (by decide +kernel) rfl
theorem wd_434 : (.methodLink "QuotaLaws$Reader" 63 y_Reader_takeLaw : Cond) ∈ tbg := tbg_in2 434 (by decide +kernel) rfl
theorem wd_436 : (.instanceMethod y_Reader_takeLaw : Cond) ∈ tbg := tbg_in2 436 (by decide +kernel) rfl
set_option maxRecDepth 100000 in
theorem wd_437 : (.code y_Reader_takeLaw prog_4_method_5_code 3 (some .boolean) : Cond) ∈ tbg := tbg_in2 437 rfl rfl
theorem wd_438 : (.methodLink "QuotaLaws$Reader" 95 y_Reader_takeNumber : Cond) ∈ tbg := tbg_in2 438 (by decide +kernel) rfl
theorem wd_440 : (.instanceMethod y_Reader_takeNumber : Cond) ∈ tbg := tbg_in2 440 (by decide +kernel) rfl
set_option maxRecDepth 100000 in
theorem wd_441 : (.code y_Reader_takeNumber prog_4_method_13_code 3 (some .boolean) : Cond) ∈ tbg := tbg_in2 441 rfl rfl
theorem wd_442 : (.methodLink "QuotaLaws$Reader" 120 y_Reader_isBounded : Cond) ∈ tbg := tbg_in2 442 (by decide +kernel) rfl
theorem wd_444 : (.instanceMethod y_Reader_isBounded : Cond) ∈ tbg := tbg_in2 444 (by decide +kernel) rfl
set_option maxRecDepth 100000 in
theorem wd_445 : (.code y_Reader_isBounded prog_4_method_14_code 3 (some .boolean) : Cond) ∈ tbg := tbg_in2 445 rfl rfl
theorem wd_446 : (.methodLinkNest "QuotaLaws$Reader" 163 y_Q_isWithin "QuotaLaws" : Cond) ∈ nests := nests_in2 446 (by decide +kernel) rfl
theorem wd_447 : (.methodLink "QuotaLaws$Reader" 101 y_Reader_putInto : Cond) ∈ tbg := tbg_in2 447 (by decide +kernel) rfl
theorem wd_449 : (.instanceMethod y_Reader_putInto : Cond) ∈ tbg := tbg_in2 449 (by decide +kernel) rfl
set_option maxRecDepth 100000 in
theorem wd_450 : (.code y_Reader_putInto prog_4_method_12_code 3 (some .boolean) : Cond) ∈ tbg := tbg_in2 450 rfl rfl
theorem wd_451 : (.methodLink "QuotaLaws$Reader" 114 y_Reader_takeCarried : Cond) ∈ tbg := tbg_in2 451 (by decide +kernel) rfl
theorem wd_453 : (.instanceMethod y_Reader_takeCarried : Cond) ∈ tbg := tbg_in2 453 (by decide +kernel) rfl
set_option maxRecDepth 100000 in
theorem wd_454 : (.code y_Reader_takeCarried prog_4_method_6_code 3 (some .boolean) : Cond) ∈ tbg := tbg_in2 454 rfl rfl
theorem wd_455 : (.methodLink "QuotaLaws$Reader" 117 y_Reader_isStop : Cond) ∈ tbg := tbg_in2 455 (by decide +kernel) rfl
theorem wd_457 : (.instanceMethod y_Reader_isStop : Cond) ∈ tbg := tbg_in2 457 (by decide +kernel) rfl
set_option maxRecDepth 100000 in
theorem wd_458 : (.code y_Reader_isStop prog_4_method_15_code 1 (some .boolean) : Cond) ∈ tbg := tbg_in2 458 rfl rfl
theorem wd_460 : (.methodLink "QuotaLaws$Reader" 72 y_Reader_takeOne : Cond) ∈ tbg := tbg_in2 460 (by decide +kernel) rfl
theorem wd_462 : (.instanceMethod y_Reader_takeOne : Cond) ∈ tbg := tbg_in2 462 (by decide +kernel) rfl
set_option maxRecDepth 100000 in
theorem wd_463 : (.code y_Reader_takeOne prog_4_method_7_code 5 (some .boolean) : Cond) ∈ tbg := tbg_in2 463 rfl rfl
theorem wd_464 : (.methodLink "QuotaLaws$Reader" 141 y_Reader_addLaw : Cond) ∈ tbg := tbg_in2 464 (by decide +kernel) rfl
theorem wd_466 : (.instanceMethod y_Reader_addLaw : Cond) ∈ tbg := tbg_in2 466 (by decide +kernel) rfl
set_option maxRecDepth 100000 in
theorem wd_467 : (.code y_Reader_addLaw prog_4_method_10_code 3 (some .boolean) : Cond) ∈ tbg := tbg_in2 467 rfl rfl
theorem wd_468 : (.methodLinkNest "QuotaLaws$Reader" 150 y_Q_hasBit "QuotaLaws" : Cond) ∈ nests := nests_in2 468 (by decide +kernel) rfl
theorem wd_469 : (.static y_Q_hasBit : Cond) ∈ tbg := tbg_in2 469 (by decide +kernel) rfl
set_option maxRecDepth 100000 in
theorem wd_470 : (.code y_Q_hasBit prog_1_method_42_code 2 (some .boolean) : Cond) ∈ tbg := tbg_in2 470 rfl rfl
theorem wd_472 : (.methodLink "QuotaLaws$Reader" 77 y_Reader_takeWant : Cond) ∈ tbg := tbg_in2 472 (by decide +kernel) rfl
theorem wd_474 : (.instanceMethod y_Reader_takeWant : Cond) ∈ tbg := tbg_in2 474 (by decide +kernel) rfl
set_option maxRecDepth 100000 in
theorem wd_475 : (.code y_Reader_takeWant prog_4_method_8_code 3 (some .boolean) : Cond) ∈ tbg := tbg_in2 475 rfl rfl
theorem wd_477 : (.methodLink "QuotaLaws$Reader" 82 y_Reader_takeWatch : Cond) ∈ tbg := tbg_in2 477 (by decide +kernel) rfl
theorem wd_479 : (.instanceMethod y_Reader_takeWatch : Cond) ∈ tbg := tbg_in2 479 (by decide +kernel) rfl
set_option maxRecDepth 100000 in
theorem wd_480 : (.code y_Reader_takeWatch prog_4_method_9_code 2 (some .boolean) : Cond) ∈ tbg := tbg_in2 480 rfl rfl
theorem wd_481 : (.methodLink "QuotaLaws$Reader" 47 y_Reader_allThere : Cond) ∈ tbg := tbg_in2 481 (by decide +kernel) rfl
theorem wd_482 : (.static y_Reader_allThere : Cond) ∈ tbg := tbg_in2 482 (by decide +kernel) rfl
set_option maxRecDepth 100000 in
theorem wd_483 : (.code y_Reader_allThere prog_4_method_11_code 4 (some .boolean) : Cond) ∈ tbg := tbg_in2 483 rfl rfl
theorem wd_484 : (.methodLinkNest "QuotaLaws$Reader" 153 y_Q_isPart "QuotaLaws" : Cond) ∈ nests := nests_in2 484 (by decide +kernel) rfl
theorem wd_485 : (.static y_Q_isPart : Cond) ∈ tbg := tbg_in2 485 (by decide +kernel) rfl
set_option maxRecDepth 100000 in
theorem wd_486 : (.code y_Q_isPart prog_1_method_45_code 2 (some .boolean) : Cond) ∈ tbg := tbg_in2 486 rfl rfl
theorem wd_487 : (.methodLink "QuotaLaws$Reader" 156 y_Realm_hasLaw : Cond) ∈ tbg := tbg_in2 487 (by decide +kernel) rfl
theorem wd_488 : (.instanceMethod y_Realm_hasLaw : Cond) ∈ tbg := tbg_in2 488 (by decide +kernel) rfl
theorem wd_489 : (.selects "QuotaLaws$Realm" y_Realm_hasLaw y_Realm_hasLaw : Cond) ∈ tbg := tbg_in2 489 (by decide +kernel) rfl
set_option maxRecDepth 100000 in
theorem wd_490 : (.code y_Realm_hasLaw prog_5_method_4_code 2 (some .boolean) : Cond) ∈ tbg := tbg_in2 490 rfl rfl
theorem wd_491 : (.methodLink "QuotaLaws$Reader" 160 y_Realm_hasOne : Cond) ∈ tbg := tbg_in2 491 (by decide +kernel) rfl
theorem wd_492 : (.instanceMethod y_Realm_hasOne : Cond) ∈ tbg := tbg_in2 492 (by decide +kernel) rfl
theorem wd_493 : (.selects "QuotaLaws$Realm" y_Realm_hasOne y_Realm_hasOne : Cond) ∈ tbg := tbg_in2 493 (by decide +kernel) rfl
set_option maxRecDepth 100000 in
theorem wd_494 : (.code y_Realm_hasOne prog_5_method_5_code 2 (some .boolean) : Cond) ∈ tbg := tbg_in2 494 rfl rfl
theorem wd_495 : (.methodLink "QuotaLaws" 81 y_Realm_copyFrom : Cond) ∈ tbg := tbg_in2 495 (by decide +kernel) rfl
theorem wd_496 : (.instanceMethod y_Realm_copyFrom : Cond) ∈ tbg := tbg_in2 496 (by decide +kernel) rfl
theorem wd_497 : (.selects "QuotaLaws$Realm" y_Realm_copyFrom y_Realm_copyFrom : Cond) ∈ tbg := tbg_in2 497 (by decide +kernel) rfl
set_option maxRecDepth 100000 in
theorem wd_498 : (.code y_Realm_copyFrom prog_5_method_3_code 2 none : Cond) ∈ tbg := tbg_in2 498 rfl rfl
theorem wd_499 : (.methodLink "QuotaLaws$Realm" 83 arraycopyName : Cond) ∈ tbg := tbg_in2 499 (by decide +kernel) rfl
theorem wd_500 : (.static arraycopyName : Cond) ∈ tbg := tbg_in2 500 (by decide +kernel) rfl
theorem wd_501 : (.native arraycopyName : Cond) ∈ tbg := tbg_in2 501 (by decide +kernel) rfl
theorem wd_502 : (.methodLink "QuotaLaws$Realm" 89 y_Sightings_copyFrom : Cond) ∈ tbg := tbg_in2 502 (by decide +kernel) rfl
theorem wd_503 : (.instanceMethod y_Sightings_copyFrom : Cond) ∈ tbg := tbg_in2 503 (by decide +kernel) rfl
theorem wd_504 : (.selects "QuotaLaws$Sightings" y_Sightings_copyFrom y_Sightings_copyFrom : Cond) ∈ tbg := tbg_in2 504 (by decide +kernel) rfl
set_option maxRecDepth 100000 in
theorem wd_505 : (.code y_Sightings_copyFrom prog_7_method_4_code 2 none : Cond) ∈ tbg := tbg_in2 505 rfl rfl
theorem wd_506 : (.methodLink "QuotaLaws$Sightings" 25 arraycopyName : Cond) ∈ tbg := tbg_in2 506 (by decide +kernel) rfl
theorem wd_519 : (.methodLink "QuotaLaws" 109 y_Realm_hasLaw : Cond) ∈ tbg := tbg_in2 519 (by decide +kernel) rfl
theorem wd_520 : (.methodLink "QuotaLaws" 128 y_Realm_needOf : Cond) ∈ tbg := tbg_in2 520 (by decide +kernel) rfl
theorem wd_521 : (.instanceMethod y_Realm_needOf : Cond) ∈ tbg := tbg_in2 521 (by decide +kernel) rfl
theorem wd_522 : (.selects "QuotaLaws$Realm" y_Realm_needOf y_Realm_needOf : Cond) ∈ tbg := tbg_in2 522 (by decide +kernel) rfl
set_option maxRecDepth 100000 in
theorem wd_523 : (.code y_Realm_needOf prog_5_method_10_code 4 (some .int) : Cond) ∈ tbg := tbg_in2 523 rfl rfl
theorem wd_524 : (.methodLinkNest "QuotaLaws$Realm" 104 y_Q_hasBit "QuotaLaws" : Cond) ∈ nests := nests_in2 524 (by decide +kernel) rfl
theorem wd_525 : (.methodLink "QuotaLaws$Realm" 108 y_Realm_brokenBy : Cond) ∈ tbg := tbg_in2 525 (by decide +kernel) rfl
theorem wd_526 : (.instanceMethod y_Realm_brokenBy : Cond) ∈ tbg := tbg_in2 526 (by decide +kernel) rfl
theorem wd_527 : (.selects "QuotaLaws$Realm" y_Realm_brokenBy y_Realm_brokenBy : Cond) ∈ tbg := tbg_in2 527 (by decide +kernel) rfl
set_option maxRecDepth 100000 in
theorem wd_528 : (.code y_Realm_brokenBy prog_5_method_7_code 3 (some .int) : Cond) ∈ tbg := tbg_in2 528 rfl rfl
theorem wd_529 : (.methodLink "QuotaLaws$Realm" 112 Lib.Math.max.name : Cond) ∈ tbg := tbg_in2 529 (by decide +kernel) rfl
theorem wd_530 : (.static Lib.Math.max.name : Cond) ∈ tbg := tbg_in2 530 (by decide +kernel) rfl
set_option maxRecDepth 100000 in
theorem wd_531 : (.code Lib.Math.max.name Lib.Math.max.code 2 (some .int) : Cond) ∈ tbg := tbg_in2 531 rfl rfl
theorem wd_532 : (.methodLink "QuotaLaws" 132 y_Realm_chainOf : Cond) ∈ tbg := tbg_in2 532 (by decide +kernel) rfl
theorem wd_533 : (.instanceMethod y_Realm_chainOf : Cond) ∈ tbg := tbg_in2 533 (by decide +kernel) rfl
theorem wd_534 : (.selects "QuotaLaws$Realm" y_Realm_chainOf y_Realm_chainOf : Cond) ∈ tbg := tbg_in2 534 (by decide +kernel) rfl
set_option maxRecDepth 100000 in
theorem wd_535 : (.code y_Realm_chainOf prog_5_method_13_code 5 (some .int) : Cond) ∈ tbg := tbg_in2 535 rfl rfl
theorem wd_536 : (.methodLink "QuotaLaws$Realm" 97 y_Realm_hasLaw : Cond) ∈ tbg := tbg_in2 536 (by decide +kernel) rfl
theorem wd_541 : (.methodLink "QuotaLaws" 135 y_Realm_hasOne : Cond) ∈ tbg := tbg_in2 541 (by decide +kernel) rfl
theorem wd_542 : (.methodLink "QuotaLaws" 156 y_Realm_brokenByOne : Cond) ∈ tbg := tbg_in2 542 (by decide +kernel) rfl
theorem wd_543 : (.instanceMethod y_Realm_brokenByOne : Cond) ∈ tbg := tbg_in2 543 (by decide +kernel) rfl
theorem wd_544 : (.selects "QuotaLaws$Realm" y_Realm_brokenByOne y_Realm_brokenByOne : Cond) ∈ tbg := tbg_in2 544 (by decide +kernel) rfl
set_option maxRecDepth 100000 in
theorem wd_545 : (.code y_Realm_brokenByOne prog_5_method_8_code 4 (some .int) : Cond) ∈ tbg := tbg_in2 545 rfl rfl
theorem wd_546 : (.methodLink "QuotaLaws" 159 y_Realm_breakable : Cond) ∈ tbg := tbg_in2 546 (by decide +kernel) rfl
theorem wd_547 : (.instanceMethod y_Realm_breakable : Cond) ∈ tbg := tbg_in2 547 (by decide +kernel) rfl
theorem wd_548 : (.selects "QuotaLaws$Realm" y_Realm_breakable y_Realm_breakable : Cond) ∈ tbg := tbg_in2 548 (by decide +kernel) rfl
set_option maxRecDepth 100000 in
theorem wd_549 : (.code y_Realm_breakable prog_5_method_18_code 4 (some .int) : Cond) ∈ tbg := tbg_in2 549 rfl rfl
theorem wd_550 : (.methodLink "QuotaLaws$Realm" 129 y_Realm_ableAlone : Cond) ∈ tbg := tbg_in2 550 (by decide +kernel) rfl
theorem wd_551 : (.instanceMethod y_Realm_ableAlone : Cond) ∈ tbg := tbg_in2 551 (by decide +kernel) rfl
theorem wd_552 : (.selects "QuotaLaws$Realm" y_Realm_ableAlone y_Realm_ableAlone : Cond) ∈ tbg := tbg_in2 552 (by decide +kernel) rfl
set_option maxRecDepth 100000 in
theorem wd_553 : (.code y_Realm_ableAlone prog_5_method_16_code 3 (some .int) : Cond) ∈ tbg := tbg_in2 553 rfl rfl
theorem wd_554 : (.methodLink "QuotaLaws$Realm" 120 y_Realm_roomOf : Cond) ∈ tbg := tbg_in2 554 (by decide +kernel) rfl
theorem wd_555 : (.instanceMethod y_Realm_roomOf : Cond) ∈ tbg := tbg_in2 555 (by decide +kernel) rfl
theorem wd_556 : (.selects "QuotaLaws$Realm" y_Realm_roomOf y_Realm_roomOf : Cond) ∈ tbg := tbg_in2 556 (by decide +kernel) rfl
set_option maxRecDepth 100000 in
theorem wd_557 : (.code y_Realm_roomOf prog_5_method_14_code 4 (some .int) : Cond) ∈ tbg := tbg_in2 557 rfl rfl
theorem wd_558 : (.methodLink "QuotaLaws$Realm" 123 y_Realm_timeLeft : Cond) ∈ tbg := tbg_in2 558 (by decide +kernel) rfl
theorem wd_559 : (.instanceMethod y_Realm_timeLeft : Cond) ∈ tbg := tbg_in2 559 (by decide +kernel) rfl
theorem wd_560 : (.selects "QuotaLaws$Realm" y_Realm_timeLeft y_Realm_timeLeft : Cond) ∈ tbg := tbg_in2 560 (by decide +kernel) rfl
set_option maxRecDepth 100000 in
theorem wd_561 : (.code y_Realm_timeLeft prog_5_method_15_code 2 (some .int) : Cond) ∈ tbg := tbg_in2 561 rfl rfl
theorem wd_562 : (.methodLink "QuotaLaws$Realm" 100 y_Realm_brokenByOne : Cond) ∈ tbg := tbg_in2 562 (by decide +kernel) rfl
theorem wd_563 : (.methodLink "QuotaLaws$Realm" 126 Lib.Math.min.name : Cond) ∈ tbg := tbg_in2 563 (by decide +kernel) rfl
theorem wd_564 : (.static Lib.Math.min.name : Cond) ∈ tbg := tbg_in2 564 (by decide +kernel) rfl
set_option maxRecDepth 100000 in
theorem wd_565 : (.code Lib.Math.min.name Lib.Math.min.code 2 (some .int) : Cond) ∈ tbg := tbg_in2 565 rfl rfl
theorem wd_570 : (.methodLink "QuotaLaws" 162 y_Realm_hasBoth : Cond) ∈ tbg := tbg_in2 570 (by decide +kernel) rfl
theorem wd_571 : (.instanceMethod y_Realm_hasBoth : Cond) ∈ tbg := tbg_in2 571 (by decide +kernel) rfl
theorem wd_572 : (.selects "QuotaLaws$Realm" y_Realm_hasBoth y_Realm_hasBoth : Cond) ∈ tbg := tbg_in2 572 (by decide +kernel) rfl
set_option maxRecDepth 100000 in
theorem wd_573 : (.code y_Realm_hasBoth prog_5_method_6_code 3 (some .boolean) : Cond) ∈ tbg := tbg_in2 573 rfl rfl
theorem wd_574 : (.methodLink "QuotaLaws$Realm" 93 y_Realm_hasOne : Cond) ∈ tbg := tbg_in2 574 (by decide +kernel) rfl
theorem wd_575 : (.methodLink "QuotaLaws" 166 y_Realm_brokenBy : Cond) ∈ tbg := tbg_in2 575 (by decide +kernel) rfl
theorem wd_588 : (.methodLink "QuotaLaws" 170 y_Q_bitOf : Cond) ∈ tbg := tbg_in2 588 (by decide +kernel) rfl
theorem wd_589 : (.static y_Q_bitOf : Cond) ∈ tbg := tbg_in2 589 (by decide +kernel) rfl
set_option maxRecDepth 100000 in
theorem wd_590 : (.code y_Q_bitOf prog_1_method_43_code 2 (some .int) : Cond) ∈ tbg := tbg_in2 590 rfl rfl
theorem wd_591 : (.methodLink "QuotaLaws" 173 y_Q_withBit : Cond) ∈ tbg := tbg_in2 591 (by decide +kernel) rfl
theorem wd_592 : (.static y_Q_withBit : Cond) ∈ tbg := tbg_in2 592 (by decide +kernel) rfl
set_option maxRecDepth 100000 in
theorem wd_593 : (.code y_Q_withBit prog_1_method_44_code 3 (some .int) : Cond) ∈ tbg := tbg_in2 593 rfl rfl
theorem wd_614 : (.methodLink "QuotaLaws" 177 y_Q_hasBit : Cond) ∈ tbg := tbg_in2 614 (by decide +kernel) rfl
theorem wd_615 : (.methodLink "QuotaLaws" 180 y_Integer_bitCount : Cond) ∈ tbg := tbg_in2 615 (by decide +kernel) rfl
theorem wd_616 : (.static y_Integer_bitCount : Cond) ∈ tbg := tbg_in2 616 (by decide +kernel) rfl
set_option maxRecDepth 100000 in
theorem wd_617 : (.code y_Integer_bitCount prog_11_method_49_code 1 (some .int) : Cond) ∈ tbg := tbg_in2 617 rfl rfl
theorem wd_618 : (.constant "java/lang/Integer" 265 (1431655765) : Cond) ∈ tbg := tbg_in2 618 (by decide +kernel) rfl
theorem wd_619 : (.constant "java/lang/Integer" 266 (858993459) : Cond) ∈ tbg := tbg_in2 619 (by decide +kernel) rfl
theorem wd_620 : (.constant "java/lang/Integer" 267 (252645135) : Cond) ∈ tbg := tbg_in2 620 (by decide +kernel) rfl
theorem wd_625 : (.methodLink "QuotaLaws" 185 y_Realm_breakOnce : Cond) ∈ tbg := tbg_in2 625 (by decide +kernel) rfl
theorem wd_626 : (.instanceMethod y_Realm_breakOnce : Cond) ∈ tbg := tbg_in2 626 (by decide +kernel) rfl
theorem wd_627 : (.selects "QuotaLaws$Realm" y_Realm_breakOnce y_Realm_breakOnce : Cond) ∈ tbg := tbg_in2 627 (by decide +kernel) rfl
set_option maxRecDepth 100000 in
theorem wd_628 : (.code y_Realm_breakOnce prog_5_method_19_code 4 (some .int) : Cond) ∈ tbg := tbg_in2 628 rfl rfl
theorem wd_629 : (.methodLink "QuotaLaws$Realm" 132 y_Realm_hasBoth : Cond) ∈ tbg := tbg_in2 629 (by decide +kernel) rfl
theorem wd_630 : (.methodLink "QuotaLaws$Realm" 135 y_Realm_mark : Cond) ∈ tbg := tbg_in2 630 (by decide +kernel) rfl
theorem wd_631 : (.instanceMethod y_Realm_mark : Cond) ∈ tbg := tbg_in2 631 (by decide +kernel) rfl
theorem wd_632 : (.selects "QuotaLaws$Realm" y_Realm_mark y_Realm_mark : Cond) ∈ tbg := tbg_in2 632 (by decide +kernel) rfl
set_option maxRecDepth 100000 in
theorem wd_633 : (.code y_Realm_mark prog_5_method_20_code 4 (some .int) : Cond) ∈ tbg := tbg_in2 633 rfl rfl
theorem wd_638 : (.methodLink "QuotaLaws" 188 y_Realm_endYear : Cond) ∈ tbg := tbg_in2 638 (by decide +kernel) rfl
theorem wd_639 : (.instanceMethod y_Realm_endYear : Cond) ∈ tbg := tbg_in2 639 (by decide +kernel) rfl
theorem wd_640 : (.selects "QuotaLaws$Realm" y_Realm_endYear y_Realm_endYear : Cond) ∈ tbg := tbg_in2 640 (by decide +kernel) rfl
set_option maxRecDepth 100000 in
theorem wd_641 : (.code y_Realm_endYear prog_5_method_22_code 2 (some .int) : Cond) ∈ tbg := tbg_in2 641 rfl rfl
theorem wd_642 : (.methodLink "QuotaLaws$Realm" 141 y_Realm_lapsing : Cond) ∈ tbg := tbg_in2 642 (by decide +kernel) rfl
theorem wd_643 : (.instanceMethod y_Realm_lapsing : Cond) ∈ tbg := tbg_in2 643 (by decide +kernel) rfl
theorem wd_644 : (.selects "QuotaLaws$Realm" y_Realm_lapsing y_Realm_lapsing : Cond) ∈ tbg := tbg_in2 644 (by decide +kernel) rfl
set_option maxRecDepth 100000 in
theorem wd_645 : (.code y_Realm_lapsing prog_5_method_21_code 3 (some .int) : Cond) ∈ tbg := tbg_in2 645 rfl rfl
theorem wd_646 : (.methodLink "QuotaLaws$Realm" 117 y_Realm_needOf : Cond) ∈ tbg := tbg_in2 646 (by decide +kernel) rfl
theorem wd_647 : (.methodLink "QuotaLaws$Realm" 138 y_Realm_chainOf : Cond) ∈ tbg := tbg_in2 647 (by decide +kernel) rfl
theorem wd_652 : (.methodLink "QuotaLaws" 192 y_Realm_lapsing : Cond) ∈ tbg := tbg_in2 652 (by decide +kernel) rfl
theorem wd_661 : (.methodLink "QuotaLaws" 195 y_Planner_load : Cond) ∈ tbg := tbg_in2 661 (by decide +kernel) rfl
theorem wd_662 : (.instanceMethod y_Planner_load : Cond) ∈ tbg := tbg_in2 662 (by decide +kernel) rfl
theorem wd_663 : (.selects "QuotaLaws$Planner" y_Planner_load y_Planner_load : Cond) ∈ tbg := tbg_in2 663 (by decide +kernel) rfl
set_option maxRecDepth 100000 in
theorem wd_664 : (.code y_Planner_load prog_3_method_2_code 4 none : Cond) ∈ tbg := tbg_in2 664 rfl rfl
theorem wd_665 : (.methodLink "QuotaLaws$Planner" 40 y_Arrays_fillI : Cond) ∈ tbg := tbg_in2 665 (by decide +kernel) rfl
theorem wd_666 : (.methodLink "QuotaLaws$Planner" 46 y_Realm_hasOne : Cond) ∈ tbg := tbg_in2 666 (by decide +kernel) rfl
theorem wd_667 : (.methodLink "QuotaLaws$Planner" 50 y_Realm_timeLeft : Cond) ∈ tbg := tbg_in2 667 (by decide +kernel) rfl
theorem wd_668 : (.methodLink "QuotaLaws$Planner" 54 y_Realm_needOf : Cond) ∈ tbg := tbg_in2 668 (by decide +kernel) rfl
theorem wd_669 : (.methodLink "QuotaLaws$Planner" 60 y_Realm_roomOf : Cond) ∈ tbg := tbg_in2 669 (by decide +kernel) rfl
theorem wd_670 : (.methodLink "QuotaLaws" 198 y_Planner_leastHarm : Cond) ∈ tbg := tbg_in2 670 (by decide +kernel) rfl
theorem wd_671 : (.instanceMethod y_Planner_leastHarm : Cond) ∈ tbg := tbg_in2 671 (by decide +kernel) rfl
theorem wd_672 : (.selects "QuotaLaws$Planner" y_Planner_leastHarm y_Planner_leastHarm : Cond) ∈ tbg := tbg_in2 672 (by decide +kernel) rfl
set_option maxRecDepth 100000 in
theorem wd_673 : (.code y_Planner_leastHarm prog_3_method_7_code 4 (some .int) : Cond) ∈ tbg := tbg_in2 673 rfl rfl
theorem wd_674 : (.constant "QuotaLaws$Planner" 89 (1000000) : Cond) ∈ tbg := tbg_in2 674 (by decide +kernel) rfl
theorem wd_675 : (.methodLink "QuotaLaws$Planner" 90 y_Planner_leftToLast : Cond) ∈ tbg := tbg_in2 675 (by decide +kernel) rfl
theorem wd_677 : (.instanceMethod y_Planner_leftToLast : Cond) ∈ tbg := tbg_in2 677 (by decide +kernel) rfl
set_option maxRecDepth 100000 in
theorem wd_678 : (.code y_Planner_leftToLast prog_3_method_9_code 4 (some .int) : Cond) ∈ tbg := tbg_in2 678 rfl rfl
theorem wd_679 : (.methodLink "QuotaLaws$Planner" 94 y_Planner_stateOf : Cond) ∈ tbg := tbg_in2 679 (by decide +kernel) rfl
theorem wd_680 : (.static y_Planner_stateOf : Cond) ∈ tbg := tbg_in2 680 (by decide +kernel) rfl
set_option maxRecDepth 100000 in
theorem wd_681 : (.code y_Planner_stateOf prog_3_method_10_code 3 (some .int) : Cond) ∈ tbg := tbg_in2 681 rfl rfl
theorem wd_682 : (.methodLink "QuotaLaws$Planner" 97 y_Planner_search : Cond) ∈ tbg := tbg_in2 682 (by decide +kernel) rfl
theorem wd_684 : (.instanceMethod y_Planner_search : Cond) ∈ tbg := tbg_in2 684 (by decide +kernel) rfl
set_option maxRecDepth 100000 in
theorem wd_685 : (.code y_Planner_search prog_3_method_11_code 12 (some .int) : Cond) ∈ tbg := tbg_in2 685 rfl rfl
theorem wd_686 : (.methodLink "QuotaLaws$Planner" 86 Lib.Math.min.name : Cond) ∈ tbg := tbg_in2 686 (by decide +kernel) rfl
theorem wd_687 : (.methodLinkNest "QuotaLaws$Planner" 100 y_Q_isWithin "QuotaLaws" : Cond) ∈ nests := nests_in2 687 (by decide +kernel) rfl
theorem wd_688 : (.methodLink "QuotaLaws" 201 y_Planner_timesInFirst : Cond) ∈ tbg := tbg_in2 688 (by decide +kernel) rfl
theorem wd_689 : (.instanceMethod y_Planner_timesInFirst : Cond) ∈ tbg := tbg_in2 689 (by decide +kernel) rfl
theorem wd_690 : (.selects "QuotaLaws$Planner" y_Planner_timesInFirst y_Planner_timesInFirst : Cond) ∈ tbg := tbg_in2 690 (by decide +kernel) rfl
set_option maxRecDepth 100000 in
theorem wd_691 : (.code y_Planner_timesInFirst prog_3_method_8_code 6 (some .int) : Cond) ∈ tbg := tbg_in2 691 rfl rfl
theorem wd_696 : (.methodLink "QuotaLaws" 204 y_Planner_grant : Cond) ∈ tbg := tbg_in2 696 (by decide +kernel) rfl
theorem wd_697 : (.instanceMethod y_Planner_grant : Cond) ∈ tbg := tbg_in2 697 (by decide +kernel) rfl
theorem wd_698 : (.selects "QuotaLaws$Planner" y_Planner_grant y_Planner_grant : Cond) ∈ tbg := tbg_in2 698 (by decide +kernel) rfl
set_option maxRecDepth 100000 in
theorem wd_699 : (.code y_Planner_grant prog_3_method_3_code 3 none : Cond) ∈ tbg := tbg_in2 699 rfl rfl
theorem wd_700 : (.methodLink "QuotaLaws$Planner" 68 Lib.Math.max.name : Cond) ∈ tbg := tbg_in2 700 (by decide +kernel) rfl
theorem wd_701 : (.methodLink "QuotaLaws" 208 y_Planner_canMeet : Cond) ∈ tbg := tbg_in2 701 (by decide +kernel) rfl
theorem wd_702 : (.instanceMethod y_Planner_canMeet : Cond) ∈ tbg := tbg_in2 702 (by decide +kernel) rfl
theorem wd_703 : (.selects "QuotaLaws$Planner" y_Planner_canMeet y_Planner_canMeet : Cond) ∈ tbg := tbg_in2 703 (by decide +kernel) rfl
set_option maxRecDepth 100000 in
theorem wd_704 : (.code y_Planner_canMeet prog_3_method_4_code 3 (some .boolean) : Cond) ∈ tbg := tbg_in2 704 rfl rfl
theorem wd_705 : (.methodLinkNest "QuotaLaws$Planner" 73 y_Q_isPart "QuotaLaws" : Cond) ∈ nests := nests_in2 705 (by decide +kernel) rfl
theorem wd_706 : (.methodLink "QuotaLaws$Planner" 77 y_Planner_needOfAll : Cond) ∈ tbg := tbg_in2 706 (by decide +kernel) rfl
theorem wd_708 : (.instanceMethod y_Planner_needOfAll : Cond) ∈ tbg := tbg_in2 708 (by decide +kernel) rfl
set_option maxRecDepth 100000 in
theorem wd_709 : (.code y_Planner_needOfAll prog_3_method_5_code 4 (some .int) : Cond) ∈ tbg := tbg_in2 709 rfl rfl
theorem wd_710 : (.methodLinkNest "QuotaLaws$Planner" 83 y_Q_hasBit "QuotaLaws" : Cond) ∈ nests := nests_in2 710 (by decide +kernel) rfl
theorem wd_711 : (.methodLink "QuotaLaws$Planner" 80 y_Planner_givenTo : Cond) ∈ tbg := tbg_in2 711 (by decide +kernel) rfl
theorem wd_713 : (.instanceMethod y_Planner_givenTo : Cond) ∈ tbg := tbg_in2 713 (by decide +kernel) rfl
set_option maxRecDepth 100000 in
theorem wd_714 : (.code y_Planner_givenTo prog_3_method_6_code 6 (some .int) : Cond) ∈ tbg := tbg_in2 714 rfl rfl
theorem wd_719 : (.methodLink "QuotaLaws" 211 y_Q_isPart : Cond) ∈ tbg := tbg_in2 719 (by decide +kernel) rfl
theorem wd_724 : (.methodLink "QuotaLaws" 214 y_Realm_ableWithout : Cond) ∈ tbg := tbg_in2 724 (by decide +kernel) rfl
theorem wd_725 : (.instanceMethod y_Realm_ableWithout : Cond) ∈ tbg := tbg_in2 725 (by decide +kernel) rfl
theorem wd_726 : (.selects "QuotaLaws$Realm" y_Realm_ableWithout y_Realm_ableWithout : Cond) ∈ tbg := tbg_in2 726 (by decide +kernel) rfl
set_option maxRecDepth 100000 in
theorem wd_727 : (.code y_Realm_ableWithout prog_5_method_17_code 5 (some .int) : Cond) ∈ tbg := tbg_in2 727 rfl rfl
theorem wd_732 : (.methodLink "QuotaLaws" 217 y_Realm_eachForHimself : Cond) ∈ tbg := tbg_in2 732 (by decide +kernel) rfl
theorem wd_733 : (.instanceMethod y_Realm_eachForHimself : Cond) ∈ tbg := tbg_in2 733 (by decide +kernel) rfl
theorem wd_734 : (.selects "QuotaLaws$Realm" y_Realm_eachForHimself y_Realm_eachForHimself : Cond) ∈ tbg := tbg_in2 734 (by decide +kernel) rfl
set_option maxRecDepth 100000 in
theorem wd_735 : (.code y_Realm_eachForHimself prog_5_method_24_code 6 (some .int) : Cond) ∈ tbg := tbg_in2 735 rfl rfl
theorem wd_736 : (.methodLink "QuotaLaws$Realm" 145 y_Realm_mostNeeded : Cond) ∈ tbg := tbg_in2 736 (by decide +kernel) rfl
theorem wd_737 : (.instanceMethod y_Realm_mostNeeded : Cond) ∈ tbg := tbg_in2 737 (by decide +kernel) rfl
theorem wd_738 : (.selects "QuotaLaws$Realm" y_Realm_mostNeeded y_Realm_mostNeeded : Cond) ∈ tbg := tbg_in2 738 (by decide +kernel) rfl
set_option maxRecDepth 100000 in
theorem wd_739 : (.code y_Realm_mostNeeded prog_5_method_25_code 6 (some .int) : Cond) ∈ tbg := tbg_in2 739 rfl rfl
theorem wd_740 : (.methodLink "QuotaLaws$Realm" 148 y_Realm_breakable : Cond) ∈ tbg := tbg_in2 740 (by decide +kernel) rfl
theorem wd_741 : (.methodLink "QuotaLaws" 220 y_Realm_met : Cond) ∈ tbg := tbg_in2 741 (by decide +kernel) rfl
theorem wd_742 : (.instanceMethod y_Realm_met : Cond) ∈ tbg := tbg_in2 742 (by decide +kernel) rfl
theorem wd_743 : (.selects "QuotaLaws$Realm" y_Realm_met y_Realm_met : Cond) ∈ tbg := tbg_in2 743 (by decide +kernel) rfl
set_option maxRecDepth 100000 in
theorem wd_744 : (.code y_Realm_met prog_5_method_23_code 3 (some .int) : Cond) ∈ tbg := tbg_in2 744 rfl rfl
theorem wd_749 : (.constantLong "QuotaLaws" 223 (-1) : Cond) ∈ tbg := tbg_in2 749 (by decide +kernel) rfl
theorem wd_750 : (.methodLink "QuotaLaws" 225 y_Odds_weigh : Cond) ∈ tbg := tbg_in2 750 (by decide +kernel) rfl
theorem wd_751 : (.instanceMethod y_Odds_weigh : Cond) ∈ tbg := tbg_in2 751 (by decide +kernel) rfl
theorem wd_752 : (.selects "QuotaLaws$Odds" y_Odds_weigh y_Odds_weigh : Cond) ∈ tbg := tbg_in2 752 (by decide +kernel) rfl
set_option maxRecDepth 100000 in
theorem wd_753 : (.code y_Odds_weigh prog_2_method_2_code 6 none : Cond) ∈ tbg := tbg_in2 753 rfl rfl
theorem wd_754 : (.methodLink "QuotaLaws$Odds" 15 y_Arrays_fillJ : Cond) ∈ tbg := tbg_in2 754 (by decide +kernel) rfl
theorem wd_755 : (.static y_Arrays_fillJ : Cond) ∈ tbg := tbg_in2 755 (by decide +kernel) rfl
set_option maxRecDepth 100000 in
theorem wd_756 : (.code y_Arrays_fillJ prog_17_method_101_code 5 none : Cond) ∈ tbg := tbg_in2 756 rfl rfl
theorem wd_757 : (.methodLink "QuotaLaws$Odds" 31 y_Realm_ableAlone : Cond) ∈ tbg := tbg_in2 757 (by decide +kernel) rfl
theorem wd_758 : (.methodLink "QuotaLaws$Odds" 39 y_Odds_addTry : Cond) ∈ tbg := tbg_in2 758 (by decide +kernel) rfl
theorem wd_760 : (.instanceMethod y_Odds_addTry : Cond) ∈ tbg := tbg_in2 760 (by decide +kernel) rfl
set_option maxRecDepth 100000 in
theorem wd_761 : (.code y_Odds_addTry prog_2_method_3_code 3 none : Cond) ∈ tbg := tbg_in2 761 rfl rfl
theorem wd_762 : (.constantLong "QuotaLaws$Odds" 53 (10) : Cond) ∈ tbg := tbg_in2 762 (by decide +kernel) rfl
theorem wd_763 : (.methodLink "QuotaLaws$Odds" 46 y_Realm_needOf : Cond) ∈ tbg := tbg_in2 763 (by decide +kernel) rfl
theorem wd_764 : (.methodLink "QuotaLaws$Odds" 50 y_Odds_reduce : Cond) ∈ tbg := tbg_in2 764 (by decide +kernel) rfl
theorem wd_766 : (.instanceMethod y_Odds_reduce : Cond) ∈ tbg := tbg_in2 766 (by decide +kernel) rfl
set_option maxRecDepth 100000 in
theorem wd_767 : (.code y_Odds_reduce prog_2_method_4_code 8 none : Cond) ∈ tbg := tbg_in2 767 rfl rfl
theorem wd_772 : (.methodLink "QuotaLaws" 240 y_Sightings_append : Cond) ∈ tbg := tbg_in2 772 (by decide +kernel) rfl
theorem wd_773 : (.instanceMethod y_Sightings_append : Cond) ∈ tbg := tbg_in2 773 (by decide +kernel) rfl
theorem wd_774 : (.selects "QuotaLaws$Sightings" y_Sightings_append y_Sightings_append : Cond) ∈ tbg := tbg_in2 774 (by decide +kernel) rfl
set_option maxRecDepth 100000 in
theorem wd_775 : (.code y_Sightings_append prog_7_method_2_code 4 (some .boolean) : Cond) ∈ tbg := tbg_in2 775 rfl rfl
theorem wd_784 : (.methodLink "QuotaLaws" 247 y_Tables_load : Cond) ∈ tbg := tbg_in2 784 (by decide +kernel) rfl
theorem wd_785 : (.instanceMethod y_Tables_load : Cond) ∈ tbg := tbg_in2 785 (by decide +kernel) rfl
theorem wd_786 : (.selects "QuotaLaws$Tables" y_Tables_load y_Tables_load : Cond) ∈ tbg := tbg_in2 786 (by decide +kernel) rfl
set_option maxRecDepth 100000 in
theorem wd_787 : (.code y_Tables_load prog_8_method_2_code 6 none : Cond) ∈ tbg := tbg_in2 787 rfl rfl
theorem wd_788 : (.methodLink "QuotaLaws$Tables" 41 y_Arrays_fillI : Cond) ∈ tbg := tbg_in2 788 (by decide +kernel) rfl
theorem wd_789 : (.methodLink "QuotaLaws$Tables" 53 y_Sightings_sumDue : Cond) ∈ tbg := tbg_in2 789 (by decide +kernel) rfl
theorem wd_790 : (.instanceMethod y_Sightings_sumDue : Cond) ∈ tbg := tbg_in2 790 (by decide +kernel) rfl
theorem wd_791 : (.selects "QuotaLaws$Sightings" y_Sightings_sumDue y_Sightings_sumDue : Cond) ∈ tbg := tbg_in2 791 (by decide +kernel) rfl
set_option maxRecDepth 100000 in
theorem wd_792 : (.code y_Sightings_sumDue prog_7_method_3_code 5 (some .int) : Cond) ∈ tbg := tbg_in2 792 rfl rfl
theorem wd_793 : (.methodLink "QuotaLaws$Tables" 57 y_Realm_hasOne : Cond) ∈ tbg := tbg_in2 793 (by decide +kernel) rfl
theorem wd_794 : (.methodLinkNest "QuotaLaws$Tables" 65 y_Q_hasBit "QuotaLaws" : Cond) ∈ nests := nests_in2 794 (by decide +kernel) rfl
theorem wd_795 : (.methodLink "QuotaLaws" 248 y_Tables_fitting : Cond) ∈ tbg := tbg_in2 795 (by decide +kernel) rfl
theorem wd_796 : (.instanceMethod y_Tables_fitting : Cond) ∈ tbg := tbg_in2 796 (by decide +kernel) rfl
theorem wd_797 : (.selects "QuotaLaws$Tables" y_Tables_fitting y_Tables_fitting : Cond) ∈ tbg := tbg_in2 797 (by decide +kernel) rfl
set_option maxRecDepth 100000 in
theorem wd_798 : (.code y_Tables_fitting prog_8_method_4_code 3 (some .long) : Cond) ∈ tbg := tbg_in2 798 rfl rfl
theorem wd_799 : (.methodLink "QuotaLaws$Tables" 76 y_Arrays_fillJ : Cond) ∈ tbg := tbg_in2 799 (by decide +kernel) rfl
theorem wd_800 : (.methodLink "QuotaLaws$Tables" 79 y_Tables_spendAlone : Cond) ∈ tbg := tbg_in2 800 (by decide +kernel) rfl
theorem wd_802 : (.instanceMethod y_Tables_spendAlone : Cond) ∈ tbg := tbg_in2 802 (by decide +kernel) rfl
set_option maxRecDepth 100000 in
theorem wd_803 : (.code y_Tables_spendAlone prog_8_method_5_code 9 none : Cond) ∈ tbg := tbg_in2 803 rfl rfl
theorem wd_804 : (.methodLink "QuotaLaws$Tables" 83 y_Tables_joinAll : Cond) ∈ tbg := tbg_in2 804 (by decide +kernel) rfl
theorem wd_806 : (.instanceMethod y_Tables_joinAll : Cond) ∈ tbg := tbg_in2 806 (by decide +kernel) rfl
set_option maxRecDepth 100000 in
theorem wd_807 : (.code y_Tables_joinAll prog_8_method_6_code 4 none : Cond) ∈ tbg := tbg_in2 807 rfl rfl
theorem wd_808 : (.methodLink "QuotaLaws$Tables" 93 y_Tables_stateOf : Cond) ∈ tbg := tbg_in2 808 (by decide +kernel) rfl
theorem wd_809 : (.static y_Tables_stateOf : Cond) ∈ tbg := tbg_in2 809 (by decide +kernel) rfl
set_option maxRecDepth 100000 in
theorem wd_810 : (.code y_Tables_stateOf prog_8_method_11_code 3 (some .int) : Cond) ∈ tbg := tbg_in2 810 rfl rfl
theorem wd_811 : (.methodLink "QuotaLaws$Tables" 86 y_Tables_spendTogether : Cond) ∈ tbg := tbg_in2 811 (by decide +kernel) rfl
theorem wd_813 : (.instanceMethod y_Tables_spendTogether : Cond) ∈ tbg := tbg_in2 813 (by decide +kernel) rfl
set_option maxRecDepth 100000 in
theorem wd_814 : (.code y_Tables_spendTogether prog_8_method_7_code 5 none : Cond) ∈ tbg := tbg_in2 814 rfl rfl
theorem wd_815 : (.methodLink "QuotaLaws$Tables" 97 y_Tables_waysTo : Cond) ∈ tbg := tbg_in2 815 (by decide +kernel) rfl
theorem wd_817 : (.instanceMethod y_Tables_waysTo : Cond) ∈ tbg := tbg_in2 817 (by decide +kernel) rfl
set_option maxRecDepth 100000 in
theorem wd_818 : (.code y_Tables_waysTo prog_8_method_8_code 13 (some .long) : Cond) ∈ tbg := tbg_in2 818 rfl rfl
theorem wd_819 : (.methodLink "QuotaLaws$Tables" 101 Lib.Math.min.name : Cond) ∈ tbg := tbg_in2 819 (by decide +kernel) rfl
theorem wd_820 : (.methodLinkNest "QuotaLaws$Tables" 106 y_Q_isWithin "QuotaLaws" : Cond) ∈ nests := nests_in2 820 (by decide +kernel) rfl
theorem wd_821 : (.methodLink "QuotaLaws$Tables" 90 y_Tables_sumOfDue : Cond) ∈ tbg := tbg_in2 821 (by decide +kernel) rfl
theorem wd_823 : (.instanceMethod y_Tables_sumOfDue : Cond) ∈ tbg := tbg_in2 823 (by decide +kernel) rfl
set_option maxRecDepth 100000 in
theorem wd_824 : (.code y_Tables_sumOfDue prog_8_method_9_code 6 (some .long) : Cond) ∈ tbg := tbg_in2 824 rfl rfl
theorem wd_825 : (.methodLink "QuotaLaws$Tables" 110 y_Tables_isDueOf : Cond) ∈ tbg := tbg_in2 825 (by decide +kernel) rfl
theorem wd_827 : (.instanceMethod y_Tables_isDueOf : Cond) ∈ tbg := tbg_in2 827 (by decide +kernel) rfl
set_option maxRecDepth 100000 in
theorem wd_828 : (.code y_Tables_isDueOf prog_8_method_10_code 3 (some .boolean) : Cond) ∈ tbg := tbg_in2 828 rfl rfl
theorem wd_833 : (.methodLink "QuotaLaws" 252 y_Tables_firstThatFits : Cond) ∈ tbg := tbg_in2 833 (by decide +kernel) rfl
theorem wd_834 : (.instanceMethod y_Tables_firstThatFits : Cond) ∈ tbg := tbg_in2 834 (by decide +kernel) rfl
theorem wd_835 : (.selects "QuotaLaws$Tables" y_Tables_firstThatFits y_Tables_firstThatFits : Cond) ∈ tbg := tbg_in2 835 (by decide +kernel) rfl
set_option maxRecDepth 100000 in
theorem wd_836 : (.code y_Tables_firstThatFits prog_8_method_3_code 8 (some .int) : Cond) ∈ tbg := tbg_in2 836 rfl rfl
theorem wd_837 : (.methodLink "QuotaLaws$Tables" 72 y_Tables_fitting : Cond) ∈ tbg := tbg_in2 837 (by decide +kernel) rfl
theorem wd_842 : (.methodLink "QuotaLaws" 255 y_Realm_breakBySeed : Cond) ∈ tbg := tbg_in2 842 (by decide +kernel) rfl
theorem wd_843 : (.instanceMethod y_Realm_breakBySeed : Cond) ∈ tbg := tbg_in2 843 (by decide +kernel) rfl
theorem wd_844 : (.selects "QuotaLaws$Realm" y_Realm_breakBySeed y_Realm_breakBySeed : Cond) ∈ tbg := tbg_in2 844 (by decide +kernel) rfl
set_option maxRecDepth 100000 in
theorem wd_845 : (.code y_Realm_breakBySeed prog_5_method_26_code 8 (some .int) : Cond) ∈ tbg := tbg_in2 845 rfl rfl
theorem wd_846 : (.methodLink "QuotaLaws$Realm" 151 y_Realm_nextSeed : Cond) ∈ tbg := tbg_in2 846 (by decide +kernel) rfl
theorem wd_847 : (.static y_Realm_nextSeed : Cond) ∈ tbg := tbg_in2 847 (by decide +kernel) rfl
set_option maxRecDepth 100000 in
theorem wd_848 : (.code y_Realm_nextSeed prog_5_method_27_code 1 (some .int) : Cond) ∈ tbg := tbg_in2 848 rfl rfl
theorem wd_849 : (.constant "QuotaLaws$Realm" 160 (1103515245) : Cond) ∈ tbg := tbg_in2 849 (by decide +kernel) rfl
theorem wd_850 : (.methodLink "QuotaLaws$Realm" 154 y_Realm_drawn : Cond) ∈ tbg := tbg_in2 850 (by decide +kernel) rfl
theorem wd_851 : (.static y_Realm_drawn : Cond) ∈ tbg := tbg_in2 851 (by decide +kernel) rfl
set_option maxRecDepth 100000 in
theorem wd_852 : (.code y_Realm_drawn prog_5_method_28_code 1 (some .int) : Cond) ∈ tbg := tbg_in2 852 rfl rfl
theorem wd_853 : (.methodLink "QuotaLaws$Realm" 157 y_Realm_breakOnce : Cond) ∈ tbg := tbg_in2 853 (by decide +kernel) rfl
theorem wd_866 : (.methodLink "QuotaLaws" 258 y_Sheet_renew : Cond) ∈ tbg := tbg_in2 866 (by decide +kernel) rfl
theorem wd_867 : (.instanceMethod y_Sheet_renew : Cond) ∈ tbg := tbg_in2 867 (by decide +kernel) rfl
theorem wd_868 : (.selects "QuotaLaws$Sheet" y_Sheet_renew y_Sheet_renew : Cond) ∈ tbg := tbg_in2 868 (by decide +kernel) rfl
set_option maxRecDepth 100000 in
theorem wd_869 : (.code y_Sheet_renew prog_6_method_2_code 3 none : Cond) ∈ tbg := tbg_in2 869 rfl rfl
theorem wd_870 : (.methodLink "QuotaLaws$Sheet" 22 y_Arrays_fillI : Cond) ∈ tbg := tbg_in2 870 (by decide +kernel) rfl
theorem wd_875 : (.methodLink "QuotaLaws" 261 y_Sheet_faultAt : Cond) ∈ tbg := tbg_in2 875 (by decide +kernel) rfl
theorem wd_876 : (.instanceMethod y_Sheet_faultAt : Cond) ∈ tbg := tbg_in2 876 (by decide +kernel) rfl
theorem wd_877 : (.selects "QuotaLaws$Sheet" y_Sheet_faultAt y_Sheet_faultAt : Cond) ∈ tbg := tbg_in2 877 (by decide +kernel) rfl
set_option maxRecDepth 100000 in
theorem wd_878 : (.code y_Sheet_faultAt prog_6_method_5_code 3 (some .int) : Cond) ∈ tbg := tbg_in2 878 rfl rfl
theorem wd_879 : (.methodLink "QuotaLaws" 265 y_Sheet_put : Cond) ∈ tbg := tbg_in2 879 (by decide +kernel) rfl
theorem wd_880 : (.instanceMethod y_Sheet_put : Cond) ∈ tbg := tbg_in2 880 (by decide +kernel) rfl
theorem wd_881 : (.selects "QuotaLaws$Sheet" y_Sheet_put y_Sheet_put : Cond) ∈ tbg := tbg_in2 881 (by decide +kernel) rfl
set_option maxRecDepth 100000 in
theorem wd_882 : (.code y_Sheet_put prog_6_method_3_code 3 none : Cond) ∈ tbg := tbg_in2 882 rfl rfl
theorem wd_887 : (.methodLink "QuotaLaws" 268 y_Sheet_faultAs : Cond) ∈ tbg := tbg_in2 887 (by decide +kernel) rfl
theorem wd_888 : (.instanceMethod y_Sheet_faultAs : Cond) ∈ tbg := tbg_in2 888 (by decide +kernel) rfl
theorem wd_889 : (.selects "QuotaLaws$Sheet" y_Sheet_faultAs y_Sheet_faultAs : Cond) ∈ tbg := tbg_in2 889 (by decide +kernel) rfl
set_option maxRecDepth 100000 in
theorem wd_890 : (.code y_Sheet_faultAs prog_6_method_7_code 2 (some .int) : Cond) ∈ tbg := tbg_in2 890 rfl rfl
theorem wd_891 : (.methodLink "QuotaLaws" 271 y_Sheet_faultOfPair : Cond) ∈ tbg := tbg_in2 891 (by decide +kernel) rfl
theorem wd_892 : (.instanceMethod y_Sheet_faultOfPair : Cond) ∈ tbg := tbg_in2 892 (by decide +kernel) rfl
theorem wd_893 : (.selects "QuotaLaws$Sheet" y_Sheet_faultOfPair y_Sheet_faultOfPair : Cond) ∈ tbg := tbg_in2 893 (by decide +kernel) rfl
set_option maxRecDepth 100000 in
theorem wd_894 : (.code y_Sheet_faultOfPair prog_6_method_6_code 4 (some .int) : Cond) ∈ tbg := tbg_in2 894 rfl rfl
theorem wd_895 : (.methodLink "QuotaLaws$Sheet" 28 y_Sheet_faultAt : Cond) ∈ tbg := tbg_in2 895 (by decide +kernel) rfl
theorem wd_896 : (.methodLink "QuotaLaws" 274 y_Sheet_cellAt : Cond) ∈ tbg := tbg_in2 896 (by decide +kernel) rfl
theorem wd_897 : (.instanceMethod y_Sheet_cellAt : Cond) ∈ tbg := tbg_in2 897 (by decide +kernel) rfl
theorem wd_898 : (.selects "QuotaLaws$Sheet" y_Sheet_cellAt y_Sheet_cellAt : Cond) ∈ tbg := tbg_in2 898 (by decide +kernel) rfl
set_option maxRecDepth 100000 in
theorem wd_899 : (.code y_Sheet_cellAt prog_6_method_4_code 3 (some .int) : Cond) ∈ tbg := tbg_in2 899 rfl rfl
theorem wd_908 : (.methodLink "QuotaLaws" 280 y_Realm_brokenInAll : Cond) ∈ tbg := tbg_in2 908 (by decide +kernel) rfl
theorem wd_909 : (.instanceMethod y_Realm_brokenInAll : Cond) ∈ tbg := tbg_in2 909 (by decide +kernel) rfl
theorem wd_910 : (.selects "QuotaLaws$Realm" y_Realm_brokenInAll y_Realm_brokenInAll : Cond) ∈ tbg := tbg_in2 910 (by decide +kernel) rfl
set_option maxRecDepth 100000 in
theorem wd_911 : (.code y_Realm_brokenInAll prog_5_method_9_code 3 (some .int) : Cond) ∈ tbg := tbg_in2 911 rfl rfl
theorem wd_912 : (.methodLink "QuotaLaws" 283 y_Q_countKept : Cond) ∈ tbg := tbg_in2 912 (by decide +kernel) rfl
theorem wd_914 : (.instanceMethod y_Q_countKept : Cond) ∈ tbg := tbg_in2 914 (by decide +kernel) rfl
set_option maxRecDepth 100000 in
theorem wd_915 : (.code y_Q_countKept prog_1_method_40_code 3 (some .int) : Cond) ∈ tbg := tbg_in2 915 rfl rfl
theorem wd_916 : (.methodLink "QuotaLaws" 287 y_Realm_allPurses : Cond) ∈ tbg := tbg_in2 916 (by decide +kernel) rfl
theorem wd_917 : (.instanceMethod y_Realm_allPurses : Cond) ∈ tbg := tbg_in2 917 (by decide +kernel) rfl
theorem wd_918 : (.selects "QuotaLaws$Realm" y_Realm_allPurses y_Realm_allPurses : Cond) ∈ tbg := tbg_in2 918 (by decide +kernel) rfl
set_option maxRecDepth 100000 in
theorem wd_919 : (.code y_Realm_allPurses prog_5_method_12_code 3 (some .int) : Cond) ∈ tbg := tbg_in2 919 rfl rfl
theorem wd_920 : (.methodLink "QuotaLaws" 290 y_Realm_allNeed : Cond) ∈ tbg := tbg_in2 920 (by decide +kernel) rfl
theorem wd_921 : (.instanceMethod y_Realm_allNeed : Cond) ∈ tbg := tbg_in2 921 (by decide +kernel) rfl
theorem wd_922 : (.selects "QuotaLaws$Realm" y_Realm_allNeed y_Realm_allNeed : Cond) ∈ tbg := tbg_in2 922 (by decide +kernel) rfl
set_option maxRecDepth 100000 in
theorem wd_923 : (.code y_Realm_allNeed prog_5_method_11_code 3 (some .int) : Cond) ∈ tbg := tbg_in2 923 rfl rfl
theorem wd_930 : (.methodLink "QuotaLawsModel" 87 y_M_firstDraft : Cond) ∈ tbg := tbg_in2 930 (by decide +kernel) rfl
theorem wd_932 : (.instanceMethod y_M_firstDraft : Cond) ∈ tbg := tbg_in2 932 (by decide +kernel) rfl
set_option maxRecDepth 100000 in
theorem wd_933 : (.code y_M_firstDraft prog_10_method_5_code 2 none : Cond) ∈ tbg := tbg_in2 933 rfl rfl
theorem wd_934 : (.methodLink "QuotaLawsModel" 90 y_M_keepDraft : Cond) ∈ tbg := tbg_in2 934 (by decide +kernel) rfl
theorem wd_936 : (.instanceMethod y_M_keepDraft : Cond) ∈ tbg := tbg_in2 936 (by decide +kernel) rfl
set_option maxRecDepth 100000 in
theorem wd_937 : (.code y_M_keepDraft prog_10_method_6_code 2 none : Cond) ∈ tbg := tbg_in2 937 rfl rfl
theorem wd_938 : (.fieldLink "QuotaLawsModel" 7 "QuotaLawsModel" "st" "[I" : Cond) ∈ tbg := tbg_in2 938 (by decide +kernel) rfl
theorem wd_939 : (.fieldLink "QuotaLawsModel" 13 "QuotaLawsModel" "isKept" "[Z" : Cond) ∈ tbg := tbg_in2 939 (by decide +kernel) rfl
theorem wd_940 : (.fieldLink "QuotaLawsModel" 106 "QuotaLawsModel" "laws" "I" : Cond) ∈ tbg := tbg_in2 940 (by decide +kernel) rfl
theorem wd_941 : (.fieldLink "QuotaLawsModel" 109 "QuotaLawsModel" "people" "I" : Cond) ∈ tbg := tbg_in2 941 (by decide +kernel) rfl
theorem wd_942 : (.fieldLink "QuotaLawsModel" 17 "QuotaLawsModel" "cap" "[I" : Cond) ∈ tbg := tbg_in2 942 (by decide +kernel) rfl
theorem wd_943 : (.fieldLink "QuotaLawsModel" 20 "QuotaLawsModel" "harm" "[I" : Cond) ∈ tbg := tbg_in2 943 (by decide +kernel) rfl
theorem wd_944 : (.fieldLink "QuotaLawsModel" 23 "QuotaLawsModel" "fine" "[I" : Cond) ∈ tbg := tbg_in2 944 (by decide +kernel) rfl
theorem wd_945 : (.fieldLink "QuotaLawsModel" 26 "QuotaLawsModel" "clumsy" "[I" : Cond) ∈ tbg := tbg_in2 945 (by decide +kernel) rfl
theorem wd_946 : (.fieldLink "QuotaLawsModel" 29 "QuotaLawsModel" "nerve" "[I" : Cond) ∈ tbg := tbg_in2 946 (by decide +kernel) rfl
theorem wd_947 : (.fieldLink "QuotaLawsModel" 32 "QuotaLawsModel" "draft" "[I" : Cond) ∈ tbg := tbg_in2 947 (by decide +kernel) rfl
theorem wd_948 : (.fieldLink "QuotaLawsModel" 93 "QuotaLawsModel" "dLaws" "I" : Cond) ∈ tbg := tbg_in2 948 (by decide +kernel) rfl
theorem wd_949 : (.fieldLink "QuotaLawsModel" 97 "QuotaLawsModel" "dPeople" "I" : Cond) ∈ tbg := tbg_in2 949 (by decide +kernel) rfl
theorem wd_950 : (.fieldLink "QuotaLawsModel" 35 "QuotaLawsModel" "dCap" "[I" : Cond) ∈ tbg := tbg_in2 950 (by decide +kernel) rfl
theorem wd_951 : (.fieldLink "QuotaLawsModel" 38 "QuotaLawsModel" "dHarm" "[I" : Cond) ∈ tbg := tbg_in2 951 (by decide +kernel) rfl
theorem wd_952 : (.fieldLink "QuotaLawsModel" 41 "QuotaLawsModel" "dFine" "[I" : Cond) ∈ tbg := tbg_in2 952 (by decide +kernel) rfl
theorem wd_953 : (.fieldLink "QuotaLawsModel" 44 "QuotaLawsModel" "dClumsy" "[I" : Cond) ∈ tbg := tbg_in2 953 (by decide +kernel) rfl
theorem wd_954 : (.fieldLink "QuotaLawsModel" 47 "QuotaLawsModel" "dNerve" "[I" : Cond) ∈ tbg := tbg_in2 954 (by decide +kernel) rfl
theorem wd_955 : (.fieldLink "QuotaLawsModel" 100 "QuotaLawsModel" "highestLaw" "I" : Cond) ∈ tbg := tbg_in2 955 (by decide +kernel) rfl
theorem wd_956 : (.fieldLink "QuotaLawsModel" 103 "QuotaLawsModel" "highestOne" "I" : Cond) ∈ tbg := tbg_in2 956 (by decide +kernel) rfl
theorem wd_957 : (.fieldLink "QuotaLawsModel" 50 "QuotaLawsModel" "tape" "[I" : Cond) ∈ tbg := tbg_in2 957 (by decide +kernel) rfl
theorem wd_958 : (.fieldLink "QuotaLawsModel" 118 "QuotaLawsModel" "taped" "I" : Cond) ∈ tbg := tbg_in2 958 (by decide +kernel) rfl
theorem wd_959 : (.fieldLink "QuotaLawsModel" 130 "QuotaLawsModel" "pos" "I" : Cond) ∈ tbg := tbg_in2 959 (by decide +kernel) rfl
theorem wd_960 : (.fieldLink "QuotaLawsModel" 124 "QuotaLawsModel" "from" "I" : Cond) ∈ tbg := tbg_in2 960 (by decide +kernel) rfl
theorem wd_961 : (.fieldLink "QuotaLawsModel" 141 "QuotaLawsModel" "sort" "I" : Cond) ∈ tbg := tbg_in2 961 (by decide +kernel) rfl
theorem wd_962 : (.fieldLink "QuotaLawsModel" 152 "QuotaLawsModel" "value" "I" : Cond) ∈ tbg := tbg_in2 962 (by decide +kernel) rfl
theorem wd_963 : (.fieldLink "QuotaLawsModel" 121 "QuotaLawsModel" "fault" "I" : Cond) ∈ tbg := tbg_in2 963 (by decide +kernel) rfl
theorem wd_964 : (.fieldLink "QuotaLawsModel" 127 "QuotaLawsModel" "wrongAt" "I" : Cond) ∈ tbg := tbg_in2 964 (by decide +kernel) rfl
theorem wd_965 : (.fieldLink "QuotaLawsModel" 53 "QuotaLawsModel" "least" "[I" : Cond) ∈ tbg := tbg_in2 965 (by decide +kernel) rfl
theorem wd_966 : (.fieldLink "QuotaLawsModel" 56 "QuotaLawsModel" "needs" "[I" : Cond) ∈ tbg := tbg_in2 966 (by decide +kernel) rfl
theorem wd_967 : (.fieldLink "QuotaLawsModel" 59 "QuotaLawsModel" "lefts" "[I" : Cond) ∈ tbg := tbg_in2 967 (by decide +kernel) rfl
theorem wd_968 : (.fieldLink "QuotaLawsModel" 62 "QuotaLawsModel" "shares" "[I" : Cond) ∈ tbg := tbg_in2 968 (by decide +kernel) rfl
theorem wd_969 : (.fieldLink "QuotaLawsModel" 65 "QuotaLawsModel" "saved" "[I" : Cond) ∈ tbg := tbg_in2 969 (by decide +kernel) rfl
theorem wd_970 : (.fieldLink "QuotaLawsModel" 68 "QuotaLawsModel" "ways" "[J" : Cond) ∈ tbg := tbg_in2 970 (by decide +kernel) rfl
theorem wd_971 : (.fieldLink "QuotaLawsModel" 72 "QuotaLawsModel" "tables" "[J" : Cond) ∈ tbg := tbg_in2 971 (by decide +kernel) rfl
theorem wd_972 : (.fieldLink "QuotaLawsModel" 75 "QuotaLawsModel" "then" "[J" : Cond) ∈ tbg := tbg_in2 972 (by decide +kernel) rfl
theorem wd_973 : (.fieldLink "QuotaLawsModel" 78 "QuotaLawsModel" "lanes" "[I" : Cond) ∈ tbg := tbg_in2 973 (by decide +kernel) rfl
theorem wd_974 : (.fieldLink "QuotaLawsModel" 81 "QuotaLawsModel" "sizes" "[I" : Cond) ∈ tbg := tbg_in2 974 (by decide +kernel) rfl
theorem wd_975 : (.fieldLink "QuotaLawsModel" 84 "QuotaLawsModel" "cells" "[I" : Cond) ∈ tbg := tbg_in2 975 (by decide +kernel) rfl
theorem wd_976 : (.fieldLink "QuotaLawsModel" 332 "QuotaLawsModel" "torn" "I" : Cond) ∈ tbg := tbg_in2 976 (by decide +kernel) rfl
theorem wd_1060 : (.constantLong "QuotaLawsModel" 112 (127) : Cond) ∈ tbg := tbg_in2 1060 (by decide +kernel) rfl
theorem wd_1061 : (.methodLink "QuotaLawsModel" 114 y_M_in : Cond) ∈ tbg := tbg_in2 1061 (by decide +kernel) rfl
theorem wd_1062 : (.static y_M_in : Cond) ∈ tbg := tbg_in2 1062 (by decide +kernel) rfl
set_option maxRecDepth 100000 in
theorem wd_1063 : (.code y_M_in prog_10_method_3_code 6 (some .boolean) : Cond) ∈ tbg := tbg_in2 1063 rfl rfl
theorem wd_1072 : (.methodLink "QuotaLawsModel" 162 y_M_next : Cond) ∈ tbg := tbg_in2 1072 (by decide +kernel) rfl
theorem wd_1074 : (.instanceMethod y_M_next : Cond) ∈ tbg := tbg_in2 1074 (by decide +kernel) rfl
set_option maxRecDepth 100000 in
theorem wd_1075 : (.code y_M_next prog_10_method_13_code 2 none : Cond) ∈ tbg := tbg_in2 1075 rfl rfl
theorem wd_1076 : (.methodLink "QuotaLawsModel" 133 y_M_look : Cond) ∈ tbg := tbg_in2 1076 (by decide +kernel) rfl
theorem wd_1078 : (.instanceMethod y_M_look : Cond) ∈ tbg := tbg_in2 1078 (by decide +kernel) rfl
set_option maxRecDepth 100000 in
theorem wd_1079 : (.code y_M_look prog_10_method_10_code 2 (some .int) : Cond) ∈ tbg := tbg_in2 1079 rfl rfl
theorem wd_1080 : (.constantLong "QuotaLawsModel" 144 (97) : Cond) ∈ tbg := tbg_in2 1080 (by decide +kernel) rfl
theorem wd_1081 : (.constantLong "QuotaLawsModel" 146 (122) : Cond) ∈ tbg := tbg_in2 1081 (by decide +kernel) rfl
theorem wd_1082 : (.constantLong "QuotaLawsModel" 148 (48) : Cond) ∈ tbg := tbg_in2 1082 (by decide +kernel) rfl
theorem wd_1083 : (.constantLong "QuotaLawsModel" 150 (57) : Cond) ∈ tbg := tbg_in2 1083 (by decide +kernel) rfl
theorem wd_1084 : (.methodLink "QuotaLawsModel" 155 y_M_needs : Cond) ∈ tbg := tbg_in2 1084 (by decide +kernel) rfl
theorem wd_1086 : (.instanceMethod y_M_needs : Cond) ∈ tbg := tbg_in2 1086 (by decide +kernel) rfl
set_option maxRecDepth 100000 in
theorem wd_1087 : (.code y_M_needs prog_10_method_9_code 3 none : Cond) ∈ tbg := tbg_in2 1087 rfl rfl
theorem wd_1088 : (.methodLink "QuotaLawsModel" 185 y_M_readLine : Cond) ∈ tbg := tbg_in2 1088 (by decide +kernel) rfl
theorem wd_1090 : (.instanceMethod y_M_readLine : Cond) ∈ tbg := tbg_in2 1090 (by decide +kernel) rfl
set_option maxRecDepth 100000 in
theorem wd_1091 : (.code y_M_readLine prog_10_method_20_code 2 none : Cond) ∈ tbg := tbg_in2 1091 rfl rfl
theorem wd_1092 : (.methodLink "QuotaLawsModel" 177 y_M_lineNow : Cond) ∈ tbg := tbg_in2 1092 (by decide +kernel) rfl
theorem wd_1094 : (.instanceMethod y_M_lineNow : Cond) ∈ tbg := tbg_in2 1094 (by decide +kernel) rfl
set_option maxRecDepth 100000 in
theorem wd_1095 : (.code y_M_lineNow prog_10_method_12_code 1 (some .int) : Cond) ∈ tbg := tbg_in2 1095 rfl rfl
theorem wd_1096 : (.methodLink "QuotaLawsModel" 137 y_M_is : Cond) ∈ tbg := tbg_in2 1096 (by decide +kernel) rfl
theorem wd_1098 : (.instanceMethod y_M_is : Cond) ∈ tbg := tbg_in2 1098 (by decide +kernel) rfl
set_option maxRecDepth 100000 in
theorem wd_1099 : (.code y_M_is prog_10_method_11_code 5 (some .boolean) : Cond) ∈ tbg := tbg_in2 1099 rfl rfl
theorem wd_1100 : (.methodLink "QuotaLawsModel" 181 y_M_readLineOf : Cond) ∈ tbg := tbg_in2 1100 (by decide +kernel) rfl
theorem wd_1102 : (.instanceMethod y_M_readLineOf : Cond) ∈ tbg := tbg_in2 1102 (by decide +kernel) rfl
set_option maxRecDepth 100000 in
theorem wd_1103 : (.code y_M_readLineOf prog_10_method_19_code 3 none : Cond) ∈ tbg := tbg_in2 1103 rfl rfl
theorem wd_1104 : (.methodLink "QuotaLawsModel" 171 y_M_readLaw : Cond) ∈ tbg := tbg_in2 1104 (by decide +kernel) rfl
theorem wd_1106 : (.instanceMethod y_M_readLaw : Cond) ∈ tbg := tbg_in2 1106 (by decide +kernel) rfl
set_option maxRecDepth 100000 in
theorem wd_1107 : (.code y_M_readLaw prog_10_method_17_code 4 none : Cond) ∈ tbg := tbg_in2 1107 rfl rfl
theorem wd_1108 : (.methodLink "QuotaLawsModel" 165 y_M_readNumber : Cond) ∈ tbg := tbg_in2 1108 (by decide +kernel) rfl
theorem wd_1110 : (.instanceMethod y_M_readNumber : Cond) ∈ tbg := tbg_in2 1110 (by decide +kernel) rfl
set_option maxRecDepth 100000 in
theorem wd_1111 : (.code y_M_readNumber prog_10_method_15_code 4 (some .int) : Cond) ∈ tbg := tbg_in2 1111 rfl rfl
theorem wd_1112 : (.methodLink "QuotaLawsModel" 158 y_M_looked : Cond) ∈ tbg := tbg_in2 1112 (by decide +kernel) rfl
theorem wd_1114 : (.instanceMethod y_M_looked : Cond) ∈ tbg := tbg_in2 1114 (by decide +kernel) rfl
set_option maxRecDepth 100000 in
theorem wd_1115 : (.code y_M_looked prog_10_method_14_code 3 (some .int) : Cond) ∈ tbg := tbg_in2 1115 rfl rfl
theorem wd_1116 : (.methodLink "QuotaLawsModel" 168 y_M_readLawOf : Cond) ∈ tbg := tbg_in2 1116 (by decide +kernel) rfl
theorem wd_1118 : (.instanceMethod y_M_readLawOf : Cond) ∈ tbg := tbg_in2 1118 (by decide +kernel) rfl
set_option maxRecDepth 100000 in
theorem wd_1119 : (.code y_M_readLawOf prog_10_method_16_code 3 (some .int) : Cond) ∈ tbg := tbg_in2 1119 rfl rfl
theorem wd_1120 : (.methodLink "QuotaLawsModel" 174 y_M_readOne : Cond) ∈ tbg := tbg_in2 1120 (by decide +kernel) rfl
theorem wd_1122 : (.instanceMethod y_M_readOne : Cond) ∈ tbg := tbg_in2 1122 (by decide +kernel) rfl
set_option maxRecDepth 100000 in
theorem wd_1123 : (.code y_M_readOne prog_10_method_18_code 2 none : Cond) ∈ tbg := tbg_in2 1123 rfl rfl
theorem wd_1136 : (.methodLink "QuotaLawsModel" 210 y_M_isLaw : Cond) ∈ tbg := tbg_in2 1136 (by decide +kernel) rfl
theorem wd_1138 : (.instanceMethod y_M_isLaw : Cond) ∈ tbg := tbg_in2 1138 (by decide +kernel) rfl
set_option maxRecDepth 100000 in
theorem wd_1139 : (.code y_M_isLaw prog_10_method_23_code 2 (some .boolean) : Cond) ∈ tbg := tbg_in2 1139 rfl rfl
theorem wd_1140 : (.methodLink "QuotaLawsModel" 204 y_M_needOf : Cond) ∈ tbg := tbg_in2 1140 (by decide +kernel) rfl
theorem wd_1142 : (.instanceMethod y_M_needOf : Cond) ∈ tbg := tbg_in2 1142 (by decide +kernel) rfl
set_option maxRecDepth 100000 in
theorem wd_1143 : (.code y_M_needOf prog_10_method_29_code 4 (some .int) : Cond) ∈ tbg := tbg_in2 1143 rfl rfl
theorem wd_1144 : (.methodLink "QuotaLawsModel" 191 y_M_doesStand : Cond) ∈ tbg := tbg_in2 1144 (by decide +kernel) rfl
theorem wd_1146 : (.instanceMethod y_M_doesStand : Cond) ∈ tbg := tbg_in2 1146 (by decide +kernel) rfl
set_option maxRecDepth 100000 in
theorem wd_1147 : (.code y_M_doesStand prog_10_method_26_code 2 (some .boolean) : Cond) ∈ tbg := tbg_in2 1147 rfl rfl
theorem wd_1148 : (.methodLink "QuotaLawsModel" 188 y_M_brokenBy : Cond) ∈ tbg := tbg_in2 1148 (by decide +kernel) rfl
theorem wd_1150 : (.instanceMethod y_M_brokenBy : Cond) ∈ tbg := tbg_in2 1150 (by decide +kernel) rfl
set_option maxRecDepth 100000 in
theorem wd_1151 : (.code y_M_brokenBy prog_10_method_27_code 3 (some .int) : Cond) ∈ tbg := tbg_in2 1151 rfl rfl
theorem wd_1152 : (.methodLink "QuotaLawsModel" 207 y_M_chainOf : Cond) ∈ tbg := tbg_in2 1152 (by decide +kernel) rfl
theorem wd_1154 : (.instanceMethod y_M_chainOf : Cond) ∈ tbg := tbg_in2 1154 (by decide +kernel) rfl
set_option maxRecDepth 100000 in
theorem wd_1155 : (.code y_M_chainOf prog_10_method_30_code 4 (some .int) : Cond) ∈ tbg := tbg_in2 1155 rfl rfl
theorem wd_1160 : (.methodLink "QuotaLawsModel" 213 y_M_isOne : Cond) ∈ tbg := tbg_in2 1160 (by decide +kernel) rfl
theorem wd_1162 : (.instanceMethod y_M_isOne : Cond) ∈ tbg := tbg_in2 1162 (by decide +kernel) rfl
set_option maxRecDepth 100000 in
theorem wd_1163 : (.code y_M_isOne prog_10_method_24_code 2 (some .boolean) : Cond) ∈ tbg := tbg_in2 1163 rfl rfl
theorem wd_1164 : (.methodLink "QuotaLawsModel" 216 y_M_canBreak : Cond) ∈ tbg := tbg_in2 1164 (by decide +kernel) rfl
theorem wd_1166 : (.instanceMethod y_M_canBreak : Cond) ∈ tbg := tbg_in2 1166 (by decide +kernel) rfl
set_option maxRecDepth 100000 in
theorem wd_1167 : (.code y_M_canBreak prog_10_method_33_code 3 (some .boolean) : Cond) ∈ tbg := tbg_in2 1167 rfl rfl
theorem wd_1168 : (.methodLink "QuotaLawsModel" 198 y_M_roomOf : Cond) ∈ tbg := tbg_in2 1168 (by decide +kernel) rfl
theorem wd_1170 : (.instanceMethod y_M_roomOf : Cond) ∈ tbg := tbg_in2 1170 (by decide +kernel) rfl
set_option maxRecDepth 100000 in
theorem wd_1171 : (.code y_M_roomOf prog_10_method_31_code 5 (some .int) : Cond) ∈ tbg := tbg_in2 1171 rfl rfl
theorem wd_1172 : (.methodLink "QuotaLawsModel" 201 y_M_timeLeft : Cond) ∈ tbg := tbg_in2 1172 (by decide +kernel) rfl
theorem wd_1174 : (.instanceMethod y_M_timeLeft : Cond) ∈ tbg := tbg_in2 1174 (by decide +kernel) rfl
set_option maxRecDepth 100000 in
theorem wd_1175 : (.code y_M_timeLeft prog_10_method_32_code 3 (some .int) : Cond) ∈ tbg := tbg_in2 1175 rfl rfl
theorem wd_1176 : (.methodLink "QuotaLawsModel" 195 y_M_allBy : Cond) ∈ tbg := tbg_in2 1176 (by decide +kernel) rfl
theorem wd_1178 : (.instanceMethod y_M_allBy : Cond) ∈ tbg := tbg_in2 1178 (by decide +kernel) rfl
set_option maxRecDepth 100000 in
theorem wd_1179 : (.code y_M_allBy prog_10_method_28_code 4 (some .int) : Cond) ∈ tbg := tbg_in2 1179 rfl rfl
theorem wd_1180 : (.methodLink "QuotaLawsModel" 220 y_M_flag : Cond) ∈ tbg := tbg_in2 1180 (by decide +kernel) rfl
theorem wd_1181 : (.static y_M_flag : Cond) ∈ tbg := tbg_in2 1181 (by decide +kernel) rfl
set_option maxRecDepth 100000 in
theorem wd_1182 : (.code y_M_flag prog_10_method_4_code 1 (some .int) : Cond) ∈ tbg := tbg_in2 1182 rfl rfl
theorem wd_1191 : (.constantLong "QuotaLawsModel" 224 (9) : Cond) ∈ tbg := tbg_in2 1191 (by decide +kernel) rfl
theorem wd_1192 : (.methodLink "QuotaLawsModel" 226 y_M_becomes : Cond) ∈ tbg := tbg_in2 1192 (by decide +kernel) rfl
theorem wd_1194 : (.instanceMethod y_M_becomes : Cond) ∈ tbg := tbg_in2 1194 (by decide +kernel) rfl
set_option maxRecDepth 100000 in
theorem wd_1195 : (.code y_M_becomes prog_10_method_39_code 4 (some .int) : Cond) ∈ tbg := tbg_in2 1195 rfl rfl
theorem wd_1204 : (.methodLink "QuotaLawsModel" 229 y_M_becomesBit : Cond) ∈ tbg := tbg_in2 1204 (by decide +kernel) rfl
theorem wd_1206 : (.instanceMethod y_M_becomesBit : Cond) ∈ tbg := tbg_in2 1206 (by decide +kernel) rfl
set_option maxRecDepth 100000 in
theorem wd_1207 : (.code y_M_becomesBit prog_10_method_40_code 5 (some .int) : Cond) ∈ tbg := tbg_in2 1207 rfl rfl
theorem wd_1212 : (.constantLong "QuotaLawsModel" 233 (5) : Cond) ∈ tbg := tbg_in2 1212 (by decide +kernel) rfl
theorem wd_1225 : (.constantLong "QuotaLawsModel" 235 (99) : Cond) ∈ tbg := tbg_in2 1225 (by decide +kernel) rfl
theorem wd_1230 : (.methodLink "QuotaLawsModel" 237 y_M_bitsOf : Cond) ∈ tbg := tbg_in2 1230 (by decide +kernel) rfl
theorem wd_1231 : (.static y_M_bitsOf : Cond) ∈ tbg := tbg_in2 1231 (by decide +kernel) rfl
set_option maxRecDepth 100000 in
theorem wd_1232 : (.code y_M_bitsOf prog_10_method_25_code 3 (some .int) : Cond) ∈ tbg := tbg_in2 1232 rfl rfl
theorem wd_1234 : (.instanceMethod y_M_breaks : Cond) ∈ tbg := tbg_in2 1234 (by decide +kernel) rfl
theorem wd_1235 : (.selects "QuotaLawsModel" y_M_breaks y_M_breaks : Cond) ∈ tbg := tbg_in2 1235 (by decide +kernel) rfl
set_option maxRecDepth 100000 in
theorem wd_1236 : (.code y_M_breaks prog_10_method_49_code 5 (some .int) : Cond) ∈ tbg := tbg_in2 1236 rfl rfl
theorem wd_1241 : (.methodLink "QuotaLawsModel" 240 y_M_fallsNow : Cond) ∈ tbg := tbg_in2 1241 (by decide +kernel) rfl
theorem wd_1243 : (.instanceMethod y_M_fallsNow : Cond) ∈ tbg := tbg_in2 1243 (by decide +kernel) rfl
set_option maxRecDepth 100000 in
theorem wd_1244 : (.code y_M_fallsNow prog_10_method_34_code 3 (some .int) : Cond) ∈ tbg := tbg_in2 1244 rfl rfl
theorem wd_1257 : (.methodLink "QuotaLawsModel" 260 y_M_startsRota : Cond) ∈ tbg := tbg_in2 1257 (by decide +kernel) rfl
theorem wd_1259 : (.instanceMethod y_M_startsRota : Cond) ∈ tbg := tbg_in2 1259 (by decide +kernel) rfl
set_option maxRecDepth 100000 in
theorem wd_1260 : (.code y_M_startsRota prog_10_method_58_code 3 none : Cond) ∈ tbg := tbg_in2 1260 rfl rfl
theorem wd_1261 : (.methodLink "QuotaLawsModel" 263 y_M_findRota : Cond) ∈ tbg := tbg_in2 1261 (by decide +kernel) rfl
theorem wd_1263 : (.instanceMethod y_M_findRota : Cond) ∈ tbg := tbg_in2 1263 (by decide +kernel) rfl
set_option maxRecDepth 100000 in
theorem wd_1264 : (.code y_M_findRota prog_10_method_57_code 5 (some .int) : Cond) ∈ tbg := tbg_in2 1264 rfl rfl
theorem wd_1265 : (.methodLink "QuotaLawsModel" 247 y_M_at : Cond) ∈ tbg := tbg_in2 1265 (by decide +kernel) rfl
theorem wd_1266 : (.static y_M_at : Cond) ∈ tbg := tbg_in2 1266 (by decide +kernel) rfl
set_option maxRecDepth 100000 in
theorem wd_1267 : (.code y_M_at prog_10_method_53_code 4 (some .int) : Cond) ∈ tbg := tbg_in2 1267 rfl rfl
theorem wd_1268 : (.methodLink "QuotaLawsModel" 257 y_M_leastOf : Cond) ∈ tbg := tbg_in2 1268 (by decide +kernel) rfl
theorem wd_1270 : (.instanceMethod y_M_leastOf : Cond) ∈ tbg := tbg_in2 1270 (by decide +kernel) rfl
set_option maxRecDepth 100000 in
theorem wd_1271 : (.code y_M_leastOf prog_10_method_56_code 10 (some .int) : Cond) ∈ tbg := tbg_in2 1271 rfl rfl
theorem wd_1272 : (.constant "QuotaLawsModel" 246 (1000000) : Cond) ∈ tbg := tbg_in2 1272 (by decide +kernel) rfl
theorem wd_1273 : (.constantLong "QuotaLawsModel" 251 (3) : Cond) ∈ tbg := tbg_in2 1273 (by decide +kernel) rfl
theorem wd_1274 : (.methodLink "QuotaLawsModel" 253 y_M_harmBy : Cond) ∈ tbg := tbg_in2 1274 (by decide +kernel) rfl
theorem wd_1276 : (.instanceMethod y_M_harmBy : Cond) ∈ tbg := tbg_in2 1276 (by decide +kernel) rfl
set_option maxRecDepth 100000 in
theorem wd_1277 : (.code y_M_harmBy prog_10_method_55_code 10 (some .int) : Cond) ∈ tbg := tbg_in2 1277 rfl rfl
theorem wd_1278 : (.methodLink "QuotaLawsModel" 243 y_M_roomAt : Cond) ∈ tbg := tbg_in2 1278 (by decide +kernel) rfl
theorem wd_1280 : (.instanceMethod y_M_roomAt : Cond) ∈ tbg := tbg_in2 1280 (by decide +kernel) rfl
set_option maxRecDepth 100000 in
theorem wd_1281 : (.code y_M_roomAt prog_10_method_54_code 3 (some .int) : Cond) ∈ tbg := tbg_in2 1281 rfl rfl
theorem wd_1282 : (.methodLink "QuotaLawsModel" 266 y_M_sharesOf : Cond) ∈ tbg := tbg_in2 1282 (by decide +kernel) rfl
theorem wd_1284 : (.instanceMethod y_M_sharesOf : Cond) ∈ tbg := tbg_in2 1284 (by decide +kernel) rfl
set_option maxRecDepth 100000 in
theorem wd_1285 : (.code y_M_sharesOf prog_10_method_59_code 10 none : Cond) ∈ tbg := tbg_in2 1285 rfl rfl
theorem wd_1298 : (.methodLink "QuotaLawsModel" 270 y_M_triesOf : Cond) ∈ tbg := tbg_in2 1298 (by decide +kernel) rfl
theorem wd_1300 : (.instanceMethod y_M_triesOf : Cond) ∈ tbg := tbg_in2 1300 (by decide +kernel) rfl
set_option maxRecDepth 100000 in
theorem wd_1301 : (.code y_M_triesOf prog_10_method_63_code 4 (some .int) : Cond) ∈ tbg := tbg_in2 1301 rfl rfl
theorem wd_1306 : (.constantLong "QuotaLawsModel" 273 (2) : Cond) ∈ tbg := tbg_in2 1306 (by decide +kernel) rfl
theorem wd_1307 : (.methodLink "QuotaLawsModel" 275 y_M_saves : Cond) ∈ tbg := tbg_in2 1307 (by decide +kernel) rfl
theorem wd_1309 : (.instanceMethod y_M_saves : Cond) ∈ tbg := tbg_in2 1309 (by decide +kernel) rfl
set_option maxRecDepth 100000 in
theorem wd_1310 : (.code y_M_saves prog_10_method_65_code 2 none : Cond) ∈ tbg := tbg_in2 1310 rfl rfl
theorem wd_1311 : (.methodLink "QuotaLawsModel" 278 y_M_wantedBy : Cond) ∈ tbg := tbg_in2 1311 (by decide +kernel) rfl
theorem wd_1313 : (.instanceMethod y_M_wantedBy : Cond) ∈ tbg := tbg_in2 1313 (by decide +kernel) rfl
set_option maxRecDepth 100000 in
theorem wd_1314 : (.code y_M_wantedBy prog_10_method_67_code 5 (some .int) : Cond) ∈ tbg := tbg_in2 1314 rfl rfl
theorem wd_1315 : (.methodLink "QuotaLawsModel" 281 y_M_returns : Cond) ∈ tbg := tbg_in2 1315 (by decide +kernel) rfl
theorem wd_1317 : (.instanceMethod y_M_returns : Cond) ∈ tbg := tbg_in2 1317 (by decide +kernel) rfl
set_option maxRecDepth 100000 in
theorem wd_1318 : (.code y_M_returns prog_10_method_66_code 2 none : Cond) ∈ tbg := tbg_in2 1318 rfl rfl
theorem wd_1323 : (.constantLong "QuotaLawsModel" 284 (-1) : Cond) ∈ tbg := tbg_in2 1323 (by decide +kernel) rfl
theorem wd_1324 : (.constantLong "QuotaLawsModel" 286 (10) : Cond) ∈ tbg := tbg_in2 1324 (by decide +kernel) rfl
theorem wd_1325 : (.methodLink "QuotaLawsModel" 288 y_M_common : Cond) ∈ tbg := tbg_in2 1325 (by decide +kernel) rfl
theorem wd_1326 : (.static y_M_common : Cond) ∈ tbg := tbg_in2 1326 (by decide +kernel) rfl
set_option maxRecDepth 100000 in
theorem wd_1327 : (.code y_M_common prog_10_method_69_code 10 (some .long) : Cond) ∈ tbg := tbg_in2 1327 rfl rfl
theorem wd_1332 : (.constantLong "QuotaLawsModel" 292 (20) : Cond) ∈ tbg := tbg_in2 1332 (by decide +kernel) rfl
theorem wd_1341 : (.methodLink "QuotaLawsModel" 315 y_M_tablesBy : Cond) ∈ tbg := tbg_in2 1341 (by decide +kernel) rfl
theorem wd_1343 : (.instanceMethod y_M_tablesBy : Cond) ∈ tbg := tbg_in2 1343 (by decide +kernel) rfl
set_option maxRecDepth 100000 in
theorem wd_1344 : (.code y_M_tablesBy prog_10_method_79_code 7 (some .long) : Cond) ∈ tbg := tbg_in2 1344 rfl rfl
theorem wd_1345 : (.methodLink "QuotaLawsModel" 309 y_M_addsLaw : Cond) ∈ tbg := tbg_in2 1345 (by decide +kernel) rfl
theorem wd_1347 : (.instanceMethod y_M_addsLaw : Cond) ∈ tbg := tbg_in2 1347 (by decide +kernel) rfl
set_option maxRecDepth 100000 in
theorem wd_1348 : (.code y_M_addsLaw prog_10_method_76_code 9 none : Cond) ∈ tbg := tbg_in2 1348 rfl rfl
theorem wd_1349 : (.methodLink "QuotaLawsModel" 294 y_M_mostOf : Cond) ∈ tbg := tbg_in2 1349 (by decide +kernel) rfl
theorem wd_1351 : (.instanceMethod y_M_mostOf : Cond) ∈ tbg := tbg_in2 1351 (by decide +kernel) rfl
set_option maxRecDepth 100000 in
theorem wd_1352 : (.code y_M_mostOf prog_10_method_74_code 3 (some .int) : Cond) ∈ tbg := tbg_in2 1352 rfl rfl
theorem wd_1353 : (.methodLink "QuotaLawsModel" 297 y_M_isSo : Cond) ∈ tbg := tbg_in2 1353 (by decide +kernel) rfl
theorem wd_1355 : (.instanceMethod y_M_isSo : Cond) ∈ tbg := tbg_in2 1355 (by decide +kernel) rfl
set_option maxRecDepth 100000 in
theorem wd_1356 : (.code y_M_isSo prog_10_method_73_code 7 (some .boolean) : Cond) ∈ tbg := tbg_in2 1356 rfl rfl
theorem wd_1357 : (.methodLink "QuotaLawsModel" 301 y_M_isAsked : Cond) ∈ tbg := tbg_in2 1357 (by decide +kernel) rfl
theorem wd_1359 : (.instanceMethod y_M_isAsked : Cond) ∈ tbg := tbg_in2 1359 (by decide +kernel) rfl
set_option maxRecDepth 100000 in
theorem wd_1360 : (.code y_M_isAsked prog_10_method_75_code 7 (some .boolean) : Cond) ∈ tbg := tbg_in2 1360 rfl rfl
theorem wd_1361 : (.methodLink "QuotaLawsModel" 305 y_M_addsTables : Cond) ∈ tbg := tbg_in2 1361 (by decide +kernel) rfl
theorem wd_1363 : (.instanceMethod y_M_addsTables : Cond) ∈ tbg := tbg_in2 1363 (by decide +kernel) rfl
set_option maxRecDepth 100000 in
theorem wd_1364 : (.code y_M_addsTables prog_10_method_77_code 8 none : Cond) ∈ tbg := tbg_in2 1364 rfl rfl
theorem wd_1365 : (.methodLink "QuotaLawsModel" 312 y_M_isTime : Cond) ∈ tbg := tbg_in2 1365 (by decide +kernel) rfl
theorem wd_1367 : (.instanceMethod y_M_isTime : Cond) ∈ tbg := tbg_in2 1367 (by decide +kernel) rfl
set_option maxRecDepth 100000 in
theorem wd_1368 : (.code y_M_isTime prog_10_method_78_code 3 (some .boolean) : Cond) ∈ tbg := tbg_in2 1368 rfl rfl
theorem wd_1377 : (.constantLong "QuotaLawsModel" 319 (60) : Cond) ∈ tbg := tbg_in2 1377 (by decide +kernel) rfl
theorem wd_1378 : (.constant "QuotaLawsModel" 321 (1103515245) : Cond) ∈ tbg := tbg_in2 1378 (by decide +kernel) rfl
theorem wd_1379 : (.methodLink "QuotaLawsModel" 322 y_M_breaks : Cond) ∈ tbg := tbg_in2 1379 (by decide +kernel) rfl
theorem wd_1384 : (.methodLink "QuotaLawsModel" 325 y_M_copies : Cond) ∈ tbg := tbg_in2 1384 (by decide +kernel) rfl
theorem wd_1386 : (.instanceMethod y_M_copies : Cond) ∈ tbg := tbg_in2 1386 (by decide +kernel) rfl
set_option maxRecDepth 100000 in
theorem wd_1387 : (.code y_M_copies prog_10_method_83_code 4 none : Cond) ∈ tbg := tbg_in2 1387 rfl rfl
theorem wd_1396 : (.methodLink "QuotaLawsModel" 329 y_M_isSheet : Cond) ∈ tbg := tbg_in2 1396 (by decide +kernel) rfl
theorem wd_1397 : (.static y_M_isSheet : Cond) ∈ tbg := tbg_in2 1397 (by decide +kernel) rfl
set_option maxRecDepth 100000 in
theorem wd_1398 : (.code y_M_isSheet prog_10_method_86_code 2 (some .boolean) : Cond) ∈ tbg := tbg_in2 1398 rfl rfl
theorem wd_1415 : (.fieldLink "java/lang/String" 9 "java/lang/String" "value" "[B" : Cond) ∈ tbg := tbg_in2 1415 (by decide +kernel) rfl
theorem wd_1416 : (.fieldLink "java/lang/String" 15 "java/lang/String" "coder" "B" : Cond) ∈ tbg := tbg_in2 1416 (by decide +kernel) rfl
theorem wp_0 : (.selects "QuotaLaws$Reader" y_Reader_takeToken y_Reader_takeToken : Cond) ∈ tbg := tbg_in3 0 (by decide +kernel) rfl
theorem wp_1 : (.selects "QuotaLaws$Reader" y_Reader_passRun y_Reader_passRun : Cond) ∈ tbg := tbg_in3 1 (by decide +kernel) rfl
theorem wp_2 : (.selects "QuotaLaws$Reader" y_Reader_kindHere y_Reader_kindHere : Cond) ∈ tbg := tbg_in3 2 (by decide +kernel) rfl
theorem wp_3 : (.selects "QuotaLaws$Reader" y_Reader_valueOfRun y_Reader_valueOfRun : Cond) ∈ tbg := tbg_in3 3 (by decide +kernel) rfl
theorem wp_4 : (.selects "QuotaLaws$Reader" y_Reader_fail y_Reader_fail : Cond) ∈ tbg := tbg_in3 4 (by decide +kernel) rfl
theorem wp_5 : (.selects "QuotaLaws$Reader" y_Reader_takeLine y_Reader_takeLine : Cond) ∈ tbg := tbg_in3 5 (by decide +kernel) rfl
theorem wp_6 : (.selects "QuotaLaws$Reader" y_Reader_isWord y_Reader_isWord : Cond) ∈ tbg := tbg_in3 6 (by decide +kernel) rfl
theorem wp_7 : (.selects "QuotaLaws$Reader" y_Reader_takeLaw y_Reader_takeLaw : Cond) ∈ tbg := tbg_in3 7 (by decide +kernel) rfl
theorem wp_8 : (.selects "QuotaLaws$Reader" y_Reader_takeNumber y_Reader_takeNumber : Cond) ∈ tbg := tbg_in3 8 (by decide +kernel) rfl
theorem wp_9 : (.selects "QuotaLaws$Reader" y_Reader_isBounded y_Reader_isBounded : Cond) ∈ tbg := tbg_in3 9 (by decide +kernel) rfl
theorem wp_10 : (.selects "QuotaLaws$Reader" y_Reader_putInto y_Reader_putInto : Cond) ∈ tbg := tbg_in3 10 (by decide +kernel) rfl
theorem wp_11 : (.selects "QuotaLaws$Reader" y_Reader_takeCarried y_Reader_takeCarried : Cond) ∈ tbg := tbg_in3 11 (by decide +kernel) rfl
theorem wp_12 : (.selects "QuotaLaws$Reader" y_Reader_isStop y_Reader_isStop : Cond) ∈ tbg := tbg_in3 12 (by decide +kernel) rfl
theorem wp_13 : (.selects "QuotaLaws$Reader" y_Reader_takeOne y_Reader_takeOne : Cond) ∈ tbg := tbg_in3 13 (by decide +kernel) rfl
theorem wp_14 : (.selects "QuotaLaws$Reader" y_Reader_addLaw y_Reader_addLaw : Cond) ∈ tbg := tbg_in3 14 (by decide +kernel) rfl
theorem wp_15 : (.selects "QuotaLaws$Reader" y_Reader_takeWant y_Reader_takeWant : Cond) ∈ tbg := tbg_in3 15 (by decide +kernel) rfl
theorem wp_16 : (.selects "QuotaLaws$Reader" y_Reader_takeWatch y_Reader_takeWatch : Cond) ∈ tbg := tbg_in3 16 (by decide +kernel) rfl
theorem wp_17 : (.selects "QuotaLaws$Planner" y_Planner_leftToLast y_Planner_leftToLast : Cond) ∈ tbg := tbg_in3 17 (by decide +kernel) rfl
theorem wp_18 : (.selects "QuotaLaws$Planner" y_Planner_search y_Planner_search : Cond) ∈ tbg := tbg_in3 18 (by decide +kernel) rfl
theorem wp_19 : (.selects "QuotaLaws$Planner" y_Planner_needOfAll y_Planner_needOfAll : Cond) ∈ tbg := tbg_in3 19 (by decide +kernel) rfl
theorem wp_20 : (.selects "QuotaLaws$Planner" y_Planner_givenTo y_Planner_givenTo : Cond) ∈ tbg := tbg_in3 20 (by decide +kernel) rfl
theorem wp_21 : (.selects "QuotaLaws$Odds" y_Odds_addTry y_Odds_addTry : Cond) ∈ tbg := tbg_in3 21 (by decide +kernel) rfl
theorem wp_22 : (.selects "QuotaLaws$Odds" y_Odds_reduce y_Odds_reduce : Cond) ∈ tbg := tbg_in3 22 (by decide +kernel) rfl
theorem wp_23 : (.selects "QuotaLaws$Tables" y_Tables_spendAlone y_Tables_spendAlone : Cond) ∈ tbg := tbg_in3 23 (by decide +kernel) rfl
theorem wp_24 : (.selects "QuotaLaws$Tables" y_Tables_joinAll y_Tables_joinAll : Cond) ∈ tbg := tbg_in3 24 (by decide +kernel) rfl
theorem wp_25 : (.selects "QuotaLaws$Tables" y_Tables_spendTogether y_Tables_spendTogether : Cond) ∈ tbg := tbg_in3 25 (by decide +kernel) rfl
theorem wp_26 : (.selects "QuotaLaws$Tables" y_Tables_waysTo y_Tables_waysTo : Cond) ∈ tbg := tbg_in3 26 (by decide +kernel) rfl
theorem wp_27 : (.selects "QuotaLaws$Tables" y_Tables_sumOfDue y_Tables_sumOfDue : Cond) ∈ tbg := tbg_in3 27 (by decide +kernel) rfl
theorem wp_28 : (.selects "QuotaLaws$Tables" y_Tables_isDueOf y_Tables_isDueOf : Cond) ∈ tbg := tbg_in3 28 (by decide +kernel) rfl
theorem wp_29 : (.selects "QuotaLaws" y_Q_countKept y_Q_countKept : Cond) ∈ tbg := tbg_in3 29 (by decide +kernel) rfl
theorem wp_30 : (.selects "QuotaLawsModel" y_M_firstDraft y_M_firstDraft : Cond) ∈ tbg := tbg_in3 30 (by decide +kernel) rfl
theorem wp_31 : (.selects "QuotaLawsModel" y_M_keepDraft y_M_keepDraft : Cond) ∈ tbg := tbg_in3 31 (by decide +kernel) rfl
theorem wp_32 : (.selects "QuotaLawsModel" y_M_next y_M_next : Cond) ∈ tbg := tbg_in3 32 (by decide +kernel) rfl
theorem wp_33 : (.selects "QuotaLawsModel" y_M_look y_M_look : Cond) ∈ tbg := tbg_in3 33 (by decide +kernel) rfl
theorem wp_34 : (.selects "QuotaLawsModel" y_M_needs y_M_needs : Cond) ∈ tbg := tbg_in3 34 (by decide +kernel) rfl
theorem wp_35 : (.selects "QuotaLawsModel" y_M_readLine y_M_readLine : Cond) ∈ tbg := tbg_in3 35 (by decide +kernel) rfl
theorem wp_36 : (.selects "QuotaLawsModel" y_M_lineNow y_M_lineNow : Cond) ∈ tbg := tbg_in3 36 (by decide +kernel) rfl
theorem wp_37 : (.selects "QuotaLawsModel" y_M_is y_M_is : Cond) ∈ tbg := tbg_in3 37 (by decide +kernel) rfl
theorem wp_38 : (.selects "QuotaLawsModel" y_M_readLineOf y_M_readLineOf : Cond) ∈ tbg := tbg_in3 38 (by decide +kernel) rfl
theorem wp_39 : (.selects "QuotaLawsModel" y_M_readLaw y_M_readLaw : Cond) ∈ tbg := tbg_in3 39 (by decide +kernel) rfl
theorem wp_40 : (.selects "QuotaLawsModel" y_M_readNumber y_M_readNumber : Cond) ∈ tbg := tbg_in3 40 (by decide +kernel) rfl
theorem wp_41 : (.selects "QuotaLawsModel" y_M_looked y_M_looked : Cond) ∈ tbg := tbg_in3 41 (by decide +kernel) rfl
theorem wp_42 : (.selects "QuotaLawsModel" y_M_readLawOf y_M_readLawOf : Cond) ∈ tbg := tbg_in3 42 (by decide +kernel) rfl
theorem wp_43 : (.selects "QuotaLawsModel" y_M_readOne y_M_readOne : Cond) ∈ tbg := tbg_in3 43 (by decide +kernel) rfl
theorem wp_44 : (.selects "QuotaLawsModel" y_M_isLaw y_M_isLaw : Cond) ∈ tbg := tbg_in3 44 (by decide +kernel) rfl
theorem wp_45 : (.selects "QuotaLawsModel" y_M_needOf y_M_needOf : Cond) ∈ tbg := tbg_in3 45 (by decide +kernel) rfl
theorem wp_46 : (.selects "QuotaLawsModel" y_M_doesStand y_M_doesStand : Cond) ∈ tbg := tbg_in3 46 (by decide +kernel) rfl
theorem wp_47 : (.selects "QuotaLawsModel" y_M_brokenBy y_M_brokenBy : Cond) ∈ tbg := tbg_in3 47 (by decide +kernel) rfl
theorem wp_48 : (.selects "QuotaLawsModel" y_M_chainOf y_M_chainOf : Cond) ∈ tbg := tbg_in3 48 (by decide +kernel) rfl
theorem wp_49 : (.selects "QuotaLawsModel" y_M_isOne y_M_isOne : Cond) ∈ tbg := tbg_in3 49 (by decide +kernel) rfl
theorem wp_50 : (.selects "QuotaLawsModel" y_M_canBreak y_M_canBreak : Cond) ∈ tbg := tbg_in3 50 (by decide +kernel) rfl
theorem wp_51 : (.selects "QuotaLawsModel" y_M_roomOf y_M_roomOf : Cond) ∈ tbg := tbg_in3 51 (by decide +kernel) rfl
theorem wp_52 : (.selects "QuotaLawsModel" y_M_timeLeft y_M_timeLeft : Cond) ∈ tbg := tbg_in3 52 (by decide +kernel) rfl
theorem wp_53 : (.selects "QuotaLawsModel" y_M_allBy y_M_allBy : Cond) ∈ tbg := tbg_in3 53 (by decide +kernel) rfl
theorem wp_54 : (.selects "QuotaLawsModel" y_M_becomes y_M_becomes : Cond) ∈ tbg := tbg_in3 54 (by decide +kernel) rfl
theorem wp_55 : (.selects "QuotaLawsModel" y_M_becomesBit y_M_becomesBit : Cond) ∈ tbg := tbg_in3 55 (by decide +kernel) rfl
theorem wp_56 : (.selects "QuotaLawsModel" y_M_fallsNow y_M_fallsNow : Cond) ∈ tbg := tbg_in3 56 (by decide +kernel) rfl
theorem wp_57 : (.selects "QuotaLawsModel" y_M_startsRota y_M_startsRota : Cond) ∈ tbg := tbg_in3 57 (by decide +kernel) rfl
theorem wp_58 : (.selects "QuotaLawsModel" y_M_findRota y_M_findRota : Cond) ∈ tbg := tbg_in3 58 (by decide +kernel) rfl
theorem wp_59 : (.selects "QuotaLawsModel" y_M_leastOf y_M_leastOf : Cond) ∈ tbg := tbg_in3 59 (by decide +kernel) rfl
theorem wp_60 : (.selects "QuotaLawsModel" y_M_harmBy y_M_harmBy : Cond) ∈ tbg := tbg_in3 60 (by decide +kernel) rfl
theorem wp_61 : (.selects "QuotaLawsModel" y_M_roomAt y_M_roomAt : Cond) ∈ tbg := tbg_in3 61 (by decide +kernel) rfl
theorem wp_62 : (.selects "QuotaLawsModel" y_M_sharesOf y_M_sharesOf : Cond) ∈ tbg := tbg_in3 62 (by decide +kernel) rfl
theorem wp_63 : (.selects "QuotaLawsModel" y_M_triesOf y_M_triesOf : Cond) ∈ tbg := tbg_in3 63 (by decide +kernel) rfl
theorem wp_64 : (.selects "QuotaLawsModel" y_M_saves y_M_saves : Cond) ∈ tbg := tbg_in3 64 (by decide +kernel) rfl
theorem wp_65 : (.selects "QuotaLawsModel" y_M_wantedBy y_M_wantedBy : Cond) ∈ tbg := tbg_in3 65 (by decide +kernel) rfl
theorem wp_66 : (.selects "QuotaLawsModel" y_M_returns y_M_returns : Cond) ∈ tbg := tbg_in3 66 (by decide +kernel) rfl
theorem wp_67 : (.selects "QuotaLawsModel" y_M_tablesBy y_M_tablesBy : Cond) ∈ tbg := tbg_in3 67 (by decide +kernel) rfl
theorem wp_68 : (.selects "QuotaLawsModel" y_M_addsLaw y_M_addsLaw : Cond) ∈ tbg := tbg_in3 68 (by decide +kernel) rfl
theorem wp_69 : (.selects "QuotaLawsModel" y_M_mostOf y_M_mostOf : Cond) ∈ tbg := tbg_in3 69 (by decide +kernel) rfl
theorem wp_70 : (.selects "QuotaLawsModel" y_M_isSo y_M_isSo : Cond) ∈ tbg := tbg_in3 70 (by decide +kernel) rfl
theorem wp_71 : (.selects "QuotaLawsModel" y_M_isAsked y_M_isAsked : Cond) ∈ tbg := tbg_in3 71 (by decide +kernel) rfl
theorem wp_72 : (.selects "QuotaLawsModel" y_M_addsTables y_M_addsTables : Cond) ∈ tbg := tbg_in3 72 (by decide +kernel) rfl
theorem wp_73 : (.selects "QuotaLawsModel" y_M_isTime y_M_isTime : Cond) ∈ tbg := tbg_in3 73 (by decide +kernel) rfl
theorem wp_74 : (.selects "QuotaLawsModel" y_M_copies y_M_copies : Cond) ∈ tbg := tbg_in3 74 (by decide +kernel) rfl
theorem si_Q_isWithin : site0 y_Q_isWithin prog_1_method_41_code 3 (some .boolean) 3 := ⟨wd_333, wd_1, ⟨by decide, by decide⟩, by decide +kernel⟩
theorem si_Reader_append : site0 y_Reader_append prog_4_method_2_code 2 (some .boolean) 1 := ⟨wd_337, wd_2, ⟨by decide, by decide⟩, by decide +kernel⟩
theorem si_Arrays_fillI : site0 y_Arrays_fillI prog_17_method_103_code 4 none 2 := ⟨wd_356, wd_10, ⟨by decide, by decide⟩, by decide +kernel⟩
theorem si_Reader_passRun : site0 y_Reader_passRun prog_4_method_19_code 3 none 2 := ⟨wd_364, wd_2, ⟨by decide, by decide⟩, by decide +kernel⟩
theorem si_Reader_kindHere : site0 y_Reader_kindHere prog_4_method_18_code 2 (some .int) 0 := ⟨wd_368, wd_2, ⟨by decide, by decide⟩, by decide +kernel⟩
theorem si_Reader_valueOfRun : site0 y_Reader_valueOfRun prog_4_method_20_code 3 (some .int) 0 := ⟨wd_372, wd_2, ⟨by decide, by decide⟩, by decide +kernel⟩
theorem si_Reader_fail : site0 y_Reader_fail prog_4_method_21_code 3 (some .boolean) 2 := ⟨wd_376, wd_2, ⟨by decide, by decide⟩, by decide +kernel⟩
theorem si_String_length : site0 y_String_length prog_13_method_54_code 1 (some .int) 0 := ⟨wd_389, wd_11, ⟨by decide, by decide⟩, by decide +kernel⟩
theorem si_String_charAt : site0 y_String_charAt prog_13_method_56_code 2 (some .char) 1 := ⟨wd_399, wd_11, ⟨by decide, by decide⟩, by decide +kernel⟩
theorem si_Reader_takeToken : site0 y_Reader_takeToken prog_4_method_17_code 1 (some .boolean) 0 := ⟨wd_360, wd_2, ⟨by decide, by decide⟩, by decide +kernel⟩
theorem si_Reader_isBounded : site0 y_Reader_isBounded prog_4_method_14_code 3 (some .boolean) 2 := ⟨wd_445, wd_2, ⟨by decide, by decide⟩, by decide +kernel⟩
theorem si_Reader_takeNumber : site0 y_Reader_takeNumber prog_4_method_13_code 3 (some .boolean) 2 := ⟨wd_441, wd_2, ⟨by decide, by decide⟩, by decide +kernel⟩
theorem si_Reader_putInto : site0 y_Reader_putInto prog_4_method_12_code 3 (some .boolean) 2 := ⟨wd_450, wd_2, ⟨by decide, by decide⟩, by decide +kernel⟩
theorem si_Reader_takeCarried : site0 y_Reader_takeCarried prog_4_method_6_code 3 (some .boolean) 2 := ⟨wd_454, wd_2, ⟨by decide, by decide⟩, by decide +kernel⟩
theorem si_Reader_isStop : site0 y_Reader_isStop prog_4_method_15_code 1 (some .boolean) 0 := ⟨wd_458, wd_2, ⟨by decide, by decide⟩, by decide +kernel⟩
theorem si_Q_hasBit : site0 y_Q_hasBit prog_1_method_42_code 2 (some .boolean) 2 := ⟨wd_470, wd_1, ⟨by decide, by decide⟩, by decide +kernel⟩
theorem si_Reader_addLaw : site0 y_Reader_addLaw prog_4_method_10_code 3 (some .boolean) 2 := ⟨wd_467, wd_2, ⟨by decide, by decide⟩, by decide +kernel⟩
theorem si_Reader_isWord : site0 y_Reader_isWord prog_4_method_16_code 3 (some .boolean) 1 := ⟨wd_385, wd_2, ⟨by decide, by decide⟩, by decide +kernel⟩
theorem si_Reader_takeWatch : site0 y_Reader_takeWatch prog_4_method_9_code 2 (some .boolean) 1 := ⟨wd_480, wd_2, ⟨by decide, by decide⟩, by decide +kernel⟩
theorem si_Reader_takeWant : site0 y_Reader_takeWant prog_4_method_8_code 3 (some .boolean) 1 := ⟨wd_475, wd_2, ⟨by decide, by decide⟩, by decide +kernel⟩
theorem si_Reader_takeOne : site0 y_Reader_takeOne prog_4_method_7_code 5 (some .boolean) 2 := ⟨wd_463, wd_2, ⟨by decide, by decide⟩, by decide +kernel⟩
theorem si_Reader_takeLaw : site0 y_Reader_takeLaw prog_4_method_5_code 3 (some .boolean) 2 := ⟨wd_437, wd_2, ⟨by decide, by decide⟩, by decide +kernel⟩
theorem si_Q_isPart : site0 y_Q_isPart prog_1_method_45_code 2 (some .boolean) 2 := ⟨wd_486, wd_1, ⟨by decide, by decide⟩, by decide +kernel⟩
theorem si_Realm_hasLaw : site0 y_Realm_hasLaw prog_5_method_4_code 2 (some .boolean) 1 := ⟨wd_490, wd_3, ⟨by decide, by decide⟩, by decide +kernel⟩
theorem si_Realm_hasOne : site0 y_Realm_hasOne prog_5_method_5_code 2 (some .boolean) 1 := ⟨wd_494, wd_3, ⟨by decide, by decide⟩, by decide +kernel⟩
theorem si_Realm_empty : site0 y_Realm_empty prog_5_method_2_code 1 none 0 := ⟨wd_353, wd_3, ⟨by decide, by decide⟩, by decide +kernel⟩
theorem si_Reader_takeLine : site0 y_Reader_takeLine prog_4_method_4_code 2 (some .boolean) 1 := ⟨wd_380, wd_2, ⟨by decide, by decide⟩, by decide +kernel⟩
theorem si_Reader_allThere : site0 y_Reader_allThere prog_4_method_11_code 4 (some .boolean) 1 := ⟨wd_483, wd_2, ⟨by decide, by decide⟩, by decide +kernel⟩
theorem si_Sightings_copyFrom : site0 y_Sightings_copyFrom prog_7_method_4_code 2 none 1 := ⟨wd_505, wd_4, ⟨by decide, by decide⟩, by decide +kernel⟩
theorem si_Reader_readInto : site0 y_Reader_readInto prog_4_method_3_code 4 (some .boolean) 1 := ⟨wd_349, wd_2, ⟨by decide, by decide⟩, by decide +kernel⟩
theorem si_Realm_copyFrom : site0 y_Realm_copyFrom prog_5_method_3_code 2 none 1 := ⟨wd_498, wd_3, ⟨by decide, by decide⟩, by decide +kernel⟩
theorem si_Realm_brokenBy : site0 y_Realm_brokenBy prog_5_method_7_code 3 (some .int) 2 := ⟨wd_528, wd_3, ⟨by decide, by decide⟩, by decide +kernel⟩
theorem si_Realm_needOf : site0 y_Realm_needOf prog_5_method_10_code 4 (some .int) 1 := ⟨wd_523, wd_3, ⟨by decide, by decide⟩, by decide +kernel⟩
theorem si_Realm_chainOf : site0 y_Realm_chainOf prog_5_method_13_code 5 (some .int) 1 := ⟨wd_535, wd_3, ⟨by decide, by decide⟩, by decide +kernel⟩
theorem si_Realm_brokenByOne : site0 y_Realm_brokenByOne prog_5_method_8_code 4 (some .int) 1 := ⟨wd_545, wd_3, ⟨by decide, by decide⟩, by decide +kernel⟩
theorem si_Realm_roomOf : site0 y_Realm_roomOf prog_5_method_14_code 4 (some .int) 2 := ⟨wd_557, wd_3, ⟨by decide, by decide⟩, by decide +kernel⟩
theorem si_Realm_timeLeft : site0 y_Realm_timeLeft prog_5_method_15_code 2 (some .int) 1 := ⟨wd_561, wd_3, ⟨by decide, by decide⟩, by decide +kernel⟩
theorem si_Realm_ableAlone : site0 y_Realm_ableAlone prog_5_method_16_code 3 (some .int) 2 := ⟨wd_553, wd_3, ⟨by decide, by decide⟩, by decide +kernel⟩
theorem si_Realm_breakable : site0 y_Realm_breakable prog_5_method_18_code 4 (some .int) 1 := ⟨wd_549, wd_3, ⟨by decide, by decide⟩, by decide +kernel⟩
theorem si_Realm_hasBoth : site0 y_Realm_hasBoth prog_5_method_6_code 3 (some .boolean) 2 := ⟨wd_573, wd_3, ⟨by decide, by decide⟩, by decide +kernel⟩
theorem si_Q_bitOf : site0 y_Q_bitOf prog_1_method_43_code 2 (some .int) 2 := ⟨wd_590, wd_1, ⟨by decide, by decide⟩, by decide +kernel⟩
theorem si_Q_withBit : site0 y_Q_withBit prog_1_method_44_code 3 (some .int) 3 := ⟨wd_593, wd_1, ⟨by decide, by decide⟩, by decide +kernel⟩
theorem si_Integer_bitCount : site0 y_Integer_bitCount prog_11_method_49_code 1 (some .int) 1 := ⟨wd_617, wd_17, ⟨by decide, by decide⟩, by decide +kernel⟩
theorem si_Realm_mark : site0 y_Realm_mark prog_5_method_20_code 4 (some .int) 2 := ⟨wd_633, wd_3, ⟨by decide, by decide⟩, by decide +kernel⟩
theorem si_Realm_breakOnce : site0 y_Realm_breakOnce prog_5_method_19_code 4 (some .int) 2 := ⟨wd_628, wd_3, ⟨by decide, by decide⟩, by decide +kernel⟩
theorem si_Realm_lapsing : site0 y_Realm_lapsing prog_5_method_21_code 3 (some .int) 0 := ⟨wd_645, wd_3, ⟨by decide, by decide⟩, by decide +kernel⟩
theorem si_Realm_endYear : site0 y_Realm_endYear prog_5_method_22_code 2 (some .int) 0 := ⟨wd_641, wd_3, ⟨by decide, by decide⟩, by decide +kernel⟩
theorem si_Planner_leftToLast : site0 y_Planner_leftToLast prog_3_method_9_code 4 (some .int) 3 := ⟨wd_678, wd_5, ⟨by decide, by decide⟩, by decide +kernel⟩
theorem si_Planner_stateOf : site0 y_Planner_stateOf prog_3_method_10_code 3 (some .int) 3 := ⟨wd_681, wd_5, ⟨by decide, by decide⟩, by decide +kernel⟩
theorem si_Planner_search : site0 y_Planner_search prog_3_method_11_code 12 (some .int) 3 := ⟨wd_685, wd_5, ⟨by decide, by decide⟩, by decide +kernel⟩
theorem si_Planner_load : site0 y_Planner_load prog_3_method_2_code 4 none 1 := ⟨wd_664, wd_5, ⟨by decide, by decide⟩, by decide +kernel⟩
theorem si_Planner_leastHarm : site0 y_Planner_leastHarm prog_3_method_7_code 4 (some .int) 0 := ⟨wd_673, wd_5, ⟨by decide, by decide⟩, by decide +kernel⟩
theorem si_Planner_timesInFirst : site0 y_Planner_timesInFirst prog_3_method_8_code 6 (some .int) 2 := ⟨wd_691, wd_5, ⟨by decide, by decide⟩, by decide +kernel⟩
theorem si_Planner_needOfAll : site0 y_Planner_needOfAll prog_3_method_5_code 4 (some .int) 1 := ⟨wd_709, wd_5, ⟨by decide, by decide⟩, by decide +kernel⟩
theorem si_Planner_givenTo : site0 y_Planner_givenTo prog_3_method_6_code 6 (some .int) 1 := ⟨wd_714, wd_5, ⟨by decide, by decide⟩, by decide +kernel⟩
theorem si_Planner_grant : site0 y_Planner_grant prog_3_method_3_code 3 none 2 := ⟨wd_699, wd_5, ⟨by decide, by decide⟩, by decide +kernel⟩
theorem si_Planner_canMeet : site0 y_Planner_canMeet prog_3_method_4_code 3 (some .boolean) 1 := ⟨wd_704, wd_5, ⟨by decide, by decide⟩, by decide +kernel⟩
theorem si_Realm_ableWithout : site0 y_Realm_ableWithout prog_5_method_17_code 5 (some .int) 2 := ⟨wd_727, wd_3, ⟨by decide, by decide⟩, by decide +kernel⟩
theorem si_Realm_mostNeeded : site0 y_Realm_mostNeeded prog_5_method_25_code 6 (some .int) 1 := ⟨wd_739, wd_3, ⟨by decide, by decide⟩, by decide +kernel⟩
theorem si_Realm_eachForHimself : site0 y_Realm_eachForHimself prog_5_method_24_code 6 (some .int) 0 := ⟨wd_735, wd_3, ⟨by decide, by decide⟩, by decide +kernel⟩
theorem si_Realm_met : site0 y_Realm_met prog_5_method_23_code 3 (some .int) 0 := ⟨wd_744, wd_3, ⟨by decide, by decide⟩, by decide +kernel⟩
theorem si_Arrays_fillJ : site0 y_Arrays_fillJ prog_17_method_101_code 5 none 2 := ⟨wd_756, wd_10, ⟨by decide, by decide⟩, by decide +kernel⟩
theorem si_Odds_addTry : site0 y_Odds_addTry prog_2_method_3_code 3 none 1 := ⟨wd_761, wd_7, ⟨by decide, by decide⟩, by decide +kernel⟩
theorem si_Odds_reduce : site0 y_Odds_reduce prog_2_method_4_code 8 none 0 := ⟨wd_767, wd_7, ⟨by decide, by decide⟩, by decide +kernel⟩
theorem si_Odds_weigh : site0 y_Odds_weigh prog_2_method_2_code 6 none 2 := ⟨wd_753, wd_7, ⟨by decide, by decide⟩, by decide +kernel⟩
theorem si_Sightings_append : site0 y_Sightings_append prog_7_method_2_code 4 (some .boolean) 3 := ⟨wd_775, wd_4, ⟨by decide, by decide⟩, by decide +kernel⟩
theorem si_Sightings_sumDue : site0 y_Sightings_sumDue prog_7_method_3_code 5 (some .int) 2 := ⟨wd_792, wd_4, ⟨by decide, by decide⟩, by decide +kernel⟩
theorem si_Tables_stateOf : site0 y_Tables_stateOf prog_8_method_11_code 3 (some .int) 3 := ⟨wd_810, wd_6, ⟨by decide, by decide⟩, by decide +kernel⟩
theorem si_Tables_waysTo : site0 y_Tables_waysTo prog_8_method_8_code 13 (some .long) 4 := ⟨wd_818, wd_6, ⟨by decide, by decide⟩, by decide +kernel⟩
theorem si_Tables_isDueOf : site0 y_Tables_isDueOf prog_8_method_10_code 3 (some .boolean) 2 := ⟨wd_828, wd_6, ⟨by decide, by decide⟩, by decide +kernel⟩
theorem si_Tables_joinAll : site0 y_Tables_joinAll prog_8_method_6_code 4 none 0 := ⟨wd_807, wd_6, ⟨by decide, by decide⟩, by decide +kernel⟩
theorem si_Tables_spendAlone : site0 y_Tables_spendAlone prog_8_method_5_code 9 none 2 := ⟨wd_803, wd_6, ⟨by decide, by decide⟩, by decide +kernel⟩
theorem si_Tables_sumOfDue : site0 y_Tables_sumOfDue prog_8_method_9_code 6 (some .long) 0 := ⟨wd_824, wd_6, ⟨by decide, by decide⟩, by decide +kernel⟩
theorem si_Tables_spendTogether : site0 y_Tables_spendTogether prog_8_method_7_code 5 none 1 := ⟨wd_814, wd_6, ⟨by decide, by decide⟩, by decide +kernel⟩
theorem si_Tables_load : site0 y_Tables_load prog_8_method_2_code 6 none 1 := ⟨wd_787, wd_6, ⟨by decide, by decide⟩, by decide +kernel⟩
theorem si_Tables_fitting : site0 y_Tables_fitting prog_8_method_4_code 3 (some .long) 0 := ⟨wd_798, wd_6, ⟨by decide, by decide⟩, by decide +kernel⟩
theorem si_Tables_firstThatFits : site0 y_Tables_firstThatFits prog_8_method_3_code 8 (some .int) 3 := ⟨wd_836, wd_6, ⟨by decide, by decide⟩, by decide +kernel⟩
theorem si_Realm_nextSeed : site0 y_Realm_nextSeed prog_5_method_27_code 1 (some .int) 1 := ⟨wd_848, wd_3, ⟨by decide, by decide⟩, by decide +kernel⟩
theorem si_Realm_drawn : site0 y_Realm_drawn prog_5_method_28_code 1 (some .int) 1 := ⟨wd_852, wd_3, ⟨by decide, by decide⟩, by decide +kernel⟩
theorem si_Realm_breakBySeed : site0 y_Realm_breakBySeed prog_5_method_26_code 8 (some .int) 2 := ⟨wd_845, wd_3, ⟨by decide, by decide⟩, by decide +kernel⟩
theorem si_Sheet_renew : site0 y_Sheet_renew prog_6_method_2_code 3 none 2 := ⟨wd_869, wd_8, ⟨by decide, by decide⟩, by decide +kernel⟩
theorem si_Sheet_faultAt : site0 y_Sheet_faultAt prog_6_method_5_code 3 (some .int) 1 := ⟨wd_878, wd_8, ⟨by decide, by decide⟩, by decide +kernel⟩
theorem si_Sheet_put : site0 y_Sheet_put prog_6_method_3_code 3 none 2 := ⟨wd_882, wd_8, ⟨by decide, by decide⟩, by decide +kernel⟩
theorem si_Sheet_faultAs : site0 y_Sheet_faultAs prog_6_method_7_code 2 (some .int) 1 := ⟨wd_890, wd_8, ⟨by decide, by decide⟩, by decide +kernel⟩
theorem si_Sheet_faultOfPair : site0 y_Sheet_faultOfPair prog_6_method_6_code 4 (some .int) 1 := ⟨wd_894, wd_8, ⟨by decide, by decide⟩, by decide +kernel⟩
theorem si_Sheet_cellAt : site0 y_Sheet_cellAt prog_6_method_4_code 3 (some .int) 1 := ⟨wd_899, wd_8, ⟨by decide, by decide⟩, by decide +kernel⟩
theorem si_Realm_brokenInAll : site0 y_Realm_brokenInAll prog_5_method_9_code 3 (some .int) 0 := ⟨wd_911, wd_3, ⟨by decide, by decide⟩, by decide +kernel⟩
theorem si_Q_countKept : site0 y_Q_countKept prog_1_method_40_code 3 (some .int) 0 := ⟨wd_915, wd_1, ⟨by decide, by decide⟩, by decide +kernel⟩
theorem si_Realm_allPurses : site0 y_Realm_allPurses prog_5_method_12_code 3 (some .int) 0 := ⟨wd_919, wd_3, ⟨by decide, by decide⟩, by decide +kernel⟩
theorem si_Realm_allNeed : site0 y_Realm_allNeed prog_5_method_11_code 3 (some .int) 0 := ⟨wd_923, wd_3, ⟨by decide, by decide⟩, by decide +kernel⟩
theorem si_M_in : site0 y_M_in prog_10_method_3_code 6 (some .boolean) 3 := ⟨wd_1063, wd_9, ⟨by decide, by decide⟩, by decide +kernel⟩
theorem si_M_look : site0 y_M_look prog_10_method_10_code 2 (some .int) 1 := ⟨wd_1079, wd_9, ⟨by decide, by decide⟩, by decide +kernel⟩
theorem si_M_needs : site0 y_M_needs prog_10_method_9_code 3 none 2 := ⟨wd_1087, wd_9, ⟨by decide, by decide⟩, by decide +kernel⟩
theorem si_M_is : site0 y_M_is prog_10_method_11_code 5 (some .boolean) 4 := ⟨wd_1099, wd_9, ⟨by decide, by decide⟩, by decide +kernel⟩
theorem si_M_looked : site0 y_M_looked prog_10_method_14_code 3 (some .int) 2 := ⟨wd_1115, wd_9, ⟨by decide, by decide⟩, by decide +kernel⟩
theorem si_M_next : site0 y_M_next prog_10_method_13_code 2 none 0 := ⟨wd_1075, wd_9, ⟨by decide, by decide⟩, by decide +kernel⟩
theorem si_M_readNumber : site0 y_M_readNumber prog_10_method_15_code 4 (some .int) 2 := ⟨wd_1111, wd_9, ⟨by decide, by decide⟩, by decide +kernel⟩
theorem si_M_readLawOf : site0 y_M_readLawOf prog_10_method_16_code 3 (some .int) 1 := ⟨wd_1119, wd_9, ⟨by decide, by decide⟩, by decide +kernel⟩
theorem si_M_readLaw : site0 y_M_readLaw prog_10_method_17_code 4 none 0 := ⟨wd_1107, wd_9, ⟨by decide, by decide⟩, by decide +kernel⟩
theorem si_M_readOne : site0 y_M_readOne prog_10_method_18_code 2 none 0 := ⟨wd_1123, wd_9, ⟨by decide, by decide⟩, by decide +kernel⟩
theorem si_M_lineNow : site0 y_M_lineNow prog_10_method_12_code 1 (some .int) 0 := ⟨wd_1095, wd_9, ⟨by decide, by decide⟩, by decide +kernel⟩
theorem si_M_readLineOf : site0 y_M_readLineOf prog_10_method_19_code 3 none 1 := ⟨wd_1103, wd_9, ⟨by decide, by decide⟩, by decide +kernel⟩
theorem si_M_firstDraft : site0 y_M_firstDraft prog_10_method_5_code 2 none 0 := ⟨wd_933, wd_9, ⟨by decide, by decide⟩, by decide +kernel⟩
theorem si_M_readLine : site0 y_M_readLine prog_10_method_20_code 2 none 0 := ⟨wd_1091, wd_9, ⟨by decide, by decide⟩, by decide +kernel⟩
theorem si_M_keepDraft : site0 y_M_keepDraft prog_10_method_6_code 2 none 0 := ⟨wd_937, wd_9, ⟨by decide, by decide⟩, by decide +kernel⟩
theorem si_M_doesStand : site0 y_M_doesStand prog_10_method_26_code 2 (some .boolean) 1 := ⟨wd_1147, wd_9, ⟨by decide, by decide⟩, by decide +kernel⟩
theorem si_M_brokenBy : site0 y_M_brokenBy prog_10_method_27_code 3 (some .int) 2 := ⟨wd_1151, wd_9, ⟨by decide, by decide⟩, by decide +kernel⟩
theorem si_M_isLaw : site0 y_M_isLaw prog_10_method_23_code 2 (some .boolean) 1 := ⟨wd_1139, wd_9, ⟨by decide, by decide⟩, by decide +kernel⟩
theorem si_M_needOf : site0 y_M_needOf prog_10_method_29_code 4 (some .int) 1 := ⟨wd_1143, wd_9, ⟨by decide, by decide⟩, by decide +kernel⟩
theorem si_M_chainOf : site0 y_M_chainOf prog_10_method_30_code 4 (some .int) 1 := ⟨wd_1155, wd_9, ⟨by decide, by decide⟩, by decide +kernel⟩
theorem si_M_allBy : site0 y_M_allBy prog_10_method_28_code 4 (some .int) 1 := ⟨wd_1179, wd_9, ⟨by decide, by decide⟩, by decide +kernel⟩
theorem si_M_roomOf : site0 y_M_roomOf prog_10_method_31_code 5 (some .int) 2 := ⟨wd_1171, wd_9, ⟨by decide, by decide⟩, by decide +kernel⟩
theorem si_M_timeLeft : site0 y_M_timeLeft prog_10_method_32_code 3 (some .int) 1 := ⟨wd_1175, wd_9, ⟨by decide, by decide⟩, by decide +kernel⟩
theorem si_M_isOne : site0 y_M_isOne prog_10_method_24_code 2 (some .boolean) 1 := ⟨wd_1163, wd_9, ⟨by decide, by decide⟩, by decide +kernel⟩
theorem si_M_canBreak : site0 y_M_canBreak prog_10_method_33_code 3 (some .boolean) 2 := ⟨wd_1167, wd_9, ⟨by decide, by decide⟩, by decide +kernel⟩
theorem si_M_flag : site0 y_M_flag prog_10_method_4_code 1 (some .int) 1 := ⟨wd_1182, wd_9, ⟨by decide, by decide⟩, by decide +kernel⟩
theorem si_M_becomes : site0 y_M_becomes prog_10_method_39_code 4 (some .int) 2 := ⟨wd_1195, wd_9, ⟨by decide, by decide⟩, by decide +kernel⟩
theorem si_M_becomesBit : site0 y_M_becomesBit prog_10_method_40_code 5 (some .int) 3 := ⟨wd_1207, wd_9, ⟨by decide, by decide⟩, by decide +kernel⟩
theorem si_M_bitsOf : site0 y_M_bitsOf prog_10_method_25_code 3 (some .int) 1 := ⟨wd_1232, wd_9, ⟨by decide, by decide⟩, by decide +kernel⟩
theorem si_M_fallsNow : site0 y_M_fallsNow prog_10_method_34_code 3 (some .int) 0 := ⟨wd_1244, wd_9, ⟨by decide, by decide⟩, by decide +kernel⟩
theorem si_M_roomAt : site0 y_M_roomAt prog_10_method_54_code 3 (some .int) 2 := ⟨wd_1281, wd_9, ⟨by decide, by decide⟩, by decide +kernel⟩
theorem si_M_at : site0 y_M_at prog_10_method_53_code 4 (some .int) 4 := ⟨wd_1267, wd_9, ⟨by decide, by decide⟩, by decide +kernel⟩
theorem si_M_harmBy : site0 y_M_harmBy prog_10_method_55_code 10 (some .int) 7 := ⟨wd_1277, wd_9, ⟨by decide, by decide⟩, by decide +kernel⟩
theorem si_M_leastOf : site0 y_M_leastOf prog_10_method_56_code 10 (some .int) 4 := ⟨wd_1271, wd_9, ⟨by decide, by decide⟩, by decide +kernel⟩
theorem si_M_startsRota : site0 y_M_startsRota prog_10_method_58_code 3 none 1 := ⟨wd_1260, wd_9, ⟨by decide, by decide⟩, by decide +kernel⟩
theorem si_M_findRota : site0 y_M_findRota prog_10_method_57_code 5 (some .int) 0 := ⟨wd_1264, wd_9, ⟨by decide, by decide⟩, by decide +kernel⟩
theorem si_M_sharesOf : site0 y_M_sharesOf prog_10_method_59_code 10 none 4 := ⟨wd_1285, wd_9, ⟨by decide, by decide⟩, by decide +kernel⟩
theorem si_M_triesOf : site0 y_M_triesOf prog_10_method_63_code 4 (some .int) 2 := ⟨wd_1301, wd_9, ⟨by decide, by decide⟩, by decide +kernel⟩
theorem si_M_saves : site0 y_M_saves prog_10_method_65_code 2 none 0 := ⟨wd_1310, wd_9, ⟨by decide, by decide⟩, by decide +kernel⟩
theorem si_M_wantedBy : site0 y_M_wantedBy prog_10_method_67_code 5 (some .int) 1 := ⟨wd_1314, wd_9, ⟨by decide, by decide⟩, by decide +kernel⟩
theorem si_M_returns : site0 y_M_returns prog_10_method_66_code 2 none 0 := ⟨wd_1318, wd_9, ⟨by decide, by decide⟩, by decide +kernel⟩
theorem si_M_common : site0 y_M_common prog_10_method_69_code 10 (some .long) 2 := ⟨wd_1327, wd_9, ⟨by decide, by decide⟩, by decide +kernel⟩
theorem si_M_mostOf : site0 y_M_mostOf prog_10_method_74_code 3 (some .int) 2 := ⟨wd_1352, wd_9, ⟨by decide, by decide⟩, by decide +kernel⟩
theorem si_M_isSo : site0 y_M_isSo prog_10_method_73_code 7 (some .boolean) 3 := ⟨wd_1356, wd_9, ⟨by decide, by decide⟩, by decide +kernel⟩
theorem si_M_isAsked : site0 y_M_isAsked prog_10_method_75_code 7 (some .boolean) 6 := ⟨wd_1360, wd_9, ⟨by decide, by decide⟩, by decide +kernel⟩
theorem si_M_addsTables : site0 y_M_addsTables prog_10_method_77_code 8 none 3 := ⟨wd_1364, wd_9, ⟨by decide, by decide⟩, by decide +kernel⟩
theorem si_M_addsLaw : site0 y_M_addsLaw prog_10_method_76_code 9 none 4 := ⟨wd_1348, wd_9, ⟨by decide, by decide⟩, by decide +kernel⟩
theorem si_M_isTime : site0 y_M_isTime prog_10_method_78_code 3 (some .boolean) 2 := ⟨wd_1368, wd_9, ⟨by decide, by decide⟩, by decide +kernel⟩
theorem si_M_tablesBy : site0 y_M_tablesBy prog_10_method_79_code 7 (some .long) 3 := ⟨wd_1344, wd_9, ⟨by decide, by decide⟩, by decide +kernel⟩
theorem si_M_breaks : site0 y_M_breaks prog_10_method_49_code 5 (some .int) 2 := ⟨wd_1236, wd_9, ⟨by decide, by decide⟩, by decide +kernel⟩
theorem si_M_copies : site0 y_M_copies prog_10_method_83_code 4 none 2 := ⟨wd_1387, wd_9, ⟨by decide, by decide⟩, by decide +kernel⟩
theorem si_M_isSheet : site0 y_M_isSheet prog_10_method_86_code 2 (some .boolean) 2 := ⟨wd_1398, wd_9, ⟨by decide, by decide⟩, by decide +kernel⟩
theorem si_String_coder : site0 y_String_coder prog_13_method_152_code 1 (some .byte) 0 := ⟨wd_393, wd_11, ⟨by decide, by decide⟩, by decide +kernel⟩
theorem si_String_isLatin1 : site0 y_String_isLatin1 prog_13_method_154_code 1 (some .boolean) 0 := ⟨wd_403, wd_11, ⟨by decide, by decide⟩, by decide +kernel⟩
theorem si_String_checkIndex : site0 y_String_checkIndex prog_13_method_155_code 2 none 2 := ⟨wd_409, wd_11, ⟨by decide, by decide⟩, by decide +kernel⟩
theorem si_StringLatin1_charAt : site0 y_StringLatin1_charAt prog_14_method_2_code 2 (some .char) 2 := ⟨wd_406, wd_12, ⟨by decide, by decide⟩, by decide +kernel⟩
theorem si_Preconditions_checkIndex : site0 y_Preconditions_checkIndex prog_18_method_11_code 3 (some .int) 3 := ⟨wd_414, wd_13, ⟨by decide, by decide⟩, by decide +kernel⟩
end
section
/-! String constants: length() and charAt(), over the model -/
def strLen (o : Nat) : Option Int32 := if 1000 ≤ o ∧ o < 1000 + strK.length then some (Int32.ofNat (strL.getD (o - 1000) 0)) else none
def strAt (o : Nat) (i : Int32) : Option Int32 := if (1000 ≤ o ∧ o < 1000 + strK.length) ∧ ¬ (i < 0 ∨ strL.getD (o - 1000) 0 ≤ i.toNatClampNeg) then some ((strB.getD (o - 1000) []).getD i.toNatClampNeg 0) else none
def f_String_length (o : Nat) (h : mH) : Option (Int32 × mH) := bd1 (strLen o) fun n => some (n >>> ((0 : Int32) &&& 31), h)
def f_String_charAt (o : Nat) (i : Int32) (h : mH) : Option (Int32 × mH) := bd1 (strAt o i) fun b => some (((b &&& 255).toUInt32 % 65536).toInt32, h)
section
variable {y : MethodName} {cc : ByteArray} {mL : Nat} {ret : Option FieldType} {fr lo pc : Nat} {lv lv' : List (Nat × Value)} {stk rest : List Value} {h h1 h' : mH} {r r1 : Option Value}
theorem Sr.out {dC : Nat → ClassId} {dI : Nat → Nat → Nat} {dA : Nat → ClassId} {ad0 : Nat → Nat} {n0 s0 : Nat} {A : Nat → Prop} {s : State} {ad : Nat → Nat} {H : Heap} {locs : List Loc} {ls : Array Slot} (S : Sr mL dC dI dA ad0 n0 s0 A s h lv ad H locs ls) {k : Nat} (hk : 1000 ≤ k) : ad k = ad0 k := S.2.2.2.2.1 k (Or.inr (Nat.le_trans S.2.2.2.2.2.2.2.1 hk))
theorem g_strV {index i : Nat} (hi : i < strK.length) (hd : decode cc pc = .ok (.getfield index, 3)) (hlink : Cond.fieldLink y.cls index "java/lang/String" "value" "[B" ∈ tbg) (k : G y cc mL ret fr lo (pc + 3) lv (.ref (1100 + i) :: stk) h r h') : G y cc mL ret fr lo pc lv (.ref (1000 + i) :: stk) h r h' :=
  ⟨k.1, k.2.1, fun l p e R s m args below meth c dC dI dA ad0 n0 s0 A Qc C q f1 f2 f3 f4 ad H locs ls S => by
    have key := k.2.2 l p e R s m args below meth c dC dI dA ad0 n0 s0 A Qc C q f1 f2 f3 f4 ad H locs ls S
    have hz := (C.2.2.2.2.2.2.2.2.2.1.2.2.1.1 i hi).2.2.1
    dsimp only at hz
    rw [← S.out (k := 1000 + i) (by omega), ← S.out (k := 1100 + i) (by omega)] at hz
    exact vk_getf C.1 C.2.1 hz S.2.2.1 C.2.2.2.2.2.1 (C.2.2.2.2.2.2.2.1 _ hlink) (fun _ z => z) hd key⟩
theorem g_strC {index i : Nat} (hi : i < strK.length) (hd : decode cc pc = .ok (.getfield index, 3)) (hlink : Cond.fieldLink y.cls index "java/lang/String" "coder" "B" ∈ tbg) (k : G y cc mL ret fr lo (pc + 3) lv (.int 0 :: stk) h r h') : G y cc mL ret fr lo pc lv (.ref (1000 + i) :: stk) h r h' :=
  ⟨k.1, k.2.1, fun l p e R s m args below meth c dC dI dA ad0 n0 s0 A Qc C q f1 f2 f3 f4 ad H locs ls S => by
    have key := k.2.2 l p e R s m args below meth c dC dI dA ad0 n0 s0 A Qc C q f1 f2 f3 f4 ad H locs ls S
    have hz := (C.2.2.2.2.2.2.2.2.2.1.2.2.1.1 i hi).2.1
    dsimp only at hz
    rw [← S.out (k := 1000 + i) (by omega)] at hz
    exact vk_getf C.1 C.2.1 hz S.2.2.1 C.2.2.2.2.2.1 (C.2.2.2.2.2.2.2.1 _ hlink) (fun _ z => z) hd key⟩
theorem g_strN {i : Nat} (hi : i < strK.length) (hd : decode cc pc = .ok (.arraylength, 1)) (k : G y cc mL ret fr lo (pc + 1) lv (.int (Int32.ofNat (strL.getD i 0)) :: stk) h r h') : G y cc mL ret fr lo pc lv (.ref (1100 + i) :: stk) h r h' :=
  ⟨k.1, k.2.1, fun l p e R s m args below meth c dC dI dA ad0 n0 s0 A Qc C q f1 f2 f3 f4 ad H locs ls S => by
    have key := k.2.2 l p e R s m args below meth c dC dI dA ad0 n0 s0 A Qc C q f1 f2 f3 f4 ad H locs ls S
    have hz := (C.2.2.2.2.2.2.2.2.2.1.2.2.1.1 i hi).2.2.2
    dsimp only at hz
    rw [← S.out (k := 1100 + i) (by omega)] at hz
    exact va_tlen C.1 C.2.1 hz S.2.2.1 rfl hd key⟩
theorem g_strB {i : Nat} {j : Int32} (hi : i < strK.length) (hj : vp_in j (strL.getD i 0)) (hd : decode cc pc = .ok (.baload, 1)) (k : G y cc mL ret fr lo (pc + 1) lv (.int ((strB.getD i []).getD j.toNatClampNeg 0) :: stk) h r h') : G y cc mL ret fr lo pc lv (.int j :: .ref (1100 + i) :: stk) h r h' :=
  ⟨k.1, k.2.1, fun l p e R s m args below meth c dC dI dA ad0 n0 s0 A Qc C q f1 f2 f3 f4 ad H locs ls S => by
    have key := k.2.2 l p e R s m args below meth c dC dI dA ad0 n0 s0 A Qc C q f1 f2 f3 f4 ad H locs ls S
    have hz := (C.2.2.2.2.2.2.2.2.2.1.2.2.1.1 i hi).2.2.2
    dsimp only at hz
    rw [← S.out (k := 1100 + i) (by omega)] at hz
    exact va_tb C.1 C.2.1 hz S.2.2.1 hj rfl hd key⟩
theorem g_getsC {index : Nat} (hd : decode cc pc = .ok (.getstatic index, 3)) (hlink : Cond.fieldLink y.cls index "java/lang/String" "COMPACT_STRINGS" "Z" ∈ tbg) (k : G y cc mL ret fr lo (pc + 3) lv (.int 1 :: stk) h r h') : G y cc mL ret fr lo pc lv stk h r h' :=
  ⟨k.1, k.2.1, fun l p e R s m args below meth c dC dI dA ad0 n0 s0 A Qc C q f1 f2 f3 f4 ad H locs ls S =>
    va_gets C.1 C.2.1 C.2.2.2.2.2.2.2.2.2.1.2.2.2.1 S.2.2.1 C.2.2.2.2.2.1 (C.2.2.2.2.2.2.2.1 _ hlink) (fun _ z => z) hd (k.2.2 l p e R s m args below meth c dC dI dA ad0 n0 s0 A Qc C q f1 f2 f3 f4 ad H locs ls S)⟩
theorem g_getsF {index : Nat} (hd : decode cc pc = .ok (.getstatic index, 3)) (hlink : Cond.fieldLink y.cls index "jdk/internal/util/Preconditions" "SIOOBE_FORMATTER" "Ljava/util/function/BiFunction;" ∈ tbg) (k : ∀ v : Value, v = .null ∨ v = .ref 1200 → G y cc mL ret fr lo (pc + 3) lv (v :: stk) h r h') : G y cc mL ret fr lo pc lv stk h r h' :=
  ⟨(k .null (Or.inl rfl)).1, (k .null (Or.inl rfl)).2.1, fun l p e R s m args below meth c dC dI dA ad0 n0 s0 A Qc C q f1 f2 f3 f4 ad H locs ls S => by
    rcases C.2.2.2.2.2.2.2.2.2.1.2.2.2.2.1 with hz | hz
    · exact va_gets C.1 C.2.1 hz S.2.2.1 C.2.2.2.2.2.1 (C.2.2.2.2.2.2.2.1 _ hlink) (fun _ z => z) hd ((k .null (Or.inl rfl)).2.2 l p e R s m args below meth c dC dI dA ad0 n0 s0 A Qc C q f1 f2 f3 f4 ad H locs ls S)
    · rw [← S.out (k := 1200) (by omega)] at hz
      exact va_gets C.1 C.2.1 hz S.2.2.1 C.2.2.2.2.2.1 (C.2.2.2.2.2.2.2.1 _ hlink) (fun _ z => z) hd ((k (.ref 1200) (Or.inr rfl)).2.2 l p e R s m args below meth c dC dI dA ad0 n0 s0 A Qc C q f1 f2 f3 f4 ad H locs ls S)⟩
theorem g_i2c {a : Int32} (hd : decode cc pc = .ok (.i2c, 1)) (k : G y cc mL ret fr lo (pc + 1) lv (.int (a.toUInt32 % 65536).toInt32 :: stk) h r h') : G y cc mL ret fr lo pc lv (.int a :: stk) h r h' :=
  g_pure (fun hx hb _ _ _ k => lv_i2c hx hb hd rfl k) k
theorem g_callT {y2 : MethodName} {cc2 : ByteArray} {mL2 : Nat} {ret2 : Option FieldType} {fr2 lo2 index i : Nat} (As : List Value) (hi : i < strK.length) (hs : site y y2 cc2 mL2 ret2 fr lo fr2 lo2 As.length) (hlink : Cond.methodLink y.cls index y2 ∈ tbg) (hin : Cond.instanceMethod y2 ∈ tbg) (hsel : Cond.selects "java/lang/String" y2 y2 ∈ tbg) (hd : decode cc pc = .ok (.invokevirtual index, 3)) (hcat : (rest.map fun v => v.category).sum ≤ 8) (hal : al y2 = true → al y = true) (hlv : al y2 = true → ∀ q ∈ lv, okv h.1 h1.1 q.2) (hst : al y2 = true → ∀ v ∈ rest, okv h.1 h1.1 v) (M : MM y2 cc2 mL2 ret2 fr2 lo2 (.ref (1000 + i) :: As) h r1 h1) (hk : stk = As.reverse ++ .ref (1000 + i) :: rest)
    (k : G y cc mL ret fr lo (pc + 3) lv (r1.toList ++ rest) h1 r h') : G y cc mL ret fr lo pc lv stk h r h' := by
  obtain ⟨s1, s2, s3, s4, s5, s6⟩ := hs
  subst hk
  refine g_run ⟨M.1, M.2.1⟩ hal hlv hst (fun l p e R s m args below meth c dC dI dA ad0 n0 s0 A C f1 f2 f3 f4 ad H locs ls S hpm => ?_) k
  have hts := C.2.2.2.2.2.2.2.1
  have z1 := M.1.1
  have z2 := M.2.1.1
  have z3 := S.2.2.2.2.2.1
  have z4 := S.2.2.2.2.2.2.1
  have hrc := vk_recv C.2.2.2.2.2.2.2.2.2.1.2.2.1 hi S.2.2.1
  try dsimp only at hrc
  rw [← S.out (k := 1000 + i) (by omega)] at hrc
  exact ⟨_, va_runV (C := "java/lang/String") (b := ad (1000 + i)) (As := As.map (cv ad)) (rest := rest.map (cv ad)) (Ts := tbg) (own := y.cls) (nL := mL) ⟨C.1, C.2.1, C.2.2.2.1, C.2.2.2.2.2.1, hts⟩ (M.2.2 l dC dI dA ad H.size)
    ⟨⟨rfl, rfl, by show fr2 + 1 ≤ _; omega, by show 8 + (mL2 + 11) + lo2 ≤ _; omega, pay_in hts (ws_good s1), List.mem_cons_self, hts _ s1, hts _ s2, s3, len_of s4, hts _ hlink⟩, hts _ hin, hts _ hsel⟩
    ⟨PM_blind, hrc, fun U hU hW => ⟨rfl, hpm U hU hW⟩⟩ rfl (by rw [List.length_map]) S.2.2.2.1.1 (by simp [cv]) (lv_room (by rw [cat_cv]; exact hcat)) hd ⟨by omega, by omega⟩⟩
end
theorem d_String_length_0 : decode prog_13_method_54_code 0 = .ok (.aload_n 0, 1) := by decide +kernel
theorem d_String_length_1 : decode prog_13_method_54_code 1 = .ok (.getfield 9, 3) := by decide +kernel
theorem d_String_length_4 : decode prog_13_method_54_code 4 = .ok (.arraylength, 1) := by decide +kernel
theorem d_String_length_5 : decode prog_13_method_54_code 5 = .ok (.aload_n 0, 1) := by decide +kernel
theorem d_String_length_6 : decode prog_13_method_54_code 6 = .ok (.invokevirtual 335, 3) := by decide +kernel
theorem d_String_length_9 : decode prog_13_method_54_code 9 = .ok (.ishr, 1) := by decide +kernel
theorem d_String_length_10 : decode prog_13_method_54_code 10 = .ok (.ireturn, 1) := by decide +kernel
theorem d_String_coder_0 : decode prog_13_method_152_code 0 = .ok (.getstatic 38, 3) := by decide +kernel
theorem d_String_coder_3 : decode prog_13_method_152_code 3 = .ok (.ifCond .eq 10, 3) := by decide +kernel
theorem d_String_coder_6 : decode prog_13_method_152_code 6 = .ok (.aload_n 0, 1) := by decide +kernel
theorem d_String_coder_7 : decode prog_13_method_152_code 7 = .ok (.getfield 15, 3) := by decide +kernel
theorem d_String_coder_10 : decode prog_13_method_152_code 10 = .ok (.goto 4, 3) := by decide +kernel
theorem d_String_coder_13 : decode prog_13_method_152_code 13 = .ok (.iconst 1, 1) := by decide +kernel
theorem d_String_coder_14 : decode prog_13_method_152_code 14 = .ok (.ireturn, 1) := by decide +kernel
theorem d_String_charAt_0 : decode prog_13_method_56_code 0 = .ok (.aload_n 0, 1) := by decide +kernel
theorem d_String_charAt_1 : decode prog_13_method_56_code 1 = .ok (.invokevirtual 492, 3) := by decide +kernel
theorem d_String_charAt_4 : decode prog_13_method_56_code 4 = .ok (.ifCond .eq 12, 3) := by decide +kernel
theorem d_String_charAt_7 : decode prog_13_method_56_code 7 = .ok (.aload_n 0, 1) := by decide +kernel
theorem d_String_charAt_8 : decode prog_13_method_56_code 8 = .ok (.getfield 9, 3) := by decide +kernel
theorem d_String_charAt_11 : decode prog_13_method_56_code 11 = .ok (.iload_n 1, 1) := by decide +kernel
theorem d_String_charAt_12 : decode prog_13_method_56_code 12 = .ok (.invokestatic 495, 3) := by decide +kernel
theorem d_String_charAt_15 : decode prog_13_method_56_code 15 = .ok (.ireturn, 1) := by decide +kernel
theorem d_String_charAt_16 : decode prog_13_method_56_code 16 = .ok (.aload_n 0, 1) := by decide +kernel
theorem d_String_charAt_17 : decode prog_13_method_56_code 17 = .ok (.getfield 9, 3) := by decide +kernel
theorem d_String_charAt_20 : decode prog_13_method_56_code 20 = .ok (.iload_n 1, 1) := by decide +kernel
theorem d_String_charAt_21 : decode prog_13_method_56_code 21 = .ok (.invokestatic 498, 3) := by decide +kernel
theorem d_String_charAt_24 : decode prog_13_method_56_code 24 = .ok (.ireturn, 1) := by decide +kernel
theorem d_String_isLatin1_0 : decode prog_13_method_154_code 0 = .ok (.getstatic 38, 3) := by decide +kernel
theorem d_String_isLatin1_3 : decode prog_13_method_154_code 3 = .ok (.ifCond .eq 14, 3) := by decide +kernel
theorem d_String_isLatin1_6 : decode prog_13_method_154_code 6 = .ok (.aload_n 0, 1) := by decide +kernel
theorem d_String_isLatin1_7 : decode prog_13_method_154_code 7 = .ok (.getfield 15, 3) := by decide +kernel
theorem d_String_isLatin1_10 : decode prog_13_method_154_code 10 = .ok (.ifCond .ne 7, 3) := by decide +kernel
theorem d_String_isLatin1_13 : decode prog_13_method_154_code 13 = .ok (.iconst 1, 1) := by decide +kernel
theorem d_String_isLatin1_14 : decode prog_13_method_154_code 14 = .ok (.goto 4, 3) := by decide +kernel
theorem d_String_isLatin1_17 : decode prog_13_method_154_code 17 = .ok (.iconst 0, 1) := by decide +kernel
theorem d_String_isLatin1_18 : decode prog_13_method_154_code 18 = .ok (.ireturn, 1) := by decide +kernel
theorem d_String_checkIndex_0 : decode prog_13_method_155_code 0 = .ok (.iload_n 0, 1) := by decide +kernel
theorem d_String_checkIndex_1 : decode prog_13_method_155_code 1 = .ok (.iload_n 1, 1) := by decide +kernel
theorem d_String_checkIndex_2 : decode prog_13_method_155_code 2 = .ok (.getstatic 1053, 3) := by decide +kernel
theorem d_String_checkIndex_5 : decode prog_13_method_155_code 5 = .ok (.invokestatic 1059, 3) := by decide +kernel
theorem d_String_checkIndex_8 : decode prog_13_method_155_code 8 = .ok (.pop, 1) := by decide +kernel
theorem d_String_checkIndex_9 : decode prog_13_method_155_code 9 = .ok (.return_, 1) := by decide +kernel
theorem d_StringLatin1_charAt_0 : decode prog_14_method_2_code 0 = .ok (.iload_n 1, 1) := by decide +kernel
theorem d_StringLatin1_charAt_1 : decode prog_14_method_2_code 1 = .ok (.aload_n 0, 1) := by decide +kernel
theorem d_StringLatin1_charAt_2 : decode prog_14_method_2_code 2 = .ok (.arraylength, 1) := by decide +kernel
theorem d_StringLatin1_charAt_3 : decode prog_14_method_2_code 3 = .ok (.invokestatic 9, 3) := by decide +kernel
theorem d_StringLatin1_charAt_6 : decode prog_14_method_2_code 6 = .ok (.aload_n 0, 1) := by decide +kernel
theorem d_StringLatin1_charAt_7 : decode prog_14_method_2_code 7 = .ok (.iload_n 1, 1) := by decide +kernel
theorem d_StringLatin1_charAt_8 : decode prog_14_method_2_code 8 = .ok (.baload, 1) := by decide +kernel
theorem d_StringLatin1_charAt_9 : decode prog_14_method_2_code 9 = .ok (.sipush 255, 3) := by decide +kernel
theorem d_StringLatin1_charAt_12 : decode prog_14_method_2_code 12 = .ok (.iand, 1) := by decide +kernel
theorem d_StringLatin1_charAt_13 : decode prog_14_method_2_code 13 = .ok (.i2c, 1) := by decide +kernel
theorem d_StringLatin1_charAt_14 : decode prog_14_method_2_code 14 = .ok (.ireturn, 1) := by decide +kernel
theorem d_Preconditions_checkIndex_0 : decode prog_18_method_11_code 0 = .ok (.iload_n 0, 1) := by decide +kernel
theorem d_Preconditions_checkIndex_1 : decode prog_18_method_11_code 1 = .ok (.ifCond .lt 8, 3) := by decide +kernel
theorem d_Preconditions_checkIndex_4 : decode prog_18_method_11_code 4 = .ok (.iload_n 0, 1) := by decide +kernel
theorem d_Preconditions_checkIndex_5 : decode prog_18_method_11_code 5 = .ok (.iload_n 1, 1) := by decide +kernel
theorem d_Preconditions_checkIndex_6 : decode prog_18_method_11_code 6 = .ok (.if_icmp .lt 10, 3) := by decide +kernel
theorem d_Preconditions_checkIndex_9 : decode prog_18_method_11_code 9 = .ok (.aload_n 2, 1) := by decide +kernel
theorem d_Preconditions_checkIndex_10 : decode prog_18_method_11_code 10 = .ok (.iload_n 0, 1) := by decide +kernel
theorem d_Preconditions_checkIndex_11 : decode prog_18_method_11_code 11 = .ok (.iload_n 1, 1) := by decide +kernel
theorem d_Preconditions_checkIndex_12 : decode prog_18_method_11_code 12 = .ok (.invokestatic 95, 3) := by decide +kernel
theorem d_Preconditions_checkIndex_15 : decode prog_18_method_11_code 15 = .ok (.athrow, 1) := by decide +kernel
theorem d_Preconditions_checkIndex_16 : decode prog_18_method_11_code 16 = .ok (.iload_n 0, 1) := by decide +kernel
theorem d_Preconditions_checkIndex_17 : decode prog_18_method_11_code 17 = .ok (.ireturn, 1) := by decide +kernel
theorem c_String_coder {i : Nat} {h : mH} (hi : i < strK.length) : MM y_String_coder prog_13_method_152_code 1 (some .byte) 0 0 [.ref (1000 + i)] h (some (.int 0)) h := by
  refine mm_of_G (by decide) (Nat.le_of_ble_eq_true rfl) ?_
  refine g_getsC (pc := 0) d_String_coder_0 wd_394 ?_
  refine g_ifeq (pc := 3) 13 d_String_coder_3 (by decide) (fun c => absurd c (by decide)) (fun _ => ?_)
  refine g_aload_n (pc := 6) 0 d_String_coder_6 rfl rfl ?_
  refine g_strC (pc := 7) hi d_String_coder_7 wd_1416 ?_
  refine g_goto (pc := 10) 14 d_String_coder_10 (by decide) ?_
  exact g_zret (pc := 14) rfl rfl d_String_coder_14
theorem c_String_isLatin1 {i : Nat} {h : mH} (hi : i < strK.length) : MM y_String_isLatin1 prog_13_method_154_code 1 (some .boolean) 0 0 [.ref (1000 + i)] h (some (.int 1)) h := by
  refine mm_of_G (by decide) (Nat.le_of_ble_eq_true rfl) ?_
  refine g_getsC (pc := 0) d_String_isLatin1_0 wd_394 ?_
  refine g_ifeq (pc := 3) 17 d_String_isLatin1_3 (by decide) (fun c => absurd c (by decide)) (fun _ => ?_)
  refine g_aload_n (pc := 6) 0 d_String_isLatin1_6 rfl rfl ?_
  refine g_strC (pc := 7) hi d_String_isLatin1_7 wd_1416 ?_
  refine g_ifne (pc := 10) 17 d_String_isLatin1_10 (by decide) (fun c => absurd rfl c) (fun _ => ?_)
  refine g_iconst (pc := 13) 1 d_String_isLatin1_13 (by decide) ?_
  refine g_goto (pc := 14) 18 d_String_isLatin1_14 (by decide) ?_
  exact g_zret (pc := 18) rfl rfl d_String_isLatin1_18
theorem c_String_length {o : Nat} {h : mH} {r : Int32} {h' : mH} (hf : f_String_length o h = some (r, h')) : MM y_String_length prog_13_method_54_code 1 (some .int) 1 20 [.ref o] h (some (.int r)) h' := by
  obtain ⟨n, e, hf⟩ := bd1_e hf
  unfold strLen at e
  split at e
  · next q =>
    obtain ⟨i, rfl⟩ : ∃ i, o = 1000 + i := ⟨o - 1000, by omega⟩
    have hi : i < strK.length := by omega
    rw [show 1000 + i - 1000 = i by omega] at e
    obtain rfl := ret1 e
    obtain ⟨rfl, rfl⟩ := ret2 hf
    refine mm_of_G (by decide) (Nat.le_of_ble_eq_true rfl) ?_
    refine g_aload_n (pc := 0) 0 d_String_length_0 rfl rfl ?_
    refine g_strV (pc := 1) hi d_String_length_1 wd_1415 ?_
    refine g_strN (pc := 4) hi d_String_length_4 ?_
    refine g_aload_n (pc := 5) 0 d_String_length_5 rfl rfl ?_
    refine g_callT (pc := 6) [] hi (site_of si_String_coder (by decide) (by decide)) wd_390 wd_391 wd_392 d_String_length_6 (Nat.le_of_ble_eq_true rfl) (fun z => absurd z (by decide)) (fun z => absurd z (by decide)) (fun z => absurd z (by decide)) (c_String_coder hi) rfl ?_
    refine g_st [.int 0, .int (Int32.ofNat (strL.getD i 0))] rfl ?_
    refine g_ishr (pc := 9) d_String_length_9 ?_
    exact g_iret (pc := 10) rfl d_String_length_10
  · cases e
theorem c_Preconditions_checkIndex {i n : Int32} {v : Value} {h : mH} (h0 : ¬ i < 0) (h1 : i < n) (hv : v = .null ∨ v = .ref 1200) : MM y_Preconditions_checkIndex prog_18_method_11_code 3 (some .int) 0 0 [.int i, .int n, v] h (some (.int i)) h := by
  rcases hv with rfl | rfl <;>
  · refine mm_of_G (by decide) (Nat.le_of_ble_eq_true rfl) ?_
    refine g_iload_n (pc := 0) 0 d_Preconditions_checkIndex_0 rfl rfl ?_
    refine g_iflt (pc := 1) 9 d_Preconditions_checkIndex_1 (by decide) (fun c => absurd c h0) (fun _ => ?_)
    refine g_iload_n (pc := 4) 0 d_Preconditions_checkIndex_4 rfl rfl ?_
    refine g_iload_n (pc := 5) 1 d_Preconditions_checkIndex_5 rfl rfl ?_
    refine g_icmplt (pc := 6) 16 d_Preconditions_checkIndex_6 (by decide) (fun _ => ?_) (fun c => absurd h1 c)
    refine g_iload_n (pc := 16) 0 d_Preconditions_checkIndex_16 rfl rfl ?_
    exact g_iret (pc := 17) rfl d_Preconditions_checkIndex_17
theorem c_String_checkIndex {i n : Int32} {h : mH} (h0 : ¬ i < 0) (h1 : i < n) : MM y_String_checkIndex prog_13_method_155_code 2 none 1 22 [.int i, .int n] h none h := by
  refine mm_of_G (by decide) (Nat.le_of_ble_eq_true rfl) ?_
  refine g_iload_n (pc := 0) 0 d_String_checkIndex_0 rfl rfl ?_
  refine g_iload_n (pc := 1) 1 d_String_checkIndex_1 rfl rfl ?_
  refine g_getsF (pc := 2) d_String_checkIndex_2 wd_410 (fun v hv => ?_)
  refine g_callS (pc := 5) (rest := []) [.int i, .int n, v] (site_of si_Preconditions_checkIndex (by decide) (by decide)) wd_412 wd_413 d_String_checkIndex_5 (Nat.le_of_ble_eq_true rfl) (fun z => absurd z (by decide)) (fun z => absurd z (by decide)) (fun z => absurd z (by decide)) (c_Preconditions_checkIndex h0 h1 hv) rfl ?_
  refine g_st [.int i] rfl ?_
  refine g_pop (pc := 8) d_String_checkIndex_8 rfl ?_
  exact g_vret (pc := 9) rfl d_String_checkIndex_9
theorem c_StringLatin1_charAt {i : Nat} {j : Int32} {h : mH} (hi : i < strK.length) (hj : vp_in j (strL.getD i 0)) (hn : strL.getD i 0 < 2 ^ 31) : MM y_StringLatin1_charAt prog_14_method_2_code 2 (some .char) 2 43 [.ref (1100 + i), .int j] h (some (.int ((((strB.getD i []).getD j.toNatClampNeg 0) &&& 255).toUInt32 % 65536).toInt32)) h := by
  obtain ⟨q, hq, hjq⟩ := vp_in_of hj hn
  have h0 : ¬ j < 0 := fun z => hj (Or.inl z)
  have h1 : j < Int32.ofNat (strL.getD i 0) := by rw [hjq]; exact nI_lt hq hn
  refine mm_of_G (by decide) (Nat.le_of_ble_eq_true rfl) ?_
  refine g_iload_n (pc := 0) 1 d_StringLatin1_charAt_0 rfl rfl ?_
  refine g_aload_n (pc := 1) 0 d_StringLatin1_charAt_1 rfl rfl ?_
  refine g_strN (pc := 2) hi d_StringLatin1_charAt_2 ?_
  refine g_callS (pc := 3) (rest := []) [.int j, .int (Int32.ofNat (strL.getD i 0))] (site_of si_String_checkIndex (by decide) (by decide)) wd_407 wd_408 d_StringLatin1_charAt_3 (Nat.le_of_ble_eq_true rfl) (fun z => absurd z (by decide)) (fun z => absurd z (by decide)) (fun z => absurd z (by decide)) (c_String_checkIndex h0 h1) rfl ?_
  refine g_st [] rfl ?_
  refine g_aload_n (pc := 6) 0 d_StringLatin1_charAt_6 rfl rfl ?_
  refine g_iload_n (pc := 7) 1 d_StringLatin1_charAt_7 rfl rfl ?_
  refine g_strB (pc := 8) hi hj d_StringLatin1_charAt_8 ?_
  refine g_sipush (pc := 9) 255 d_StringLatin1_charAt_9 (by decide) ?_
  refine g_iand (pc := 12) d_StringLatin1_charAt_12 ?_
  refine g_i2c (pc := 13) d_StringLatin1_charAt_13 ?_
  exact g_zret (pc := 14) rfl (pk_nc _) d_StringLatin1_charAt_14
theorem strL_small : ∀ i, strL.getD i 0 < 2 ^ 31 := by
  intro i
  by_cases h : i < strL.length
  · have hd : ∀ n ∈ strL, n < 2 ^ 31 := by decide
    rw [List.getD_eq_getElem?_getD, List.getElem?_eq_getElem h]
    exact hd _ (List.getElem_mem h)
  · rw [List.getD_eq_getElem?_getD, List.getElem?_eq_none (by omega)]
    decide
theorem c_String_charAt {o : Nat} {j : Int32} {h : mH} {r : Int32} {h' : mH} (hf : f_String_charAt o j h = some (r, h')) : MM y_String_charAt prog_13_method_56_code 2 (some .char) 3 64 [.ref o, .int j] h (some (.int r)) h' := by
  obtain ⟨n, e, hf⟩ := bd1_e hf
  unfold strAt at e
  split at e
  · next q =>
    obtain ⟨i, rfl⟩ : ∃ i, o = 1000 + i := ⟨o - 1000, by omega⟩
    have hi : i < strK.length := by omega
    rw [show 1000 + i - 1000 = i by omega] at e q
    obtain rfl := ret1 e
    obtain ⟨rfl, rfl⟩ := ret2 hf
    refine mm_of_G (by decide) (Nat.le_of_ble_eq_true rfl) ?_
    refine g_aload_n (pc := 0) 0 d_String_charAt_0 rfl rfl ?_
    refine g_callT (pc := 1) [] hi (site_of si_String_isLatin1 (by decide) (by decide)) wd_400 wd_401 wd_402 d_String_charAt_1 (Nat.le_of_ble_eq_true rfl) (fun z => absurd z (by decide)) (fun z => absurd z (by decide)) (fun z => absurd z (by decide)) (c_String_isLatin1 hi) rfl ?_
    refine g_st [.int 1] rfl ?_
    refine g_ifeq (pc := 4) 16 d_String_charAt_4 (by decide) (fun c => absurd c (by decide)) (fun _ => ?_)
    refine g_aload_n (pc := 7) 0 d_String_charAt_7 rfl rfl ?_
    refine g_strV (pc := 8) hi d_String_charAt_8 wd_1415 ?_
    refine g_iload_n (pc := 11) 1 d_String_charAt_11 rfl rfl ?_
    refine g_callS (pc := 12) (rest := []) [.ref (1100 + i), .int j] (site_of si_StringLatin1_charAt (by decide) (by decide)) wd_404 wd_405 d_String_charAt_12 (Nat.le_of_ble_eq_true rfl) (fun z => absurd z (by decide)) (fun z => absurd z (by decide)) (fun z => absurd z (by decide)) (c_StringLatin1_charAt hi q.2 (strL_small i)) rfl ?_
    refine g_st [.int ((((strB.getD i []).getD j.toNatClampNeg 0) &&& 255).toUInt32 % 65536).toInt32] rfl ?_
    exact g_zret (pc := 15) rfl (pk_nc _) d_String_charAt_15
  · cases e
theorem str_of_len {o : Nat} {h : mH} {r : Int32} {h' : mH} (hf : f_String_length o h = some (r, h')) : ∃ i, i < strK.length ∧ o = 1000 + i := by
  obtain ⟨n, e, hf⟩ := bd1_e hf
  unfold strLen at e
  split at e
  · next q => exact ⟨o - 1000, by omega, by omega⟩
  · cases e
theorem str_of_at {o : Nat} {j : Int32} {h : mH} {r : Int32} {h' : mH} (hf : f_String_charAt o j h = some (r, h')) : ∃ i, i < strK.length ∧ o = 1000 + i := by
  obtain ⟨n, e, hf⟩ := bd1_e hf
  unfold strAt at e
  split at e
  · next q => exact ⟨o - 1000, by omega, by omega⟩
  · cases e
end
