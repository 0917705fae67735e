section
-- ===== PART A: goes FIRST, ahead of the names: the tables' words, and 'selects' of the private methods out of them =====
/-- a private method of a class that the tables say can be made, by its rows of tables_1 -/
def lw_okq (q : MethodName × Nat) : Prop := (q.1.cls ≠ "java/lang/invoke/MethodHandle" ∧ q.1.cls ≠ "java/lang/invoke/VarHandle") ∧ Cond.instantiable q.1.cls q.2 ∈ tables_1 ∧ Cond.privateMethod q.1 ∈ tables_1 ∧ Cond.instanceMethod q.1 ∈ tables_1
theorem lw_p0 : lw_okq (⟨"QuotaLaws$Reader", "takeToken", "()Z"⟩, 9) := ⟨⟨by decide +kernel, by decide +kernel⟩, List.mem_of_getElem? (i := 27) (by decide +kernel), List.mem_of_getElem? (i := 358) (by decide +kernel), List.mem_of_getElem? (i := 359) (by decide +kernel)⟩
theorem lw_p1 : lw_okq (⟨"QuotaLaws$Reader", "passRun", "(II)V"⟩, 9) := ⟨⟨by decide +kernel, by decide +kernel⟩, List.mem_of_getElem? (i := 27) (by decide +kernel), List.mem_of_getElem? (i := 362) (by decide +kernel), List.mem_of_getElem? (i := 363) (by decide +kernel)⟩
theorem lw_p2 : lw_okq (⟨"QuotaLaws$Reader", "kindHere", "()I"⟩, 9) := ⟨⟨by decide +kernel, by decide +kernel⟩, List.mem_of_getElem? (i := 27) (by decide +kernel), List.mem_of_getElem? (i := 366) (by decide +kernel), List.mem_of_getElem? (i := 367) (by decide +kernel)⟩
theorem lw_p3 : lw_okq (⟨"QuotaLaws$Reader", "valueOfRun", "()I"⟩, 9) := ⟨⟨by decide +kernel, by decide +kernel⟩, List.mem_of_getElem? (i := 27) (by decide +kernel), List.mem_of_getElem? (i := 370) (by decide +kernel), List.mem_of_getElem? (i := 371) (by decide +kernel)⟩
theorem lw_p4 : lw_okq (⟨"QuotaLaws$Reader", "fail", "(II)Z"⟩, 9) := ⟨⟨by decide +kernel, by decide +kernel⟩, List.mem_of_getElem? (i := 27) (by decide +kernel), List.mem_of_getElem? (i := 374) (by decide +kernel), List.mem_of_getElem? (i := 375) (by decide +kernel)⟩
theorem lw_p5 : lw_okq (⟨"QuotaLaws$Reader", "takeLine", "(LQuotaLaws$Realm;)Z"⟩, 9) := ⟨⟨by decide +kernel, by decide +kernel⟩, List.mem_of_getElem? (i := 27) (by decide +kernel), List.mem_of_getElem? (i := 378) (by decide +kernel), List.mem_of_getElem? (i := 379) (by decide +kernel)⟩
theorem lw_p6 : lw_okq (⟨"QuotaLaws$Reader", "isWord", "(Ljava/lang/String;)Z"⟩, 9) := ⟨⟨by decide +kernel, by decide +kernel⟩, List.mem_of_getElem? (i := 27) (by decide +kernel), List.mem_of_getElem? (i := 383) (by decide +kernel), List.mem_of_getElem? (i := 384) (by decide +kernel)⟩
theorem lw_p7 : lw_okq (⟨"QuotaLaws$Reader", "takeLaw", "(LQuotaLaws$Realm;I)Z"⟩, 9) := ⟨⟨by decide +kernel, by decide +kernel⟩, List.mem_of_getElem? (i := 27) (by decide +kernel), List.mem_of_getElem? (i := 435) (by decide +kernel), List.mem_of_getElem? (i := 436) (by decide +kernel)⟩
theorem lw_p8 : lw_okq (⟨"QuotaLaws$Reader", "takeNumber", "(II)Z"⟩, 9) := ⟨⟨by decide +kernel, by decide +kernel⟩, List.mem_of_getElem? (i := 27) (by decide +kernel), List.mem_of_getElem? (i := 439) (by decide +kernel), List.mem_of_getElem? (i := 440) (by decide +kernel)⟩
theorem lw_p9 : lw_okq (⟨"QuotaLaws$Reader", "isBounded", "(II)Z"⟩, 9) := ⟨⟨by decide +kernel, by decide +kernel⟩, List.mem_of_getElem? (i := 27) (by decide +kernel), List.mem_of_getElem? (i := 443) (by decide +kernel), List.mem_of_getElem? (i := 444) (by decide +kernel)⟩
theorem lw_p10 : lw_okq (⟨"QuotaLaws$Reader", "putInto", "([II)Z"⟩, 9) := ⟨⟨by decide +kernel, by decide +kernel⟩, List.mem_of_getElem? (i := 27) (by decide +kernel), List.mem_of_getElem? (i := 448) (by decide +kernel), List.mem_of_getElem? (i := 449) (by decide +kernel)⟩
theorem lw_p11 : lw_okq (⟨"QuotaLaws$Reader", "takeCarried", "(LQuotaLaws$Realm;I)Z"⟩, 9) := ⟨⟨by decide +kernel, by decide +kernel⟩, List.mem_of_getElem? (i := 27) (by decide +kernel), List.mem_of_getElem? (i := 452) (by decide +kernel), List.mem_of_getElem? (i := 453) (by decide +kernel)⟩
theorem lw_p12 : lw_okq (⟨"QuotaLaws$Reader", "isStop", "()Z"⟩, 9) := ⟨⟨by decide +kernel, by decide +kernel⟩, List.mem_of_getElem? (i := 27) (by decide +kernel), List.mem_of_getElem? (i := 456) (by decide +kernel), List.mem_of_getElem? (i := 457) (by decide +kernel)⟩
theorem lw_p13 : lw_okq (⟨"QuotaLaws$Reader", "takeOne", "(LQuotaLaws$Realm;I)Z"⟩, 9) := ⟨⟨by decide +kernel, by decide +kernel⟩, List.mem_of_getElem? (i := 27) (by decide +kernel), List.mem_of_getElem? (i := 461) (by decide +kernel), List.mem_of_getElem? (i := 462) (by decide +kernel)⟩
theorem lw_p14 : lw_okq (⟨"QuotaLaws$Reader", "addLaw", "([II)Z"⟩, 9) := ⟨⟨by decide +kernel, by decide +kernel⟩, List.mem_of_getElem? (i := 27) (by decide +kernel), List.mem_of_getElem? (i := 465) (by decide +kernel), List.mem_of_getElem? (i := 466) (by decide +kernel)⟩
theorem lw_p15 : lw_okq (⟨"QuotaLaws$Reader", "takeWant", "(LQuotaLaws$Realm;)Z"⟩, 9) := ⟨⟨by decide +kernel, by decide +kernel⟩, List.mem_of_getElem? (i := 27) (by decide +kernel), List.mem_of_getElem? (i := 473) (by decide +kernel), List.mem_of_getElem? (i := 474) (by decide +kernel)⟩
def lw_privs_1 : List (MethodName × Nat) := [(⟨"QuotaLaws$Reader", "takeToken", "()Z"⟩, 9), (⟨"QuotaLaws$Reader", "passRun", "(II)V"⟩, 9), (⟨"QuotaLaws$Reader", "kindHere", "()I"⟩, 9), (⟨"QuotaLaws$Reader", "valueOfRun", "()I"⟩, 9), (⟨"QuotaLaws$Reader", "fail", "(II)Z"⟩, 9), (⟨"QuotaLaws$Reader", "takeLine", "(LQuotaLaws$Realm;)Z"⟩, 9), (⟨"QuotaLaws$Reader", "isWord", "(Ljava/lang/String;)Z"⟩, 9), (⟨"QuotaLaws$Reader", "takeLaw", "(LQuotaLaws$Realm;I)Z"⟩, 9), (⟨"QuotaLaws$Reader", "takeNumber", "(II)Z"⟩, 9), (⟨"QuotaLaws$Reader", "isBounded", "(II)Z"⟩, 9), (⟨"QuotaLaws$Reader", "putInto", "([II)Z"⟩, 9), (⟨"QuotaLaws$Reader", "takeCarried", "(LQuotaLaws$Realm;I)Z"⟩, 9), (⟨"QuotaLaws$Reader", "isStop", "()Z"⟩, 9), (⟨"QuotaLaws$Reader", "takeOne", "(LQuotaLaws$Realm;I)Z"⟩, 9), (⟨"QuotaLaws$Reader", "addLaw", "([II)Z"⟩, 9), (⟨"QuotaLaws$Reader", "takeWant", "(LQuotaLaws$Realm;)Z"⟩, 9)]
theorem lw_r1 : ∀ q ∈ lw_privs_1, lw_okq q := List.forall_mem_cons.mpr ⟨lw_p0, List.forall_mem_cons.mpr ⟨lw_p1, List.forall_mem_cons.mpr ⟨lw_p2, List.forall_mem_cons.mpr ⟨lw_p3, List.forall_mem_cons.mpr ⟨lw_p4, List.forall_mem_cons.mpr ⟨lw_p5, List.forall_mem_cons.mpr ⟨lw_p6, List.forall_mem_cons.mpr ⟨lw_p7, List.forall_mem_cons.mpr ⟨lw_p8, List.forall_mem_cons.mpr ⟨lw_p9, List.forall_mem_cons.mpr ⟨lw_p10, List.forall_mem_cons.mpr ⟨lw_p11, List.forall_mem_cons.mpr ⟨lw_p12, List.forall_mem_cons.mpr ⟨lw_p13, List.forall_mem_cons.mpr ⟨lw_p14, List.forall_mem_cons.mpr ⟨lw_p15, fun _ h => absurd h List.not_mem_nil⟩⟩⟩⟩⟩⟩⟩⟩⟩⟩⟩⟩⟩⟩⟩⟩
theorem lw_p16 : lw_okq (⟨"QuotaLaws$Reader", "takeWatch", "(LQuotaLaws$Realm;)Z"⟩, 9) := ⟨⟨by decide +kernel, by decide +kernel⟩, List.mem_of_getElem? (i := 27) (by decide +kernel), List.mem_of_getElem? (i := 478) (by decide +kernel), List.mem_of_getElem? (i := 479) (by decide +kernel)⟩
theorem lw_p17 : lw_okq (⟨"QuotaLaws$Planner", "leftToLast", "(III)I"⟩, 8) := ⟨⟨by decide +kernel, by decide +kernel⟩, List.mem_of_getElem? (i := 199) (by decide +kernel), List.mem_of_getElem? (i := 676) (by decide +kernel), List.mem_of_getElem? (i := 677) (by decide +kernel)⟩
theorem lw_p18 : lw_okq (⟨"QuotaLaws$Planner", "search", "(III)I"⟩, 8) := ⟨⟨by decide +kernel, by decide +kernel⟩, List.mem_of_getElem? (i := 199) (by decide +kernel), List.mem_of_getElem? (i := 683) (by decide +kernel), List.mem_of_getElem? (i := 684) (by decide +kernel)⟩
theorem lw_p19 : lw_okq (⟨"QuotaLaws$Planner", "needOfAll", "(I)I"⟩, 8) := ⟨⟨by decide +kernel, by decide +kernel⟩, List.mem_of_getElem? (i := 199) (by decide +kernel), List.mem_of_getElem? (i := 707) (by decide +kernel), List.mem_of_getElem? (i := 708) (by decide +kernel)⟩
theorem lw_p20 : lw_okq (⟨"QuotaLaws$Planner", "givenTo", "(I)I"⟩, 8) := ⟨⟨by decide +kernel, by decide +kernel⟩, List.mem_of_getElem? (i := 199) (by decide +kernel), List.mem_of_getElem? (i := 712) (by decide +kernel), List.mem_of_getElem? (i := 713) (by decide +kernel)⟩
theorem lw_p21 : lw_okq (⟨"QuotaLaws$Odds", "addTry", "(I)V"⟩, 3) := ⟨⟨by decide +kernel, by decide +kernel⟩, List.mem_of_getElem? (i := 263) (by decide +kernel), List.mem_of_getElem? (i := 759) (by decide +kernel), List.mem_of_getElem? (i := 760) (by decide +kernel)⟩
theorem lw_p22 : lw_okq (⟨"QuotaLaws$Odds", "reduce", "()V"⟩, 3) := ⟨⟨by decide +kernel, by decide +kernel⟩, List.mem_of_getElem? (i := 263) (by decide +kernel), List.mem_of_getElem? (i := 765) (by decide +kernel), List.mem_of_getElem? (i := 766) (by decide +kernel)⟩
theorem lw_p23 : lw_okq (⟨"QuotaLaws$Tables", "spendAlone", "(II)V"⟩, 8) := ⟨⟨by decide +kernel, by decide +kernel⟩, List.mem_of_getElem? (i := 231) (by decide +kernel), List.mem_of_getElem? (i := 801) (by decide +kernel), List.mem_of_getElem? (i := 802) (by decide +kernel)⟩
theorem lw_p24 : lw_okq (⟨"QuotaLaws$Tables", "joinAll", "()V"⟩, 8) := ⟨⟨by decide +kernel, by decide +kernel⟩, List.mem_of_getElem? (i := 231) (by decide +kernel), List.mem_of_getElem? (i := 805) (by decide +kernel), List.mem_of_getElem? (i := 806) (by decide +kernel)⟩
theorem lw_p25 : lw_okq (⟨"QuotaLaws$Tables", "spendTogether", "(I)V"⟩, 8) := ⟨⟨by decide +kernel, by decide +kernel⟩, List.mem_of_getElem? (i := 231) (by decide +kernel), List.mem_of_getElem? (i := 812) (by decide +kernel), List.mem_of_getElem? (i := 813) (by decide +kernel)⟩
theorem lw_p26 : lw_okq (⟨"QuotaLaws$Tables", "waysTo", "(IIII)J"⟩, 8) := ⟨⟨by decide +kernel, by decide +kernel⟩, List.mem_of_getElem? (i := 231) (by decide +kernel), List.mem_of_getElem? (i := 816) (by decide +kernel), List.mem_of_getElem? (i := 817) (by decide +kernel)⟩
theorem lw_p27 : lw_okq (⟨"QuotaLaws$Tables", "sumOfDue", "()J"⟩, 8) := ⟨⟨by decide +kernel, by decide +kernel⟩, List.mem_of_getElem? (i := 231) (by decide +kernel), List.mem_of_getElem? (i := 822) (by decide +kernel), List.mem_of_getElem? (i := 823) (by decide +kernel)⟩
theorem lw_p28 : lw_okq (⟨"QuotaLaws$Tables", "isDueOf", "(II)Z"⟩, 8) := ⟨⟨by decide +kernel, by decide +kernel⟩, List.mem_of_getElem? (i := 231) (by decide +kernel), List.mem_of_getElem? (i := 826) (by decide +kernel), List.mem_of_getElem? (i := 827) (by decide +kernel)⟩
theorem lw_p29 : lw_okq (⟨"QuotaLaws", "countKept", "()I"⟩, 10) := ⟨⟨by decide +kernel, by decide +kernel⟩, List.mem_of_getElem? (i := 19) (by decide +kernel), List.mem_of_getElem? (i := 913) (by decide +kernel), List.mem_of_getElem? (i := 914) (by decide +kernel)⟩
theorem lw_p30 : lw_okq (⟨"QuotaLawsModel", "firstDraft", "()V"⟩, 39) := ⟨⟨by decide +kernel, by decide +kernel⟩, List.mem_of_getElem? (i := 925) (by decide +kernel), List.mem_of_getElem? (i := 931) (by decide +kernel), List.mem_of_getElem? (i := 932) (by decide +kernel)⟩
theorem lw_p31 : lw_okq (⟨"QuotaLawsModel", "keepDraft", "()V"⟩, 39) := ⟨⟨by decide +kernel, by decide +kernel⟩, List.mem_of_getElem? (i := 925) (by decide +kernel), List.mem_of_getElem? (i := 935) (by decide +kernel), List.mem_of_getElem? (i := 936) (by decide +kernel)⟩
def lw_privs_2 : List (MethodName × Nat) := [(⟨"QuotaLaws$Reader", "takeWatch", "(LQuotaLaws$Realm;)Z"⟩, 9), (⟨"QuotaLaws$Planner", "leftToLast", "(III)I"⟩, 8), (⟨"QuotaLaws$Planner", "search", "(III)I"⟩, 8), (⟨"QuotaLaws$Planner", "needOfAll", "(I)I"⟩, 8), (⟨"QuotaLaws$Planner", "givenTo", "(I)I"⟩, 8), (⟨"QuotaLaws$Odds", "addTry", "(I)V"⟩, 3), (⟨"QuotaLaws$Odds", "reduce", "()V"⟩, 3), (⟨"QuotaLaws$Tables", "spendAlone", "(II)V"⟩, 8), (⟨"QuotaLaws$Tables", "joinAll", "()V"⟩, 8), (⟨"QuotaLaws$Tables", "spendTogether", "(I)V"⟩, 8), (⟨"QuotaLaws$Tables", "waysTo", "(IIII)J"⟩, 8), (⟨"QuotaLaws$Tables", "sumOfDue", "()J"⟩, 8), (⟨"QuotaLaws$Tables", "isDueOf", "(II)Z"⟩, 8), (⟨"QuotaLaws", "countKept", "()I"⟩, 10), (⟨"QuotaLawsModel", "firstDraft", "()V"⟩, 39), (⟨"QuotaLawsModel", "keepDraft", "()V"⟩, 39)]
theorem lw_r2 : ∀ q ∈ lw_privs_2, lw_okq q := List.forall_mem_cons.mpr ⟨lw_p16, List.forall_mem_cons.mpr ⟨lw_p17, List.forall_mem_cons.mpr ⟨lw_p18, List.forall_mem_cons.mpr ⟨lw_p19, List.forall_mem_cons.mpr ⟨lw_p20, List.forall_mem_cons.mpr ⟨lw_p21, List.forall_mem_cons.mpr ⟨lw_p22, List.forall_mem_cons.mpr ⟨lw_p23, List.forall_mem_cons.mpr ⟨lw_p24, List.forall_mem_cons.mpr ⟨lw_p25, List.forall_mem_cons.mpr ⟨lw_p26, List.forall_mem_cons.mpr ⟨lw_p27, List.forall_mem_cons.mpr ⟨lw_p28, List.forall_mem_cons.mpr ⟨lw_p29, List.forall_mem_cons.mpr ⟨lw_p30, List.forall_mem_cons.mpr ⟨lw_p31, fun _ h => absurd h List.not_mem_nil⟩⟩⟩⟩⟩⟩⟩⟩⟩⟩⟩⟩⟩⟩⟩⟩
theorem lw_p32 : lw_okq (⟨"QuotaLawsModel", "next", "()V"⟩, 39) := ⟨⟨by decide +kernel, by decide +kernel⟩, List.mem_of_getElem? (i := 925) (by decide +kernel), List.mem_of_getElem? (i := 1073) (by decide +kernel), List.mem_of_getElem? (i := 1074) (by decide +kernel)⟩
theorem lw_p33 : lw_okq (⟨"QuotaLawsModel", "look", "(I)I"⟩, 39) := ⟨⟨by decide +kernel, by decide +kernel⟩, List.mem_of_getElem? (i := 925) (by decide +kernel), List.mem_of_getElem? (i := 1077) (by decide +kernel), List.mem_of_getElem? (i := 1078) (by decide +kernel)⟩
theorem lw_p34 : lw_okq (⟨"QuotaLawsModel", "needs", "(ZI)V"⟩, 39) := ⟨⟨by decide +kernel, by decide +kernel⟩, List.mem_of_getElem? (i := 925) (by decide +kernel), List.mem_of_getElem? (i := 1085) (by decide +kernel), List.mem_of_getElem? (i := 1086) (by decide +kernel)⟩
theorem lw_p35 : lw_okq (⟨"QuotaLawsModel", "readLine", "()V"⟩, 39) := ⟨⟨by decide +kernel, by decide +kernel⟩, List.mem_of_getElem? (i := 925) (by decide +kernel), List.mem_of_getElem? (i := 1089) (by decide +kernel), List.mem_of_getElem? (i := 1090) (by decide +kernel)⟩
theorem lw_p36 : lw_okq (⟨"QuotaLawsModel", "lineNow", "()I"⟩, 39) := ⟨⟨by decide +kernel, by decide +kernel⟩, List.mem_of_getElem? (i := 925) (by decide +kernel), List.mem_of_getElem? (i := 1093) (by decide +kernel), List.mem_of_getElem? (i := 1094) (by decide +kernel)⟩
theorem lw_p37 : lw_okq (⟨"QuotaLawsModel", "is", "(IIII)Z"⟩, 39) := ⟨⟨by decide +kernel, by decide +kernel⟩, List.mem_of_getElem? (i := 925) (by decide +kernel), List.mem_of_getElem? (i := 1097) (by decide +kernel), List.mem_of_getElem? (i := 1098) (by decide +kernel)⟩
theorem lw_p38 : lw_okq (⟨"QuotaLawsModel", "readLineOf", "(I)V"⟩, 39) := ⟨⟨by decide +kernel, by decide +kernel⟩, List.mem_of_getElem? (i := 925) (by decide +kernel), List.mem_of_getElem? (i := 1101) (by decide +kernel), List.mem_of_getElem? (i := 1102) (by decide +kernel)⟩
theorem lw_p39 : lw_okq (⟨"QuotaLawsModel", "readLaw", "()V"⟩, 39) := ⟨⟨by decide +kernel, by decide +kernel⟩, List.mem_of_getElem? (i := 925) (by decide +kernel), List.mem_of_getElem? (i := 1105) (by decide +kernel), List.mem_of_getElem? (i := 1106) (by decide +kernel)⟩
theorem lw_p40 : lw_okq (⟨"QuotaLawsModel", "readNumber", "(II)I"⟩, 39) := ⟨⟨by decide +kernel, by decide +kernel⟩, List.mem_of_getElem? (i := 925) (by decide +kernel), List.mem_of_getElem? (i := 1109) (by decide +kernel), List.mem_of_getElem? (i := 1110) (by decide +kernel)⟩
theorem lw_p41 : lw_okq (⟨"QuotaLawsModel", "looked", "(II)I"⟩, 39) := ⟨⟨by decide +kernel, by decide +kernel⟩, List.mem_of_getElem? (i := 925) (by decide +kernel), List.mem_of_getElem? (i := 1113) (by decide +kernel), List.mem_of_getElem? (i := 1114) (by decide +kernel)⟩
theorem lw_p42 : lw_okq (⟨"QuotaLawsModel", "readLawOf", "(I)I"⟩, 39) := ⟨⟨by decide +kernel, by decide +kernel⟩, List.mem_of_getElem? (i := 925) (by decide +kernel), List.mem_of_getElem? (i := 1117) (by decide +kernel), List.mem_of_getElem? (i := 1118) (by decide +kernel)⟩
theorem lw_p43 : lw_okq (⟨"QuotaLawsModel", "readOne", "()V"⟩, 39) := ⟨⟨by decide +kernel, by decide +kernel⟩, List.mem_of_getElem? (i := 925) (by decide +kernel), List.mem_of_getElem? (i := 1121) (by decide +kernel), List.mem_of_getElem? (i := 1122) (by decide +kernel)⟩
theorem lw_p44 : lw_okq (⟨"QuotaLawsModel", "isLaw", "(I)Z"⟩, 39) := ⟨⟨by decide +kernel, by decide +kernel⟩, List.mem_of_getElem? (i := 925) (by decide +kernel), List.mem_of_getElem? (i := 1137) (by decide +kernel), List.mem_of_getElem? (i := 1138) (by decide +kernel)⟩
theorem lw_p45 : lw_okq (⟨"QuotaLawsModel", "needOf", "(I)I"⟩, 39) := ⟨⟨by decide +kernel, by decide +kernel⟩, List.mem_of_getElem? (i := 925) (by decide +kernel), List.mem_of_getElem? (i := 1141) (by decide +kernel), List.mem_of_getElem? (i := 1142) (by decide +kernel)⟩
theorem lw_p46 : lw_okq (⟨"QuotaLawsModel", "doesStand", "(I)Z"⟩, 39) := ⟨⟨by decide +kernel, by decide +kernel⟩, List.mem_of_getElem? (i := 925) (by decide +kernel), List.mem_of_getElem? (i := 1145) (by decide +kernel), List.mem_of_getElem? (i := 1146) (by decide +kernel)⟩
theorem lw_p47 : lw_okq (⟨"QuotaLawsModel", "brokenBy", "(II)I"⟩, 39) := ⟨⟨by decide +kernel, by decide +kernel⟩, List.mem_of_getElem? (i := 925) (by decide +kernel), List.mem_of_getElem? (i := 1149) (by decide +kernel), List.mem_of_getElem? (i := 1150) (by decide +kernel)⟩
def lw_privs_3 : List (MethodName × Nat) := [(⟨"QuotaLawsModel", "next", "()V"⟩, 39), (⟨"QuotaLawsModel", "look", "(I)I"⟩, 39), (⟨"QuotaLawsModel", "needs", "(ZI)V"⟩, 39), (⟨"QuotaLawsModel", "readLine", "()V"⟩, 39), (⟨"QuotaLawsModel", "lineNow", "()I"⟩, 39), (⟨"QuotaLawsModel", "is", "(IIII)Z"⟩, 39), (⟨"QuotaLawsModel", "readLineOf", "(I)V"⟩, 39), (⟨"QuotaLawsModel", "readLaw", "()V"⟩, 39), (⟨"QuotaLawsModel", "readNumber", "(II)I"⟩, 39), (⟨"QuotaLawsModel", "looked", "(II)I"⟩, 39), (⟨"QuotaLawsModel", "readLawOf", "(I)I"⟩, 39), (⟨"QuotaLawsModel", "readOne", "()V"⟩, 39), (⟨"QuotaLawsModel", "isLaw", "(I)Z"⟩, 39), (⟨"QuotaLawsModel", "needOf", "(I)I"⟩, 39), (⟨"QuotaLawsModel", "doesStand", "(I)Z"⟩, 39), (⟨"QuotaLawsModel", "brokenBy", "(II)I"⟩, 39)]
theorem lw_r3 : ∀ q ∈ lw_privs_3, lw_okq q := List.forall_mem_cons.mpr ⟨lw_p32, List.forall_mem_cons.mpr ⟨lw_p33, List.forall_mem_cons.mpr ⟨lw_p34, List.forall_mem_cons.mpr ⟨lw_p35, List.forall_mem_cons.mpr ⟨lw_p36, List.forall_mem_cons.mpr ⟨lw_p37, List.forall_mem_cons.mpr ⟨lw_p38, List.forall_mem_cons.mpr ⟨lw_p39, List.forall_mem_cons.mpr ⟨lw_p40, List.forall_mem_cons.mpr ⟨lw_p41, List.forall_mem_cons.mpr ⟨lw_p42, List.forall_mem_cons.mpr ⟨lw_p43, List.forall_mem_cons.mpr ⟨lw_p44, List.forall_mem_cons.mpr ⟨lw_p45, List.forall_mem_cons.mpr ⟨lw_p46, List.forall_mem_cons.mpr ⟨lw_p47, fun _ h => absurd h List.not_mem_nil⟩⟩⟩⟩⟩⟩⟩⟩⟩⟩⟩⟩⟩⟩⟩⟩
theorem lw_p48 : lw_okq (⟨"QuotaLawsModel", "chainOf", "(I)I"⟩, 39) := ⟨⟨by decide +kernel, by decide +kernel⟩, List.mem_of_getElem? (i := 925) (by decide +kernel), List.mem_of_getElem? (i := 1153) (by decide +kernel), List.mem_of_getElem? (i := 1154) (by decide +kernel)⟩
theorem lw_p49 : lw_okq (⟨"QuotaLawsModel", "isOne", "(I)Z"⟩, 39) := ⟨⟨by decide +kernel, by decide +kernel⟩, List.mem_of_getElem? (i := 925) (by decide +kernel), List.mem_of_getElem? (i := 1161) (by decide +kernel), List.mem_of_getElem? (i := 1162) (by decide +kernel)⟩
theorem lw_p50 : lw_okq (⟨"QuotaLawsModel", "canBreak", "(II)Z"⟩, 39) := ⟨⟨by decide +kernel, by decide +kernel⟩, List.mem_of_getElem? (i := 925) (by decide +kernel), List.mem_of_getElem? (i := 1165) (by decide +kernel), List.mem_of_getElem? (i := 1166) (by decide +kernel)⟩
theorem lw_p51 : lw_okq (⟨"QuotaLawsModel", "roomOf", "(II)I"⟩, 39) := ⟨⟨by decide +kernel, by decide +kernel⟩, List.mem_of_getElem? (i := 925) (by decide +kernel), List.mem_of_getElem? (i := 1169) (by decide +kernel), List.mem_of_getElem? (i := 1170) (by decide +kernel)⟩
theorem lw_p52 : lw_okq (⟨"QuotaLawsModel", "timeLeft", "(I)I"⟩, 39) := ⟨⟨by decide +kernel, by decide +kernel⟩, List.mem_of_getElem? (i := 925) (by decide +kernel), List.mem_of_getElem? (i := 1173) (by decide +kernel), List.mem_of_getElem? (i := 1174) (by decide +kernel)⟩
theorem lw_p53 : lw_okq (⟨"QuotaLawsModel", "allBy", "(I)I"⟩, 39) := ⟨⟨by decide +kernel, by decide +kernel⟩, List.mem_of_getElem? (i := 925) (by decide +kernel), List.mem_of_getElem? (i := 1177) (by decide +kernel), List.mem_of_getElem? (i := 1178) (by decide +kernel)⟩
theorem lw_p54 : lw_okq (⟨"QuotaLawsModel", "becomes", "(II)I"⟩, 39) := ⟨⟨by decide +kernel, by decide +kernel⟩, List.mem_of_getElem? (i := 925) (by decide +kernel), List.mem_of_getElem? (i := 1193) (by decide +kernel), List.mem_of_getElem? (i := 1194) (by decide +kernel)⟩
theorem lw_p55 : lw_okq (⟨"QuotaLawsModel", "becomesBit", "(IIZ)I"⟩, 39) := ⟨⟨by decide +kernel, by decide +kernel⟩, List.mem_of_getElem? (i := 925) (by decide +kernel), List.mem_of_getElem? (i := 1205) (by decide +kernel), List.mem_of_getElem? (i := 1206) (by decide +kernel)⟩
theorem lw_p56 : lw_okq (⟨"QuotaLawsModel", "fallsNow", "()I"⟩, 39) := ⟨⟨by decide +kernel, by decide +kernel⟩, List.mem_of_getElem? (i := 925) (by decide +kernel), List.mem_of_getElem? (i := 1242) (by decide +kernel), List.mem_of_getElem? (i := 1243) (by decide +kernel)⟩
theorem lw_p57 : lw_okq (⟨"QuotaLawsModel", "startsRota", "(I)V"⟩, 39) := ⟨⟨by decide +kernel, by decide +kernel⟩, List.mem_of_getElem? (i := 925) (by decide +kernel), List.mem_of_getElem? (i := 1258) (by decide +kernel), List.mem_of_getElem? (i := 1259) (by decide +kernel)⟩
theorem lw_p58 : lw_okq (⟨"QuotaLawsModel", "findRota", "()I"⟩, 39) := ⟨⟨by decide +kernel, by decide +kernel⟩, List.mem_of_getElem? (i := 925) (by decide +kernel), List.mem_of_getElem? (i := 1262) (by decide +kernel), List.mem_of_getElem? (i := 1263) (by decide +kernel)⟩
theorem lw_p59 : lw_okq (⟨"QuotaLawsModel", "leastOf", "(IIII)I"⟩, 39) := ⟨⟨by decide +kernel, by decide +kernel⟩, List.mem_of_getElem? (i := 925) (by decide +kernel), List.mem_of_getElem? (i := 1269) (by decide +kernel), List.mem_of_getElem? (i := 1270) (by decide +kernel)⟩
theorem lw_p60 : lw_okq (⟨"QuotaLawsModel", "harmBy", "(IIIIIII)I"⟩, 39) := ⟨⟨by decide +kernel, by decide +kernel⟩, List.mem_of_getElem? (i := 925) (by decide +kernel), List.mem_of_getElem? (i := 1275) (by decide +kernel), List.mem_of_getElem? (i := 1276) (by decide +kernel)⟩
theorem lw_p61 : lw_okq (⟨"QuotaLawsModel", "roomAt", "(II)I"⟩, 39) := ⟨⟨by decide +kernel, by decide +kernel⟩, List.mem_of_getElem? (i := 925) (by decide +kernel), List.mem_of_getElem? (i := 1279) (by decide +kernel), List.mem_of_getElem? (i := 1280) (by decide +kernel)⟩
theorem lw_p62 : lw_okq (⟨"QuotaLawsModel", "sharesOf", "(IIII)V"⟩, 39) := ⟨⟨by decide +kernel, by decide +kernel⟩, List.mem_of_getElem? (i := 925) (by decide +kernel), List.mem_of_getElem? (i := 1283) (by decide +kernel), List.mem_of_getElem? (i := 1284) (by decide +kernel)⟩
theorem lw_p63 : lw_okq (⟨"QuotaLawsModel", "triesOf", "(II)I"⟩, 39) := ⟨⟨by decide +kernel, by decide +kernel⟩, List.mem_of_getElem? (i := 925) (by decide +kernel), List.mem_of_getElem? (i := 1299) (by decide +kernel), List.mem_of_getElem? (i := 1300) (by decide +kernel)⟩
def lw_privs_4 : List (MethodName × Nat) := [(⟨"QuotaLawsModel", "chainOf", "(I)I"⟩, 39), (⟨"QuotaLawsModel", "isOne", "(I)Z"⟩, 39), (⟨"QuotaLawsModel", "canBreak", "(II)Z"⟩, 39), (⟨"QuotaLawsModel", "roomOf", "(II)I"⟩, 39), (⟨"QuotaLawsModel", "timeLeft", "(I)I"⟩, 39), (⟨"QuotaLawsModel", "allBy", "(I)I"⟩, 39), (⟨"QuotaLawsModel", "becomes", "(II)I"⟩, 39), (⟨"QuotaLawsModel", "becomesBit", "(IIZ)I"⟩, 39), (⟨"QuotaLawsModel", "fallsNow", "()I"⟩, 39), (⟨"QuotaLawsModel", "startsRota", "(I)V"⟩, 39), (⟨"QuotaLawsModel", "findRota", "()I"⟩, 39), (⟨"QuotaLawsModel", "leastOf", "(IIII)I"⟩, 39), (⟨"QuotaLawsModel", "harmBy", "(IIIIIII)I"⟩, 39), (⟨"QuotaLawsModel", "roomAt", "(II)I"⟩, 39), (⟨"QuotaLawsModel", "sharesOf", "(IIII)V"⟩, 39), (⟨"QuotaLawsModel", "triesOf", "(II)I"⟩, 39)]
theorem lw_r4 : ∀ q ∈ lw_privs_4, lw_okq q := List.forall_mem_cons.mpr ⟨lw_p48, List.forall_mem_cons.mpr ⟨lw_p49, List.forall_mem_cons.mpr ⟨lw_p50, List.forall_mem_cons.mpr ⟨lw_p51, List.forall_mem_cons.mpr ⟨lw_p52, List.forall_mem_cons.mpr ⟨lw_p53, List.forall_mem_cons.mpr ⟨lw_p54, List.forall_mem_cons.mpr ⟨lw_p55, List.forall_mem_cons.mpr ⟨lw_p56, List.forall_mem_cons.mpr ⟨lw_p57, List.forall_mem_cons.mpr ⟨lw_p58, List.forall_mem_cons.mpr ⟨lw_p59, List.forall_mem_cons.mpr ⟨lw_p60, List.forall_mem_cons.mpr ⟨lw_p61, List.forall_mem_cons.mpr ⟨lw_p62, List.forall_mem_cons.mpr ⟨lw_p63, fun _ h => absurd h List.not_mem_nil⟩⟩⟩⟩⟩⟩⟩⟩⟩⟩⟩⟩⟩⟩⟩⟩
theorem lw_p64 : lw_okq (⟨"QuotaLawsModel", "saves", "()V"⟩, 39) := ⟨⟨by decide +kernel, by decide +kernel⟩, List.mem_of_getElem? (i := 925) (by decide +kernel), List.mem_of_getElem? (i := 1308) (by decide +kernel), List.mem_of_getElem? (i := 1309) (by decide +kernel)⟩
theorem lw_p65 : lw_okq (⟨"QuotaLawsModel", "wantedBy", "(I)I"⟩, 39) := ⟨⟨by decide +kernel, by decide +kernel⟩, List.mem_of_getElem? (i := 925) (by decide +kernel), List.mem_of_getElem? (i := 1312) (by decide +kernel), List.mem_of_getElem? (i := 1313) (by decide +kernel)⟩
theorem lw_p66 : lw_okq (⟨"QuotaLawsModel", "returns", "()V"⟩, 39) := ⟨⟨by decide +kernel, by decide +kernel⟩, List.mem_of_getElem? (i := 925) (by decide +kernel), List.mem_of_getElem? (i := 1316) (by decide +kernel), List.mem_of_getElem? (i := 1317) (by decide +kernel)⟩
theorem lw_p67 : lw_okq (⟨"QuotaLawsModel", "tablesBy", "(III)J"⟩, 39) := ⟨⟨by decide +kernel, by decide +kernel⟩, List.mem_of_getElem? (i := 925) (by decide +kernel), List.mem_of_getElem? (i := 1342) (by decide +kernel), List.mem_of_getElem? (i := 1343) (by decide +kernel)⟩
theorem lw_p68 : lw_okq (⟨"QuotaLawsModel", "addsLaw", "(IIII)V"⟩, 39) := ⟨⟨by decide +kernel, by decide +kernel⟩, List.mem_of_getElem? (i := 925) (by decide +kernel), List.mem_of_getElem? (i := 1346) (by decide +kernel), List.mem_of_getElem? (i := 1347) (by decide +kernel)⟩
theorem lw_p69 : lw_okq (⟨"QuotaLawsModel", "mostOf", "(II)I"⟩, 39) := ⟨⟨by decide +kernel, by decide +kernel⟩, List.mem_of_getElem? (i := 925) (by decide +kernel), List.mem_of_getElem? (i := 1350) (by decide +kernel), List.mem_of_getElem? (i := 1351) (by decide +kernel)⟩
theorem lw_p70 : lw_okq (⟨"QuotaLawsModel", "isSo", "(III)Z"⟩, 39) := ⟨⟨by decide +kernel, by decide +kernel⟩, List.mem_of_getElem? (i := 925) (by decide +kernel), List.mem_of_getElem? (i := 1354) (by decide +kernel), List.mem_of_getElem? (i := 1355) (by decide +kernel)⟩
theorem lw_p71 : lw_okq (⟨"QuotaLawsModel", "isAsked", "(IIIIII)Z"⟩, 39) := ⟨⟨by decide +kernel, by decide +kernel⟩, List.mem_of_getElem? (i := 925) (by decide +kernel), List.mem_of_getElem? (i := 1358) (by decide +kernel), List.mem_of_getElem? (i := 1359) (by decide +kernel)⟩
theorem lw_p72 : lw_okq (⟨"QuotaLawsModel", "addsTables", "(III)V"⟩, 39) := ⟨⟨by decide +kernel, by decide +kernel⟩, List.mem_of_getElem? (i := 925) (by decide +kernel), List.mem_of_getElem? (i := 1362) (by decide +kernel), List.mem_of_getElem? (i := 1363) (by decide +kernel)⟩
theorem lw_p73 : lw_okq (⟨"QuotaLawsModel", "isTime", "(II)Z"⟩, 39) := ⟨⟨by decide +kernel, by decide +kernel⟩, List.mem_of_getElem? (i := 925) (by decide +kernel), List.mem_of_getElem? (i := 1366) (by decide +kernel), List.mem_of_getElem? (i := 1367) (by decide +kernel)⟩
theorem lw_p74 : lw_okq (⟨"QuotaLawsModel", "copies", "(II)V"⟩, 39) := ⟨⟨by decide +kernel, by decide +kernel⟩, List.mem_of_getElem? (i := 925) (by decide +kernel), List.mem_of_getElem? (i := 1385) (by decide +kernel), List.mem_of_getElem? (i := 1386) (by decide +kernel)⟩
def lw_privs_5 : List (MethodName × Nat) := [(⟨"QuotaLawsModel", "saves", "()V"⟩, 39), (⟨"QuotaLawsModel", "wantedBy", "(I)I"⟩, 39), (⟨"QuotaLawsModel", "returns", "()V"⟩, 39), (⟨"QuotaLawsModel", "tablesBy", "(III)J"⟩, 39), (⟨"QuotaLawsModel", "addsLaw", "(IIII)V"⟩, 39), (⟨"QuotaLawsModel", "mostOf", "(II)I"⟩, 39), (⟨"QuotaLawsModel", "isSo", "(III)Z"⟩, 39), (⟨"QuotaLawsModel", "isAsked", "(IIIIII)Z"⟩, 39), (⟨"QuotaLawsModel", "addsTables", "(III)V"⟩, 39), (⟨"QuotaLawsModel", "isTime", "(II)Z"⟩, 39), (⟨"QuotaLawsModel", "copies", "(II)V"⟩, 39)]
theorem lw_r5 : ∀ q ∈ lw_privs_5, lw_okq q := List.forall_mem_cons.mpr ⟨lw_p64, List.forall_mem_cons.mpr ⟨lw_p65, List.forall_mem_cons.mpr ⟨lw_p66, List.forall_mem_cons.mpr ⟨lw_p67, List.forall_mem_cons.mpr ⟨lw_p68, List.forall_mem_cons.mpr ⟨lw_p69, List.forall_mem_cons.mpr ⟨lw_p70, List.forall_mem_cons.mpr ⟨lw_p71, List.forall_mem_cons.mpr ⟨lw_p72, List.forall_mem_cons.mpr ⟨lw_p73, List.forall_mem_cons.mpr ⟨lw_p74, fun _ h => absurd h List.not_mem_nil⟩⟩⟩⟩⟩⟩⟩⟩⟩⟩⟩
def lw_privs : List (MethodName × Nat) := lw_privs_1 ++ (lw_privs_2 ++ (lw_privs_3 ++ (lw_privs_4 ++ (lw_privs_5))))
def lw_tbl : List Cond := k2_sels lw_privs ++ tables_1
theorem lw_privs_ok : ∀ q ∈ lw_privs, lw_okq q := by
  show ∀ q ∈ lw_privs_1 ++ (lw_privs_2 ++ (lw_privs_3 ++ (lw_privs_4 ++ (lw_privs_5)))), lw_okq q
  exact List.forall_mem_append.mpr ⟨lw_r1, List.forall_mem_append.mpr ⟨lw_r2, List.forall_mem_append.mpr ⟨lw_r3, List.forall_mem_append.mpr ⟨lw_r4, lw_r5⟩⟩⟩⟩
end
section
/-! names: printed by wip/gen/gen_names.py -/
def T_Q : u_T := fun k => match k with
  | 0 => ("QuotaLaws", "reader", "LQuotaLaws$Reader;", true)
  | 1 => ("QuotaLaws", "now", "LQuotaLaws$Realm;", true)
  | 2 => ("QuotaLaws", "trial", "LQuotaLaws$Realm;", true)
  | 3 => ("QuotaLaws", "images", "[LQuotaLaws$Realm;", true)
  | 4 => ("QuotaLaws", "kept", "[Z", true)
  | 5 => ("QuotaLaws", "sheets", "[LQuotaLaws$Sheet;", true)
  | 6 => ("QuotaLaws", "planner", "LQuotaLaws$Planner;", true)
  | 7 => ("QuotaLaws", "tables", "LQuotaLaws$Tables;", true)
  | 8 => ("QuotaLaws", "odds", "LQuotaLaws$Odds;", true)
  | _ => ("QuotaLaws", "tornFault", "I", false)
def ty_Q : Nat → FieldType := fun k => match k with
  | 0 => .object "QuotaLaws$Reader"
  | 1 => .object "QuotaLaws$Realm"
  | 2 => .object "QuotaLaws$Realm"
  | 3 => .array (.object "QuotaLaws$Realm")
  | 4 => .array .boolean
  | 5 => .array (.object "QuotaLaws$Sheet")
  | 6 => .object "QuotaLaws$Planner"
  | 7 => .object "QuotaLaws$Tables"
  | 8 => .object "QuotaLaws$Odds"
  | _ => .int
def T_Odds : u_T := fun k => match k with
  | 0 => ("QuotaLaws$Odds", "over", "J", false)
  | 1 => ("QuotaLaws$Odds", "under", "J", false)
  | _ => ("QuotaLaws$Odds", "weights", "[J", true)
def ty_Odds : Nat → FieldType := fun k => match k with
  | 0 => .long
  | 1 => .long
  | _ => .array .long
def T_Planner : u_T := fun k => match k with
  | 0 => ("QuotaLaws$Planner", "laws", "I", false)
  | 1 => ("QuotaLaws$Planner", "left", "[I", true)
  | 2 => ("QuotaLaws$Planner", "need", "[I", true)
  | 3 => ("QuotaLaws$Planner", "needAhead", "[I", true)
  | 4 => ("QuotaLaws$Planner", "room", "[I", true)
  | 5 => ("QuotaLaws$Planner", "harm", "[I", true)
  | 6 => ("QuotaLaws$Planner", "first", "[I", true)
  | _ => ("QuotaLaws$Planner", "best", "[I", true)
def ty_Planner : Nat → FieldType := fun k => match k with
  | 0 => .int
  | 1 => .array .int
  | 2 => .array .int
  | 3 => .array .int
  | 4 => .array .int
  | 5 => .array .int
  | 6 => .array .int
  | _ => .array .int
def T_Reader : u_T := fun k => match k with
  | 0 => ("QuotaLaws$Reader", "tape", "[B", true)
  | 1 => ("QuotaLaws$Reader", "length", "I", false)
  | 2 => ("QuotaLaws$Reader", "fault", "I", false)
  | 3 => ("QuotaLaws$Reader", "faultPlace", "I", false)
  | 4 => ("QuotaLaws$Reader", "lines", "I", false)
  | 5 => ("QuotaLaws$Reader", "place", "I", false)
  | 6 => ("QuotaLaws$Reader", "kind", "I", false)
  | 7 => ("QuotaLaws$Reader", "start", "I", false)
  | _ => ("QuotaLaws$Reader", "value", "I", false)
def ty_Reader : Nat → FieldType := fun k => match k with
  | 0 => .array .byte
  | 1 => .int
  | 2 => .int
  | 3 => .int
  | 4 => .int
  | 5 => .int
  | 6 => .int
  | 7 => .int
  | _ => .int
def T_Realm : u_T := fun k => match k with
  | 0 => ("QuotaLaws$Realm", "laws", "I", false)
  | 1 => ("QuotaLaws$Realm", "people", "I", false)
  | 2 => ("QuotaLaws$Realm", "year", "I", false)
  | 3 => ("QuotaLaws$Realm", "done", "I", false)
  | 4 => ("QuotaLaws$Realm", "stands", "I", false)
  | 5 => ("QuotaLaws$Realm", "watched", "I", false)
  | 6 => ("QuotaLaws$Realm", "quota", "[I", true)
  | 7 => ("QuotaLaws$Realm", "cap", "[I", true)
  | 8 => ("QuotaLaws$Realm", "harm", "[I", true)
  | 9 => ("QuotaLaws$Realm", "fine", "[I", true)
  | 10 => ("QuotaLaws$Realm", "carries", "[I", true)
  | 11 => ("QuotaLaws$Realm", "time", "[I", true)
  | 12 => ("QuotaLaws$Realm", "clumsy", "[I", true)
  | 13 => ("QuotaLaws$Realm", "nerve", "[I", true)
  | 14 => ("QuotaLaws$Realm", "purse", "[I", true)
  | 15 => ("QuotaLaws$Realm", "refused", "[I", true)
  | 16 => ("QuotaLaws$Realm", "wanted", "[I", true)
  | 17 => ("QuotaLaws$Realm", "breakings", "[I", true)
  | _ => ("QuotaLaws$Realm", "seen", "LQuotaLaws$Sightings;", true)
def ty_Realm : Nat → FieldType := fun k => match k with
  | 0 => .int
  | 1 => .int
  | 2 => .int
  | 3 => .int
  | 4 => .int
  | 5 => .int
  | 6 => .array .int
  | 7 => .array .int
  | 8 => .array .int
  | 9 => .array .int
  | 10 => .array .int
  | 11 => .array .int
  | 12 => .array .int
  | 13 => .array .int
  | 14 => .array .int
  | 15 => .array .int
  | 16 => .array .int
  | 17 => .array .int
  | _ => .object "QuotaLaws$Sightings"
def T_Sheet : u_T := fun k => match k with
  | 0 => ("QuotaLaws$Sheet", "size", "I", false)
  | 1 => ("QuotaLaws$Sheet", "lane", "I", false)
  | _ => ("QuotaLaws$Sheet", "cells", "[I", true)
def ty_Sheet : Nat → FieldType := fun k => match k with
  | 0 => .int
  | 1 => .int
  | _ => .array .int
def T_Sightings : u_T := fun k => match k with
  | 0 => ("QuotaLaws$Sightings", "size", "I", false)
  | 1 => ("QuotaLaws$Sightings", "kinds", "[I", true)
  | 2 => ("QuotaLaws$Sightings", "whose", "[I", true)
  | _ => ("QuotaLaws$Sightings", "times", "[I", true)
def ty_Sightings : Nat → FieldType := fun k => match k with
  | 0 => .int
  | 1 => .array .int
  | 2 => .array .int
  | _ => .array .int
def T_Tables : u_T := fun k => match k with
  | 0 => ("QuotaLaws$Tables", "laws", "I", false)
  | 1 => ("QuotaLaws$Tables", "low", "[I", true)
  | 2 => ("QuotaLaws$Tables", "high", "[I", true)
  | 3 => ("QuotaLaws$Tables", "lawDue", "[I", true)
  | 4 => ("QuotaLaws$Tables", "oneDue", "[I", true)
  | 5 => ("QuotaLaws$Tables", "time", "[I", true)
  | 6 => ("QuotaLaws$Tables", "alone", "[J", true)
  | _ => ("QuotaLaws$Tables", "ways", "[J", true)
def ty_Tables : Nat → FieldType := fun k => match k with
  | 0 => .int
  | 1 => .array .int
  | 2 => .array .int
  | 3 => .array .int
  | 4 => .array .int
  | 5 => .array .int
  | 6 => .array .long
  | _ => .array .long
def T_M : u_T := fun k => match k with
  | 0 => ("QuotaLawsModel", "st", "[I", true)
  | 1 => ("QuotaLawsModel", "isKept", "[Z", true)
  | 2 => ("QuotaLawsModel", "laws", "I", false)
  | 3 => ("QuotaLawsModel", "people", "I", false)
  | 4 => ("QuotaLawsModel", "cap", "[I", true)
  | 5 => ("QuotaLawsModel", "harm", "[I", true)
  | 6 => ("QuotaLawsModel", "fine", "[I", true)
  | 7 => ("QuotaLawsModel", "clumsy", "[I", true)
  | 8 => ("QuotaLawsModel", "nerve", "[I", true)
  | 9 => ("QuotaLawsModel", "draft", "[I", true)
  | 10 => ("QuotaLawsModel", "dLaws", "I", false)
  | 11 => ("QuotaLawsModel", "dPeople", "I", false)
  | 12 => ("QuotaLawsModel", "dCap", "[I", true)
  | 13 => ("QuotaLawsModel", "dHarm", "[I", true)
  | 14 => ("QuotaLawsModel", "dFine", "[I", true)
  | 15 => ("QuotaLawsModel", "dClumsy", "[I", true)
  | 16 => ("QuotaLawsModel", "dNerve", "[I", true)
  | 17 => ("QuotaLawsModel", "highestLaw", "I", false)
  | 18 => ("QuotaLawsModel", "highestOne", "I", false)
  | 19 => ("QuotaLawsModel", "tape", "[I", true)
  | 20 => ("QuotaLawsModel", "taped", "I", false)
  | 21 => ("QuotaLawsModel", "pos", "I", false)
  | 22 => ("QuotaLawsModel", "from", "I", false)
  | 23 => ("QuotaLawsModel", "sort", "I", false)
  | 24 => ("QuotaLawsModel", "value", "I", false)
  | 25 => ("QuotaLawsModel", "fault", "I", false)
  | 26 => ("QuotaLawsModel", "wrongAt", "I", false)
  | 27 => ("QuotaLawsModel", "least", "[I", true)
  | 28 => ("QuotaLawsModel", "needs", "[I", true)
  | 29 => ("QuotaLawsModel", "lefts", "[I", true)
  | 30 => ("QuotaLawsModel", "shares", "[I", true)
  | 31 => ("QuotaLawsModel", "saved", "[I", true)
  | 32 => ("QuotaLawsModel", "ways", "[J", true)
  | 33 => ("QuotaLawsModel", "tables", "[J", true)
  | 34 => ("QuotaLawsModel", "then", "[J", true)
  | 35 => ("QuotaLawsModel", "lanes", "[I", true)
  | 36 => ("QuotaLawsModel", "sizes", "[I", true)
  | 37 => ("QuotaLawsModel", "cells", "[I", true)
  | _ => ("QuotaLawsModel", "torn", "I", false)
def ty_M : Nat → FieldType := fun k => match k with
  | 0 => .array .int
  | 1 => .array .boolean
  | 2 => .int
  | 3 => .int
  | 4 => .array .int
  | 5 => .array .int
  | 6 => .array .int
  | 7 => .array .int
  | 8 => .array .int
  | 9 => .array .int
  | 10 => .int
  | 11 => .int
  | 12 => .array .int
  | 13 => .array .int
  | 14 => .array .int
  | 15 => .array .int
  | 16 => .array .int
  | 17 => .int
  | 18 => .int
  | 19 => .array .int
  | 20 => .int
  | 21 => .int
  | 22 => .int
  | 23 => .int
  | 24 => .int
  | 25 => .int
  | 26 => .int
  | 27 => .array .int
  | 28 => .array .int
  | 29 => .array .int
  | 30 => .array .int
  | 31 => .array .int
  | 32 => .array .long
  | 33 => .array .long
  | 34 => .array .long
  | 35 => .array .int
  | 36 => .array .int
  | 37 => .array .int
  | _ => .int
def mcls : List vw_C := [("QuotaLaws", T_Q, 10), ("QuotaLaws$Odds", T_Odds, 3), ("QuotaLaws$Planner", T_Planner, 8), ("QuotaLaws$Reader", T_Reader, 9), ("QuotaLaws$Realm", T_Realm, 19), ("QuotaLaws$Sheet", T_Sheet, 3), ("QuotaLaws$Sightings", T_Sightings, 4), ("QuotaLaws$Tables", T_Tables, 8), ("QuotaLawsModel", T_M, 39)]
def mtys (dA : Nat → ClassId) : List (ClassId × FieldType) := [(dA 0, .int), (dA 1, .byte), (dA 2, .boolean), (dA 3, .long), (dA 4, .object "QuotaLaws$Realm"), (dA 5, .object "QuotaLaws$Sheet")]
def strK : List (String × Nat × String) := [("QuotaLaws$Reader", 54, "law"), ("QuotaLaws$Reader", 67, "one"), ("QuotaLaws$Reader", 75, "want"), ("QuotaLaws$Reader", 80, "watch")]
def strL : List Nat := [3, 3, 4, 5]
def strB : List (List Int32) := [[108, 97, 119], [111, 110, 101], [119, 97, 110, 116], [119, 97, 116, 99, 104]]
end
section
/-! THE MODEL: cells by their places; a place k lies at the address 'ad k'. G: from this state of the model the method comes to its end. -/
abbrev mCell : Type := (Nat × vp_A) ⊕ (Nat × List Value)
/-- next free place, slots made so far, the cells -/
abbrev mH : Type := Nat × Nat × (Nat → mCell)
def cv (ad : Nat → Nat) : Value → Value
  | .ref k => .ref (ad k)
  | v => v
def cq (ad : Nat → Nat) (q : Nat × Value) : Nat × Value := (q.1, cv ad q.2)
def cA (ad : Nat → Nat) : vp_A → vp_A
  | (n, .inr (.inr (.inr (.inr f)))) => (n, .inr (.inr (.inr (.inr (fun j => (f j).map ad)))))
  | a => a
def cE (dA : Nat → ClassId) (ad : Nat → Nat) : mCell → va_E
  | .inl (t, a) => .inl (dA t, cA ad a)
  | .inr (c, fs) => .inr (c, fs.map (cv ad))
def dead : mCell := .inr (0, [])
def wl (dA : Nat → ClassId) (ad : Nat → Nat) (h : mH) : va_W := (List.range h.1).map (fun k => (ad k, cE dA ad (h.2.2 k)))
def mset (h : mH) (o : Nat) (c : mCell) : mH := (h.1, h.2.1, va_up h.2.2 o c)
theorem cv_cat (ad : Nat → Nat) (v : Value) : (cv ad v).category = v.category := by cases v <;> rfl
theorem wl_at {dA : Nat → ClassId} {ad : Nat → Nat} {h : mH} {o : Nat} (ho : o < h.1) : (wl dA ad h)[o]? = some (ad o, cE dA ad (h.2.2 o)) := by
  simp [wl, ho]
theorem wl_set {dA : Nat → ClassId} {ad : Nat → Nat} {h : mH} {o : Nat} {c : mCell} : (wl dA ad h).set o (ad o, cE dA ad c) = wl dA ad (mset h o c) := by
  apply List.ext_getElem?
  intro k
  by_cases hk : k < h.1
  · by_cases he : o = k
    · subst he
      simp [wl, mset, va_up, hk]
    · simp [wl, mset, va_up, hk, he, Ne.symm he]

  · rw [List.getElem?_eq_none (by simp [wl]; omega), List.getElem?_eq_none (by simp [wl, mset]; omega)]
theorem wl_of {dA : Nat → ClassId} {ad ad' : Nat → Nat} {h : mH} (hs : ∀ k, k < h.1 → (ad k, cE dA ad (h.2.2 k)) = (ad' k, cE dA ad' (h.2.2 k))) : wl dA ad h = wl dA ad' h := by
  unfold wl
  exact List.map_congr_left (fun k hk => hs k (List.mem_range.mp hk))
/-- words -/
def tbg : List Cond := lw_tbl.filter goodWord
theorem tbg_in {w : Cond} (i : Nat) (h : lw_tbl[i]? = some w) (hg : goodWord w = true) : w ∈ tbg := List.mem_filter.mpr ⟨List.mem_of_getElem? h, hg⟩
theorem tbg_good {big : List Cond} (hb : ∀ w ∈ tbg, w ∈ big) : GoodIn big tbg := fun w h => ⟨hb w h, good_of_word (List.mem_filter.mp h).2⟩
def isNest : Cond → Bool
  | .methodLinkNest .. => true
  | .fieldLinkNest .. => true
  | _ => false
def nests : List Cond := lw_tbl.filter isNest
theorem nests_in {w : Cond} (i : Nat) (h : lw_tbl[i]? = some w) (hg : isNest w = true) : w ∈ nests := List.mem_filter.mpr ⟨List.mem_of_getElem? h, hg⟩
theorem nest_warm {w : Cond} (hw : isNest w = true) {s U : State} (hW : s.WarmedH U.vm) (h : va_Nw w s) : va_Nw w U := by
  cases w <;> first | exact va_Nw.warmM hW h | exact va_Nw.warmF hW h | exact absurd hw (by simp [isNest])
theorem nest_on {w : Cond} (hw : isNest w = true) : w.onTables = true := by
  cases w <;> first | rfl | exact absurd hw (by simp [isNest])
end
section
/-- what lies outside the model's cells: nest mates' links, the String constants (places 1000 ..; their bytes 1100 ..), two statics -/
def EX (ad : Nat → Nat) (A : Nat → Prop) (U : State) : Prop :=
  (∀ w ∈ nests, va_Nw w U) ∧ (∀ (i : Nat) (q : String × Nat × String), strK[i]? = some q → vk_R q.1 q.2.1 q.2.2 (ad (1000 + i)) U) ∧ vk_S strK.length strL strB (fun i => ad (1000 + i)) (fun i => ad (1100 + i)) A U U.heap ∧ va_Z "java/lang/String" "COMPACT_STRINGS" "Z" (.int 1) A U U.heap ∧ va_Zq "jdk/internal/util/Preconditions" "SIOOBE_FORMATTER" "Ljava/util/function/BiFunction;" A U U.heap
theorem EX.go {ad ad' : Nat → Nat} {A A' : Nat → Prop} {s U : State} {H0 : Heap} {locs : List Loc} (h : EX ad A s) (hW : s.WarmedH U.vm) (hS : va_S A s.heap H0 locs) (hU : U.heap = H0) (hA : ∀ q, A' q → A q) (hd : ∀ k, 1000 ≤ k → ad' k = ad k) : EX ad' A' U := by
  obtain ⟨h1, h2, h3, h4, h5⟩ := h
  have hal := hW.alike
  have e1 : (fun i => ad' (1000 + i)) = (fun i => ad (1000 + i)) := funext fun i => hd _ (by omega)
  have e2 : (fun i => ad' (1100 + i)) = (fun i => ad (1100 + i)) := funext fun i => hd _ (by omega)
  subst hU
  refine ⟨fun w hw => nest_warm (List.mem_filter.mp hw).2 hW (h1 w hw), fun i q hq => ?_, ?_, ?_, ?_⟩
  · rw [hd _ (by omega)]
    exact (h2 i q hq).warm hW
  · rw [e1, e2]
    exact ((h3.kept hS.2.1).moved hal).narrow hA
  · exact ((h4.kept hS.2.1).moved hal).narrow hA
  · exact ((h5.kept hS.2.1).moved hal).narrow hA
theorem EX.blind {ad : Nat → Nat} {A : Nat → Prop} {U : State} {g : JFrame} {mk : MethodId} {a : Array Value} (h : EX ad A U) : EX ad A (U.calling g mk a) := by
  obtain ⟨h1, h2, h3, h4, h5⟩ := h
  have hal : U.vm.Alike (U.calling g mk a).vm := Vm.Alike.refl U.vm
  exact ⟨fun w hw => va_Nw.same (u := U) (U := U.calling g mk a) (nest_on (List.mem_filter.mp hw).2) rfl (h1 w hw), fun i q hq => vk_R.same (u := U) (U := U.calling g mk a) rfl (h2 i q hq), h3.moved hal, h4.moved hal, h5.moved hal⟩
/-- the machine's side of a method's body -/
def Cx (y : MethodName) (cc : ByteArray) (mL : Nat) (ret : Option FieldType) (dC : Nat → ClassId) (dI : Nat → Nat → Nat) (dA : Nat → ClassId) (ad0 : Nat → Nat) (A : Nat → Prop) (p : Program) (s : State) (m : MethodId) (args : Array Value) (meth : Method) (c : Code) : Prop :=
  p.tables.exec = Jvm.exec ∧ c.code = cc ∧ meth.sig.returnType = ret ∧ c.maxLocals = mL ∧ meth.locks = false ∧ s.vm.findClass y.cls = some m.cls ∧ meth.name = y.name ∧ (∀ w ∈ tbg, w.before args s = true) ∧ va_K (dC, dI) mcls (mtys dA) s ∧ EX ad0 A s ∧ (∀ q, s.heap.size ≤ q → A q)
/-- the model's state beside the machine's -/
def Sr (mL : Nat) (dC : Nat → ClassId) (dI : Nat → Nat → Nat) (dA : Nat → ClassId) (ad0 : Nat → Nat) (n0 s0 : Nat) (A : Nat → Prop) (s : State) (h : mH) (lv : List (Nat × Value)) (ad : Nat → Nat) (H : Heap) (locs : List Loc) (ls : Array Slot) : Prop :=
  va_P (dC, dI) mcls (wl dA ad h) H ∧ va_D A (wl dA ad h) ∧ va_S A s.heap H locs ∧ lv_has ls mL (lv.map (cq ad)) ∧ (∀ k, k < n0 ∨ 1000 ≤ k → ad k = ad0 k) ∧ n0 ≤ h.1 ∧ s0 ≤ h.2.1 ∧ h.1 ≤ 1000 ∧ (∀ k, h.1 ≤ k → h.2.2 k = dead)
def Qk (dC : Nat → ClassId) (dI : Nat → Nat → Nat) (dA : Nat → ClassId) (ad0 : Nat → Nat) (n0 : Nat) (A : Nat → Prop) (s : State) (args : Array Value) (r : Option Value) (h' : mH) (Qc : Array Value → State → Outcome → State → Prop) : Prop :=
  ∀ (ad : Nat → Nat) (H : Heap) (locs : List Loc) (t : State), va_P (dC, dI) mcls (wl dA ad h') H → va_D A (wl dA ad h') → va_S A s.heap H locs → (∀ k, k < n0 ∨ 1000 ≤ k → ad k = ad0 k) → h'.1 ≤ 1000 → (∀ k, h'.1 ≤ k → h'.2.2 k = dead) → t.heap = H → s.WarmedH t.vm → Qc args s (.returned (r.map (cv ad))) t
/-- from this state of the model the method comes to its end: with r, and the cells h' -/
def G (y : MethodName) (cc : ByteArray) (mL : Nat) (ret : Option FieldType) (fr lo : Nat) (pc : Nat) (lv : List (Nat × Value)) (stk : List Value) (h : mH) (r : Option Value) (h' : mH) : Prop :=
  h.1 ≤ h'.1 ∧ h.2.1 ≤ h'.2.1 ∧ ∀ (l : Launch) (p : Program) (e : Env) (R : Room) (s : State) (m : MethodId) (args : Array Value) (below : List Frame) (meth : Method) (c : Code) (dC : Nat → ClassId) (dI : Nat → Nat → Nat) (dA : Nat → ClassId) (ad0 : Nat → Nat) (n0 s0 : Nat) (A : Nat → Prop) (Qc : Array Value → State → Outcome → State → Prop),
    Cx y cc mL ret dC dI dA ad0 A p s m args meth c → Qk dC dI dA ad0 n0 A s args r h' Qc → fr ≤ R.frames → lo ≤ R.locals → h'.1 - n0 ≤ R.cells → h'.2.1 - s0 ≤ R.slots →
    ∀ (ad : Nat → Nat) (H : Heap) (locs : List Loc) (ls : Array Slot), Sr mL dC dI dA ad0 n0 s0 A s h lv ad H locs ls →
      W p l e R s m args below meth c H locs (h.1 - n0) (h.2.1 - s0) (MQ below Qc args s (h'.1 - n0) (h'.2.1 - s0) A) (F0 m pc ls (stk.map (cv ad)))
section
variable {y : MethodName} {cc : ByteArray} {mL : Nat} {ret : Option FieldType} {fr lo pc : Nat} {lv : List (Nat × Value)} {stk : List Value} {h h' : mH} {r : Option Value}
/-- a row that touches neither cells nor locals -/
theorem g_pure {pc2 : Nat} {stk2 : List Value} (f : ∀ {p : Program} {l : Launch} {e : Env} {R : Room} {s : State} {m : MethodId} {args : Array Value} {below : List Frame} {meth : Method} {c : Code} {H : Heap} {locs : List Loc} {cells slots : Nat} {Q : State → Prop} {ls : Array Slot} {ad : Nat → Nat}, p.tables.exec = Jvm.exec → c.code = cc → s.vm.findClass y.cls = some m.cls → (∀ w ∈ tbg, w.before args s = true) → lv_has ls mL (lv.map (cq ad)) → W p l e R s m args below meth c H locs cells slots Q (F0 m pc2 ls (stk2.map (cv ad))) → W p l e R s m args below meth c H locs cells slots Q (F0 m pc ls (stk.map (cv ad))))
    (k : G y cc mL ret fr lo pc2 lv stk2 h r h') : G y cc mL ret fr lo pc lv stk h r h' :=
  ⟨k.1, k.2.1, fun l p e R s m args below meth c dC dI dA ad0 n0 s0 A Qc C q f1 f2 f3 f4 ad H locs ls S => f C.1 C.2.1 C.2.2.2.2.2.1 C.2.2.2.2.2.2.2.1 S.2.2.2.1 (k.2.2 l p e R s m args below meth c dC dI dA ad0 n0 s0 A Qc C q f1 f2 f3 f4 ad H locs ls S)⟩
theorem g_iconst {n : Int} (v : Int32) (hd : decode cc pc = .ok (.iconst n, 1)) (hv : Int32.ofInt n = v) (k : G y cc mL ret fr lo (pc + 1) lv (.int v :: stk) h r h') : G y cc mL ret fr lo pc lv stk h r h' :=
  g_pure (fun hx hb _ _ _ k => lv_iconst hx hb hd hv k) k
theorem g_iadd {a b : Int32} (hd : decode cc pc = .ok (.iadd, 1)) (k : G y cc mL ret fr lo (pc + 1) lv (.int (a + b) :: stk) h r h') : G y cc mL ret fr lo pc lv (.int b :: .int a :: stk) h r h' :=
  g_pure (fun hx hb _ _ _ k => lv_iadd hx hb hd k) k
theorem g_iload {i n : Nat} {x : Int32} (j : Nat) (hd : decode cc pc = .ok (.iload i, 2)) (hj : lv[j]? = some (i, .int x)) (k : G y cc mL ret fr lo (pc + 2) lv (.int x :: stk) h r h') : G y cc mL ret fr lo pc lv stk h r h' :=
  g_pure (fun {_ _ _ _ _ _ _ _ _ _ _ _ _ _ _ _ ad} hx hb _ _ hl k => lv_iload hx hb hd (lv_at hl j (by rw [List.getElem?_map, hj]; rfl)) k) k
end
end
