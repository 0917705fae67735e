/-! 00.tb -/
section
/-! a word of one of the six lists is a word; rows of words -/
theorem tb_eq : tables_1 = tables_1_1 ++ (tables_1_2 ++ (tables_1_3 ++ (tables_1_4 ++ (tables_1_5 ++ tables_1_6)))) := rfl
theorem tb_1 {w : Cond} (h : w ∈ tables_1_1) : w ∈ tables_1 := by
  rw [tb_eq]
  exact List.mem_append.mpr (Or.inl h)
theorem tb_2 {w : Cond} (h : w ∈ tables_1_2) : w ∈ tables_1 := by
  rw [tb_eq]
  exact List.mem_append.mpr (Or.inr (List.mem_append.mpr (Or.inl h)))
theorem tb_3 {w : Cond} (h : w ∈ tables_1_3) : w ∈ tables_1 := by
  rw [tb_eq]
  exact List.mem_append.mpr (Or.inr (List.mem_append.mpr (Or.inr (List.mem_append.mpr (Or.inl h)))))
theorem tb_4 {w : Cond} (h : w ∈ tables_1_4) : w ∈ tables_1 := by
  rw [tb_eq]
  exact List.mem_append.mpr (Or.inr (List.mem_append.mpr (Or.inr (List.mem_append.mpr (Or.inr (List.mem_append.mpr (Or.inl h)))))))
theorem tb_5 {w : Cond} (h : w ∈ tables_1_5) : w ∈ tables_1 := by
  rw [tb_eq]
  exact List.mem_append.mpr (Or.inr (List.mem_append.mpr (Or.inr (List.mem_append.mpr (Or.inr (List.mem_append.mpr (Or.inr (List.mem_append.mpr (Or.inl h)))))))))
theorem tb_6 {w : Cond} (h : w ∈ tables_1_6) : w ∈ tables_1 := by
  rw [tb_eq]
  exact List.mem_append.mpr (Or.inr (List.mem_append.mpr (Or.inr (List.mem_append.mpr (Or.inr (List.mem_append.mpr (Or.inr (List.mem_append.mpr (Or.inr (h))))))))))
theorem zw_nx {T : List Cond} {p : Nat} {w : Cond} {t : List Cond} (h : T.drop p = w :: t) : T.drop (p + 1) = t := by
  rw [← List.drop_drop, h]
  rfl
theorem zw_e {T : List Cond} {p : Nat} {w : Cond} {t : List Cond} (h : T.drop p = w :: t) : w ∈ T := List.mem_of_mem_drop (i := p) (by rw [h]; exact List.mem_cons_self ..)
theorem zw_s {T : List Cond} {p : Nat} {w : Cond} {t : List Cond} {R : Prop} (h : T.drop p = w :: t) (k : T.drop (p + 1) = t → R) : w ∈ T ∧ R := ⟨zw_e h, k (zw_nx h)⟩
theorem zw_g {T : List Cond} {p : Nat} {w : Cond} {t : List Cond} {R : Prop} (h : T.drop p = w :: t) (k : T.drop (p + 1) = t → R) : R := k (zw_nx h)
end
/-! 01.tables -/
section
-- ===== PART A: goes FIRST, ahead of the names: the tables' words, and 'selects' of the private methods out of them =====
/-- a private method of a class that the tables say can be made, by its rows of tables_1 -/
def lw_okq (q : MethodName × Nat) : Prop := (q.1.cls ≠ "java/lang/invoke/MethodHandle" ∧ q.1.cls ≠ "java/lang/invoke/VarHandle") ∧ Cond.instantiable q.1.cls q.2 ∈ tables_1 ∧ Cond.privateMethod q.1 ∈ tables_1 ∧ Cond.instanceMethod q.1 ∈ tables_1
theorem lw_p0 : lw_okq (⟨"QuotaLaws$Reader", "takeToken", "()Z"⟩, 9) := ⟨⟨by decide +kernel, by decide +kernel⟩, tb_1 (List.mem_of_getElem? (i := 27) (by decide +kernel)), tb_2 (List.mem_of_getElem? (i := 118) (by decide +kernel)), tb_2 (List.mem_of_getElem? (i := 119) (by decide +kernel))⟩
theorem lw_p1 : lw_okq (⟨"QuotaLaws$Reader", "passRun", "(II)V"⟩, 9) := ⟨⟨by decide +kernel, by decide +kernel⟩, tb_1 (List.mem_of_getElem? (i := 27) (by decide +kernel)), tb_2 (List.mem_of_getElem? (i := 122) (by decide +kernel)), tb_2 (List.mem_of_getElem? (i := 123) (by decide +kernel))⟩
theorem lw_p2 : lw_okq (⟨"QuotaLaws$Reader", "kindHere", "()I"⟩, 9) := ⟨⟨by decide +kernel, by decide +kernel⟩, tb_1 (List.mem_of_getElem? (i := 27) (by decide +kernel)), tb_2 (List.mem_of_getElem? (i := 126) (by decide +kernel)), tb_2 (List.mem_of_getElem? (i := 127) (by decide +kernel))⟩
theorem lw_p3 : lw_okq (⟨"QuotaLaws$Reader", "valueOfRun", "()I"⟩, 9) := ⟨⟨by decide +kernel, by decide +kernel⟩, tb_1 (List.mem_of_getElem? (i := 27) (by decide +kernel)), tb_2 (List.mem_of_getElem? (i := 130) (by decide +kernel)), tb_2 (List.mem_of_getElem? (i := 131) (by decide +kernel))⟩
theorem lw_p4 : lw_okq (⟨"QuotaLaws$Reader", "fail", "(II)Z"⟩, 9) := ⟨⟨by decide +kernel, by decide +kernel⟩, tb_1 (List.mem_of_getElem? (i := 27) (by decide +kernel)), tb_2 (List.mem_of_getElem? (i := 134) (by decide +kernel)), tb_2 (List.mem_of_getElem? (i := 135) (by decide +kernel))⟩
theorem lw_p5 : lw_okq (⟨"QuotaLaws$Reader", "takeLine", "(LQuotaLaws$Realm;)Z"⟩, 9) := ⟨⟨by decide +kernel, by decide +kernel⟩, tb_1 (List.mem_of_getElem? (i := 27) (by decide +kernel)), tb_2 (List.mem_of_getElem? (i := 138) (by decide +kernel)), tb_2 (List.mem_of_getElem? (i := 139) (by decide +kernel))⟩
theorem lw_p6 : lw_okq (⟨"QuotaLaws$Reader", "isWord", "(Ljava/lang/String;)Z"⟩, 9) := ⟨⟨by decide +kernel, by decide +kernel⟩, tb_1 (List.mem_of_getElem? (i := 27) (by decide +kernel)), tb_2 (List.mem_of_getElem? (i := 143) (by decide +kernel)), tb_2 (List.mem_of_getElem? (i := 144) (by decide +kernel))⟩
theorem lw_p7 : lw_okq (⟨"QuotaLaws$Reader", "takeLaw", "(LQuotaLaws$Realm;I)Z"⟩, 9) := ⟨⟨by decide +kernel, by decide +kernel⟩, tb_1 (List.mem_of_getElem? (i := 27) (by decide +kernel)), tb_2 (List.mem_of_getElem? (i := 195) (by decide +kernel)), tb_2 (List.mem_of_getElem? (i := 196) (by decide +kernel))⟩
theorem lw_p8 : lw_okq (⟨"QuotaLaws$Reader", "takeNumber", "(II)Z"⟩, 9) := ⟨⟨by decide +kernel, by decide +kernel⟩, tb_1 (List.mem_of_getElem? (i := 27) (by decide +kernel)), tb_2 (List.mem_of_getElem? (i := 199) (by decide +kernel)), tb_2 (List.mem_of_getElem? (i := 200) (by decide +kernel))⟩
theorem lw_p9 : lw_okq (⟨"QuotaLaws$Reader", "isBounded", "(II)Z"⟩, 9) := ⟨⟨by decide +kernel, by decide +kernel⟩, tb_1 (List.mem_of_getElem? (i := 27) (by decide +kernel)), tb_2 (List.mem_of_getElem? (i := 203) (by decide +kernel)), tb_2 (List.mem_of_getElem? (i := 204) (by decide +kernel))⟩
theorem lw_p10 : lw_okq (⟨"QuotaLaws$Reader", "putInto", "([II)Z"⟩, 9) := ⟨⟨by decide +kernel, by decide +kernel⟩, tb_1 (List.mem_of_getElem? (i := 27) (by decide +kernel)), tb_2 (List.mem_of_getElem? (i := 208) (by decide +kernel)), tb_2 (List.mem_of_getElem? (i := 209) (by decide +kernel))⟩
theorem lw_p11 : lw_okq (⟨"QuotaLaws$Reader", "takeCarried", "(LQuotaLaws$Realm;I)Z"⟩, 9) := ⟨⟨by decide +kernel, by decide +kernel⟩, tb_1 (List.mem_of_getElem? (i := 27) (by decide +kernel)), tb_2 (List.mem_of_getElem? (i := 212) (by decide +kernel)), tb_2 (List.mem_of_getElem? (i := 213) (by decide +kernel))⟩
theorem lw_p12 : lw_okq (⟨"QuotaLaws$Reader", "isStop", "()Z"⟩, 9) := ⟨⟨by decide +kernel, by decide +kernel⟩, tb_1 (List.mem_of_getElem? (i := 27) (by decide +kernel)), tb_2 (List.mem_of_getElem? (i := 216) (by decide +kernel)), tb_2 (List.mem_of_getElem? (i := 217) (by decide +kernel))⟩
theorem lw_p13 : lw_okq (⟨"QuotaLaws$Reader", "takeOne", "(LQuotaLaws$Realm;I)Z"⟩, 9) := ⟨⟨by decide +kernel, by decide +kernel⟩, tb_1 (List.mem_of_getElem? (i := 27) (by decide +kernel)), tb_2 (List.mem_of_getElem? (i := 221) (by decide +kernel)), tb_2 (List.mem_of_getElem? (i := 222) (by decide +kernel))⟩
theorem lw_p14 : lw_okq (⟨"QuotaLaws$Reader", "addLaw", "([II)Z"⟩, 9) := ⟨⟨by decide +kernel, by decide +kernel⟩, tb_1 (List.mem_of_getElem? (i := 27) (by decide +kernel)), tb_2 (List.mem_of_getElem? (i := 225) (by decide +kernel)), tb_2 (List.mem_of_getElem? (i := 226) (by decide +kernel))⟩
theorem lw_p15 : lw_okq (⟨"QuotaLaws$Reader", "takeWant", "(LQuotaLaws$Realm;)Z"⟩, 9) := ⟨⟨by decide +kernel, by decide +kernel⟩, tb_1 (List.mem_of_getElem? (i := 27) (by decide +kernel)), tb_2 (List.mem_of_getElem? (i := 233) (by decide +kernel)), tb_2 (List.mem_of_getElem? (i := 234) (by decide +kernel))⟩
def lw_privs_1 : List (MethodName × Nat) := [(⟨"QuotaLaws$Reader", "takeToken", "()Z"⟩, 9), (⟨"QuotaLaws$Reader", "passRun", "(II)V"⟩, 9), (⟨"QuotaLaws$Reader", "kindHere", "()I"⟩, 9), (⟨"QuotaLaws$Reader", "valueOfRun", "()I"⟩, 9), (⟨"QuotaLaws$Reader", "fail", "(II)Z"⟩, 9), (⟨"QuotaLaws$Reader", "takeLine", "(LQuotaLaws$Realm;)Z"⟩, 9), (⟨"QuotaLaws$Reader", "isWord", "(Ljava/lang/String;)Z"⟩, 9), (⟨"QuotaLaws$Reader", "takeLaw", "(LQuotaLaws$Realm;I)Z"⟩, 9), (⟨"QuotaLaws$Reader", "takeNumber", "(II)Z"⟩, 9), (⟨"QuotaLaws$Reader", "isBounded", "(II)Z"⟩, 9), (⟨"QuotaLaws$Reader", "putInto", "([II)Z"⟩, 9), (⟨"QuotaLaws$Reader", "takeCarried", "(LQuotaLaws$Realm;I)Z"⟩, 9), (⟨"QuotaLaws$Reader", "isStop", "()Z"⟩, 9), (⟨"QuotaLaws$Reader", "takeOne", "(LQuotaLaws$Realm;I)Z"⟩, 9), (⟨"QuotaLaws$Reader", "addLaw", "([II)Z"⟩, 9), (⟨"QuotaLaws$Reader", "takeWant", "(LQuotaLaws$Realm;)Z"⟩, 9)]
theorem lw_r1 : ∀ q ∈ lw_privs_1, lw_okq q := List.forall_mem_cons.mpr ⟨lw_p0, List.forall_mem_cons.mpr ⟨lw_p1, List.forall_mem_cons.mpr ⟨lw_p2, List.forall_mem_cons.mpr ⟨lw_p3, List.forall_mem_cons.mpr ⟨lw_p4, List.forall_mem_cons.mpr ⟨lw_p5, List.forall_mem_cons.mpr ⟨lw_p6, List.forall_mem_cons.mpr ⟨lw_p7, List.forall_mem_cons.mpr ⟨lw_p8, List.forall_mem_cons.mpr ⟨lw_p9, List.forall_mem_cons.mpr ⟨lw_p10, List.forall_mem_cons.mpr ⟨lw_p11, List.forall_mem_cons.mpr ⟨lw_p12, List.forall_mem_cons.mpr ⟨lw_p13, List.forall_mem_cons.mpr ⟨lw_p14, List.forall_mem_cons.mpr ⟨lw_p15, fun _ h => absurd h List.not_mem_nil⟩⟩⟩⟩⟩⟩⟩⟩⟩⟩⟩⟩⟩⟩⟩⟩
theorem lw_p16 : lw_okq (⟨"QuotaLaws$Reader", "takeWatch", "(LQuotaLaws$Realm;)Z"⟩, 9) := ⟨⟨by decide +kernel, by decide +kernel⟩, tb_1 (List.mem_of_getElem? (i := 27) (by decide +kernel)), tb_2 (List.mem_of_getElem? (i := 238) (by decide +kernel)), tb_2 (List.mem_of_getElem? (i := 239) (by decide +kernel))⟩
theorem lw_p17 : lw_okq (⟨"QuotaLaws$Planner", "leftToLast", "(III)I"⟩, 8) := ⟨⟨by decide +kernel, by decide +kernel⟩, tb_1 (List.mem_of_getElem? (i := 199) (by decide +kernel)), tb_3 (List.mem_of_getElem? (i := 196) (by decide +kernel)), tb_3 (List.mem_of_getElem? (i := 197) (by decide +kernel))⟩
theorem lw_p18 : lw_okq (⟨"QuotaLaws$Planner", "search", "(III)I"⟩, 8) := ⟨⟨by decide +kernel, by decide +kernel⟩, tb_1 (List.mem_of_getElem? (i := 199) (by decide +kernel)), tb_3 (List.mem_of_getElem? (i := 203) (by decide +kernel)), tb_3 (List.mem_of_getElem? (i := 204) (by decide +kernel))⟩
theorem lw_p19 : lw_okq (⟨"QuotaLaws$Planner", "needOfAll", "(I)I"⟩, 8) := ⟨⟨by decide +kernel, by decide +kernel⟩, tb_1 (List.mem_of_getElem? (i := 199) (by decide +kernel)), tb_3 (List.mem_of_getElem? (i := 227) (by decide +kernel)), tb_3 (List.mem_of_getElem? (i := 228) (by decide +kernel))⟩
theorem lw_p20 : lw_okq (⟨"QuotaLaws$Planner", "givenTo", "(I)I"⟩, 8) := ⟨⟨by decide +kernel, by decide +kernel⟩, tb_1 (List.mem_of_getElem? (i := 199) (by decide +kernel)), tb_3 (List.mem_of_getElem? (i := 232) (by decide +kernel)), tb_3 (List.mem_of_getElem? (i := 233) (by decide +kernel))⟩
theorem lw_p21 : lw_okq (⟨"QuotaLaws$Odds", "addTry", "(I)V"⟩, 3) := ⟨⟨by decide +kernel, by decide +kernel⟩, tb_2 (List.mem_of_getElem? (i := 23) (by decide +kernel)), tb_4 (List.mem_of_getElem? (i := 39) (by decide +kernel)), tb_4 (List.mem_of_getElem? (i := 40) (by decide +kernel))⟩
theorem lw_p22 : lw_okq (⟨"QuotaLaws$Odds", "reduce", "()V"⟩, 3) := ⟨⟨by decide +kernel, by decide +kernel⟩, tb_2 (List.mem_of_getElem? (i := 23) (by decide +kernel)), tb_4 (List.mem_of_getElem? (i := 45) (by decide +kernel)), tb_4 (List.mem_of_getElem? (i := 46) (by decide +kernel))⟩
theorem lw_p23 : lw_okq (⟨"QuotaLaws$Tables", "spendAlone", "(II)V"⟩, 8) := ⟨⟨by decide +kernel, by decide +kernel⟩, tb_1 (List.mem_of_getElem? (i := 231) (by decide +kernel)), tb_4 (List.mem_of_getElem? (i := 81) (by decide +kernel)), tb_4 (List.mem_of_getElem? (i := 82) (by decide +kernel))⟩
theorem lw_p24 : lw_okq (⟨"QuotaLaws$Tables", "joinAll", "()V"⟩, 8) := ⟨⟨by decide +kernel, by decide +kernel⟩, tb_1 (List.mem_of_getElem? (i := 231) (by decide +kernel)), tb_4 (List.mem_of_getElem? (i := 85) (by decide +kernel)), tb_4 (List.mem_of_getElem? (i := 86) (by decide +kernel))⟩
theorem lw_p25 : lw_okq (⟨"QuotaLaws$Tables", "spendTogether", "(I)V"⟩, 8) := ⟨⟨by decide +kernel, by decide +kernel⟩, tb_1 (List.mem_of_getElem? (i := 231) (by decide +kernel)), tb_4 (List.mem_of_getElem? (i := 92) (by decide +kernel)), tb_4 (List.mem_of_getElem? (i := 93) (by decide +kernel))⟩
theorem lw_p26 : lw_okq (⟨"QuotaLaws$Tables", "waysTo", "(IIII)J"⟩, 8) := ⟨⟨by decide +kernel, by decide +kernel⟩, tb_1 (List.mem_of_getElem? (i := 231) (by decide +kernel)), tb_4 (List.mem_of_getElem? (i := 96) (by decide +kernel)), tb_4 (List.mem_of_getElem? (i := 97) (by decide +kernel))⟩
theorem lw_p27 : lw_okq (⟨"QuotaLaws$Tables", "sumOfDue", "()J"⟩, 8) := ⟨⟨by decide +kernel, by decide +kernel⟩, tb_1 (List.mem_of_getElem? (i := 231) (by decide +kernel)), tb_4 (List.mem_of_getElem? (i := 102) (by decide +kernel)), tb_4 (List.mem_of_getElem? (i := 103) (by decide +kernel))⟩
theorem lw_p28 : lw_okq (⟨"QuotaLaws$Tables", "isDueOf", "(II)Z"⟩, 8) := ⟨⟨by decide +kernel, by decide +kernel⟩, tb_1 (List.mem_of_getElem? (i := 231) (by decide +kernel)), tb_4 (List.mem_of_getElem? (i := 106) (by decide +kernel)), tb_4 (List.mem_of_getElem? (i := 107) (by decide +kernel))⟩
theorem lw_p29 : lw_okq (⟨"QuotaLaws", "countKept", "()I"⟩, 10) := ⟨⟨by decide +kernel, by decide +kernel⟩, tb_1 (List.mem_of_getElem? (i := 19) (by decide +kernel)), tb_4 (List.mem_of_getElem? (i := 193) (by decide +kernel)), tb_4 (List.mem_of_getElem? (i := 194) (by decide +kernel))⟩
theorem lw_p30 : lw_okq (⟨"QuotaLawsModel", "firstDraft", "()V"⟩, 39) := ⟨⟨by decide +kernel, by decide +kernel⟩, tb_4 (List.mem_of_getElem? (i := 205) (by decide +kernel)), tb_4 (List.mem_of_getElem? (i := 211) (by decide +kernel)), tb_4 (List.mem_of_getElem? (i := 212) (by decide +kernel))⟩
theorem lw_p31 : lw_okq (⟨"QuotaLawsModel", "keepDraft", "()V"⟩, 39) := ⟨⟨by decide +kernel, by decide +kernel⟩, tb_4 (List.mem_of_getElem? (i := 205) (by decide +kernel)), tb_4 (List.mem_of_getElem? (i := 215) (by decide +kernel)), tb_4 (List.mem_of_getElem? (i := 216) (by decide +kernel))⟩
def lw_privs_2 : List (MethodName × Nat) := [(⟨"QuotaLaws$Reader", "takeWatch", "(LQuotaLaws$Realm;)Z"⟩, 9), (⟨"QuotaLaws$Planner", "leftToLast", "(III)I"⟩, 8), (⟨"QuotaLaws$Planner", "search", "(III)I"⟩, 8), (⟨"QuotaLaws$Planner", "needOfAll", "(I)I"⟩, 8), (⟨"QuotaLaws$Planner", "givenTo", "(I)I"⟩, 8), (⟨"QuotaLaws$Odds", "addTry", "(I)V"⟩, 3), (⟨"QuotaLaws$Odds", "reduce", "()V"⟩, 3), (⟨"QuotaLaws$Tables", "spendAlone", "(II)V"⟩, 8), (⟨"QuotaLaws$Tables", "joinAll", "()V"⟩, 8), (⟨"QuotaLaws$Tables", "spendTogether", "(I)V"⟩, 8), (⟨"QuotaLaws$Tables", "waysTo", "(IIII)J"⟩, 8), (⟨"QuotaLaws$Tables", "sumOfDue", "()J"⟩, 8), (⟨"QuotaLaws$Tables", "isDueOf", "(II)Z"⟩, 8), (⟨"QuotaLaws", "countKept", "()I"⟩, 10), (⟨"QuotaLawsModel", "firstDraft", "()V"⟩, 39), (⟨"QuotaLawsModel", "keepDraft", "()V"⟩, 39)]
theorem lw_r2 : ∀ q ∈ lw_privs_2, lw_okq q := List.forall_mem_cons.mpr ⟨lw_p16, List.forall_mem_cons.mpr ⟨lw_p17, List.forall_mem_cons.mpr ⟨lw_p18, List.forall_mem_cons.mpr ⟨lw_p19, List.forall_mem_cons.mpr ⟨lw_p20, List.forall_mem_cons.mpr ⟨lw_p21, List.forall_mem_cons.mpr ⟨lw_p22, List.forall_mem_cons.mpr ⟨lw_p23, List.forall_mem_cons.mpr ⟨lw_p24, List.forall_mem_cons.mpr ⟨lw_p25, List.forall_mem_cons.mpr ⟨lw_p26, List.forall_mem_cons.mpr ⟨lw_p27, List.forall_mem_cons.mpr ⟨lw_p28, List.forall_mem_cons.mpr ⟨lw_p29, List.forall_mem_cons.mpr ⟨lw_p30, List.forall_mem_cons.mpr ⟨lw_p31, fun _ h => absurd h List.not_mem_nil⟩⟩⟩⟩⟩⟩⟩⟩⟩⟩⟩⟩⟩⟩⟩⟩
theorem lw_p32 : lw_okq (⟨"QuotaLawsModel", "next", "()V"⟩, 39) := ⟨⟨by decide +kernel, by decide +kernel⟩, tb_4 (List.mem_of_getElem? (i := 205) (by decide +kernel)), tb_5 (List.mem_of_getElem? (i := 113) (by decide +kernel)), tb_5 (List.mem_of_getElem? (i := 114) (by decide +kernel))⟩
theorem lw_p33 : lw_okq (⟨"QuotaLawsModel", "look", "(I)I"⟩, 39) := ⟨⟨by decide +kernel, by decide +kernel⟩, tb_4 (List.mem_of_getElem? (i := 205) (by decide +kernel)), tb_5 (List.mem_of_getElem? (i := 117) (by decide +kernel)), tb_5 (List.mem_of_getElem? (i := 118) (by decide +kernel))⟩
theorem lw_p34 : lw_okq (⟨"QuotaLawsModel", "needs", "(ZI)V"⟩, 39) := ⟨⟨by decide +kernel, by decide +kernel⟩, tb_4 (List.mem_of_getElem? (i := 205) (by decide +kernel)), tb_5 (List.mem_of_getElem? (i := 125) (by decide +kernel)), tb_5 (List.mem_of_getElem? (i := 126) (by decide +kernel))⟩
theorem lw_p35 : lw_okq (⟨"QuotaLawsModel", "readLine", "()V"⟩, 39) := ⟨⟨by decide +kernel, by decide +kernel⟩, tb_4 (List.mem_of_getElem? (i := 205) (by decide +kernel)), tb_5 (List.mem_of_getElem? (i := 129) (by decide +kernel)), tb_5 (List.mem_of_getElem? (i := 130) (by decide +kernel))⟩
theorem lw_p36 : lw_okq (⟨"QuotaLawsModel", "lineNow", "()I"⟩, 39) := ⟨⟨by decide +kernel, by decide +kernel⟩, tb_4 (List.mem_of_getElem? (i := 205) (by decide +kernel)), tb_5 (List.mem_of_getElem? (i := 133) (by decide +kernel)), tb_5 (List.mem_of_getElem? (i := 134) (by decide +kernel))⟩
theorem lw_p37 : lw_okq (⟨"QuotaLawsModel", "is", "(IIII)Z"⟩, 39) := ⟨⟨by decide +kernel, by decide +kernel⟩, tb_4 (List.mem_of_getElem? (i := 205) (by decide +kernel)), tb_5 (List.mem_of_getElem? (i := 137) (by decide +kernel)), tb_5 (List.mem_of_getElem? (i := 138) (by decide +kernel))⟩
theorem lw_p38 : lw_okq (⟨"QuotaLawsModel", "readLineOf", "(I)V"⟩, 39) := ⟨⟨by decide +kernel, by decide +kernel⟩, tb_4 (List.mem_of_getElem? (i := 205) (by decide +kernel)), tb_5 (List.mem_of_getElem? (i := 141) (by decide +kernel)), tb_5 (List.mem_of_getElem? (i := 142) (by decide +kernel))⟩
theorem lw_p39 : lw_okq (⟨"QuotaLawsModel", "readLaw", "()V"⟩, 39) := ⟨⟨by decide +kernel, by decide +kernel⟩, tb_4 (List.mem_of_getElem? (i := 205) (by decide +kernel)), tb_5 (List.mem_of_getElem? (i := 145) (by decide +kernel)), tb_5 (List.mem_of_getElem? (i := 146) (by decide +kernel))⟩
theorem lw_p40 : lw_okq (⟨"QuotaLawsModel", "readNumber", "(II)I"⟩, 39) := ⟨⟨by decide +kernel, by decide +kernel⟩, tb_4 (List.mem_of_getElem? (i := 205) (by decide +kernel)), tb_5 (List.mem_of_getElem? (i := 149) (by decide +kernel)), tb_5 (List.mem_of_getElem? (i := 150) (by decide +kernel))⟩
theorem lw_p41 : lw_okq (⟨"QuotaLawsModel", "looked", "(II)I"⟩, 39) := ⟨⟨by decide +kernel, by decide +kernel⟩, tb_4 (List.mem_of_getElem? (i := 205) (by decide +kernel)), tb_5 (List.mem_of_getElem? (i := 153) (by decide +kernel)), tb_5 (List.mem_of_getElem? (i := 154) (by decide +kernel))⟩
theorem lw_p42 : lw_okq (⟨"QuotaLawsModel", "readLawOf", "(I)I"⟩, 39) := ⟨⟨by decide +kernel, by decide +kernel⟩, tb_4 (List.mem_of_getElem? (i := 205) (by decide +kernel)), tb_5 (List.mem_of_getElem? (i := 157) (by decide +kernel)), tb_5 (List.mem_of_getElem? (i := 158) (by decide +kernel))⟩
theorem lw_p43 : lw_okq (⟨"QuotaLawsModel", "readOne", "()V"⟩, 39) := ⟨⟨by decide +kernel, by decide +kernel⟩, tb_4 (List.mem_of_getElem? (i := 205) (by decide +kernel)), tb_5 (List.mem_of_getElem? (i := 161) (by decide +kernel)), tb_5 (List.mem_of_getElem? (i := 162) (by decide +kernel))⟩
theorem lw_p44 : lw_okq (⟨"QuotaLawsModel", "isLaw", "(I)Z"⟩, 39) := ⟨⟨by decide +kernel, by decide +kernel⟩, tb_4 (List.mem_of_getElem? (i := 205) (by decide +kernel)), tb_5 (List.mem_of_getElem? (i := 177) (by decide +kernel)), tb_5 (List.mem_of_getElem? (i := 178) (by decide +kernel))⟩
theorem lw_p45 : lw_okq (⟨"QuotaLawsModel", "needOf", "(I)I"⟩, 39) := ⟨⟨by decide +kernel, by decide +kernel⟩, tb_4 (List.mem_of_getElem? (i := 205) (by decide +kernel)), tb_5 (List.mem_of_getElem? (i := 181) (by decide +kernel)), tb_5 (List.mem_of_getElem? (i := 182) (by decide +kernel))⟩
theorem lw_p46 : lw_okq (⟨"QuotaLawsModel", "doesStand", "(I)Z"⟩, 39) := ⟨⟨by decide +kernel, by decide +kernel⟩, tb_4 (List.mem_of_getElem? (i := 205) (by decide +kernel)), tb_5 (List.mem_of_getElem? (i := 185) (by decide +kernel)), tb_5 (List.mem_of_getElem? (i := 186) (by decide +kernel))⟩
theorem lw_p47 : lw_okq (⟨"QuotaLawsModel", "brokenBy", "(II)I"⟩, 39) := ⟨⟨by decide +kernel, by decide +kernel⟩, tb_4 (List.mem_of_getElem? (i := 205) (by decide +kernel)), tb_5 (List.mem_of_getElem? (i := 189) (by decide +kernel)), tb_5 (List.mem_of_getElem? (i := 190) (by decide +kernel))⟩
def lw_privs_3 : List (MethodName × Nat) := [(⟨"QuotaLawsModel", "next", "()V"⟩, 39), (⟨"QuotaLawsModel", "look", "(I)I"⟩, 39), (⟨"QuotaLawsModel", "needs", "(ZI)V"⟩, 39), (⟨"QuotaLawsModel", "readLine", "()V"⟩, 39), (⟨"QuotaLawsModel", "lineNow", "()I"⟩, 39), (⟨"QuotaLawsModel", "is", "(IIII)Z"⟩, 39), (⟨"QuotaLawsModel", "readLineOf", "(I)V"⟩, 39), (⟨"QuotaLawsModel", "readLaw", "()V"⟩, 39), (⟨"QuotaLawsModel", "readNumber", "(II)I"⟩, 39), (⟨"QuotaLawsModel", "looked", "(II)I"⟩, 39), (⟨"QuotaLawsModel", "readLawOf", "(I)I"⟩, 39), (⟨"QuotaLawsModel", "readOne", "()V"⟩, 39), (⟨"QuotaLawsModel", "isLaw", "(I)Z"⟩, 39), (⟨"QuotaLawsModel", "needOf", "(I)I"⟩, 39), (⟨"QuotaLawsModel", "doesStand", "(I)Z"⟩, 39), (⟨"QuotaLawsModel", "brokenBy", "(II)I"⟩, 39)]
theorem lw_r3 : ∀ q ∈ lw_privs_3, lw_okq q := List.forall_mem_cons.mpr ⟨lw_p32, List.forall_mem_cons.mpr ⟨lw_p33, List.forall_mem_cons.mpr ⟨lw_p34, List.forall_mem_cons.mpr ⟨lw_p35, List.forall_mem_cons.mpr ⟨lw_p36, List.forall_mem_cons.mpr ⟨lw_p37, List.forall_mem_cons.mpr ⟨lw_p38, List.forall_mem_cons.mpr ⟨lw_p39, List.forall_mem_cons.mpr ⟨lw_p40, List.forall_mem_cons.mpr ⟨lw_p41, List.forall_mem_cons.mpr ⟨lw_p42, List.forall_mem_cons.mpr ⟨lw_p43, List.forall_mem_cons.mpr ⟨lw_p44, List.forall_mem_cons.mpr ⟨lw_p45, List.forall_mem_cons.mpr ⟨lw_p46, List.forall_mem_cons.mpr ⟨lw_p47, fun _ h => absurd h List.not_mem_nil⟩⟩⟩⟩⟩⟩⟩⟩⟩⟩⟩⟩⟩⟩⟩⟩
theorem lw_p48 : lw_okq (⟨"QuotaLawsModel", "chainOf", "(I)I"⟩, 39) := ⟨⟨by decide +kernel, by decide +kernel⟩, tb_4 (List.mem_of_getElem? (i := 205) (by decide +kernel)), tb_5 (List.mem_of_getElem? (i := 193) (by decide +kernel)), tb_5 (List.mem_of_getElem? (i := 194) (by decide +kernel))⟩
theorem lw_p49 : lw_okq (⟨"QuotaLawsModel", "isOne", "(I)Z"⟩, 39) := ⟨⟨by decide +kernel, by decide +kernel⟩, tb_4 (List.mem_of_getElem? (i := 205) (by decide +kernel)), tb_5 (List.mem_of_getElem? (i := 201) (by decide +kernel)), tb_5 (List.mem_of_getElem? (i := 202) (by decide +kernel))⟩
theorem lw_p50 : lw_okq (⟨"QuotaLawsModel", "canBreak", "(II)Z"⟩, 39) := ⟨⟨by decide +kernel, by decide +kernel⟩, tb_4 (List.mem_of_getElem? (i := 205) (by decide +kernel)), tb_5 (List.mem_of_getElem? (i := 205) (by decide +kernel)), tb_5 (List.mem_of_getElem? (i := 206) (by decide +kernel))⟩
theorem lw_p51 : lw_okq (⟨"QuotaLawsModel", "roomOf", "(II)I"⟩, 39) := ⟨⟨by decide +kernel, by decide +kernel⟩, tb_4 (List.mem_of_getElem? (i := 205) (by decide +kernel)), tb_5 (List.mem_of_getElem? (i := 209) (by decide +kernel)), tb_5 (List.mem_of_getElem? (i := 210) (by decide +kernel))⟩
theorem lw_p52 : lw_okq (⟨"QuotaLawsModel", "timeLeft", "(I)I"⟩, 39) := ⟨⟨by decide +kernel, by decide +kernel⟩, tb_4 (List.mem_of_getElem? (i := 205) (by decide +kernel)), tb_5 (List.mem_of_getElem? (i := 213) (by decide +kernel)), tb_5 (List.mem_of_getElem? (i := 214) (by decide +kernel))⟩
theorem lw_p53 : lw_okq (⟨"QuotaLawsModel", "allBy", "(I)I"⟩, 39) := ⟨⟨by decide +kernel, by decide +kernel⟩, tb_4 (List.mem_of_getElem? (i := 205) (by decide +kernel)), tb_5 (List.mem_of_getElem? (i := 217) (by decide +kernel)), tb_5 (List.mem_of_getElem? (i := 218) (by decide +kernel))⟩
theorem lw_p54 : lw_okq (⟨"QuotaLawsModel", "becomes", "(II)I"⟩, 39) := ⟨⟨by decide +kernel, by decide +kernel⟩, tb_4 (List.mem_of_getElem? (i := 205) (by decide +kernel)), tb_5 (List.mem_of_getElem? (i := 233) (by decide +kernel)), tb_5 (List.mem_of_getElem? (i := 234) (by decide +kernel))⟩
theorem lw_p55 : lw_okq (⟨"QuotaLawsModel", "becomesBit", "(IIZ)I"⟩, 39) := ⟨⟨by decide +kernel, by decide +kernel⟩, tb_4 (List.mem_of_getElem? (i := 205) (by decide +kernel)), tb_6 (List.mem_of_getElem? (i := 5) (by decide +kernel)), tb_6 (List.mem_of_getElem? (i := 6) (by decide +kernel))⟩
theorem lw_p56 : lw_okq (⟨"QuotaLawsModel", "fallsNow", "()I"⟩, 39) := ⟨⟨by decide +kernel, by decide +kernel⟩, tb_4 (List.mem_of_getElem? (i := 205) (by decide +kernel)), tb_6 (List.mem_of_getElem? (i := 42) (by decide +kernel)), tb_6 (List.mem_of_getElem? (i := 43) (by decide +kernel))⟩
theorem lw_p57 : lw_okq (⟨"QuotaLawsModel", "startsRota", "(I)V"⟩, 39) := ⟨⟨by decide +kernel, by decide +kernel⟩, tb_4 (List.mem_of_getElem? (i := 205) (by decide +kernel)), tb_6 (List.mem_of_getElem? (i := 58) (by decide +kernel)), tb_6 (List.mem_of_getElem? (i := 59) (by decide +kernel))⟩
theorem lw_p58 : lw_okq (⟨"QuotaLawsModel", "findRota", "()I"⟩, 39) := ⟨⟨by decide +kernel, by decide +kernel⟩, tb_4 (List.mem_of_getElem? (i := 205) (by decide +kernel)), tb_6 (List.mem_of_getElem? (i := 62) (by decide +kernel)), tb_6 (List.mem_of_getElem? (i := 63) (by decide +kernel))⟩
theorem lw_p59 : lw_okq (⟨"QuotaLawsModel", "leastOf", "(IIII)I"⟩, 39) := ⟨⟨by decide +kernel, by decide +kernel⟩, tb_4 (List.mem_of_getElem? (i := 205) (by decide +kernel)), tb_6 (List.mem_of_getElem? (i := 69) (by decide +kernel)), tb_6 (List.mem_of_getElem? (i := 70) (by decide +kernel))⟩
theorem lw_p60 : lw_okq (⟨"QuotaLawsModel", "harmBy", "(IIIIIII)I"⟩, 39) := ⟨⟨by decide +kernel, by decide +kernel⟩, tb_4 (List.mem_of_getElem? (i := 205) (by decide +kernel)), tb_6 (List.mem_of_getElem? (i := 75) (by decide +kernel)), tb_6 (List.mem_of_getElem? (i := 76) (by decide +kernel))⟩
theorem lw_p61 : lw_okq (⟨"QuotaLawsModel", "roomAt", "(II)I"⟩, 39) := ⟨⟨by decide +kernel, by decide +kernel⟩, tb_4 (List.mem_of_getElem? (i := 205) (by decide +kernel)), tb_6 (List.mem_of_getElem? (i := 79) (by decide +kernel)), tb_6 (List.mem_of_getElem? (i := 80) (by decide +kernel))⟩
theorem lw_p62 : lw_okq (⟨"QuotaLawsModel", "sharesOf", "(IIII)V"⟩, 39) := ⟨⟨by decide +kernel, by decide +kernel⟩, tb_4 (List.mem_of_getElem? (i := 205) (by decide +kernel)), tb_6 (List.mem_of_getElem? (i := 83) (by decide +kernel)), tb_6 (List.mem_of_getElem? (i := 84) (by decide +kernel))⟩
theorem lw_p63 : lw_okq (⟨"QuotaLawsModel", "triesOf", "(II)I"⟩, 39) := ⟨⟨by decide +kernel, by decide +kernel⟩, tb_4 (List.mem_of_getElem? (i := 205) (by decide +kernel)), tb_6 (List.mem_of_getElem? (i := 99) (by decide +kernel)), tb_6 (List.mem_of_getElem? (i := 100) (by decide +kernel))⟩
def lw_privs_4 : List (MethodName × Nat) := [(⟨"QuotaLawsModel", "chainOf", "(I)I"⟩, 39), (⟨"QuotaLawsModel", "isOne", "(I)Z"⟩, 39), (⟨"QuotaLawsModel", "canBreak", "(II)Z"⟩, 39), (⟨"QuotaLawsModel", "roomOf", "(II)I"⟩, 39), (⟨"QuotaLawsModel", "timeLeft", "(I)I"⟩, 39), (⟨"QuotaLawsModel", "allBy", "(I)I"⟩, 39), (⟨"QuotaLawsModel", "becomes", "(II)I"⟩, 39), (⟨"QuotaLawsModel", "becomesBit", "(IIZ)I"⟩, 39), (⟨"QuotaLawsModel", "fallsNow", "()I"⟩, 39), (⟨"QuotaLawsModel", "startsRota", "(I)V"⟩, 39), (⟨"QuotaLawsModel", "findRota", "()I"⟩, 39), (⟨"QuotaLawsModel", "leastOf", "(IIII)I"⟩, 39), (⟨"QuotaLawsModel", "harmBy", "(IIIIIII)I"⟩, 39), (⟨"QuotaLawsModel", "roomAt", "(II)I"⟩, 39), (⟨"QuotaLawsModel", "sharesOf", "(IIII)V"⟩, 39), (⟨"QuotaLawsModel", "triesOf", "(II)I"⟩, 39)]
theorem lw_r4 : ∀ q ∈ lw_privs_4, lw_okq q := List.forall_mem_cons.mpr ⟨lw_p48, List.forall_mem_cons.mpr ⟨lw_p49, List.forall_mem_cons.mpr ⟨lw_p50, List.forall_mem_cons.mpr ⟨lw_p51, List.forall_mem_cons.mpr ⟨lw_p52, List.forall_mem_cons.mpr ⟨lw_p53, List.forall_mem_cons.mpr ⟨lw_p54, List.forall_mem_cons.mpr ⟨lw_p55, List.forall_mem_cons.mpr ⟨lw_p56, List.forall_mem_cons.mpr ⟨lw_p57, List.forall_mem_cons.mpr ⟨lw_p58, List.forall_mem_cons.mpr ⟨lw_p59, List.forall_mem_cons.mpr ⟨lw_p60, List.forall_mem_cons.mpr ⟨lw_p61, List.forall_mem_cons.mpr ⟨lw_p62, List.forall_mem_cons.mpr ⟨lw_p63, fun _ h => absurd h List.not_mem_nil⟩⟩⟩⟩⟩⟩⟩⟩⟩⟩⟩⟩⟩⟩⟩⟩
theorem lw_p64 : lw_okq (⟨"QuotaLawsModel", "saves", "()V"⟩, 39) := ⟨⟨by decide +kernel, by decide +kernel⟩, tb_4 (List.mem_of_getElem? (i := 205) (by decide +kernel)), tb_6 (List.mem_of_getElem? (i := 108) (by decide +kernel)), tb_6 (List.mem_of_getElem? (i := 109) (by decide +kernel))⟩
theorem lw_p65 : lw_okq (⟨"QuotaLawsModel", "wantedBy", "(I)I"⟩, 39) := ⟨⟨by decide +kernel, by decide +kernel⟩, tb_4 (List.mem_of_getElem? (i := 205) (by decide +kernel)), tb_6 (List.mem_of_getElem? (i := 112) (by decide +kernel)), tb_6 (List.mem_of_getElem? (i := 113) (by decide +kernel))⟩
theorem lw_p66 : lw_okq (⟨"QuotaLawsModel", "returns", "()V"⟩, 39) := ⟨⟨by decide +kernel, by decide +kernel⟩, tb_4 (List.mem_of_getElem? (i := 205) (by decide +kernel)), tb_6 (List.mem_of_getElem? (i := 116) (by decide +kernel)), tb_6 (List.mem_of_getElem? (i := 117) (by decide +kernel))⟩
theorem lw_p67 : lw_okq (⟨"QuotaLawsModel", "tablesBy", "(III)J"⟩, 39) := ⟨⟨by decide +kernel, by decide +kernel⟩, tb_4 (List.mem_of_getElem? (i := 205) (by decide +kernel)), tb_6 (List.mem_of_getElem? (i := 142) (by decide +kernel)), tb_6 (List.mem_of_getElem? (i := 143) (by decide +kernel))⟩
theorem lw_p68 : lw_okq (⟨"QuotaLawsModel", "addsLaw", "(IIII)V"⟩, 39) := ⟨⟨by decide +kernel, by decide +kernel⟩, tb_4 (List.mem_of_getElem? (i := 205) (by decide +kernel)), tb_6 (List.mem_of_getElem? (i := 146) (by decide +kernel)), tb_6 (List.mem_of_getElem? (i := 147) (by decide +kernel))⟩
theorem lw_p69 : lw_okq (⟨"QuotaLawsModel", "mostOf", "(II)I"⟩, 39) := ⟨⟨by decide +kernel, by decide +kernel⟩, tb_4 (List.mem_of_getElem? (i := 205) (by decide +kernel)), tb_6 (List.mem_of_getElem? (i := 150) (by decide +kernel)), tb_6 (List.mem_of_getElem? (i := 151) (by decide +kernel))⟩
theorem lw_p70 : lw_okq (⟨"QuotaLawsModel", "isSo", "(III)Z"⟩, 39) := ⟨⟨by decide +kernel, by decide +kernel⟩, tb_4 (List.mem_of_getElem? (i := 205) (by decide +kernel)), tb_6 (List.mem_of_getElem? (i := 154) (by decide +kernel)), tb_6 (List.mem_of_getElem? (i := 155) (by decide +kernel))⟩
theorem lw_p71 : lw_okq (⟨"QuotaLawsModel", "isAsked", "(IIIIII)Z"⟩, 39) := ⟨⟨by decide +kernel, by decide +kernel⟩, tb_4 (List.mem_of_getElem? (i := 205) (by decide +kernel)), tb_6 (List.mem_of_getElem? (i := 158) (by decide +kernel)), tb_6 (List.mem_of_getElem? (i := 159) (by decide +kernel))⟩
theorem lw_p72 : lw_okq (⟨"QuotaLawsModel", "addsTables", "(III)V"⟩, 39) := ⟨⟨by decide +kernel, by decide +kernel⟩, tb_4 (List.mem_of_getElem? (i := 205) (by decide +kernel)), tb_6 (List.mem_of_getElem? (i := 162) (by decide +kernel)), tb_6 (List.mem_of_getElem? (i := 163) (by decide +kernel))⟩
theorem lw_p73 : lw_okq (⟨"QuotaLawsModel", "isTime", "(II)Z"⟩, 39) := ⟨⟨by decide +kernel, by decide +kernel⟩, tb_4 (List.mem_of_getElem? (i := 205) (by decide +kernel)), tb_6 (List.mem_of_getElem? (i := 166) (by decide +kernel)), tb_6 (List.mem_of_getElem? (i := 167) (by decide +kernel))⟩
theorem lw_p74 : lw_okq (⟨"QuotaLawsModel", "copies", "(II)V"⟩, 39) := ⟨⟨by decide +kernel, by decide +kernel⟩, tb_4 (List.mem_of_getElem? (i := 205) (by decide +kernel)), tb_6 (List.mem_of_getElem? (i := 185) (by decide +kernel)), tb_6 (List.mem_of_getElem? (i := 186) (by decide +kernel))⟩
def lw_privs_5 : List (MethodName × Nat) := [(⟨"QuotaLawsModel", "saves", "()V"⟩, 39), (⟨"QuotaLawsModel", "wantedBy", "(I)I"⟩, 39), (⟨"QuotaLawsModel", "returns", "()V"⟩, 39), (⟨"QuotaLawsModel", "tablesBy", "(III)J"⟩, 39), (⟨"QuotaLawsModel", "addsLaw", "(IIII)V"⟩, 39), (⟨"QuotaLawsModel", "mostOf", "(II)I"⟩, 39), (⟨"QuotaLawsModel", "isSo", "(III)Z"⟩, 39), (⟨"QuotaLawsModel", "isAsked", "(IIIIII)Z"⟩, 39), (⟨"QuotaLawsModel", "addsTables", "(III)V"⟩, 39), (⟨"QuotaLawsModel", "isTime", "(II)Z"⟩, 39), (⟨"QuotaLawsModel", "copies", "(II)V"⟩, 39)]
theorem lw_r5 : ∀ q ∈ lw_privs_5, lw_okq q := List.forall_mem_cons.mpr ⟨lw_p64, List.forall_mem_cons.mpr ⟨lw_p65, List.forall_mem_cons.mpr ⟨lw_p66, List.forall_mem_cons.mpr ⟨lw_p67, List.forall_mem_cons.mpr ⟨lw_p68, List.forall_mem_cons.mpr ⟨lw_p69, List.forall_mem_cons.mpr ⟨lw_p70, List.forall_mem_cons.mpr ⟨lw_p71, List.forall_mem_cons.mpr ⟨lw_p72, List.forall_mem_cons.mpr ⟨lw_p73, List.forall_mem_cons.mpr ⟨lw_p74, fun _ h => absurd h List.not_mem_nil⟩⟩⟩⟩⟩⟩⟩⟩⟩⟩⟩
def lw_privs : List (MethodName × Nat) := lw_privs_1 ++ (lw_privs_2 ++ (lw_privs_3 ++ (lw_privs_4 ++ (lw_privs_5))))
def lw_tbl : List Cond := k2_sels lw_privs ++ tables_1
theorem lw_privs_ok : ∀ q ∈ lw_privs, lw_okq q := by
  show ∀ q ∈ lw_privs_1 ++ (lw_privs_2 ++ (lw_privs_3 ++ (lw_privs_4 ++ (lw_privs_5)))), lw_okq q
  exact List.forall_mem_append.mpr ⟨lw_r1, List.forall_mem_append.mpr ⟨lw_r2, List.forall_mem_append.mpr ⟨lw_r3, List.forall_mem_append.mpr ⟨lw_r4, lw_r5⟩⟩⟩⟩
end
/-! 01b.names -/
section
/-! names: printed by wip/gen/gen_names.py -/
def T_Q : u_T := fun k => match k with
  | 0 => ("QuotaLaws", "reader", "LQuotaLaws$Reader;", true)
  | 1 => ("QuotaLaws", "now", "LQuotaLaws$Realm;", true)
  | 2 => ("QuotaLaws", "trial", "LQuotaLaws$Realm;", true)
  | 3 => ("QuotaLaws", "images", "[LQuotaLaws$Realm;", true)
  | 4 => ("QuotaLaws", "kept", "[Z", true)
  | 5 => ("QuotaLaws", "sheets", "[LQuotaLaws$Sheet;", true)
  | 6 => ("QuotaLaws", "planner", "LQuotaLaws$Planner;", true)
  | 7 => ("QuotaLaws", "tables", "LQuotaLaws$Tables;", true)
  | 8 => ("QuotaLaws", "odds", "LQuotaLaws$Odds;", true)
  | _ => ("QuotaLaws", "tornFault", "I", false)
def ty_Q : Nat → FieldType := fun k => match k with
  | 0 => .object "QuotaLaws$Reader"
  | 1 => .object "QuotaLaws$Realm"
  | 2 => .object "QuotaLaws$Realm"
  | 3 => .array (.object "QuotaLaws$Realm")
  | 4 => .array .boolean
  | 5 => .array (.object "QuotaLaws$Sheet")
  | 6 => .object "QuotaLaws$Planner"
  | 7 => .object "QuotaLaws$Tables"
  | 8 => .object "QuotaLaws$Odds"
  | _ => .int
def T_Odds : u_T := fun k => match k with
  | 0 => ("QuotaLaws$Odds", "over", "J", false)
  | 1 => ("QuotaLaws$Odds", "under", "J", false)
  | _ => ("QuotaLaws$Odds", "weights", "[J", true)
def ty_Odds : Nat → FieldType := fun k => match k with
  | 0 => .long
  | 1 => .long
  | _ => .array .long
def T_Planner : u_T := fun k => match k with
  | 0 => ("QuotaLaws$Planner", "laws", "I", false)
  | 1 => ("QuotaLaws$Planner", "left", "[I", true)
  | 2 => ("QuotaLaws$Planner", "need", "[I", true)
  | 3 => ("QuotaLaws$Planner", "needAhead", "[I", true)
  | 4 => ("QuotaLaws$Planner", "room", "[I", true)
  | 5 => ("QuotaLaws$Planner", "harm", "[I", true)
  | 6 => ("QuotaLaws$Planner", "first", "[I", true)
  | _ => ("QuotaLaws$Planner", "best", "[I", true)
def ty_Planner : Nat → FieldType := fun k => match k with
  | 0 => .int
  | 1 => .array .int
  | 2 => .array .int
  | 3 => .array .int
  | 4 => .array .int
  | 5 => .array .int
  | 6 => .array .int
  | _ => .array .int
def T_Reader : u_T := fun k => match k with
  | 0 => ("QuotaLaws$Reader", "tape", "[B", true)
  | 1 => ("QuotaLaws$Reader", "length", "I", false)
  | 2 => ("QuotaLaws$Reader", "fault", "I", false)
  | 3 => ("QuotaLaws$Reader", "faultPlace", "I", false)
  | 4 => ("QuotaLaws$Reader", "lines", "I", false)
  | 5 => ("QuotaLaws$Reader", "place", "I", false)
  | 6 => ("QuotaLaws$Reader", "kind", "I", false)
  | 7 => ("QuotaLaws$Reader", "start", "I", false)
  | _ => ("QuotaLaws$Reader", "value", "I", false)
def ty_Reader : Nat → FieldType := fun k => match k with
  | 0 => .array .byte
  | 1 => .int
  | 2 => .int
  | 3 => .int
  | 4 => .int
  | 5 => .int
  | 6 => .int
  | 7 => .int
  | _ => .int
def T_Realm : u_T := fun k => match k with
  | 0 => ("QuotaLaws$Realm", "laws", "I", false)
  | 1 => ("QuotaLaws$Realm", "people", "I", false)
  | 2 => ("QuotaLaws$Realm", "year", "I", false)
  | 3 => ("QuotaLaws$Realm", "done", "I", false)
  | 4 => ("QuotaLaws$Realm", "stands", "I", false)
  | 5 => ("QuotaLaws$Realm", "watched", "I", false)
  | 6 => ("QuotaLaws$Realm", "quota", "[I", true)
  | 7 => ("QuotaLaws$Realm", "cap", "[I", true)
  | 8 => ("QuotaLaws$Realm", "harm", "[I", true)
  | 9 => ("QuotaLaws$Realm", "fine", "[I", true)
  | 10 => ("QuotaLaws$Realm", "carries", "[I", true)
  | 11 => ("QuotaLaws$Realm", "time", "[I", true)
  | 12 => ("QuotaLaws$Realm", "clumsy", "[I", true)
  | 13 => ("QuotaLaws$Realm", "nerve", "[I", true)
  | 14 => ("QuotaLaws$Realm", "purse", "[I", true)
  | 15 => ("QuotaLaws$Realm", "refused", "[I", true)
  | 16 => ("QuotaLaws$Realm", "wanted", "[I", true)
  | 17 => ("QuotaLaws$Realm", "breakings", "[I", true)
  | _ => ("QuotaLaws$Realm", "seen", "LQuotaLaws$Sightings;", true)
def ty_Realm : Nat → FieldType := fun k => match k with
  | 0 => .int
  | 1 => .int
  | 2 => .int
  | 3 => .int
  | 4 => .int
  | 5 => .int
  | 6 => .array .int
  | 7 => .array .int
  | 8 => .array .int
  | 9 => .array .int
  | 10 => .array .int
  | 11 => .array .int
  | 12 => .array .int
  | 13 => .array .int
  | 14 => .array .int
  | 15 => .array .int
  | 16 => .array .int
  | 17 => .array .int
  | _ => .object "QuotaLaws$Sightings"
def T_Sheet : u_T := fun k => match k with
  | 0 => ("QuotaLaws$Sheet", "size", "I", false)
  | 1 => ("QuotaLaws$Sheet", "lane", "I", false)
  | _ => ("QuotaLaws$Sheet", "cells", "[I", true)
def ty_Sheet : Nat → FieldType := fun k => match k with
  | 0 => .int
  | 1 => .int
  | _ => .array .int
def T_Sightings : u_T := fun k => match k with
  | 0 => ("QuotaLaws$Sightings", "size", "I", false)
  | 1 => ("QuotaLaws$Sightings", "kinds", "[I", true)
  | 2 => ("QuotaLaws$Sightings", "whose", "[I", true)
  | _ => ("QuotaLaws$Sightings", "times", "[I", true)
def ty_Sightings : Nat → FieldType := fun k => match k with
  | 0 => .int
  | 1 => .array .int
  | 2 => .array .int
  | _ => .array .int
def T_Tables : u_T := fun k => match k with
  | 0 => ("QuotaLaws$Tables", "laws", "I", false)
  | 1 => ("QuotaLaws$Tables", "low", "[I", true)
  | 2 => ("QuotaLaws$Tables", "high", "[I", true)
  | 3 => ("QuotaLaws$Tables", "lawDue", "[I", true)
  | 4 => ("QuotaLaws$Tables", "oneDue", "[I", true)
  | 5 => ("QuotaLaws$Tables", "time", "[I", true)
  | 6 => ("QuotaLaws$Tables", "alone", "[J", true)
  | _ => ("QuotaLaws$Tables", "ways", "[J", true)
def ty_Tables : Nat → FieldType := fun k => match k with
  | 0 => .int
  | 1 => .array .int
  | 2 => .array .int
  | 3 => .array .int
  | 4 => .array .int
  | 5 => .array .int
  | 6 => .array .long
  | _ => .array .long
def T_M : u_T := fun k => match k with
  | 0 => ("QuotaLawsModel", "st", "[I", true)
  | 1 => ("QuotaLawsModel", "isKept", "[Z", true)
  | 2 => ("QuotaLawsModel", "laws", "I", false)
  | 3 => ("QuotaLawsModel", "people", "I", false)
  | 4 => ("QuotaLawsModel", "cap", "[I", true)
  | 5 => ("QuotaLawsModel", "harm", "[I", true)
  | 6 => ("QuotaLawsModel", "fine", "[I", true)
  | 7 => ("QuotaLawsModel", "clumsy", "[I", true)
  | 8 => ("QuotaLawsModel", "nerve", "[I", true)
  | 9 => ("QuotaLawsModel", "draft", "[I", true)
  | 10 => ("QuotaLawsModel", "dLaws", "I", false)
  | 11 => ("QuotaLawsModel", "dPeople", "I", false)
  | 12 => ("QuotaLawsModel", "dCap", "[I", true)
  | 13 => ("QuotaLawsModel", "dHarm", "[I", true)
  | 14 => ("QuotaLawsModel", "dFine", "[I", true)
  | 15 => ("QuotaLawsModel", "dClumsy", "[I", true)
  | 16 => ("QuotaLawsModel", "dNerve", "[I", true)
  | 17 => ("QuotaLawsModel", "highestLaw", "I", false)
  | 18 => ("QuotaLawsModel", "highestOne", "I", false)
  | 19 => ("QuotaLawsModel", "tape", "[I", true)
  | 20 => ("QuotaLawsModel", "taped", "I", false)
  | 21 => ("QuotaLawsModel", "pos", "I", false)
  | 22 => ("QuotaLawsModel", "from", "I", false)
  | 23 => ("QuotaLawsModel", "sort", "I", false)
  | 24 => ("QuotaLawsModel", "value", "I", false)
  | 25 => ("QuotaLawsModel", "fault", "I", false)
  | 26 => ("QuotaLawsModel", "wrongAt", "I", false)
  | 27 => ("QuotaLawsModel", "least", "[I", true)
  | 28 => ("QuotaLawsModel", "needs", "[I", true)
  | 29 => ("QuotaLawsModel", "lefts", "[I", true)
  | 30 => ("QuotaLawsModel", "shares", "[I", true)
  | 31 => ("QuotaLawsModel", "saved", "[I", true)
  | 32 => ("QuotaLawsModel", "ways", "[J", true)
  | 33 => ("QuotaLawsModel", "tables", "[J", true)
  | 34 => ("QuotaLawsModel", "then", "[J", true)
  | 35 => ("QuotaLawsModel", "lanes", "[I", true)
  | 36 => ("QuotaLawsModel", "sizes", "[I", true)
  | 37 => ("QuotaLawsModel", "cells", "[I", true)
  | _ => ("QuotaLawsModel", "torn", "I", false)
def ty_M : Nat → FieldType := fun k => match k with
  | 0 => .array .int
  | 1 => .array .boolean
  | 2 => .int
  | 3 => .int
  | 4 => .array .int
  | 5 => .array .int
  | 6 => .array .int
  | 7 => .array .int
  | 8 => .array .int
  | 9 => .array .int
  | 10 => .int
  | 11 => .int
  | 12 => .array .int
  | 13 => .array .int
  | 14 => .array .int
  | 15 => .array .int
  | 16 => .array .int
  | 17 => .int
  | 18 => .int
  | 19 => .array .int
  | 20 => .int
  | 21 => .int
  | 22 => .int
  | 23 => .int
  | 24 => .int
  | 25 => .int
  | 26 => .int
  | 27 => .array .int
  | 28 => .array .int
  | 29 => .array .int
  | 30 => .array .int
  | 31 => .array .int
  | 32 => .array .long
  | 33 => .array .long
  | 34 => .array .long
  | 35 => .array .int
  | 36 => .array .int
  | 37 => .array .int
  | _ => .int
def mcls : List vw_C := [("QuotaLaws", T_Q, 10), ("QuotaLaws$Odds", T_Odds, 3), ("QuotaLaws$Planner", T_Planner, 8), ("QuotaLaws$Reader", T_Reader, 9), ("QuotaLaws$Realm", T_Realm, 19), ("QuotaLaws$Sheet", T_Sheet, 3), ("QuotaLaws$Sightings", T_Sightings, 4), ("QuotaLaws$Tables", T_Tables, 8), ("QuotaLawsModel", T_M, 39)]
def mtys (dA : Nat → ClassId) : List (ClassId × FieldType) := [(dA 0, .int), (dA 1, .byte), (dA 2, .boolean), (dA 3, .long), (dA 4, .object "QuotaLaws$Realm"), (dA 5, .object "QuotaLaws$Sheet")]
def strK : List (String × Nat × String) := [("QuotaLaws$Reader", 54, "law"), ("QuotaLaws$Reader", 67, "one"), ("QuotaLaws$Reader", 75, "want"), ("QuotaLaws$Reader", 80, "watch")]
def strL : List Nat := [3, 3, 4, 5]
def strB : List (List Int32) := [[108, 97, 119], [111, 110, 101], [119, 97, 110, 116], [119, 97, 116, 99, 104]]
def overs : List String := ["QuotaLaws$Realm", "QuotaLaws$Sheet"]
end
/-! 02.judge -/
section
/-! THE MODEL: cells by their places; a place k lies at the address 'ad k'. G: from this state of the model the method comes to its end. -/
abbrev mCell : Type := (Nat × vp_A) ⊕ (Nat × List Value)
/-- next free place, slots made so far, the cells -/
abbrev mH : Type := Nat × Nat × (Nat → mCell)
def cv (ad : Nat → Nat) : Value → Value
  | .ref k => .ref (ad k)
  | v => v
def cq (ad : Nat → Nat) (q : Nat × Value) : Nat × Value := (q.1, cv ad q.2)
def cA (ad : Nat → Nat) : vp_A → vp_A
  | (n, .inr (.inr (.inr (.inr f)))) => (n, .inr (.inr (.inr (.inr (fun j => (f j).map ad)))))
  | a => a
def cE (dA : Nat → ClassId) (ad : Nat → Nat) : mCell → va_E
  | .inl (t, a) => .inl (dA t, cA ad a)
  | .inr (c, fs) => .inr (c, fs.map (cv ad))
def dead : mCell := .inr (0, [])
def wl (dA : Nat → ClassId) (ad : Nat → Nat) (h : mH) : va_W := (List.range h.1).map (fun k => (ad k, cE dA ad (h.2.2 k)))
def mset (h : mH) (o : Nat) (c : mCell) : mH := (h.1, h.2.1, va_up h.2.2 o c)
theorem cv_cat (ad : Nat → Nat) (v : Value) : (cv ad v).category = v.category := by cases v <;> rfl
theorem wl_at {dA : Nat → ClassId} {ad : Nat → Nat} {h : mH} {o : Nat} (ho : o < h.1) : (wl dA ad h)[o]? = some (ad o, cE dA ad (h.2.2 o)) := by
  simp [wl, ho]
theorem wl_set {dA : Nat → ClassId} {ad : Nat → Nat} {h : mH} {o : Nat} {c : mCell} : (wl dA ad h).set o (ad o, cE dA ad c) = wl dA ad (mset h o c) := by
  apply List.ext_getElem?
  intro k
  by_cases hk : k < h.1
  · by_cases he : o = k
    · subst he
      simp [wl, mset, va_up, hk]
    · simp [wl, mset, va_up, hk, he, Ne.symm he]

  · rw [List.getElem?_eq_none (by simp [wl]; omega), List.getElem?_eq_none (by simp [wl, mset]; omega)]
theorem wl_of {dA : Nat → ClassId} {ad ad' : Nat → Nat} {h : mH} (hs : ∀ k, k < h.1 → (ad k, cE dA ad (h.2.2 k)) = (ad' k, cE dA ad' (h.2.2 k))) : wl dA ad h = wl dA ad' h := by
  unfold wl
  exact List.map_congr_left (fun k hk => hs k (List.mem_range.mp hk))
/-- words -/
def tbg : List Cond := lw_tbl.filter goodWord
theorem tbg_in {w : Cond} (i : Nat) (h : lw_tbl[i]? = some w) (hg : goodWord w = true) : w ∈ tbg := List.mem_filter.mpr ⟨List.mem_of_getElem? h, hg⟩
theorem tbg_good {big : List Cond} (hb : ∀ w ∈ tbg, w ∈ big) : GoodIn big tbg := fun w h => ⟨hb w h, good_of_word (List.mem_filter.mp h).2⟩
def isNest : Cond → Bool
  | .methodLinkNest .. => true
  | .fieldLinkNest .. => true
  | _ => false
def nests : List Cond := lw_tbl.filter isNest
theorem nests_in {w : Cond} (i : Nat) (h : lw_tbl[i]? = some w) (hg : isNest w = true) : w ∈ nests := List.mem_filter.mpr ⟨List.mem_of_getElem? h, hg⟩
theorem nest_warm {w : Cond} (hw : isNest w = true) {s U : State} (hW : s.WarmedH U.vm) (h : va_Nw w s) : va_Nw w U := by
  cases w <;> first | exact absurd hw Bool.false_ne_true | exact va_Nw.warmM hW h | exact va_Nw.warmF hW h
theorem nest_on {w : Cond} (hw : isNest w = true) : w.onTables = true := by
  cases w <;> first | rfl | exact absurd hw (by simp [isNest])
end
/-! 02b.core -/
section
/-- what lies outside the model's cells: nest mates' links, the String constants (places 1000 ..; their bytes 1100 ..), two statics -/
def EX (sc : Nat × (Nat → Int32)) (ad : Nat → Nat) (A : Nat → Prop) (U : State) : Prop :=
  (∀ w ∈ nests, va_Nw w U) ∧ (∀ (i : Nat) (q : String × Nat × String), strK[i]? = some q → vk_R q.1 q.2.1 q.2.2 (ad (1000 + i)) U) ∧ vk_S strK.length strL strB (fun i => ad (1000 + i)) (fun i => ad (1100 + i)) A U U.heap ∧ va_Z "java/lang/String" "COMPACT_STRINGS" "Z" (.int 1) A U U.heap ∧ (va_Z "jdk/internal/util/Preconditions" "SIOOBE_FORMATTER" "Ljava/util/function/BiFunction;" .null A U U.heap ∨ va_Z "jdk/internal/util/Preconditions" "SIOOBE_FORMATTER" "Ljava/util/function/BiFunction;" (.ref (ad 1200)) A U U.heap) ∧ (∀ C ∈ overs, va_AO C U) ∧ va_X (ad 1300) sc.1 sc.2 U U.heap ∧ ¬ A (ad 1300)
theorem EX.go {sc : Nat × (Nat → Int32)} {ad ad' : Nat → Nat} {A A' : Nat → Prop} {s U : State} {H0 : Heap} {locs : List Loc} (h : EX sc ad A s) (hW : s.WarmedH U.vm) (hS : va_S A s.heap H0 locs) (hU : U.heap = H0) (hA : ∀ q, A' q → A q) (hd : ∀ k, 1000 ≤ k → ad' k = ad k) : EX sc ad' A' U := by
  obtain ⟨h1, h2, h3, h4, h5, h6, h7, h8⟩ := h
  have hal := hW.alike
  have hb : ad (1300) < s.heap.size := by
    obtain ⟨scr, z, -⟩ := h7
    exact (Array.getElem?_eq_some_iff.mp z).1
  have e1 : (fun i => ad' (1000 + i)) = (fun i => ad (1000 + i)) := funext fun i => hd _ (by omega)
  have e2 : (fun i => ad' (1100 + i)) = (fun i => ad (1100 + i)) := funext fun i => hd _ (by omega)
  subst hU
  refine ⟨fun w hw => nest_warm (List.mem_filter.mp hw).2 hW (h1 w hw), fun i q hq => ?_, ?_, ?_, ?_, fun C hC => (h6 C hC).moved hal, ?_, ?_⟩
  · rw [hd _ (by omega)]
    exact (h2 i q hq).warm hW
  · rw [e1, e2]
    exact ((h3.kept hS.2.1).moved hal).narrow hA
  · exact ((h4.kept hS.2.1).moved hal).narrow hA
  · rw [hd 1200 (by omega)]
    rcases h5 with z | z
    · exact Or.inl (((z.kept hS.2.1).moved hal).narrow hA)
    · exact Or.inr (((z.kept hS.2.1).moved hal).narrow hA)
  · rw [hd 1300 (by omega)]
    exact (h7.kept (hS.2.1 _ hb h8)).moved hal
  · rw [hd 1300 (by omega)]
    exact fun z => h8 (hA _ z)
theorem EX.blind {sc : Nat × (Nat → Int32)} {ad : Nat → Nat} {A : Nat → Prop} {U : State} {g : JFrame} {mk : MethodId} {a : Array Value} (h : EX sc ad A U) : EX sc ad A (U.calling g mk a) := by
  obtain ⟨h1, h2, h3, h4, h5, h6, h7, h8⟩ := h
  have hal : U.vm.Alike (U.calling g mk a).vm := Vm.Alike.refl U.vm
  exact ⟨fun w hw => va_Nw.same (u := U) (U := U.calling g mk a) (nest_on (List.mem_filter.mp hw).2) rfl (h1 w hw), fun i q hq => vk_R.same (u := U) (U := U.calling g mk a) rfl (h2 i q hq), h3.moved hal, h4.moved hal, h5.imp (fun z => z.moved hal) (fun z => z.moved hal), fun C hC => (h6 C hC).moved hal, h7.moved hal, h8⟩
/-- the machine's side of a method's body -/
def Cx (sc : Nat × (Nat → Int32)) (y : MethodName) (cc : ByteArray) (mL : Nat) (ret : Option FieldType) (dC : Nat → ClassId) (dI : Nat → Nat → Nat) (dA : Nat → ClassId) (ad0 : Nat → Nat) (A : Nat → Prop) (p : Program) (s : State) (m : MethodId) (args : Array Value) (meth : Method) (c : Code) : Prop :=
  p.tables.exec = Jvm.exec ∧ c.code = cc ∧ meth.sig.returnType = ret ∧ c.maxLocals = mL ∧ meth.locks = false ∧ s.vm.findClass y.cls = some m.cls ∧ meth.name = y.name ∧ (∀ w ∈ tbg, w.before args s = true) ∧ va_K (dC, dI) mcls (mtys dA) s ∧ EX sc ad0 A s ∧ (∀ q, s.heap.size ≤ q → A q)
def hasRef (c : mCell) (j : Nat) : Prop := match c with
  | .inr (_, fs) => Value.ref j ∈ fs
  | .inl (_, _, .inr (.inr (.inr (.inr f)))) => ∃ i, f i = some j
  | _ => False
/-- the cells: few enough, none beyond the last, and all that they name is there -/
def HW (h : mH) : Prop := h.1 ≤ 1000 ∧ (∀ k, h.1 ≤ k → h.2.2 k = dead) ∧ ∀ k j, hasRef (h.2.2 k) j → j < h.1
/-- the model's state beside the machine's -/
def Sr (mL : Nat) (dC : Nat → ClassId) (dI : Nat → Nat → Nat) (dA : Nat → ClassId) (ad0 : Nat → Nat) (n0 s0 : Nat) (A : Nat → Prop) (s : State) (h : mH) (lv : List (Nat × Value)) (ad : Nat → Nat) (H : Heap) (locs : List Loc) (ls : Array Slot) : Prop :=
  va_P (dC, dI) mcls (wl dA ad h) H ∧ va_D A (wl dA ad h) ∧ va_S A s.heap H locs ∧ lv_has ls mL (lv.map (cq ad)) ∧ (∀ k, k < n0 ∨ h.1 ≤ k → ad k = ad0 k) ∧ n0 ≤ h.1 ∧ s0 ≤ h.2.1 ∧ HW h
def Qk (dC : Nat → ClassId) (dI : Nat → Nat → Nat) (dA : Nat → ClassId) (ad0 : Nat → Nat) (n0 : Nat) (A : Nat → Prop) (s : State) (args : Array Value) (r : Option Value) (h' : mH) (Qc : Array Value → State → Outcome → State → Prop) : Prop :=
  ∀ (ad : Nat → Nat) (H : Heap) (locs : List Loc) (t : State), va_P (dC, dI) mcls (wl dA ad h') H → va_D A (wl dA ad h') → va_S A s.heap H locs → (∀ k, k < n0 ∨ h'.1 ≤ k → ad k = ad0 k) → HW h' → t.heap = H → s.WarmedH t.vm → Qc args s (.returned (r.map (cv ad))) t
/-- the methods that make cells: constructors, and the law -/
def al (y : MethodName) : Bool := y.name == "<init>" || y.cls == "QuotaLawsLaw"
def nle (y : MethodName) (a b : Nat) : Prop := a ≤ b ∧ (al y = false → a = b)
theorem nle_rf {y : MethodName} {a : Nat} : nle y a a := ⟨Nat.le_refl a, fun _ => rfl⟩
theorem nle_tr {y y2 : MethodName} {a b c : Nat} (h1 : nle y2 a b) (hal : al y2 = true → al y = true) (h2 : nle y b c) : nle y a c := by
  refine ⟨Nat.le_trans h1.1 h2.1, fun z => ?_⟩
  have z2 : al y2 = false := by
    cases q : al y2 with
    | false => rfl
    | true => rw [hal q] at z; cases z
  rw [h1.2 z2]
  exact h2.2 z
/-- from this state of the model the method comes to its end: with r, and the cells h' -/
def G (sc : Nat × (Nat → Int32)) (y : MethodName) (cc : ByteArray) (mL : Nat) (ret : Option FieldType) (fr lo : Nat) (pc : Nat) (lv : List (Nat × Value)) (stk : List Value) (h : mH) (r : Option Value) (h' : mH) : Prop :=
  nle y h.1 h'.1 ∧ nle y h.2.1 h'.2.1 ∧ ∀ (l : Launch) (p : Program) (e : Env) (R : Room) (s : State) (m : MethodId) (args : Array Value) (below : List Frame) (meth : Method) (c : Code) (dC : Nat → ClassId) (dI : Nat → Nat → Nat) (dA : Nat → ClassId) (ad0 : Nat → Nat) (n0 s0 : Nat) (A : Nat → Prop) (Qc : Array Value → State → Outcome → State → Prop),
    Cx sc y cc mL ret dC dI dA ad0 A p s m args meth c → Qk dC dI dA ad0 n0 A s args r h' Qc → fr ≤ R.frames → lo ≤ R.locals → h'.1 - n0 ≤ R.cells → h'.2.1 - s0 ≤ R.slots →
    ∀ (ad : Nat → Nat) (H : Heap) (locs : List Loc) (ls : Array Slot), Sr mL dC dI dA ad0 n0 s0 A s h lv ad H locs ls →
      W p l e R s m args below meth c H locs (h.1 - n0) (h.2.1 - s0) (MQ below Qc args s (h'.1 - n0) (h'.2.1 - s0) A) (F0 m pc ls (stk.map (cv ad)))
section
variable {sc : Nat × (Nat → Int32)} {y : MethodName} {cc : ByteArray} {mL : Nat} {ret : Option FieldType} {fr lo pc : Nat} {lv : List (Nat × Value)} {stk : List Value} {h h' : mH} {r : Option Value}
/-- a row that touches neither cells nor locals -/
theorem g_pure {pc2 : Nat} {stk2 : List Value} (f : ∀ {p : Program} {l : Launch} {e : Env} {R : Room} {s : State} {m : MethodId} {args : Array Value} {below : List Frame} {meth : Method} {c : Code} {H : Heap} {locs : List Loc} {cells slots : Nat} {Q : State → Prop} {ls : Array Slot} {ad : Nat → Nat}, p.tables.exec = Jvm.exec → c.code = cc → s.vm.findClass y.cls = some m.cls → (∀ w ∈ tbg, w.before args s = true) → lv_has ls mL (lv.map (cq ad)) → W p l e R s m args below meth c H locs cells slots Q (F0 m pc2 ls (stk2.map (cv ad))) → W p l e R s m args below meth c H locs cells slots Q (F0 m pc ls (stk.map (cv ad))))
    (k : G sc y cc mL ret fr lo pc2 lv stk2 h r h') : G sc y cc mL ret fr lo pc lv stk h r h' :=
  ⟨k.1, k.2.1, fun l p e R s m args below meth c dC dI dA ad0 n0 s0 A Qc C q f1 f2 f3 f4 ad H locs ls S => f C.1 C.2.1 C.2.2.2.2.2.1 C.2.2.2.2.2.2.2.1 S.2.2.2.1 (k.2.2 l p e R s m args below meth c dC dI dA ad0 n0 s0 A Qc C q f1 f2 f3 f4 ad H locs ls S)⟩
theorem g_iconst {n : Int} (v : Int32) (hd : decode cc pc = .ok (.iconst n, 1)) (hv : Int32.ofInt n = v) (k : G sc y cc mL ret fr lo (pc + 1) lv (.int v :: stk) h r h') : G sc y cc mL ret fr lo pc lv stk h r h' :=
  g_pure (fun hx hb _ _ _ k => lv_iconst hx hb hd hv k) k
theorem g_iadd {a b : Int32} (hd : decode cc pc = .ok (.iadd, 1)) (k : G sc y cc mL ret fr lo (pc + 1) lv (.int (a + b) :: stk) h r h') : G sc y cc mL ret fr lo pc lv (.int b :: .int a :: stk) h r h' :=
  g_pure (fun hx hb _ _ _ k => lv_iadd hx hb hd k) k
theorem g_iload {i : Nat} {x : Int32} (j : Nat) (hd : decode cc pc = .ok (.iload i, 2)) (hj : lv[j]? = some (i, .int x)) (k : G sc y cc mL ret fr lo (pc + 2) lv (.int x :: stk) h r h') : G sc y cc mL ret fr lo pc lv stk h r h' :=
  g_pure (fun {_ _ _ _ _ _ _ _ _ _ _ _ _ _ _ _ ad} hx hb _ _ hl k => lv_iload hx hb hd (lv_at hl j (by rw [List.getElem?_map, hj]; rfl)) k) k
end
end
/-! 02c.rows -/
section
section
variable {sc : Nat × (Nat → Int32)} {y : MethodName} {cc : ByteArray} {mL : Nat} {ret : Option FieldType} {fr lo pc : Nat} {lv lv' : List (Nat × Value)} {stk : List Value} {h h' : mH} {r : Option Value}
theorem g_bipush {n : Int} (v : Int32) (hd : decode cc pc = .ok (.bipush n, 2)) (hv : (Int8.ofInt n).toInt32 = v) (k : G sc y cc mL ret fr lo (pc + 2) lv (.int v :: stk) h r h') : G sc y cc mL ret fr lo pc lv stk h r h' :=
  g_pure (fun hx hb hown hts hl k => lv_bipush hx hb hd hv k) k
theorem g_sipush {n : Int} (v : Int32) (hd : decode cc pc = .ok (.sipush n, 3)) (hv : (Int16.ofInt n).toInt32 = v) (k : G sc y cc mL ret fr lo (pc + 3) lv (.int v :: stk) h r h') : G sc y cc mL ret fr lo pc lv stk h r h' :=
  g_pure (fun hx hb hown hts hl k => lv_sipush hx hb hd hv k) k
theorem g_lconst {n : Fin 2} (v : Int64) (hd : decode cc pc = .ok (.lconst n, 1)) (hv : Int64.ofNat (n : Nat) = v) (k : G sc y cc mL ret fr lo (pc + 1) lv (.long v :: stk) h r h') : G sc y cc mL ret fr lo pc lv stk h r h' :=
  g_pure (fun hx hb hown hts hl k => lv_lconst hx hb hd hv k) k
theorem g_ldc {index : Nat} (v : Int32) (hd : decode cc pc = .ok (.ldc index, 2)) (hw : Cond.constant y.cls index v ∈ tbg) (k : G sc y cc mL ret fr lo (pc + 2) lv (.int v :: stk) h r h') : G sc y cc mL ret fr lo pc lv stk h r h' :=
  g_pure (fun hx hb hown hts hl k => lv_ldc hx hb hown (hts _ hw) hd k) k
theorem g_ldcw {index : Nat} (v : Int32) (hd : decode cc pc = .ok (.ldc_w index, 3)) (hw : Cond.constant y.cls index v ∈ tbg) (k : G sc y cc mL ret fr lo (pc + 3) lv (.int v :: stk) h r h') : G sc y cc mL ret fr lo pc lv stk h r h' :=
  g_pure (fun hx hb hown hts hl k => lv_ldcw hx hb hown (hts _ hw) hd k) k
theorem g_ldc2 {index : Nat} (v : Int64) (hd : decode cc pc = .ok (.ldc2_w index, 3)) (hw : Cond.constantLong y.cls index v ∈ tbg) (k : G sc y cc mL ret fr lo (pc + 3) lv (.long v :: stk) h r h') : G sc y cc mL ret fr lo pc lv stk h r h' :=
  g_pure (fun hx hb hown hts hl k => lv_ldc2 hx hb hown (hts _ hw) hd k) k
theorem g_iload_n {f : Fin 4} {i : Nat} {x : Int32} (j : Nat) (hd : decode cc pc = .ok (.iload_n f, 1)) (hi : (f : Nat) = i) (hj : lv[j]? = some (i, .int x)) (k : G sc y cc mL ret fr lo (pc + 1) lv (.int x :: stk) h r h') : G sc y cc mL ret fr lo pc lv stk h r h' :=
  g_pure (fun hx hb hown hts hl k => lv_iload_n hx hb hd hi (lv_at hl j (by rw [List.getElem?_map, hj]; rfl)) k) k
theorem g_lload_n {f : Fin 4} {i : Nat} {x : Int64} (j : Nat) (hd : decode cc pc = .ok (.lload_n f, 1)) (hi : (f : Nat) = i) (hj : lv[j]? = some (i, .long x)) (k : G sc y cc mL ret fr lo (pc + 1) lv (.long x :: stk) h r h') : G sc y cc mL ret fr lo pc lv stk h r h' :=
  g_pure (fun hx hb hown hts hl k => lv_lload_n hx hb hd hi (lv_at hl j (by rw [List.getElem?_map, hj]; rfl)) k) k
theorem g_lload {i : Nat} {x : Int64} (j : Nat) (hd : decode cc pc = .ok (.lload i, 2)) (hj : lv[j]? = some (i, .long x)) (k : G sc y cc mL ret fr lo (pc + 2) lv (.long x :: stk) h r h') : G sc y cc mL ret fr lo pc lv stk h r h' :=
  g_pure (fun hx hb hown hts hl k => lv_lload hx hb hd (lv_at hl j (by rw [List.getElem?_map, hj]; rfl)) k) k
theorem g_aload_n {f : Fin 4} {i : Nat} {x : Nat} (j : Nat) (hd : decode cc pc = .ok (.aload_n f, 1)) (hi : (f : Nat) = i) (hj : lv[j]? = some (i, .ref x)) (k : G sc y cc mL ret fr lo (pc + 1) lv (.ref x :: stk) h r h') : G sc y cc mL ret fr lo pc lv stk h r h' :=
  g_pure (fun hx hb hown hts hl k => lv_aload_n hx hb hd hi (lv_at hl j (by rw [List.getElem?_map, hj]; rfl)) k) k
theorem g_aload {i : Nat} {x : Nat} (j : Nat) (hd : decode cc pc = .ok (.aload i, 2)) (hj : lv[j]? = some (i, .ref x)) (k : G sc y cc mL ret fr lo (pc + 2) lv (.ref x :: stk) h r h') : G sc y cc mL ret fr lo pc lv stk h r h' :=
  g_pure (fun hx hb hown hts hl k => lv_aload hx hb hd (lv_at hl j (by rw [List.getElem?_map, hj]; rfl)) k) k
theorem g_isub {a b : Int32} (hd : decode cc pc = .ok (.isub, 1)) (k : G sc y cc mL ret fr lo (pc + 1) lv (.int (a - b) :: stk) h r h') : G sc y cc mL ret fr lo pc lv (.int b :: .int a :: stk) h r h' :=
  g_pure (fun hx hb hown hts hl k => lv_isub hx hb hd k) k
theorem g_imul {a b : Int32} (hd : decode cc pc = .ok (.imul, 1)) (k : G sc y cc mL ret fr lo (pc + 1) lv (.int (a * b) :: stk) h r h') : G sc y cc mL ret fr lo pc lv (.int b :: .int a :: stk) h r h' :=
  g_pure (fun hx hb hown hts hl k => lv_imul hx hb hd k) k
theorem g_iand {a b : Int32} (hd : decode cc pc = .ok (.iand, 1)) (k : G sc y cc mL ret fr lo (pc + 1) lv (.int (a &&& b) :: stk) h r h') : G sc y cc mL ret fr lo pc lv (.int b :: .int a :: stk) h r h' :=
  g_pure (fun hx hb hown hts hl k => lv_iand hx hb hd k) k
theorem g_ior {a b : Int32} (hd : decode cc pc = .ok (.ior, 1)) (k : G sc y cc mL ret fr lo (pc + 1) lv (.int (a ||| b) :: stk) h r h') : G sc y cc mL ret fr lo pc lv (.int b :: .int a :: stk) h r h' :=
  g_pure (fun hx hb hown hts hl k => lv_ior hx hb hd k) k
theorem g_ixor {a b : Int32} (hd : decode cc pc = .ok (.ixor, 1)) (k : G sc y cc mL ret fr lo (pc + 1) lv (.int (a ^^^ b) :: stk) h r h') : G sc y cc mL ret fr lo pc lv (.int b :: .int a :: stk) h r h' :=
  g_pure (fun hx hb hown hts hl k => lv_ixor hx hb hd k) k
theorem g_ladd {a b : Int64} (hd : decode cc pc = .ok (.ladd, 1)) (k : G sc y cc mL ret fr lo (pc + 1) lv (.long (a + b) :: stk) h r h') : G sc y cc mL ret fr lo pc lv (.long b :: .long a :: stk) h r h' :=
  g_pure (fun hx hb hown hts hl k => lv_ladd hx hb hd k) k
theorem g_lsub {a b : Int64} (hd : decode cc pc = .ok (.lsub, 1)) (k : G sc y cc mL ret fr lo (pc + 1) lv (.long (a - b) :: stk) h r h') : G sc y cc mL ret fr lo pc lv (.long b :: .long a :: stk) h r h' :=
  g_pure (fun hx hb hown hts hl k => lv_lsub hx hb hd k) k
theorem g_lmul {a b : Int64} (hd : decode cc pc = .ok (.lmul, 1)) (k : G sc y cc mL ret fr lo (pc + 1) lv (.long (a * b) :: stk) h r h') : G sc y cc mL ret fr lo pc lv (.long b :: .long a :: stk) h r h' :=
  g_pure (fun hx hb hown hts hl k => lv_lmul hx hb hd k) k
theorem g_idiv {a b : Int32} (hd : decode cc pc = .ok (.idiv, 1)) (hne : ¬ b = 0) (k : G sc y cc mL ret fr lo (pc + 1) lv (.int (a / b) :: stk) h r h') : G sc y cc mL ret fr lo pc lv (.int b :: .int a :: stk) h r h' :=
  g_pure (fun hx hb hown hts hl k => lv_idiv hx hb hd hne k) k
theorem g_irem {a b : Int32} (hd : decode cc pc = .ok (.irem, 1)) (hne : ¬ b = 0) (k : G sc y cc mL ret fr lo (pc + 1) lv (.int (a - a / b * b) :: stk) h r h') : G sc y cc mL ret fr lo pc lv (.int b :: .int a :: stk) h r h' :=
  g_pure (fun hx hb hown hts hl k => lv_irem hx hb hd hne k) k
theorem g_ldiv {a b : Int64} (hd : decode cc pc = .ok (.ldiv, 1)) (hne : ¬ b = 0) (k : G sc y cc mL ret fr lo (pc + 1) lv (.long (a / b) :: stk) h r h') : G sc y cc mL ret fr lo pc lv (.long b :: .long a :: stk) h r h' :=
  g_pure (fun hx hb hown hts hl k => lv_ldiv hx hb hd hne k) k
theorem g_lrem {a b : Int64} (hd : decode cc pc = .ok (.lrem, 1)) (hne : ¬ b = 0) (k : G sc y cc mL ret fr lo (pc + 1) lv (.long (a - a / b * b) :: stk) h r h') : G sc y cc mL ret fr lo pc lv (.long b :: .long a :: stk) h r h' :=
  g_pure (fun hx hb hown hts hl k => lv_lrem hx hb hd hne k) k
theorem g_ishl {a b : Int32} (hd : decode cc pc = .ok (.ishl, 1)) (k : G sc y cc mL ret fr lo (pc + 1) lv (.int (a <<< (b &&& 31)) :: stk) h r h') : G sc y cc mL ret fr lo pc lv (.int b :: .int a :: stk) h r h' :=
  g_pure (fun hx hb hown hts hl k => lv_ishl hx hb hd k) k
theorem g_ishr {a b : Int32} (hd : decode cc pc = .ok (.ishr, 1)) (k : G sc y cc mL ret fr lo (pc + 1) lv (.int (a >>> (b &&& 31)) :: stk) h r h') : G sc y cc mL ret fr lo pc lv (.int b :: .int a :: stk) h r h' :=
  g_pure (fun hx hb hown hts hl k => lv_ishr hx hb hd k) k
theorem g_iushr {a b : Int32} (hd : decode cc pc = .ok (.iushr, 1)) (k : G sc y cc mL ret fr lo (pc + 1) lv (.int (a.toUInt32 >>> (b.toUInt32 &&& Int32.toUInt32 31)).toInt32 :: stk) h r h') : G sc y cc mL ret fr lo pc lv (.int b :: .int a :: stk) h r h' :=
  g_pure (fun hx hb hown hts hl k => lv_iushr hx hb hd rfl k) k
theorem g_i2l {a : Int32} (hd : decode cc pc = .ok (.i2l, 1)) (k : G sc y cc mL ret fr lo (pc + 1) lv (.long a.toInt64 :: stk) h r h') : G sc y cc mL ret fr lo pc lv (.int a :: stk) h r h' :=
  g_pure (fun hx hb hown hts hl k => lv_i2l hx hb hd rfl k) k
theorem g_l2i {a : Int64} (hd : decode cc pc = .ok (.l2i, 1)) (k : G sc y cc mL ret fr lo (pc + 1) lv (.int a.toInt32 :: stk) h r h') : G sc y cc mL ret fr lo pc lv (.long a :: stk) h r h' :=
  g_pure (fun hx hb hown hts hl k => lv_l2i hx hb hd rfl k) k
theorem g_i2b {a : Int32} (hd : decode cc pc = .ok (.i2b, 1)) (k : G sc y cc mL ret fr lo (pc + 1) lv (.int a.toInt8.toInt32 :: stk) h r h') : G sc y cc mL ret fr lo pc lv (.int a :: stk) h r h' :=
  g_pure (fun hx hb hown hts hl k => lv_i2b hx hb hd rfl k) k
theorem g_i2s {a : Int32} (hd : decode cc pc = .ok (.i2s, 1)) (k : G sc y cc mL ret fr lo (pc + 1) lv (.int a.toInt16.toInt32 :: stk) h r h') : G sc y cc mL ret fr lo pc lv (.int a :: stk) h r h' :=
  g_pure (fun hx hb hown hts hl k => lv_i2s hx hb hd rfl k) k
theorem g_lcmp {a b : Int64} (hd : decode cc pc = .ok (.lcmp, 1)) (k : G sc y cc mL ret fr lo (pc + 1) lv (.int (lg_cmp a b) :: stk) h r h') : G sc y cc mL ret fr lo pc lv (.long b :: .long a :: stk) h r h' :=
  g_pure (fun hx hb hown hts hl k => W.lcmp hx hb hd k) k
theorem g_dup {v : Value} (hd : decode cc pc = .ok (.dup, 1)) (hc : v.category = 1) (k : G sc y cc mL ret fr lo (pc + 1) lv (v :: v :: stk) h r h') : G sc y cc mL ret fr lo pc lv (v :: stk) h r h' :=
  g_pure (fun hx hb hown hts hl k => lv_dup hx hb hd (by rw [cv_cat]; exact hc) k) k
theorem g_pop {v : Value} (hd : decode cc pc = .ok (.pop, 1)) (hc : v.category = 1) (k : G sc y cc mL ret fr lo (pc + 1) lv stk h r h') : G sc y cc mL ret fr lo pc lv (v :: stk) h r h' :=
  g_pure (fun hx hb hown hts hl k => lv_pop hx hb hd (by rw [cv_cat]; exact hc) k) k
theorem g_dup2 {v w : Value} (hd : decode cc pc = .ok (.dup2, 1)) (hc : v.category = 1) (hc2 : w.category = 1) (k : G sc y cc mL ret fr lo (pc + 1) lv (v :: w :: v :: w :: stk) h r h') : G sc y cc mL ret fr lo pc lv (v :: w :: stk) h r h' :=
  g_pure (fun hx hb hown hts hl k => lv_dup2_11 hx hb hd (by rw [cv_cat]; exact hc) (by rw [cv_cat]; exact hc2) k) k
theorem g_goto {off : Int} (tgt : Nat) (hd : decode cc pc = .ok (.goto off, 3)) (ht : (pc : Int) + off = (tgt : Int)) (k : G sc y cc mL ret fr lo tgt lv stk h r h') : G sc y cc mL ret fr lo pc lv stk h r h' :=
  g_pure (fun hx hb _ _ _ k => lv_goto hx hb hd ht k) k
theorem g_two {pc2 pc3 : Nat} {stk2 : List Value} {c1 c2 : Prop} (f : ∀ {p : Program} {l : Launch} {e : Env} {R : Room} {s : State} {m : MethodId} {args : Array Value} {below : List Frame} {meth : Method} {c : Code} {H : Heap} {locs : List Loc} {cells slots : Nat} {Q : State → Prop} {ls : Array Slot} {ad : Nat → Nat}, p.tables.exec = Jvm.exec → c.code = cc → (c1 → W p l e R s m args below meth c H locs cells slots Q (F0 m pc2 ls (stk2.map (cv ad)))) → (c2 → W p l e R s m args below meth c H locs cells slots Q (F0 m pc3 ls (stk2.map (cv ad)))) → W p l e R s m args below meth c H locs cells slots Q (F0 m pc ls (stk.map (cv ad))))
    (hor : c1 ∨ c2) (k1 : c1 → G sc y cc mL ret fr lo pc2 lv stk2 h r h') (k2 : c2 → G sc y cc mL ret fr lo pc3 lv stk2 h r h') : G sc y cc mL ret fr lo pc lv stk h r h' :=
  ⟨hor.elim (fun q => (k1 q).1) (fun q => (k2 q).1), hor.elim (fun q => (k1 q).2.1) (fun q => (k2 q).2.1), fun l p e R s m args below meth c dC dI dA ad0 n0 s0 A Qc C q f1 f2 f3 f4 ad H locs ls S => f C.1 C.2.1 (fun z => (k1 z).2.2 l p e R s m args below meth c dC dI dA ad0 n0 s0 A Qc C q f1 f2 f3 f4 ad H locs ls S) (fun z => (k2 z).2.2 l p e R s m args below meth c dC dI dA ad0 n0 s0 A Qc C q f1 f2 f3 f4 ad H locs ls S)⟩
theorem g_ifeq {a : Int32} {off : Int} (tgt : Nat) (hd : decode cc pc = .ok (.ifCond .eq off, 3)) (ht : (pc : Int) + off = (tgt : Int)) (k1 : a = 0 → G sc y cc mL ret fr lo tgt lv stk h r h') (k2 : ¬ a = 0 → G sc y cc mL ret fr lo (pc + 3) lv stk h r h') : G sc y cc mL ret fr lo pc lv (.int a :: stk) h r h' :=
  g_two (fun hx hb k1 k2 => lv_if_eq hx hb hd ht k1 k2) (Classical.em _) k1 k2
theorem g_icmpeq {a b : Int32} {off : Int} (tgt : Nat) (hd : decode cc pc = .ok (.if_icmp .eq off, 3)) (ht : (pc : Int) + off = (tgt : Int)) (k1 : a = b → G sc y cc mL ret fr lo tgt lv stk h r h') (k2 : ¬ a = b → G sc y cc mL ret fr lo (pc + 3) lv stk h r h') : G sc y cc mL ret fr lo pc lv (.int b :: .int a :: stk) h r h' :=
  g_two (fun hx hb k1 k2 => lv_icmp_eq hx hb hd ht k1 k2) (Classical.em _) k1 k2
theorem g_ifne {a : Int32} {off : Int} (tgt : Nat) (hd : decode cc pc = .ok (.ifCond .ne off, 3)) (ht : (pc : Int) + off = (tgt : Int)) (k1 : ¬ a = 0 → G sc y cc mL ret fr lo tgt lv stk h r h') (k2 : a = 0 → G sc y cc mL ret fr lo (pc + 3) lv stk h r h') : G sc y cc mL ret fr lo pc lv (.int a :: stk) h r h' :=
  g_two (fun hx hb k1 k2 => lv_if_ne hx hb hd ht k1 k2) ((Classical.em _).symm) k1 k2
theorem g_icmpne {a b : Int32} {off : Int} (tgt : Nat) (hd : decode cc pc = .ok (.if_icmp .ne off, 3)) (ht : (pc : Int) + off = (tgt : Int)) (k1 : ¬ a = b → G sc y cc mL ret fr lo tgt lv stk h r h') (k2 : a = b → G sc y cc mL ret fr lo (pc + 3) lv stk h r h') : G sc y cc mL ret fr lo pc lv (.int b :: .int a :: stk) h r h' :=
  g_two (fun hx hb k1 k2 => lv_icmp_ne hx hb hd ht k1 k2) ((Classical.em _).symm) k1 k2
theorem g_iflt {a : Int32} {off : Int} (tgt : Nat) (hd : decode cc pc = .ok (.ifCond .lt off, 3)) (ht : (pc : Int) + off = (tgt : Int)) (k1 : a < 0 → G sc y cc mL ret fr lo tgt lv stk h r h') (k2 : ¬ a < 0 → G sc y cc mL ret fr lo (pc + 3) lv stk h r h') : G sc y cc mL ret fr lo pc lv (.int a :: stk) h r h' :=
  g_two (fun hx hb k1 k2 => lv_if_lt hx hb hd ht k1 k2) (Classical.em _) k1 k2
theorem g_icmplt {a b : Int32} {off : Int} (tgt : Nat) (hd : decode cc pc = .ok (.if_icmp .lt off, 3)) (ht : (pc : Int) + off = (tgt : Int)) (k1 : a < b → G sc y cc mL ret fr lo tgt lv stk h r h') (k2 : ¬ a < b → G sc y cc mL ret fr lo (pc + 3) lv stk h r h') : G sc y cc mL ret fr lo pc lv (.int b :: .int a :: stk) h r h' :=
  g_two (fun hx hb k1 k2 => lv_icmp_lt hx hb hd ht k1 k2) (Classical.em _) k1 k2
theorem g_ifge {a : Int32} {off : Int} (tgt : Nat) (hd : decode cc pc = .ok (.ifCond .ge off, 3)) (ht : (pc : Int) + off = (tgt : Int)) (k1 : 0 ≤ a → G sc y cc mL ret fr lo tgt lv stk h r h') (k2 : ¬ 0 ≤ a → G sc y cc mL ret fr lo (pc + 3) lv stk h r h') : G sc y cc mL ret fr lo pc lv (.int a :: stk) h r h' :=
  g_two (fun hx hb k1 k2 => lv_if_ge hx hb hd ht k1 k2) (Classical.em _) k1 k2
theorem g_icmpge {a b : Int32} {off : Int} (tgt : Nat) (hd : decode cc pc = .ok (.if_icmp .ge off, 3)) (ht : (pc : Int) + off = (tgt : Int)) (k1 : b ≤ a → G sc y cc mL ret fr lo tgt lv stk h r h') (k2 : ¬ b ≤ a → G sc y cc mL ret fr lo (pc + 3) lv stk h r h') : G sc y cc mL ret fr lo pc lv (.int b :: .int a :: stk) h r h' :=
  g_two (fun hx hb k1 k2 => lv_icmp_ge hx hb hd ht k1 k2) (Classical.em _) k1 k2
theorem g_ifgt {a : Int32} {off : Int} (tgt : Nat) (hd : decode cc pc = .ok (.ifCond .gt off, 3)) (ht : (pc : Int) + off = (tgt : Int)) (k1 : 0 < a → G sc y cc mL ret fr lo tgt lv stk h r h') (k2 : ¬ 0 < a → G sc y cc mL ret fr lo (pc + 3) lv stk h r h') : G sc y cc mL ret fr lo pc lv (.int a :: stk) h r h' :=
  g_two (fun hx hb k1 k2 => lv_if_gt hx hb hd ht k1 k2) (Classical.em _) k1 k2
theorem g_icmpgt {a b : Int32} {off : Int} (tgt : Nat) (hd : decode cc pc = .ok (.if_icmp .gt off, 3)) (ht : (pc : Int) + off = (tgt : Int)) (k1 : b < a → G sc y cc mL ret fr lo tgt lv stk h r h') (k2 : ¬ b < a → G sc y cc mL ret fr lo (pc + 3) lv stk h r h') : G sc y cc mL ret fr lo pc lv (.int b :: .int a :: stk) h r h' :=
  g_two (fun hx hb k1 k2 => lv_icmp_gt hx hb hd ht k1 k2) (Classical.em _) k1 k2
theorem g_ifle {a : Int32} {off : Int} (tgt : Nat) (hd : decode cc pc = .ok (.ifCond .le off, 3)) (ht : (pc : Int) + off = (tgt : Int)) (k1 : a ≤ 0 → G sc y cc mL ret fr lo tgt lv stk h r h') (k2 : ¬ a ≤ 0 → G sc y cc mL ret fr lo (pc + 3) lv stk h r h') : G sc y cc mL ret fr lo pc lv (.int a :: stk) h r h' :=
  g_two (fun hx hb k1 k2 => lv_if_le hx hb hd ht k1 k2) (Classical.em _) k1 k2
theorem g_icmple {a b : Int32} {off : Int} (tgt : Nat) (hd : decode cc pc = .ok (.if_icmp .le off, 3)) (ht : (pc : Int) + off = (tgt : Int)) (k1 : a ≤ b → G sc y cc mL ret fr lo tgt lv stk h r h') (k2 : ¬ a ≤ b → G sc y cc mL ret fr lo (pc + 3) lv stk h r h') : G sc y cc mL ret fr lo pc lv (.int b :: .int a :: stk) h r h' :=
  g_two (fun hx hb k1 k2 => lv_icmp_le hx hb hd ht k1 k2) (Classical.em _) k1 k2
theorem g_tabIn {dflt lo_ hi_ : Int} {offs : Array Int} {len : Nat} {a : Int32} {off : Int} (tgt : Nat) (v : Int32) (hd : decode cc pc = .ok (.tableswitch dflt lo_ hi_ offs, len)) (hv : a = v) (h1 : ¬ v.toInt < lo_) (h2 : ¬ hi_ < v.toInt) (ho : offs[(v.toInt - lo_).toNat]? = some off) (ht : (pc : Int) + off = (tgt : Int)) (k : G sc y cc mL ret fr lo tgt lv stk h r h') : G sc y cc mL ret fr lo pc lv (.int a :: stk) h r h' :=
  g_pure (fun hx hb _ _ _ k => by subst hv; exact lv_tableIn hx hb hd h1 h2 ho ht k) k
theorem g_tabOut {dflt lo_ hi_ : Int} {offs : Array Int} {len : Nat} {a : Int32} (tgt n : Nat) (hd : decode cc pc = .ok (.tableswitch dflt lo_ hi_ offs, len)) (hn : hi_ < lo_ + n) (hall : ∀ i : Nat, i < n → ¬ a = Int32.ofInt (lo_ + i)) (ht : (pc : Int) + dflt = (tgt : Int)) (k : G sc y cc mL ret fr lo tgt lv stk h r h') : G sc y cc mL ret fr lo pc lv (.int a :: stk) h r h' := by
  refine g_pure (fun hx hb _ _ _ k => lv_tableOut hx hb hd ?_ ht k) k
  rcases Int.lt_or_le a.toInt lo_ with q | q
  · exact Or.inl q
  · rcases Int.lt_or_le hi_ a.toInt with q2 | q2
    · exact Or.inr q2
    · exact absurd (by rw [show lo_ + ((a.toInt - lo_).toNat : Int) = a.toInt by omega]; exact (Int32.ofInt_toInt a).symm) (hall (a.toInt - lo_).toNat (by omega))
theorem cq_pick (ad : Nat → Nat) (lv : List (Nat × Value)) (ks : List Nat) : lv_pick (lv.map (cq ad)) ks = (lv_pick lv ks).map (cq ad) := by
  induction ks with
  | nil => rfl
  | cons a ks ih =>
    simp only [lv_pick, List.filterMap_cons, List.getElem?_map] at ih ⊢
    cases lv[a]? <;> simp [ih]
theorem cq_f1 (ad : Nat → Nat) (i : Nat) (lv : List (Nat × Value)) : (lv.map (cq ad)).filter (fun q => !(q.1 == i) && !(q.1 + 1 == i && q.2.category == 2)) = (lv.filter (fun q => !(q.1 == i) && !(q.1 + 1 == i && q.2.category == 2))).map (cq ad) := by
  rw [List.filter_map]; congr 1; apply List.filter_congr; intro q _; simp [cq, cv_cat]
theorem cq_f2 (ad : Nat → Nat) (i : Nat) (lv : List (Nat × Value)) : (lv.map (cq ad)).filter (fun q => !(q.1 == i) && (!(q.1 == i + 1) && !(q.1 + 1 == i && q.2.category == 2))) = (lv.filter (fun q => !(q.1 == i) && (!(q.1 == i + 1) && !(q.1 + 1 == i && q.2.category == 2)))).map (cq ad) := by
  rw [List.filter_map]; congr 1; apply List.filter_congr; intro q _; simp [cq, cv_cat]
/-- a row that changes locals alone -/
theorem g_loc {pc2 : Nat} {stk2 : List Value} (f : ∀ {p : Program} {l : Launch} {e : Env} {R : Room} {s : State} {m : MethodId} {args : Array Value} {below : List Frame} {meth : Method} {c : Code} {H : Heap} {locs : List Loc} {cells slots : Nat} {Q : State → Prop} {ls : Array Slot} {ad : Nat → Nat}, p.tables.exec = Jvm.exec → c.code = cc → lv_has ls mL (lv.map (cq ad)) → (∀ ls', lv_has ls' mL (lv'.map (cq ad)) → W p l e R s m args below meth c H locs cells slots Q (F0 m pc2 ls' (stk2.map (cv ad)))) → W p l e R s m args below meth c H locs cells slots Q (F0 m pc ls (stk.map (cv ad))))
    (k : G sc y cc mL ret fr lo pc2 lv' stk2 h r h') : G sc y cc mL ret fr lo pc lv stk h r h' :=
  ⟨k.1, k.2.1, fun l p e R s m args below meth c dC dI dA ad0 n0 s0 A Qc C q f1 f2 f3 f4 ad H locs ls S => f C.1 C.2.1 S.2.2.2.1 (fun ls' hl => k.2.2 l p e R s m args below meth c dC dI dA ad0 n0 s0 A Qc C q f1 f2 f3 f4 ad H locs ls' ⟨S.1, S.2.1, S.2.2.1, hl, S.2.2.2.2⟩)⟩
theorem g_lv (ks : List Nat) (hk : lv_pick lv ks = lv') (k : G sc y cc mL ret fr lo pc lv' stk h r h') : G sc y cc mL ret fr lo pc lv stk h r h' :=
  g_loc (fun _ _ hl k => k _ (lv_sub hl ks (by rw [cq_pick, hk]))) k
theorem g_istore_n {f : Fin 4} {i : Nat} {x : Int32} (lv' : List (Nat × Value)) (hd : decode cc pc = .ok (.istore_n f, 1)) (hi : (f : Nat) = i) (hn : i < mL) (hl : (i, Value.int x) :: lv.filter (fun q => !(q.1 == i) && !(q.1 + 1 == i && q.2.category == 2)) = lv') (k : G sc y cc mL ret fr lo (pc + 1) lv' stk h r h') : G sc y cc mL ret fr lo pc lv (.int x :: stk) h r h' :=
  g_loc (fun hx hb h1 k => lv_istore_n hx hb hd hi h1 hn (by rw [cq_f1, ← hl]; rfl) k) k
theorem g_istore {i : Nat} {x : Int32} (lv' : List (Nat × Value)) (hd : decode cc pc = .ok (.istore i, 2)) (hn : i < mL) (hl : (i, Value.int x) :: lv.filter (fun q => !(q.1 == i) && !(q.1 + 1 == i && q.2.category == 2)) = lv') (k : G sc y cc mL ret fr lo (pc + 2) lv' stk h r h') : G sc y cc mL ret fr lo pc lv (.int x :: stk) h r h' :=
  g_loc (fun hx hb h1 k => lv_istore hx hb hd h1 hn (by rw [cq_f1, ← hl]; rfl) k) k
theorem g_astore_n {f : Fin 4} {i : Nat} {x : Nat} (lv' : List (Nat × Value)) (hd : decode cc pc = .ok (.astore_n f, 1)) (hi : (f : Nat) = i) (hn : i < mL) (hl : (i, Value.ref x) :: lv.filter (fun q => !(q.1 == i) && !(q.1 + 1 == i && q.2.category == 2)) = lv') (k : G sc y cc mL ret fr lo (pc + 1) lv' stk h r h') : G sc y cc mL ret fr lo pc lv (.ref x :: stk) h r h' :=
  g_loc (fun hx hb h1 k => lv_astore_n hx hb hd hi h1 hn (by rw [cq_f1, ← hl]; rfl) k) k
theorem g_astore {i : Nat} {x : Nat} (lv' : List (Nat × Value)) (hd : decode cc pc = .ok (.astore i, 2)) (hn : i < mL) (hl : (i, Value.ref x) :: lv.filter (fun q => !(q.1 == i) && !(q.1 + 1 == i && q.2.category == 2)) = lv') (k : G sc y cc mL ret fr lo (pc + 2) lv' stk h r h') : G sc y cc mL ret fr lo pc lv (.ref x :: stk) h r h' :=
  g_loc (fun hx hb h1 k => lv_astore hx hb hd h1 hn (by rw [cq_f1, ← hl]; rfl) k) k
theorem g_lstore_n {f : Fin 4} {i : Nat} {x : Int64} (lv' : List (Nat × Value)) (hd : decode cc pc = .ok (.lstore_n f, 1)) (hi : (f : Nat) = i) (hn : i + 1 < mL) (hl : (i, Value.long x) :: lv.filter (fun q => !(q.1 == i) && (!(q.1 == i + 1) && !(q.1 + 1 == i && q.2.category == 2))) = lv') (k : G sc y cc mL ret fr lo (pc + 1) lv' stk h r h') : G sc y cc mL ret fr lo pc lv (.long x :: stk) h r h' :=
  g_loc (fun hx hb h1 k => lv_lstore_n hx hb hd hi h1 hn (by rw [cq_f2, ← hl]; rfl) k) k
theorem g_lstore {i : Nat} {x : Int64} (lv' : List (Nat × Value)) (hd : decode cc pc = .ok (.lstore i, 2)) (hn : i + 1 < mL) (hl : (i, Value.long x) :: lv.filter (fun q => !(q.1 == i) && (!(q.1 == i + 1) && !(q.1 + 1 == i && q.2.category == 2))) = lv') (k : G sc y cc mL ret fr lo (pc + 2) lv' stk h r h') : G sc y cc mL ret fr lo pc lv (.long x :: stk) h r h' :=
  g_loc (fun hx hb h1 k => lv_lstore hx hb hd h1 hn (by rw [cq_f2, ← hl]; rfl) k) k
theorem g_iinc {i : Nat} {n : Int} {x : Int32} (j : Nat) (v : Int32) (lv' : List (Nat × Value)) (hd : decode cc pc = .ok (.iinc i n, 3)) (hj : lv[j]? = some (i, .int x)) (hv : x + Int32.ofInt n = v) (hn : i < mL) (hl : (i, Value.int v) :: lv.filter (fun q => !(q.1 == i) && !(q.1 + 1 == i && q.2.category == 2)) = lv') (k : G sc y cc mL ret fr lo (pc + 3) lv' stk h r h') : G sc y cc mL ret fr lo pc lv stk h r h' :=
  g_loc (fun hx hb h1 k => lv_iinc hx hb hd h1 (k := j) (by rw [List.getElem?_map, hj]; rfl) hv hn (by rw [cq_f1, ← hl]; rfl) k) k
end
end
/-! 02d.heap -/
section
/-! reading and writing the model's cells -/
def gV (h : mH) (o ci k : Nat) : Option Value := match h.2.2 o with
  | .inr (c, fs) => if c = ci then fs[k]? else none
  | .inl _ => none
def gI (h : mH) (o ci k : Nat) : Option Int32 := match gV h o ci k with
  | some (.int x) => some x
  | _ => none
def gL (h : mH) (o ci k : Nat) : Option Int64 := match gV h o ci k with
  | some (.long x) => some x
  | _ => none
def gR (h : mH) (o ci k : Nat) : Option Nat := match gV h o ci k with
  | some (.ref x) => some x
  | _ => none
def pV (h : mH) (o ci k : Nat) (v : Value) : Option mH := match h.2.2 o with
  | .inr (c, fs) => if c = ci ∧ k < fs.length then some (mset h o (.inr (c, fs.set k v))) else none
  | .inl _ => none
/-- an array of ints, bytes, booleans (t says which): its cell i -/
def aI (h : mH) (t o : Nat) (i : Int32) : Option Int32 := match h.2.2 o with
  | .inl (t', n, .inl f) => if t' = t ∧ ¬ (i < 0 ∨ n ≤ i.toNatClampNeg) then some (f i.toNatClampNeg) else none
  | _ => none
def sI (h : mH) (t o : Nat) (i x : Int32) : Option mH := match h.2.2 o with
  | .inl (t', n, .inl f) => if t' = t ∧ ¬ (i < 0 ∨ n ≤ i.toNatClampNeg) then some (mset h o (.inl (t, n, .inl (upd f i.toNatClampNeg x)))) else none
  | _ => none
def aL (h : mH) (o : Nat) (i : Int32) : Option Int64 := match h.2.2 o with
  | .inl (t', n, .inr (.inl f)) => if t' = 3 ∧ ¬ (i < 0 ∨ n ≤ i.toNatClampNeg) then some (f i.toNatClampNeg) else none
  | _ => none
def sL (h : mH) (o : Nat) (i : Int32) (x : Int64) : Option mH := match h.2.2 o with
  | .inl (t', n, .inr (.inl f)) => if t' = 3 ∧ ¬ (i < 0 ∨ n ≤ i.toNatClampNeg) then some (mset h o (.inl (3, n, .inr (.inl (vp_updL f i.toNatClampNeg x))))) else none
  | _ => none
def aR (h : mH) (t o : Nat) (i : Int32) : Option Nat := match h.2.2 o with
  | .inl (t', n, .inr (.inr (.inr (.inr f)))) => if t' = t ∧ ¬ (i < 0 ∨ n ≤ i.toNatClampNeg) then f i.toNatClampNeg else none
  | _ => none
def sR (h : mH) (t o ci : Nat) (i : Int32) (v : Nat) : Option mH := match h.2.2 o, h.2.2 v with
  | .inl (t', n, .inr (.inr (.inr (.inr f)))), .inr (c, _ :: _) => if t' = t ∧ c = ci ∧ ¬ (i < 0 ∨ n ≤ i.toNatClampNeg) then some (mset h o (.inl (t, n, .inr (.inr (.inr (.inr (va_up f i.toNatClampNeg (some v)))))))) else none
  | _, _ => none
def aN (h : mH) (t o : Nat) : Option Int32 := match h.2.2 o with
  | .inl (t', n, _) => if t' = t then some (Int32.ofNat n) else none
  | _ => none
theorem gV_spec {h : mH} {o ci k : Nat} {v : Value} (e : gV h o ci k = some v) : ∃ fs, h.2.2 o = .inr (ci, fs) ∧ fs[k]? = some v := by
  unfold gV at e
  split at e
  · next c fs e1 =>
    split at e
    · next e2 => subst e2; exact ⟨fs, e1, e⟩
    · cases e
  · cases e
theorem gI_spec {h : mH} {o ci k : Nat} {x : Int32} (e : gI h o ci k = some x) : gV h o ci k = some (.int x) := by
  unfold gI at e
  split at e
  · next y e1 => rw [e1, Option.some.inj e]
  · cases e
theorem gL_spec {h : mH} {o ci k : Nat} {x : Int64} (e : gL h o ci k = some x) : gV h o ci k = some (.long x) := by
  unfold gL at e
  split at e
  · next y e1 => rw [e1, Option.some.inj e]
  · cases e
theorem gR_spec {h : mH} {o ci k : Nat} {x : Nat} (e : gR h o ci k = some x) : gV h o ci k = some (.ref x) := by
  unfold gR at e
  split at e
  · next y e1 => rw [e1, Option.some.inj e]
  · cases e
theorem pV_spec {h h2 : mH} {o ci k : Nat} {v : Value} (e : pV h o ci k v = some h2) : ∃ fs, h.2.2 o = .inr (ci, fs) ∧ k < fs.length ∧ h2 = mset h o (.inr (ci, fs.set k v)) := by
  unfold pV at e
  split at e
  · next c fs e1 =>
    split at e
    · next e2 => obtain ⟨rfl, e3⟩ := e2; exact ⟨fs, e1, e3, (Option.some.inj e).symm⟩
    · cases e
  · cases e
theorem aI_spec {h : mH} {t o : Nat} {i x : Int32} (e : aI h t o i = some x) : ∃ n f, h.2.2 o = .inl (t, n, .inl f) ∧ vp_in i n ∧ x = f i.toNatClampNeg := by
  unfold aI at e
  split at e
  · next t' n f e1 =>
    split at e
    · next e2 => obtain ⟨rfl, e3⟩ := e2; exact ⟨n, f, e1, e3, (Option.some.inj e).symm⟩
    · cases e
  · cases e
theorem sI_spec {h h2 : mH} {t o : Nat} {i x : Int32} (e : sI h t o i x = some h2) : ∃ n f, h.2.2 o = .inl (t, n, .inl f) ∧ vp_in i n ∧ h2 = mset h o (.inl (t, n, .inl (upd f i.toNatClampNeg x))) := by
  unfold sI at e
  split at e
  · next t' n f e1 =>
    split at e
    · next e2 => obtain ⟨rfl, e3⟩ := e2; exact ⟨n, f, e1, e3, (Option.some.inj e).symm⟩
    · cases e
  · cases e
theorem aL_spec {h : mH} {o : Nat} {i : Int32} {x : Int64} (e : aL h o i = some x) : ∃ n f, h.2.2 o = .inl (3, n, .inr (.inl f)) ∧ vp_in i n ∧ x = f i.toNatClampNeg := by
  unfold aL at e
  split at e
  · next t' n f e1 =>
    split at e
    · next e2 => obtain ⟨rfl, e3⟩ := e2; exact ⟨n, f, e1, e3, (Option.some.inj e).symm⟩
    · cases e
  · cases e
theorem sL_spec {h h2 : mH} {o : Nat} {i : Int32} {x : Int64} (e : sL h o i x = some h2) : ∃ n f, h.2.2 o = .inl (3, n, .inr (.inl f)) ∧ vp_in i n ∧ h2 = mset h o (.inl (3, n, .inr (.inl (vp_updL f i.toNatClampNeg x)))) := by
  unfold sL at e
  split at e
  · next t' n f e1 =>
    split at e
    · next e2 => obtain ⟨rfl, e3⟩ := e2; exact ⟨n, f, e1, e3, (Option.some.inj e).symm⟩
    · cases e
  · cases e
theorem aR_spec {h : mH} {t o : Nat} {i : Int32} {x : Nat} (e : aR h t o i = some x) : ∃ n f, h.2.2 o = .inl (t, n, .inr (.inr (.inr (.inr f)))) ∧ vp_in i n ∧ f i.toNatClampNeg = some x := by
  unfold aR at e
  split at e
  · next t' n f e1 =>
    split at e
    · next e2 => obtain ⟨rfl, e3⟩ := e2; exact ⟨n, f, e1, e3, e⟩
    · cases e
  · cases e
theorem sR_spec {h h2 : mH} {t o ci : Nat} {i : Int32} {v : Nat} (e : sR h t o ci i v = some h2) : ∃ n f fs, h.2.2 o = .inl (t, n, .inr (.inr (.inr (.inr f)))) ∧ h.2.2 v = .inr (ci, fs) ∧ h.2.2 v ≠ dead ∧ vp_in i n ∧ h2 = mset h o (.inl (t, n, .inr (.inr (.inr (.inr (va_up f i.toNatClampNeg (some v))))))) := by
  unfold sR at e
  split at e
  · next t' n f c x xs e1 e0 =>
    split at e
    · next e2 => obtain ⟨rfl, rfl, e3⟩ := e2; exact ⟨n, f, x :: xs, e1, e0, by rw [e0]; simp [dead], e3, (Option.some.inj e).symm⟩
    · cases e
  · cases e
theorem aN_spec {h : mH} {t o : Nat} {x : Int32} (e : aN h t o = some x) : ∃ a : vp_A, h.2.2 o = .inl (t, a) ∧ Int32.ofNat a.1 = x := by
  unfold aN at e
  split at e
  · next t' n b e1 =>
    split at e
    · next e2 => subst e2; exact ⟨(n, b), e1, Option.some.inj e⟩
    · cases e
  · cases e
section
variable {mL : Nat} {dC : Nat → ClassId} {dI : Nat → Nat → Nat} {dA : Nat → ClassId} {ad0 : Nat → Nat} {n0 s0 : Nat} {A : Nat → Prop} {s : State} {h : mH} {lv : List (Nat × Value)} {ad : Nat → Nat} {H : Heap} {locs : List Loc} {ls : Array Slot}
theorem Sr.live (S : Sr mL dC dI dA ad0 n0 s0 A s h lv ad H locs ls) {o : Nat} (ho : h.2.2 o ≠ dead) : o < h.1 := by
  rcases Nat.lt_or_ge o h.1 with q | q
  · exact q
  · exact absurd (S.2.2.2.2.2.2.2.2.1 o q) ho
theorem Sr.obj (S : Sr mL dC dI dA ad0 n0 s0 A s h lv ad H locs ls) {o ci : Nat} {fs : List Value} (e : h.2.2 o = .inr (ci, fs)) (hne : fs ≠ []) : (wl dA ad h)[o]? = some (ad o, .inr (ci, fs.map (cv ad))) := by
  rw [wl_at (S.live (by rw [e]; intro q; cases q; exact hne rfl)), e]
  rfl
theorem Sr.arr (S : Sr mL dC dI dA ad0 n0 s0 A s h lv ad H locs ls) {o t : Nat} {a : vp_A} (e : h.2.2 o = .inl (t, a)) : (wl dA ad h)[o]? = some (ad o, .inl (dA t, cA ad a)) := by
  rw [wl_at (S.live (by rw [e]; intro q; cases q)), e]
  rfl
theorem HW.set (w : HW h) {o : Nat} {c : mCell} (ho : o < h.1) (hc : ∀ j, hasRef c j → j < h.1) : HW (mset h o c) := by
  refine ⟨w.1, fun k hk => ?_, fun k j => ?_⟩
  · have hk2 : h.1 ≤ k := hk
    show va_up h.2.2 o c k = dead
    unfold va_up
    rw [if_neg (by omega)]
    exact w.2.1 k hk2
  · show hasRef (va_up h.2.2 o c k) j → j < h.1
    unfold va_up
    split
    · exact hc j
    · exact w.2.2 k j
theorem Sr.set (S : Sr mL dC dI dA ad0 n0 s0 A s h lv ad H locs ls) {o : Nat} {c : mCell} {H1 : Heap} {locs1 : List Loc} (ho : o < h.1) (hc : ∀ j, hasRef c j → j < h.1) (hP : va_P (dC, dI) mcls (wl dA ad (mset h o c)) H1) (hD : va_D A (wl dA ad (mset h o c))) (hS : va_S A s.heap H1 locs1) : Sr mL dC dI dA ad0 n0 s0 A s (mset h o c) lv ad H1 locs1 ls :=
  ⟨hP, hD, hS, S.2.2.2.1, S.2.2.2.2.1, S.2.2.2.2.2.1, S.2.2.2.2.2.2.1, S.2.2.2.2.2.2.2.set ho hc⟩
theorem hasRef_set (w : HW h) {o ci kk : Nat} {fs : List Value} {v : Value} (e : h.2.2 o = .inr (ci, fs)) (hv : ∀ j, v = .ref j → j < h.1) : ∀ j, hasRef (.inr (ci, fs.set kk v)) j → j < h.1 := by
  intro j hj
  rcases List.mem_or_eq_of_mem_set hj with q | q
  · exact w.2.2 o j (by rw [e]; exact q)
  · exact hv j q.symm
end
section
variable {sc : Nat × (Nat → Int32)} {y : MethodName} {cc : ByteArray} {mL : Nat} {ret : Option FieldType} {fr lo pc : Nat} {lv lv' : List (Nat × Value)} {stk : List Value} {h h' : mH} {r : Option Value}
theorem g_get {C : String} {T : u_T} {N index : Nat} {o kk ci : Nat} {v : Value} (hd : decode cc pc = .ok (.getfield index, 3)) (hc : mcls[ci]? = some (C, T, N)) (hin : ∀ w ∈ u_ws C T N, w ∈ tbg) (hk : kk < N) (hlink : Cond.fieldLink y.cls index (T kk).1 (T kk).2.1 (T kk).2.2.1 ∈ tbg) (hv : gV h o ci kk = some v)
    (k : G sc y cc mL ret fr lo (pc + 3) lv (v :: stk) h r h') : G sc y cc mL ret fr lo pc lv (.ref o :: stk) h r h' :=
  ⟨k.1, k.2.1, fun l p e R s m args below meth c dC dI dA ad0 n0 s0 A Qc C q f1 f2 f3 f4 ad H locs ls S => by
    obtain ⟨fs, e1, e2⟩ := gV_spec hv
    have he := S.obj e1 (by intro q; rw [q] at e2; cases e2)
    exact va_get (D := (dC, dI)) (tys := mtys dA) C.1 C.2.1 C.2.2.2.2.2.2.2.1 hin C.2.2.2.2.2.1 C.2.2.2.2.2.2.2.2.1 S.1 o he hc kk hk (C.2.2.2.2.2.2.2.1 _ hlink) (fun _ z => z) (v := cv ad v) (by rw [List.getElem?_map, e2]; rfl) hd (k.2.2 l p e R s m args below meth c dC dI dA ad0 n0 s0 A Qc C q f1 f2 f3 f4 ad H locs ls S)⟩
theorem map_set {α β : Type} (f : α → β) (l : List α) (k : Nat) (v : α) : (l.set k v).map f = (l.map f).set k (f v) := List.map_set
theorem g_put {C : String} {T : u_T} {N index : Nat} {o kk ci : Nat} {v : Value} {h2 : mH} (ty0 : Nat → FieldType) (hty : ∀ k, k < N → parseFieldDescriptor (T k).2.2.1 = some (ty0 k)) (hnm : ∀ a, a < N → ∀ b, b < N → a ≠ b → (T a).2.1 ≠ (T b).2.1) (hd : decode cc pc = .ok (.putfield index, 3)) (hc : mcls[ci]? = some (C, T, N)) (hin : ∀ w ∈ u_ws C T N, w ∈ tbg) (hk : kk < N) (hlink : Cond.fieldLink y.cls index (T kk).1 (T kk).2.1 (T kk).2.2.1 ∈ tbg) (hfin : (T kk).2.2.2 = false) (hn : ∀ ad, narrow (ty0 kk) (cv ad v) = cv ad v) (hf : ∀ ad, fits (ty0 kk) (cv ad v) = true) (hr : ∀ j, v = .ref j → j < h.1) (hv : pV h o ci kk v = some h2)
    (k : G sc y cc mL ret fr lo (pc + 3) lv stk h2 r h') : G sc y cc mL ret fr lo pc lv (v :: .ref o :: stk) h r h' := by
  obtain ⟨fs, e1, e2, rfl⟩ := pV_spec hv
  refine ⟨k.1, k.2.1, fun l p e R s m args below meth c dC dI dA ad0 n0 s0 A Qc C q f1 f2 f3 f4 ad H locs ls S => ?_⟩
  have hne : fs ≠ [] := by intro q; rw [q] at e2; simp at e2
  have he := S.obj e1 hne
  have ho : o < h.1 := S.live (by rw [e1]; intro q; cases q; exact hne rfl)
  refine va_put (D := (dC, dI)) (tys := mtys dA) C.1 C.2.1 C.2.2.2.2.2.2.2.1 hin ty0 hty hnm C.2.2.2.2.2.1 C.2.2.2.2.2.2.2.2.1 S.1 S.2.1 S.2.2.1 o he hc kk hk (C.2.2.2.2.2.2.2.1 _ hlink) (fun _ z => z) hfin (v := cv ad v) (hty kk hk) (hn ad) (hf ad) (by rw [List.length_map]; exact e2) hd (fun H1 locs1 hP hD hS => ?_)
  have ew : (wl dA ad h).set o (ad o, .inr (ci, (fs.map (cv ad)).set kk (cv ad v))) = wl dA ad (mset h o (.inr (ci, fs.set kk v))) := by
    rw [← map_set]
    exact wl_set (c := .inr (ci, fs.set kk v))
  rw [ew] at hP hD
  exact k.2.2 l p e R s m args below meth c dC dI dA ad0 n0 s0 A Qc C q f1 f2 f3 f4 ad H1 locs1 ls (S.set ho (hasRef_set S.2.2.2.2.2.2.2 e1 hr) hP hD hS)
theorem g_putF {C : String} {T : u_T} {N index : Nat} {o kk ci : Nat} {v : Value} {h2 : mH} (ty0 : Nat → FieldType) (hty : ∀ k, k < N → parseFieldDescriptor (T k).2.2.1 = some (ty0 k)) (hnm : ∀ a, a < N → ∀ b, b < N → a ≠ b → (T a).2.1 ≠ (T b).2.1) (hd : decode cc pc = .ok (.putfield index, 3)) (hc : mcls[ci]? = some (C, T, N)) (hin : ∀ w ∈ u_ws C T N, w ∈ tbg) (hk : kk < N) (hlink : Cond.fieldLink y.cls index (T kk).1 (T kk).2.1 (T kk).2.2.1 ∈ tbg) (hfin : (T kk).2.2.2 = true) (hy : y.name = "<init>") (hdecl : (T kk).1 = y.cls) (hn : ∀ ad, narrow (ty0 kk) (cv ad v) = cv ad v) (hf : ∀ ad, fits (ty0 kk) (cv ad v) = true) (hr : ∀ j, v = .ref j → j < h.1) (hv : pV h o ci kk v = some h2)
    (k : G sc y cc mL ret fr lo (pc + 3) lv stk h2 r h') : G sc y cc mL ret fr lo pc lv (v :: .ref o :: stk) h r h' := by
  obtain ⟨fs, e1, e2, rfl⟩ := pV_spec hv
  refine ⟨k.1, k.2.1, fun l p e R s m args below meth c dC dI dA ad0 n0 s0 A Qc C q f1 f2 f3 f4 ad H locs ls S => ?_⟩
  have hne : fs ≠ [] := by intro q; rw [q] at e2; simp at e2
  have he := S.obj e1 hne
  have ho : o < h.1 := S.live (by rw [e1]; intro q; cases q; exact hne rfl)
  refine va_putF (D := (dC, dI)) (tys := mtys dA) C.1 C.2.1 C.2.2.2.2.2.2.2.1 hin ty0 hty hnm C.2.2.2.2.2.1 C.2.2.2.2.2.2.2.2.1 S.1 S.2.1 S.2.2.1 o he hc kk hk (C.2.2.2.2.2.2.2.1 _ hlink) (fun _ z => z) hfin (C.2.2.2.2.2.2.1.trans hy) hdecl (v := cv ad v) (hty kk hk) (hn ad) (hf ad) (by rw [List.length_map]; exact e2) hd (fun H1 locs1 hP hD hS => ?_)
  have ew : (wl dA ad h).set o (ad o, .inr (ci, (fs.map (cv ad)).set kk (cv ad v))) = wl dA ad (mset h o (.inr (ci, fs.set kk v))) := by
    rw [← map_set]
    exact wl_set (c := .inr (ci, fs.set kk v))
  rw [ew] at hP hD
  exact k.2.2 l p e R s m args below meth c dC dI dA ad0 n0 s0 A Qc C q f1 f2 f3 f4 ad H1 locs1 ls (S.set ho (hasRef_set S.2.2.2.2.2.2.2 e1 hr) hP hD hS)
theorem g_iald {o : Nat} {i x : Int32} (hd : decode cc pc = .ok (.iaload, 1)) (hv : aI h 0 o i = some x) (k : G sc y cc mL ret fr lo (pc + 1) lv (.int x :: stk) h r h') : G sc y cc mL ret fr lo pc lv (.int i :: .ref o :: stk) h r h' := by
  obtain ⟨n, f, e1, e2, rfl⟩ := aI_spec hv
  exact ⟨k.1, k.2.1, fun l p e R s m args below meth c dC dI dA ad0 n0 s0 A Qc C q f1 f2 f3 f4 ad H locs ls S => va_iald (D := (dC, dI)) C.1 C.2.1 C.2.2.2.2.2.2.2.2.1 S.1 o 0 (S.arr e1) rfl e2 hd (k.2.2 l p e R s m args below meth c dC dI dA ad0 n0 s0 A Qc C q f1 f2 f3 f4 ad H locs ls S)⟩
theorem g_bald {o : Nat} {i x : Int32} (hd : decode cc pc = .ok (.baload, 1)) (hv : aI h 1 o i = some x) (k : G sc y cc mL ret fr lo (pc + 1) lv (.int x :: stk) h r h') : G sc y cc mL ret fr lo pc lv (.int i :: .ref o :: stk) h r h' := by
  obtain ⟨n, f, e1, e2, rfl⟩ := aI_spec hv
  exact ⟨k.1, k.2.1, fun l p e R s m args below meth c dC dI dA ad0 n0 s0 A Qc C q f1 f2 f3 f4 ad H locs ls S => va_bald (D := (dC, dI)) C.1 C.2.1 C.2.2.2.2.2.2.2.2.1 S.1 o 1 (S.arr e1) rfl e2 hd (k.2.2 l p e R s m args below meth c dC dI dA ad0 n0 s0 A Qc C q f1 f2 f3 f4 ad H locs ls S)⟩
theorem g_zald {o : Nat} {i x : Int32} (hd : decode cc pc = .ok (.baload, 1)) (hv : aI h 2 o i = some x) (k : G sc y cc mL ret fr lo (pc + 1) lv (.int x :: stk) h r h') : G sc y cc mL ret fr lo pc lv (.int i :: .ref o :: stk) h r h' := by
  obtain ⟨n, f, e1, e2, rfl⟩ := aI_spec hv
  exact ⟨k.1, k.2.1, fun l p e R s m args below meth c dC dI dA ad0 n0 s0 A Qc C q f1 f2 f3 f4 ad H locs ls S => va_zald (D := (dC, dI)) C.1 C.2.1 C.2.2.2.2.2.2.2.2.1 S.1 o 2 (S.arr e1) rfl e2 hd (k.2.2 l p e R s m args below meth c dC dI dA ad0 n0 s0 A Qc C q f1 f2 f3 f4 ad H locs ls S)⟩
theorem g_lald {o : Nat} {i : Int32} {x : Int64} (hd : decode cc pc = .ok (.laload, 1)) (hv : aL h o i = some x) (k : G sc y cc mL ret fr lo (pc + 1) lv (.long x :: stk) h r h') : G sc y cc mL ret fr lo pc lv (.int i :: .ref o :: stk) h r h' := by
  obtain ⟨n, f, e1, e2, rfl⟩ := aL_spec hv
  exact ⟨k.1, k.2.1, fun l p e R s m args below meth c dC dI dA ad0 n0 s0 A Qc C q f1 f2 f3 f4 ad H locs ls S => va_lald (D := (dC, dI)) C.1 C.2.1 C.2.2.2.2.2.2.2.2.1 S.1 o 3 (S.arr e1) rfl e2 hd (k.2.2 l p e R s m args below meth c dC dI dA ad0 n0 s0 A Qc C q f1 f2 f3 f4 ad H locs ls S)⟩
theorem g_aald {t o x : Nat} {i : Int32} (Cn : String) (hd : decode cc pc = .ok (.aaload, 1)) (ht : ∀ dA, (mtys dA)[t]? = some (dA t, .object Cn)) (hv : aR h t o i = some x) (k : G sc y cc mL ret fr lo (pc + 1) lv (.ref x :: stk) h r h') : G sc y cc mL ret fr lo pc lv (.int i :: .ref o :: stk) h r h' := by
  obtain ⟨n, f, e1, e2, e3⟩ := aR_spec hv
  exact ⟨k.1, k.2.1, fun l p e R s m args below meth c dC dI dA ad0 n0 s0 A Qc C q f1 f2 f3 f4 ad H locs ls S => va_aldq (D := (dC, dI)) C.1 C.2.1 C.2.2.2.2.2.2.2.2.1 S.1 o t (S.arr e1) (ht dA) e2 hd (by rw [e3]; exact k.2.2 l p e R s m args below meth c dC dI dA ad0 n0 s0 A Qc C q f1 f2 f3 f4 ad H locs ls S)⟩
theorem g_iast {o : Nat} {i x : Int32} {h2 : mH} (hd : decode cc pc = .ok (.iastore, 1)) (hv : sI h 0 o i x = some h2) (k : G sc y cc mL ret fr lo (pc + 1) lv stk h2 r h') : G sc y cc mL ret fr lo pc lv (.int x :: .int i :: .ref o :: stk) h r h' := by
  obtain ⟨n, f, e1, e2, rfl⟩ := sI_spec hv
  refine ⟨k.1, k.2.1, fun l p e R s m args below meth c dC dI dA ad0 n0 s0 A Qc C q f1 f2 f3 f4 ad H locs ls S => ?_⟩
  refine va_iast (D := (dC, dI)) C.1 C.2.1 C.2.2.2.2.2.2.2.2.1 S.1 S.2.1 S.2.2.1 o 0 (S.arr e1) rfl e2 hd (fun H1 locs1 hP hD hS => ?_)
  have ew := wl_set (dA := dA) (ad := ad) (h := h) (o := o) (c := .inl (0, n, .inl (upd f i.toNatClampNeg x)))
  exact k.2.2 l p e R s m args below meth c dC dI dA ad0 n0 s0 A Qc C q f1 f2 f3 f4 ad H1 locs1 ls (S.set (S.live (by rw [e1]; intro q; cases q)) (fun j z => absurd z id) (ew ▸ hP) (ew ▸ hD) hS)
theorem g_bast {o : Nat} {i x : Int32} {h2 : mH} (hd : decode cc pc = .ok (.bastore, 1)) (hv : sI h 1 o i (vp_nar .byte x) = some h2) (k : G sc y cc mL ret fr lo (pc + 1) lv stk h2 r h') : G sc y cc mL ret fr lo pc lv (.int x :: .int i :: .ref o :: stk) h r h' := by
  obtain ⟨n, f, e1, e2, rfl⟩ := sI_spec hv
  refine ⟨k.1, k.2.1, fun l p e R s m args below meth c dC dI dA ad0 n0 s0 A Qc C q f1 f2 f3 f4 ad H locs ls S => ?_⟩
  refine va_bast (D := (dC, dI)) C.1 C.2.1 C.2.2.2.2.2.2.2.2.1 S.1 S.2.1 S.2.2.1 o 1 (S.arr e1) rfl e2 hd (fun H1 locs1 hP hD hS => ?_)
  have ew := wl_set (dA := dA) (ad := ad) (h := h) (o := o) (c := .inl (1, n, .inl (upd f i.toNatClampNeg (vp_nar .byte x))))
  exact k.2.2 l p e R s m args below meth c dC dI dA ad0 n0 s0 A Qc C q f1 f2 f3 f4 ad H1 locs1 ls (S.set (S.live (by rw [e1]; intro q; cases q)) (fun j z => absurd z id) (ew ▸ hP) (ew ▸ hD) hS)
theorem g_zast {o : Nat} {i x : Int32} {h2 : mH} (hd : decode cc pc = .ok (.bastore, 1)) (hv : sI h 2 o i (vp_nar .boolean x) = some h2) (k : G sc y cc mL ret fr lo (pc + 1) lv stk h2 r h') : G sc y cc mL ret fr lo pc lv (.int x :: .int i :: .ref o :: stk) h r h' := by
  obtain ⟨n, f, e1, e2, rfl⟩ := sI_spec hv
  refine ⟨k.1, k.2.1, fun l p e R s m args below meth c dC dI dA ad0 n0 s0 A Qc C q f1 f2 f3 f4 ad H locs ls S => ?_⟩
  refine va_zast (D := (dC, dI)) C.1 C.2.1 C.2.2.2.2.2.2.2.2.1 S.1 S.2.1 S.2.2.1 o 2 (S.arr e1) rfl e2 hd (fun H1 locs1 hP hD hS => ?_)
  have ew := wl_set (dA := dA) (ad := ad) (h := h) (o := o) (c := .inl (2, n, .inl (upd f i.toNatClampNeg (vp_nar .boolean x))))
  exact k.2.2 l p e R s m args below meth c dC dI dA ad0 n0 s0 A Qc C q f1 f2 f3 f4 ad H1 locs1 ls (S.set (S.live (by rw [e1]; intro q; cases q)) (fun j z => absurd z id) (ew ▸ hP) (ew ▸ hD) hS)
theorem g_last {o : Nat} {i : Int32} {x : Int64} {h2 : mH} (hd : decode cc pc = .ok (.lastore, 1)) (hv : sL h o i x = some h2) (k : G sc y cc mL ret fr lo (pc + 1) lv stk h2 r h') : G sc y cc mL ret fr lo pc lv (.long x :: .int i :: .ref o :: stk) h r h' := by
  obtain ⟨n, f, e1, e2, rfl⟩ := sL_spec hv
  refine ⟨k.1, k.2.1, fun l p e R s m args below meth c dC dI dA ad0 n0 s0 A Qc C q f1 f2 f3 f4 ad H locs ls S => ?_⟩
  refine va_last (D := (dC, dI)) C.1 C.2.1 C.2.2.2.2.2.2.2.2.1 S.1 S.2.1 S.2.2.1 o 3 (S.arr e1) rfl e2 hd (fun H1 locs1 hP hD hS => ?_)
  have ew := wl_set (dA := dA) (ad := ad) (h := h) (o := o) (c := .inl (3, n, .inr (.inl (vp_updL f i.toNatClampNeg x))))
  exact k.2.2 l p e R s m args below meth c dC dI dA ad0 n0 s0 A Qc C q f1 f2 f3 f4 ad H1 locs1 ls (S.set (S.live (by rw [e1]; intro q; cases q)) (fun j z => absurd z id) (ew ▸ hP) (ew ▸ hD) hS)
theorem g_alen {t o : Nat} {x : Int32} (ty : FieldType) (hd : decode cc pc = .ok (.arraylength, 1)) (ht : ∀ dA, (mtys dA)[t]? = some (dA t, ty)) (hv : aN h t o = some x) (k : G sc y cc mL ret fr lo (pc + 1) lv (.int x :: stk) h r h') : G sc y cc mL ret fr lo pc lv (.ref o :: stk) h r h' := by
  obtain ⟨a, e1, e2⟩ := aN_spec hv
  have e3 : ∀ ad, (cA ad a).1 = a.1 := by intro ad; unfold cA; split <;> rfl
  exact ⟨k.1, k.2.1, fun l p e R s m args below meth c dC dI dA ad0 n0 s0 A Qc C q f1 f2 f3 f4 ad H locs ls S => va_alen (D := (dC, dI)) C.1 C.2.1 C.2.2.2.2.2.2.2.2.1 S.1 o t (S.arr e1) (ht dA) (by rw [e3, e2]) hd (k.2.2 l p e R s m args below meth c dC dI dA ad0 n0 s0 A Qc C q f1 f2 f3 f4 ad H locs ls S)⟩
theorem g_iret {x : Int32} (hr : ret = some .int) (hd : decode cc pc = .ok (.ireturn, 1)) : G sc y cc mL ret fr lo pc lv [.int x] h (some (.int x)) h :=
  ⟨nle_rf, nle_rf, fun l p e R s m args below meth c dC dI dA ad0 n0 s0 A Qc C q f1 f2 f3 f4 ad H locs ls S => W.iret C.1 C.2.1 (C.2.2.1.trans hr) (fun t ht hW => q ad H locs t S.1 S.2.1 S.2.2.1 S.2.2.2.2.1 S.2.2.2.2.2.2.2 ht hW) S.2.2.1.2.2 hd C.2.2.2.2.1⟩
theorem g_zret {x : Int32} {ty : FieldType} (hr : ret = some ty) (hn : narrow ty (.int x) = .int x) (hd : decode cc pc = .ok (.ireturn, 1)) : G sc y cc mL ret fr lo pc lv [.int x] h (some (.int x)) h :=
  ⟨nle_rf, nle_rf, fun l p e R s m args below meth c dC dI dA ad0 n0 s0 A Qc C q f1 f2 f3 f4 ad H locs ls S => W.zret C.1 C.2.1 (C.2.2.1.trans hr) hn (fun t ht hW => q ad H locs t S.1 S.2.1 S.2.2.1 S.2.2.2.2.1 S.2.2.2.2.2.2.2 ht hW) S.2.2.1.2.2 hd C.2.2.2.2.1⟩
theorem g_lret {x : Int64} (hr : ret = some .long) (hd : decode cc pc = .ok (.lreturn, 1)) : G sc y cc mL ret fr lo pc lv [.long x] h (some (.long x)) h :=
  ⟨nle_rf, nle_rf, fun l p e R s m args below meth c dC dI dA ad0 n0 s0 A Qc C q f1 f2 f3 f4 ad H locs ls S => W.lret C.1 C.2.1 (C.2.2.1.trans hr) (fun t ht hW => q ad H locs t S.1 S.2.1 S.2.2.1 S.2.2.2.2.1 S.2.2.2.2.2.2.2 ht hW) S.2.2.1.2.2 hd C.2.2.2.2.1⟩
theorem g_vret (hr : ret = none) (hd : decode cc pc = .ok (.return_, 1)) : G sc y cc mL ret fr lo pc lv [] h none h :=
  ⟨nle_rf, nle_rf, fun l p e R s m args below meth c dC dI dA ad0 n0 s0 A Qc C q f1 f2 f3 f4 ad H locs ls S => W.vret C.1 C.2.1 (C.2.2.1.trans hr) (fun t ht hW => q ad H locs t S.1 S.2.1 S.2.2.1 S.2.2.2.2.1 S.2.2.2.2.2.2.2 ht hW) S.2.2.1.2.2 hd C.2.2.2.2.1⟩
end
end
/-! 02e.calls -/
section
/-! a method's contract over the model, out of the judgement of its body -/
def PM (sc : Nat × (Nat → Int32)) (dC : Nat → ClassId) (dI : Nat → Nat → Nat) (dA : Nat → ClassId) (ad : Nat → Nat) (sz : Nat) (h : mH) : State → Prop := fun U =>
  U.heap.size = sz ∧ va_P (dC, dI) mcls (wl dA ad h) U.heap ∧ va_D (fun _ => True) (wl dA ad h) ∧ va_K (dC, dI) mcls (mtys dA) U ∧ EX sc ad (va_A (wl dA ad h) sz) U ∧ HW h
def QM (dC : Nat → ClassId) (dI : Nat → Nat → Nat) (dA : Nat → ClassId) (ad : Nat → Nat) (sz : Nat) (h : mH) (r : Option Value) (h' : mH) : Array Value → State → Outcome → State → Prop := fun _ st oc t =>
  (∃ ad' : Nat → Nat, (∀ k, k < h.1 ∨ h'.1 ≤ k → ad' k = ad k) ∧ oc = .returned (r.map (cv ad')) ∧ va_P (dC, dI) mcls (wl dA ad' h') t.heap ∧ va_D (va_A (wl dA ad h) sz) (wl dA ad' h') ∧ HW h') ∧ va_F (va_A (wl dA ad h) sz) st t
def MM (sc : Nat × (Nat → Int32)) (y : MethodName) (cc : ByteArray) (mL : Nat) (ret : Option FieldType) (fr lo : Nat) (args : List Value) (h : mH) (r : Option Value) (h' : mH) : Prop :=
  nle y h.1 h'.1 ∧ nle y h.2.1 h'.2.1 ∧ ∀ (l : Launch) (dC : Nat → ClassId) (dI : Nat → Nat → Nat) (dA : Nat → ClassId) (ad : Nat → Nat) (sz : Nat), Met l y (.code y cc mL ret :: tbg) { frames := fr, cells := h'.1 - h.1, slots := h'.2.1 - h.2.1, locals := lo } (va_Pc (args.map (cv ad)) (PM sc dC dI dA ad sz h)) (QM dC dI dA ad sz h r h') (h'.1 - h.1) (h'.2.1 - h.2.1) (va_A (wl dA ad h) sz)
theorem lv_args_cv (ad : Nat → Nat) (vs : List Value) : ∀ i, lv_args i (vs.map (cv ad)) = (lv_args i vs).map (cq ad) := by
  induction vs with
  | nil => intro i; rfl
  | cons v vs ih => intro i; simp [lv_args, cv_cat, ih, cq]
theorem lg_sl_cv (ad : Nat → Nat) (vs : List Value) : (lg_sl (vs.map (cv ad))).length = (lg_sl vs).length := by
  induction vs with
  | nil => rfl
  | cons v vs ih =>
    simp only [lg_sl, List.map_cons, List.flatMap_cons, List.length_append] at ih ⊢
    rw [ih, cv_cat]
    split <;> rfl
theorem mm_of_G {sc : Nat × (Nat → Int32)} {y : MethodName} {cc : ByteArray} {mL : Nat} {ret : Option FieldType} {fr lo : Nat} {args : List Value} {h h' : mH} {r : Option Value} (hy : plainName y.cls = true) (hlen : (lg_sl args).length ≤ mL) (hg : G sc y cc mL ret fr lo 0 (lv_args 0 args) [] h r h') : MM sc y cc mL ret fr lo args h r h' := by
  refine ⟨hg.1, hg.2.1, fun l dC dI dA ad sz => ?_⟩
  refine Met.ofW (cc := cc) (maxL := mL) (ret := ret) hy rfl ?_
  intro p e s m args' below meth c s₁ B hml hv
  obtain ⟨rfl, hsz, hP, hD0, hK, hE, hw⟩ := hv
  have hts := atoms_spec (ws := .code y cc mL ret :: tbg) B.pre
  subst hsz
  have hD := hD0.self (sz := s.heap.size)
  have hl := lv_entry (args.map (cv ad)) (n := mL) (by rw [lg_sl_cv]; exact hlen)
  rw [lg_entry_eq]
  generalize (lg_sl (args.map (cv ad)) ++ List.replicate (mL - (lg_sl (args.map (cv ad))).length) Slot.unset).toArray = ls at hl ⊢
  rw [lv_args_cv] at hl
  have key := hg.2.2 l p e { frames := fr, cells := h'.1 - h.1, slots := h'.2.1 - h.2.1, locals := lo } s m (args.map (cv ad)).toArray below meth c dC dI dA ad h.1 h.2.1 (va_A (wl dA ad h) s.heap.size) (QM dC dI dA ad s.heap.size h r h')
    ⟨B.exec, B.bytes, B.returns, hml, B.notSynchronized, findClass_of_methodNamed B.named, (name_of_methodNamed B.named B.method).1, fun w hw => hts w (List.mem_cons_of_mem _ hw), hK, hE, fun q hq => Or.inr hq⟩
    (fun ad' H locs t hP hD hS had hw ht hW => ⟨⟨ad', had, rfl, by rw [ht]; exact hP, hD, hw⟩, hS.F ht⟩)
    (Nat.le_refl _) (Nat.le_refl _) (Nat.le_refl _) (Nat.le_refl _) ad s.heap [] ls ⟨hP, hD, va_S.rf, hl, fun _ _ => rfl, Nat.le_refl _, Nat.le_refl _, hw⟩
  rw [Nat.sub_self, Nat.sub_self] at key
  exact key
section
variable {sc : Nat × (Nat → Int32)} {y : MethodName} {cc : ByteArray} {mL : Nat} {ret : Option FieldType} {fr lo pc : Nat} {lv lv' : List (Nat × Value)} {stk rest : List Value} {h h1 h' : mH} {r r1 : Option Value}
/-- a value's places lie below n, or are none of the cells -/
def okv (n n1 : Nat) (v : Value) : Prop := ∀ k, v = .ref k → k < n ∨ n1 ≤ k
theorem cv_ok {ad ad' : Nat → Nat} {n n1 : Nat} {v : Value} (hv : okv n n1 v) (had : ∀ k, k < n ∨ n1 ≤ k → ad' k = ad k) : cv ad' v = cv ad v := by
  cases v with
  | ref k => show Value.ref (ad' k) = Value.ref (ad k); rw [had k (hv k rfl)]
  | _ => rfl
theorem okv_same {n : Nat} (v : Value) : okv n n v := fun k _ => Nat.lt_or_ge k n
theorem g_run {y2 : MethodName} (ha : nle y2 h.1 h1.1 ∧ nle y2 h.2.1 h1.2.1) (hal : al y2 = true → al y = true) (hlv : al y2 = true → ∀ q ∈ lv, okv h.1 h1.1 q.2) (hst : al y2 = true → ∀ v ∈ rest, okv h.1 h1.1 v)
    (run : ∀ (l : Launch) (p : Program) (e : Env) (R : Room) (s : State) (m : MethodId) (args : Array Value) (below : List Frame) (meth : Method) (c : Code) (dC : Nat → ClassId) (dI : Nat → Nat → Nat) (dA : Nat → ClassId) (ad0 : Nat → Nat) (n0 s0 : Nat) (A : Nat → Prop), Cx sc y cc mL ret dC dI dA ad0 A p s m args meth c → fr ≤ R.frames → lo ≤ R.locals → h1.1 - n0 ≤ R.cells → h1.2.1 - s0 ≤ R.slots →
      ∀ (ad : Nat → Nat) (H : Heap) (locs : List Loc) (ls : Array Slot), Sr mL dC dI dA ad0 n0 s0 A s h lv ad H locs ls → (∀ U : State, U.heap = H → s.WarmedH U.vm → PM sc dC dI dA ad H.size h U) →
        ∃ a, va_Run p l e R s m args below meth c H locs (h.1 - n0) (h.2.1 - s0) (h1.1 - h.1) (h1.2.1 - h.2.1) (F0 m pc ls (stk.map (cv ad))) (rest.map (cv ad)) (QM dC dI dA ad H.size h r1 h1 a) (va_A (wl dA ad h) H.size))
    (k : G sc y cc mL ret fr lo (pc + 3) lv (r1.toList ++ rest) h1 r h') : G sc y cc mL ret fr lo pc lv stk h r h' := by
  have hlv : ∀ q ∈ lv, okv h.1 h1.1 q.2 := by
    cases z : al y2 with
    | true => exact hlv z
    | false => intro q _; rw [← ha.1.2 z]; exact okv_same _
  have hst : ∀ v ∈ rest, okv h.1 h1.1 v := by
    cases z : al y2 with
    | true => exact hst z
    | false => intro q _; rw [← ha.1.2 z]; exact okv_same _
  have u1 := ha.1.1
  have u2 := ha.2.1
  refine ⟨nle_tr ha.1 hal k.1, nle_tr ha.2 hal k.2.1, fun l p e R s m args below meth c dC dI dA ad0 n0 s0 A Qc C q f1 f2 f3 f4 ad H locs ls S => ?_⟩
  obtain ⟨hP, hD, hS, hl, had0, hn0, hs0, hw⟩ := id S
  have hF : ∀ q, va_A (wl dA ad h) H.size q → A q := by
    rintro q (⟨k2, e2, z⟩ | z)
    · exact hD.2 k2 _ z
    · exact C.2.2.2.2.2.2.2.2.2.2 q (Nat.le_trans hS.1 z)
  have hpm : ∀ U : State, U.heap = H → s.WarmedH U.vm → PM sc dC dI dA ad H.size h U := fun U hU hW =>
    ⟨by rw [hU], by rw [hU]; exact hP, hD.weaken (fun _ _ _ _ => trivial), va_K.moved hW.alike C.2.2.2.2.2.2.2.2.1, C.2.2.2.2.2.2.2.2.2.1.go hW hS hU hF (fun k hk => had0 k (Or.inr (Nat.le_trans hw.1 hk))), hw⟩
  have e1 := k.1.1
  have e2 := k.2.1.1
  obtain ⟨ar, hr⟩ := run l p e R s m args below meth c dC dI dA ad0 n0 s0 A C f1 f2 (by omega) (by omega) ad H locs ls S hpm
  intro T hT X
  obtain ⟨v, st₀, t, T', L, h0, X', hL, g1, g2, ⟨⟨ad', had, hv, hP1, hD1, hw1⟩, hz, hk⟩, st⟩ := hr T hT X
  cases hv
  rw [h0] at hz hk
  have ec : h.1 - n0 + (h1.1 - h.1) = h1.1 - n0 := by omega
  have es : h.2.1 - s0 + (h1.2.1 - h.2.1) = h1.2.1 - s0 := by omega
  rw [ec, es] at X'
  have hs2 : va_S A s.heap T'.heap (locs ++ L) := ⟨Nat.le_trans hS.1 (by rw [g1]; exact hz), fun q a1 a2 => by rw [g1, hk q (Nat.lt_of_lt_of_le a1 hS.1) (fun z => a2 (hF q z))]; exact hS.2.1 q a1 a2, fun q hq => by
      rcases List.mem_append.mp hq with z | z
      · exact hS.2.2 q z
      · exact hF _ (hL q z)⟩
  have hlv2 : lv.map (cq ad') = lv.map (cq ad) := List.map_congr_left (fun q hq => by unfold cq; rw [cv_ok (hlv q hq) had])
  have hst2 : rest.map (cv ad') = rest.map (cv ad) := List.map_congr_left (fun v hv => cv_ok (hst v hv) had)
  obtain ⟨t2, a1, b1⟩ := k.2.2 l p e R s m args below meth c dC dI dA ad0 n0 s0 A Qc C q f1 f2 f3 f4 ad' T'.heap (locs ++ L) ls
    ⟨by rw [g1]; exact hP1, hD1.weaken (fun _ q _ z => hF q.1 z), hs2, by rw [hlv2]; exact hl, fun k2 hk2 => by rw [had k2 (by omega)]; exact had0 k2 (by omega), by omega, by omega, hw1⟩ T' rfl X'
  have eg : ((r1.toList ++ rest).map (cv ad')) = (r1.map (cv ad')).toList ++ rest.map (cv ad) := by
    rw [List.map_append, hst2]
    cases r1 <;> rfl
  rw [eg] at a1
  exact ⟨t2, st t2 a1, b1⟩
end
end
/-! 02f.calls2 -/
section
/-- the cell is an object of that class -/
def kC (h : mH) (b ci : Nat) : Option Unit := match h.2.2 b with
  | .inr (c, _ :: _) => if c = ci then some () else none
  | _ => none
theorem kC_spec {h : mH} {b ci : Nat} {u : Unit} (e : kC h b ci = some u) : ∃ fs, h.2.2 b = .inr (ci, fs) ∧ fs ≠ [] := by
  unfold kC at e
  split at e
  · next c x xs e1 =>
    split at e
    · next e2 => subst e2; exact ⟨x :: xs, e1, by simp⟩
    · cases e
  · cases e
def cpI (h : mH) (t src : Nat) (sp : Int32) (dst : Nat) (dp n : Int32) : Option mH := match h.2.2 src, h.2.2 dst with
  | .inl (t1, n0, .inl f), .inl (t2, n1, .inl g) => if (t1 = t ∧ t2 = t) ∧ ¬ sp < 0 ∧ ¬ dp < 0 ∧ ¬ n < 0 ∧ sp.toNatClampNeg + n.toNatClampNeg ≤ n0 ∧ dp.toNatClampNeg + n.toNatClampNeg ≤ n1 then some (mset h dst (.inl (t, n1, .inl (va_cpy f g sp.toNatClampNeg dp.toNatClampNeg n.toNatClampNeg)))) else none
  | _, _ => none
theorem cpI_spec {h h2 : mH} {t src dst : Nat} {sp dp n : Int32} (e : cpI h t src sp dst dp n = some h2) : ∃ n0 n1 f g, h.2.2 src = .inl (t, n0, .inl f) ∧ h.2.2 dst = .inl (t, n1, .inl g) ∧ (¬ sp < 0 ∧ ¬ dp < 0 ∧ ¬ n < 0 ∧ sp.toNatClampNeg + n.toNatClampNeg ≤ n0 ∧ dp.toNatClampNeg + n.toNatClampNeg ≤ n1) ∧ h2 = mset h dst (.inl (t, n1, .inl (va_cpy f g sp.toNatClampNeg dp.toNatClampNeg n.toNatClampNeg))) := by
  unfold cpI at e
  split at e
  · next t1 n0 f t2 n1 g e1 e2 =>
    split at e
    · next e3 => obtain ⟨⟨rfl, rfl⟩, e4⟩ := e3; exact ⟨n0, n1, f, g, e1, e2, e4, (Option.some.inj e).symm⟩
    · cases e
  · cases e
theorem ws_good {y2 : MethodName} {cc2 : ByteArray} {mL2 : Nat} {ret2 : Option FieldType} (hcode : Cond.code y2 cc2 mL2 ret2 ∈ tbg) : GoodIn tbg (.code y2 cc2 mL2 ret2 :: tbg) := by
  intro w hw
  rcases List.mem_cons.mp hw with rfl | hw
  · exact tbg_good (fun _ z => z) _ hcode
  · exact tbg_good (fun _ z => z) w hw
theorem PM_blind {sc : Nat × (Nat → Int32)} {dC : Nat → ClassId} {dI : Nat → Nat → Nat} {dA : Nat → ClassId} {ad : Nat → Nat} {sz : Nat} {h : mH} {av : List Value} : FrameBlind (va_Pc av (PM sc dC dI dA ad sz h)) := by
  intro a U g mk q
  obtain ⟨q0, q1, qP, qD, qK, qE, qw⟩ := q
  exact ⟨q0, q1, qP, qD, va_K.moved (u := U) (U := U.calling g mk a) (Vm.Alike.refl U.vm) qK, qE.blind, qw⟩
theorem cat_cv (ad : Nat → Nat) (l : List Value) : ((l.map (cv ad)).map fun v => v.category) = l.map fun v => v.category := by
  rw [List.map_map]
  exact List.map_congr_left (fun v _ => cv_cat ad v)
section
variable {sc : Nat × (Nat → Int32)} {y : MethodName} {cc : ByteArray} {mL : Nat} {ret : Option FieldType} {fr lo pc : Nat} {lv lv' : List (Nat × Value)} {stk rest : List Value} {h h1 h' : mH} {r r1 : Option Value}
variable {y2 : MethodName} {cc2 : ByteArray} {mL2 : Nat} {ret2 : Option FieldType} {fr2 lo2 : Nat}
theorem len_of {n : Nat} (hn : (parseMethodDescriptor y2.desc).map (fun d => d.parameters.length) = some n) : ∀ sig, parseMethodDescriptor y2.desc = some sig → n = sig.parameters.length := by
  intro sig hs
  rw [hs] at hn
  exact (Option.some.inj hn).symm
/-- what a call's site must have: the callee's words, and room -/
def site (y y2 : MethodName) (cc2 : ByteArray) (mL2 : Nat) (ret2 : Option FieldType) (fr lo fr2 lo2 n : Nat) : Prop :=
  Cond.code y2 cc2 mL2 ret2 ∈ tbg ∧ Cond.initialized y2.cls ∈ tbg ∧ (y2.cls ≠ "java/lang/invoke/MethodHandle" ∧ y2.cls ≠ "java/lang/invoke/VarHandle") ∧ (parseMethodDescriptor y2.desc).map (fun d => d.parameters.length) = some n ∧ fr2 + 1 ≤ fr ∧ 8 + (mL2 + 11) + lo2 ≤ lo
theorem g_callV {index b ci : Nat} {T : u_T} {N : Nat} (As : List Value) (hs : site y y2 cc2 mL2 ret2 fr lo fr2 lo2 As.length) (hlink : Cond.methodLink y.cls index y2 ∈ tbg) (hin : Cond.instanceMethod y2 ∈ tbg) (hsel : Cond.selects y2.cls y2 y2 ∈ tbg) (hd : decode cc pc = .ok (.invokevirtual index, 3)) (hc : mcls[ci]? = some (y2.cls, T, N)) {u : Unit} (hb : kC h b ci = some u) (hcat : (rest.map fun v => v.category).sum ≤ 8) (hal : al y2 = true → al y = true) (hlv : al y2 = true → ∀ q ∈ lv, okv h.1 h1.1 q.2) (hst : al y2 = true → ∀ v ∈ rest, okv h.1 h1.1 v) (M : MM sc y2 cc2 mL2 ret2 fr2 lo2 (.ref b :: As) h r1 h1) (hk : stk = As.reverse ++ .ref b :: rest)
    (k : G sc y cc mL ret fr lo (pc + 3) lv (r1.toList ++ rest) h1 r h') : G sc y cc mL ret fr lo pc lv stk h r h' := by
  obtain ⟨s1, s2, s3, s4, s5, s6⟩ := hs
  subst hk
  refine g_run ⟨M.1, M.2.1⟩ hal hlv hst (fun l p e R s m args below meth c dC dI dA ad0 n0 s0 A C f1 f2 f3 f4 ad H locs ls S hpm => ?_) k
  obtain ⟨fs, e1, e2⟩ := kC_spec hb
  have hts := C.2.2.2.2.2.2.2.1
  have z1 := M.1.1
  have z2 := M.2.1.1
  have z3 := S.2.2.2.2.2.1
  have z4 := S.2.2.2.2.2.2.1
  exact ⟨_, va_runV (C := y2.cls) (b := ad b) (As := As.map (cv ad)) (rest := rest.map (cv ad)) (Ts := tbg) (own := y.cls) (nL := mL) ⟨C.1, C.2.1, C.2.2.2.1, C.2.2.2.2.2.1, hts⟩ (M.2.2 l dC dI dA ad H.size)
    ⟨⟨rfl, rfl, by show fr2 + 1 ≤ _; omega, by show 8 + (mL2 + 11) + lo2 ≤ _; omega, pay_in hts (ws_good s1), List.mem_cons_self, hts _ s1, hts _ s2, s3, len_of s4, hts _ hlink⟩, hts _ hin, hts _ hsel⟩
    ⟨PM_blind, va_recv C.2.2.2.2.2.2.2.2.1 S.1 hc (S.obj e1 e2), fun U hU hW => ⟨rfl, hpm U hU hW⟩⟩ rfl (by rw [List.length_map]) S.2.2.2.1.1 (by simp [cv]) (lv_room (by rw [cat_cv]; exact hcat)) hd ⟨by omega, by omega⟩⟩
theorem g_callS {index : Nat} (As : List Value) (hs : site y y2 cc2 mL2 ret2 fr lo fr2 lo2 As.length) (hlink : Cond.methodLink y.cls index y2 ∈ tbg) (hstat : Cond.static y2 ∈ tbg) (hd : decode cc pc = .ok (.invokestatic index, 3)) (hcat : (rest.map fun v => v.category).sum ≤ 8) (hal : al y2 = true → al y = true) (hlv : al y2 = true → ∀ q ∈ lv, okv h.1 h1.1 q.2) (hst : al y2 = true → ∀ v ∈ rest, okv h.1 h1.1 v) (M : MM sc y2 cc2 mL2 ret2 fr2 lo2 As h r1 h1) (hk : stk = As.reverse ++ rest)
    (k : G sc y cc mL ret fr lo (pc + 3) lv (r1.toList ++ rest) h1 r h') : G sc y cc mL ret fr lo pc lv stk h r h' := by
  obtain ⟨s1, s2, s3, s4, s5, s6⟩ := hs
  subst hk
  refine g_run ⟨M.1, M.2.1⟩ hal hlv hst (fun l p e R s m args below meth c dC dI dA ad0 n0 s0 A C f1 f2 f3 f4 ad H locs ls S hpm => ?_) k
  have hts := C.2.2.2.2.2.2.2.1
  have z1 := M.1.1
  have z2 := M.2.1.1
  have z3 := S.2.2.2.2.2.1
  have z4 := S.2.2.2.2.2.2.1
  exact ⟨_, va_runS (As := As.map (cv ad)) (rest := rest.map (cv ad)) (Ts := tbg) (own := y.cls) (nL := mL) ⟨C.1, C.2.1, C.2.2.2.1, C.2.2.2.2.2.1, hts⟩ (M.2.2 l dC dI dA ad H.size)
    ⟨⟨rfl, rfl, by show fr2 + 1 ≤ _; omega, by show 8 + (mL2 + 11) + lo2 ≤ _; omega, pay_in hts (ws_good s1), List.mem_cons_self, hts _ s1, hts _ s2, s3, len_of s4, hts _ hlink⟩, hts _ hstat⟩
    ⟨PM_blind, fun U hU hW => ⟨rfl, hpm U hU hW⟩⟩ rfl (by rw [List.length_map]) S.2.2.2.1.1 (by simp) (lv_room (by rw [cat_cv]; exact hcat)) hd ⟨by omega, by omega⟩⟩
theorem g_callSN {index : Nat} (host : String) (As : List Value) (hs : site y y2 cc2 mL2 ret2 fr lo fr2 lo2 As.length) (hlink : Cond.methodLinkNest y.cls index y2 host ∈ nests) (hstat : Cond.static y2 ∈ tbg) (hd : decode cc pc = .ok (.invokestatic index, 3)) (hcat : (rest.map fun v => v.category).sum ≤ 8) (hal : al y2 = true → al y = true) (hlv : al y2 = true → ∀ q ∈ lv, okv h.1 h1.1 q.2) (hst : al y2 = true → ∀ v ∈ rest, okv h.1 h1.1 v) (M : MM sc y2 cc2 mL2 ret2 fr2 lo2 As h r1 h1) (hk : stk = As.reverse ++ rest)
    (k : G sc y cc mL ret fr lo (pc + 3) lv (r1.toList ++ rest) h1 r h') : G sc y cc mL ret fr lo pc lv stk h r h' := by
  obtain ⟨s1, s2, s3, s4, s5, s6⟩ := hs
  subst hk
  refine g_run ⟨M.1, M.2.1⟩ hal hlv hst (fun l p e R s m args below meth c dC dI dA ad0 n0 s0 A C f1 f2 f3 f4 ad H locs ls S hpm => ?_) k
  have hts := C.2.2.2.2.2.2.2.1
  have z1 := M.1.1
  have z2 := M.2.1.1
  have z3 := S.2.2.2.2.2.1
  have z4 := S.2.2.2.2.2.2.1
  exact ⟨_, va_runSN (host := host) (As := As.map (cv ad)) (rest := rest.map (cv ad)) (Ts := tbg) (own := y.cls) (nL := mL) ⟨C.1, C.2.1, C.2.2.2.1, C.2.2.2.2.2.1, hts⟩ (M.2.2 l dC dI dA ad H.size)
    ⟨⟨⟨rfl, rfl, by show fr2 + 1 ≤ _; omega, by show 8 + (mL2 + 11) + lo2 ≤ _; omega, pay_in hts (ws_good s1), List.mem_cons_self⟩, hts _ s1, hts _ s2, s3, len_of s4, va_Nw.use rfl (C.2.2.2.2.2.2.2.2.2.1.1 _ hlink)⟩, hts _ hstat, trivial⟩
    ⟨PM_blind, fun U hU hW => ⟨rfl, hpm U hU hW⟩⟩ rfl (by rw [List.length_map]) S.2.2.2.1.1 (by simp) (lv_room (by rw [cat_cv]; exact hcat)) hd ⟨by omega, by omega⟩⟩
theorem g_callI {index b : Nat} (As : List Value) (hs : site y y2 cc2 mL2 none fr lo fr2 lo2 As.length) (hy2 : y2.name = "<init>") (hlink : Cond.methodLink y.cls index y2 ∈ tbg) (hin : Cond.instanceMethod y2 ∈ tbg) (hd : decode cc pc = .ok (.invokespecial index, 3)) (hcat : (rest.map fun v => v.category).sum ≤ 8) (hal : al y2 = true → al y = true) (hlv : al y2 = true → ∀ q ∈ lv, okv h.1 h1.1 q.2) (hst : al y2 = true → ∀ v ∈ rest, okv h.1 h1.1 v) (M : MM sc y2 cc2 mL2 none fr2 lo2 (.ref b :: As) h r1 h1) (hk : stk = As.reverse ++ .ref b :: rest)
    (k : G sc y cc mL ret fr lo (pc + 3) lv (r1.toList ++ rest) h1 r h') : G sc y cc mL ret fr lo pc lv stk h r h' := by
  obtain ⟨s1, s2, s3, s4, s5, s6⟩ := hs
  subst hk
  refine g_run ⟨M.1, M.2.1⟩ hal hlv hst (fun l p e R s m args below meth c dC dI dA ad0 n0 s0 A C f1 f2 f3 f4 ad H locs ls S hpm => ?_) k
  have hts := C.2.2.2.2.2.2.2.1
  have z1 := M.1.1
  have z2 := M.2.1.1
  have z3 := S.2.2.2.2.2.1
  have z4 := S.2.2.2.2.2.2.1
  exact ⟨_, va_runI (b := ad b) (As := As.map (cv ad)) (rest := rest.map (cv ad)) (Ts := tbg) (own := y.cls) (nL := mL) ⟨C.1, C.2.1, C.2.2.2.1, C.2.2.2.2.2.1, hts⟩ (M.2.2 l dC dI dA ad H.size)
    ⟨⟨rfl, rfl, by show fr2 + 1 ≤ _; omega, by show 8 + (mL2 + 11) + lo2 ≤ _; omega, pay_in hts (ws_good s1), List.mem_cons_self, hts _ s1, hts _ s2, s3, len_of s4, hts _ hlink⟩, hy2, hts _ hin⟩
    ⟨PM_blind, fun U hU hW => ⟨rfl, hpm U hU hW⟩⟩ rfl (by rw [List.length_map]) S.2.2.2.1.1 (by simp [cv]) (lv_room (by rw [cat_cv]; exact hcat)) hd ⟨by omega, by omega⟩⟩
theorem g_callIN {index b : Nat} (host : String) (As : List Value) (hs : site y y2 cc2 mL2 none fr lo fr2 lo2 As.length) (hy2 : y2.name = "<init>") (hlink : Cond.methodLinkNest y.cls index y2 host ∈ nests) (hin : Cond.instanceMethod y2 ∈ tbg) (hd : decode cc pc = .ok (.invokespecial index, 3)) (hcat : (rest.map fun v => v.category).sum ≤ 8) (hal : al y2 = true → al y = true) (hlv : al y2 = true → ∀ q ∈ lv, okv h.1 h1.1 q.2) (hst : al y2 = true → ∀ v ∈ rest, okv h.1 h1.1 v) (M : MM sc y2 cc2 mL2 none fr2 lo2 (.ref b :: As) h r1 h1) (hk : stk = As.reverse ++ .ref b :: rest)
    (k : G sc y cc mL ret fr lo (pc + 3) lv (r1.toList ++ rest) h1 r h') : G sc y cc mL ret fr lo pc lv stk h r h' := by
  obtain ⟨s1, s2, s3, s4, s5, s6⟩ := hs
  subst hk
  refine g_run ⟨M.1, M.2.1⟩ hal hlv hst (fun l p e R s m args below meth c dC dI dA ad0 n0 s0 A C f1 f2 f3 f4 ad H locs ls S hpm => ?_) k
  have hts := C.2.2.2.2.2.2.2.1
  have z1 := M.1.1
  have z2 := M.2.1.1
  have z3 := S.2.2.2.2.2.1
  have z4 := S.2.2.2.2.2.2.1
  exact ⟨_, va_runIN (host := host) (b := ad b) (As := As.map (cv ad)) (rest := rest.map (cv ad)) (Ts := tbg) (own := y.cls) (nL := mL) ⟨C.1, C.2.1, C.2.2.2.1, C.2.2.2.2.2.1, hts⟩ (M.2.2 l dC dI dA ad H.size)
    ⟨⟨⟨rfl, rfl, by show fr2 + 1 ≤ _; omega, by show 8 + (mL2 + 11) + lo2 ≤ _; omega, pay_in hts (ws_good s1), List.mem_cons_self⟩, hts _ s1, hts _ s2, s3, len_of s4, va_Nw.use rfl (C.2.2.2.2.2.2.2.2.2.1.1 _ hlink)⟩, hy2, hts _ hin⟩
    ⟨PM_blind, fun U hU hW => ⟨rfl, hpm U hU hW⟩⟩ rfl (by rw [List.length_map]) S.2.2.2.1.1 (by simp [cv]) (lv_room (by rw [cat_cv]; exact hcat)) hd ⟨by omega, by omega⟩⟩
theorem g_mmax {index : Nat} {a b : Int32} (hd : decode cc pc = .ok (.invokestatic index, 3)) (hlink : Cond.methodLink y.cls index Lib.Math.max.name ∈ tbg) (hstat : Cond.static Lib.Math.max.name ∈ tbg) (hini : Cond.initialized "java/lang/Math" ∈ tbg) (hcode : Cond.code Lib.Math.max.name Lib.Math.max.code 2 (some .int) ∈ tbg) (hfr : 1 ≤ fr) (hlo : (stk.map fun v => v.category).sum + 13 ≤ lo)
    (k : G sc y cc mL ret fr lo (pc + 3) lv (.int (if a < b then b else a) :: stk) h r h') : G sc y cc mL ret fr lo pc lv (.int b :: .int a :: stk) h r h' :=
  ⟨k.1, k.2.1, fun l p e R s m args below meth c dC dI dA ad0 n0 s0 A Qc C q f1 f2 f3 f4 ad H locs ls S => by
    have hts := C.2.2.2.2.2.2.2.1
    have z1 := k.1.1
    have z2 := k.2.1.1
    exact va_mmax C.1 C.2.1 (C.2.2.2.1.trans S.2.2.2.1.1.symm) C.2.2.2.2.2.1 (hts _ hlink) (hts _ hstat) (hts _ hini) (hts _ hcode) (by omega) (by rw [cat_cv]; omega) (by omega) (by omega) hd (k.2.2 l p e R s m args below meth c dC dI dA ad0 n0 s0 A Qc C q f1 f2 f3 f4 ad H locs ls S)⟩
theorem g_mmin {index : Nat} {a b : Int32} (hd : decode cc pc = .ok (.invokestatic index, 3)) (hlink : Cond.methodLink y.cls index Lib.Math.min.name ∈ tbg) (hstat : Cond.static Lib.Math.min.name ∈ tbg) (hini : Cond.initialized "java/lang/Math" ∈ tbg) (hcode : Cond.code Lib.Math.min.name Lib.Math.min.code 2 (some .int) ∈ tbg) (hfr : 1 ≤ fr) (hlo : (stk.map fun v => v.category).sum + 13 ≤ lo)
    (k : G sc y cc mL ret fr lo (pc + 3) lv (.int (if b < a then b else a) :: stk) h r h') : G sc y cc mL ret fr lo pc lv (.int b :: .int a :: stk) h r h' :=
  ⟨k.1, k.2.1, fun l p e R s m args below meth c dC dI dA ad0 n0 s0 A Qc C q f1 f2 f3 f4 ad H locs ls S => by
    have hts := C.2.2.2.2.2.2.2.1
    have z1 := k.1.1
    have z2 := k.2.1.1
    exact va_mmin C.1 C.2.1 (C.2.2.2.1.trans S.2.2.2.1.1.symm) C.2.2.2.2.2.1 (hts _ hlink) (hts _ hstat) (hts _ hini) (hts _ hcode) (by omega) (by rw [cat_cv]; omega) (by omega) (by omega) hd (k.2.2 l p e R s m args below meth c dC dI dA ad0 n0 s0 A Qc C q f1 f2 f3 f4 ad H locs ls S)⟩
theorem g_objInit {index b : Nat} (hd : decode cc pc = .ok (.invokespecial index, 3)) (hlink : Cond.methodLink y.cls index Lib.objectInit ∈ tbg) (hin : Cond.instanceMethod Lib.objectInit ∈ tbg) (hcode : Cond.code Lib.objectInit ⟨#[0xb1]⟩ 1 none ∈ tbg) (hfr : 1 ≤ fr) (hlo : (stk.map fun v => v.category).sum + 12 ≤ lo)
    (k : G sc y cc mL ret fr lo (pc + 3) lv stk h r h') : G sc y cc mL ret fr lo pc lv (.ref b :: stk) h r h' :=
  ⟨k.1, k.2.1, fun l p e R s m args below meth c dC dI dA ad0 n0 s0 A Qc C q f1 f2 f3 f4 ad H locs ls S => by
    have hts := C.2.2.2.2.2.2.2.1
    exact W.objInit C.1 C.2.1 C.2.2.2.2.2.1 (hts _ hlink) (hts _ hin) (hts _ hcode) rfl (S.2.2.2.1.1.trans C.2.2.2.1.symm) rfl hd (by omega) (by show 2 * 0 + ((stk.map (cv ad)).map fun v => v.category).sum + 12 ≤ _; rw [cat_cv]; omega) (k.2.2 l p e R s m args below meth c dC dI dA ad0 n0 s0 A Qc C q f1 f2 f3 f4 ad H locs ls S)⟩
theorem g_copyi {index src dst : Nat} {sp dp n : Int32} {h2 : mH} (hd : decode cc pc = .ok (.invokestatic index, 3)) (hlink : Cond.methodLink y.cls index arraycopyName ∈ tbg) (hnat : Cond.native arraycopyName ∈ tbg) (hstat : Cond.static arraycopyName ∈ tbg) (hini : Cond.initialized "java/lang/System" ∈ tbg) (hfr : 1 ≤ fr) (hlo : (stk.map fun v => v.category).sum + (nativeFrameWords "java/lang/System" "arraycopy" 5 + 11) ≤ lo) (hv : cpI h 0 src sp dst dp n = some h2)
    (k : G sc y cc mL ret fr lo (pc + 3) lv stk h2 r h') : G sc y cc mL ret fr lo pc lv (.int n :: .int dp :: .ref dst :: .int sp :: .ref src :: stk) h r h' := by
  obtain ⟨n0, n1, f, g, e1, e2, ⟨b1, b2, b3, b4, b5⟩, rfl⟩ := cpI_spec hv
  refine ⟨k.1, k.2.1, fun l p e R s m args below meth c dC dI dA ad0 n0 s0 A Qc C q f1 f2 f3 f4 ad H locs ls S => ?_⟩
  have hts := C.2.2.2.2.2.2.2.1
  refine va_copyi (D := (dC, dI)) (ty := .int) C.1 C.2.1 (C.2.2.2.1.trans S.2.2.2.1.1.symm) C.2.2.2.2.2.1 (hts _ hlink) (hts _ hnat) (hts _ hstat) (hts _ hini) C.2.2.2.2.2.2.2.2.1 S.1 S.2.1 S.2.2.1 src dst 0 0 (S.arr e1) (S.arr e2) rfl rfl rfl b1 b2 b3 b4 b5 (fun _ _ => rfl) (by omega) (by rw [cat_cv]; omega) hd (fun H1 locs1 hP hD hS => ?_)
  have ew := wl_set (dA := dA) (ad := ad) (h := h) (o := dst) (c := .inl (0, n1, .inl (va_cpy f g sp.toNatClampNeg dp.toNatClampNeg n.toNatClampNeg)))
  exact k.2.2 l p e R s m args below meth c dC dI dA ad0 _ s0 A Qc C q f1 f2 f3 f4 ad H1 locs1 ls (S.set (S.live (by rw [e2]; intro q; cases q)) (fun j z => absurd z id) (ew ▸ hP) (ew ▸ hD) hS)
end
end
/-! 02g.new -/
section
/-! making cells -/
def mnew (h : mH) (sl : Nat) (c : mCell) : mH := (h.1 + 1, h.2.1 + sl, va_up h.2.2 h.1 c)
theorem cE_ok {dA : Nat → ClassId} {ad ad' : Nat → Nat} {c : mCell} (hc : ∀ j, hasRef c j → ad' j = ad j) : cE dA ad' c = cE dA ad c := by
  cases c with
  | inr q =>
    obtain ⟨ci, fs⟩ := q
    show Sum.inr (ci, fs.map (cv ad')) = Sum.inr (ci, fs.map (cv ad))
    rw [List.map_congr_left (fun v hv => ?_)]
    cases v with
    | ref k => show Value.ref (ad' k) = Value.ref (ad k); rw [hc k hv]
    | _ => rfl
  | inl q =>
    obtain ⟨t, n, a⟩ := q
    rcases a with f | f | f | f | f
    · rfl
    · rfl
    · rfl
    · rfl
    · show Sum.inl (dA t, n, Sum.inr (Sum.inr (Sum.inr (Sum.inr (fun j => (f j).map ad'))))) = Sum.inl (dA t, n, Sum.inr (Sum.inr (Sum.inr (Sum.inr (fun j => (f j).map ad)))))
      have e : (fun j => (f j).map ad') = (fun j => (f j).map ad) := by
        funext j
        cases hj : f j with
        | none => rfl
        | some x => show some (ad' x) = some (ad x); rw [hc x ⟨j, hj⟩]
      rw [e]
theorem wl_new {dA : Nat → ClassId} {ad : Nat → Nat} {h : mH} {sl q : Nat} {c : mCell} (w : HW h) (hc : ∀ j, ¬ hasRef c j) : wl dA ad h ++ [(q, cE dA ad c)] = wl dA (va_up ad h.1 q) (mnew h sl c) := by
  have e0 : ∀ k, k < h.1 → va_up ad h.1 q k = ad k := fun k hk => by unfold va_up; rw [if_neg (by omega)]
  unfold wl mnew
  show _ = (List.range (h.1 + 1)).map _
  rw [List.range_succ, List.map_append]
  congr 1
  · refine List.map_congr_left (fun k hk => ?_)
    have hk2 := List.mem_range.mp hk
    have e1 : va_up h.2.2 h.1 c k = h.2.2 k := by unfold va_up; rw [if_neg (by omega)]
    show (ad k, cE dA ad (h.2.2 k)) = (va_up ad h.1 q k, cE dA (va_up ad h.1 q) (va_up h.2.2 h.1 c k))
    rw [e1, e0 k hk2, cE_ok (ad := ad) (fun j hj => e0 j (w.2.2 k j hj))]
  · show [(q, cE dA ad c)] = [(va_up ad h.1 q h.1, cE dA (va_up ad h.1 q) (va_up h.2.2 h.1 c h.1))]
    have e1 : va_up h.2.2 h.1 c h.1 = c := by unfold va_up; rw [if_pos rfl]
    have e2 : va_up ad h.1 q h.1 = q := by unfold va_up; rw [if_pos rfl]
    rw [e1, e2, cE_ok (ad := ad) (ad' := va_up ad h.1 q) (fun j hj => absurd hj (hc j))]
theorem HW.new {h : mH} {sl : Nat} {c : mCell} (w : HW h) (hlt : h.1 < 1000) (hc : ∀ j, ¬ hasRef c j) : HW (mnew h sl c) := by
  refine ⟨hlt, fun k hk => ?_, fun k j => ?_⟩
  · have hk2 : h.1 + 1 ≤ k := hk
    show va_up h.2.2 h.1 c k = dead
    unfold va_up
    rw [if_neg (by omega)]
    exact w.2.1 k (by omega)
  · show hasRef (va_up h.2.2 h.1 c k) j → j < h.1 + 1
    unfold va_up
    split
    · exact fun z => absurd z (hc j)
    · exact fun z => Nat.lt_succ_of_lt (w.2.2 k j z)
section
variable {mL : Nat} {dC : Nat → ClassId} {dI : Nat → Nat → Nat} {dA : Nat → ClassId} {ad0 : Nat → Nat} {n0 s0 : Nat} {A : Nat → Prop} {s : State} {h : mH} {lv : List (Nat × Value)} {ad : Nat → Nat} {H : Heap} {locs : List Loc} {ls : Array Slot}
theorem Sr.new (S : Sr mL dC dI dA ad0 n0 s0 A s h lv ad H locs ls) {sl q : Nat} {c : mCell} {H1 : Heap} {locs1 : List Loc} (hlt : h.1 < 1000) (hc : ∀ j, ¬ hasRef c j) (hlv : ∀ q ∈ lv, okv h.1 (h.1 + 1) q.2) (hP : va_P (dC, dI) mcls (wl dA ad h ++ [(q, cE dA ad c)]) H1) (hD : va_D A (wl dA ad h ++ [(q, cE dA ad c)])) (hS : va_S A s.heap H1 locs1) : Sr mL dC dI dA ad0 n0 s0 A s (mnew h sl c) lv (va_up ad h.1 q) H1 locs1 ls := by
  obtain ⟨-, -, -, h4, h5, h6, h7, w⟩ := S
  rw [wl_new (sl := sl) w hc] at hP hD
  have e0 : ∀ k, k < h.1 ∨ h.1 + 1 ≤ k → va_up ad h.1 q k = ad k := fun k hk => by unfold va_up; rw [if_neg (by omega)]
  have hlv2 : lv.map (cq (va_up ad h.1 q)) = lv.map (cq ad) := List.map_congr_left (fun z hz => by unfold cq; rw [cv_ok (hlv z hz) e0])
  refine ⟨hP, hD, hS, by rw [hlv2]; exact h4, fun k hk => ?_, Nat.le_succ_of_le h6, Nat.le_trans h7 (Nat.le_add_right _ _), w.new hlt hc⟩
  have hk2 : k < n0 ∨ h.1 + 1 ≤ k := hk
  rw [e0 k (by omega)]
  exact h5 k (by omega)
end
section
variable {sc : Nat × (Nat → Int32)} {y : MethodName} {cc : ByteArray} {mL : Nat} {ret : Option FieldType} {fr lo pc : Nat} {lv lv' : List (Nat × Value)} {stk rest : List Value} {h h1 h' : mH} {r r1 : Option Value}
theorem up_at {α : Type} (f : Nat → α) (k : Nat) (v : α) : va_up f k v k = v := by unfold va_up; rw [if_pos rfl]
theorem stk_new {ad : Nat → Nat} {n q : Nat} (hst : ∀ v ∈ stk, okv n (n + 1) v) : (Value.ref n :: stk).map (cv (va_up ad n q)) = .ref q :: stk.map (cv ad) := by
  have e0 : ∀ k, k < n ∨ n + 1 ≤ k → va_up ad n q k = ad k := fun k hk => by unfold va_up; rw [if_neg (by omega)]
  rw [List.map_cons, List.map_congr_left (fun v hv => cv_ok (hst v hv) e0)]
  show Value.ref (va_up ad n q n) :: _ = _
  rw [up_at]
theorem g_new (hyl : al y = true) {C : String} {T : u_T} {N index ci : Nat} (fs : List Value) (ty0 : Nat → FieldType) (hty : ∀ k, k < N → parseFieldDescriptor (T k).2.2.1 = some (ty0 k)) (hd : decode cc pc = .ok (.new index, 3)) (hc : mcls[ci]? = some (C, T, N)) (hin : ∀ w ∈ u_ws C T N, w ∈ tbg) (hcl : Cond.classLink y.cls index C ∈ tbg) (hinst : Cond.instantiable C N ∈ tbg) (hini : Cond.initialized C ∈ tbg) (hfs : ∀ j, j < N → defaultValue (ty0 j) = vp_V fs j) (hnr : ∀ v ∈ fs, ∀ k, v ≠ .ref k) (hlt : h.1 < 1000) (hlv : ∀ q ∈ lv, okv h.1 (h.1 + 1) q.2) (hst : ∀ v ∈ stk, okv h.1 (h.1 + 1) v)
    (k : G sc y cc mL ret fr lo (pc + 3) lv (.ref h.1 :: stk) (mnew h N (.inr (ci, fs))) r h') : G sc y cc mL ret fr lo pc lv stk h r h' := by
  have k1 : h.1 + 1 ≤ h'.1 := k.1.1
  have k2 : h.2.1 + N ≤ h'.2.1 := k.2.1.1
  refine ⟨⟨by omega, fun z => absurd (hyl.symm.trans z) (by decide)⟩, ⟨by omega, fun z => absurd (hyl.symm.trans z) (by decide)⟩, fun l p e R s m args below meth c dC dI dA ad0 n0 s0 A Qc C q f1 f2 f3 f4 ad H locs ls S => ?_⟩
  have hts := C.2.2.2.2.2.2.2.1
  have z3 := S.2.2.2.2.2.1
  have z4 := S.2.2.2.2.2.2.1
  have efs : fs.map (cv ad) = fs := by
    have e : fs.map (cv ad) = fs.map id := List.map_congr_left (fun v hv => by
      cases v with
      | ref k => exact absurd rfl (hnr _ hv k)
      | _ => rfl)
    rw [e, List.map_id]
  have hcr : ∀ j, ¬ hasRef (.inr (ci, fs)) j := fun j hj => hnr _ hj j rfl
  refine va_new (D := (dC, dI)) (tys := mtys dA) (fs := fs) C.1 C.2.1 hts hin ty0 hty C.2.2.2.2.2.1 (hts _ hcl) (hts _ hinst) (hts _ hini) C.2.2.2.2.2.2.2.2.1 S.1 S.2.1 S.2.2.1 C.2.2.2.2.2.2.2.2.2.2 hc hfs (by omega) (by omega) hd (fun qa H1 hP hD hS => ?_)
  have ec : cE dA ad (.inr (ci, fs)) = .inr (ci, fs) := by show Sum.inr (ci, fs.map (cv ad)) = _; rw [efs]
  have key := k.2.2 l p e R s m args below meth c dC dI dA ad0 n0 s0 A Qc C q f1 f2 f3 f4 (va_up ad h.1 qa) H1 locs ls (S.new hlt hcr hlv (by rw [ec]; exact hP) (by rw [ec]; exact hD) hS)
  rw [stk_new hst, show (mnew h N (.inr (ci, fs))).1 - n0 = h.1 - n0 + 1 by show h.1 + 1 - n0 = _; omega, show (mnew h N (.inr (ci, fs))).2.1 - s0 = h.2.1 - s0 + N by show h.2.1 + N - s0 = _; omega] at key
  exact key
theorem g_newa (hyl : al y = true) {atype : ArrayType} {n : Int32} (t N' : Nat) (ty : FieldType) (a0 : vp_A) (harr : Cond.arrayClass ty ∈ tbg) (hty : newarray.typeOf atype = ty) (ht : ∀ dA, (mtys dA)[t]? = some (dA t, ty)) (hra : ∀ (U : State) (c1 c2 : ClassId), va_RA U c1 ty → va_RA U c2 ty → c1 = c2) (ha : ∀ cA : ClassId, vp_cell cA a0 = arrV cA N' (fun _ => defaultValue ty)) (ha2 : ∀ ad, cA ad a0 = a0) (hnr : ∀ j, ¬ hasRef (.inl (t, a0)) j) (hn : ¬ n < 0) (hN : n.toNatClampNeg = N') (hbytes : N' * componentBytes ty ≤ 536870912) (hd : decode cc pc = .ok (.newarray atype, 2)) (hlt : h.1 < 1000) (hlv : ∀ q ∈ lv, okv h.1 (h.1 + 1) q.2) (hst : ∀ v ∈ stk, okv h.1 (h.1 + 1) v)
    (k : G sc y cc mL ret fr lo (pc + 2) lv (.ref h.1 :: stk) (mnew h N' (.inl (t, a0))) r h') : G sc y cc mL ret fr lo pc lv (.int n :: stk) h r h' := by
  have k1 : h.1 + 1 ≤ h'.1 := k.1.1
  have k2 : h.2.1 + N' ≤ h'.2.1 := k.2.1.1
  refine ⟨⟨by omega, fun z => absurd (hyl.symm.trans z) (by decide)⟩, ⟨by omega, fun z => absurd (hyl.symm.trans z) (by decide)⟩, fun l p e R s m args below meth c dC dI dA ad0 n0 s0 A Qc C q f1 f2 f3 f4 ad H locs ls S => ?_⟩
  have hts := C.2.2.2.2.2.2.2.1
  have hK := C.2.2.2.2.2.2.2.2.1
  have z3 := S.2.2.2.2.2.1
  have z4 := S.2.2.2.2.2.2.1
  refine va_newa (D := (dC, dI)) (tys := mtys dA) (a0 := a0) C.1 C.2.1 (by rw [hty]; exact hts _ harr) hty hK S.1 S.2.1 S.2.2.1 C.2.2.2.2.2.2.2.2.2.2 ha hn hN hbytes (by omega) (by omega) hd (fun qa cA1 H1 hK1 hP hD hS => ?_)
  have hcA : cA1 = dA t := hra s _ _ (hK1.2 (mtys dA).length (cA1, ty) (by simp)).2 (hK.2 t _ (ht dA)).2
  subst hcA
  have ec : cE dA ad (.inl (t, a0)) = .inl (dA t, a0) := by show Sum.inl (dA t, cA ad a0) = _; rw [ha2]
  have key := k.2.2 l p e R s m args below meth c dC dI dA ad0 n0 s0 A Qc C q f1 f2 f3 f4 (va_up ad h.1 qa) H1 locs ls (S.new hlt hnr hlv (by rw [ec]; exact hP) (by rw [ec]; exact hD) hS)
  rw [stk_new hst, show (mnew h N' (.inl (t, a0))).1 - n0 = h.1 - n0 + 1 by show h.1 + 1 - n0 = _; omega, show (mnew h N' (.inl (t, a0))).2.1 - s0 = h.2.1 - s0 + N' by show h.2.1 + N' - s0 = _; omega] at key
  exact key
theorem g_newq (hyl : al y = true) {index : Nat} {n : Int32} (t N' : Nat) (Cn : String) (hcl : Cond.classLink y.cls index Cn ∈ tbg) (hov : Cn ∈ overs) (ht : ∀ dA, (mtys dA)[t]? = some (dA t, .object Cn)) (hn : ¬ n < 0) (hN : n.toNatClampNeg = N') (hbytes : N' * 4 ≤ 536870912) (hd : decode cc pc = .ok (.anewarray index, 3)) (hlt : h.1 < 1000) (hlv : ∀ q ∈ lv, okv h.1 (h.1 + 1) q.2) (hst : ∀ v ∈ stk, okv h.1 (h.1 + 1) v)
    (k : G sc y cc mL ret fr lo (pc + 3) lv (.ref h.1 :: stk) (mnew h N' (.inl (t, N', .inr (.inr (.inr (.inr (fun _ => none))))))) r h') : G sc y cc mL ret fr lo pc lv (.int n :: stk) h r h' := by
  have k1 : h.1 + 1 ≤ h'.1 := k.1.1
  have k2 : h.2.1 + N' ≤ h'.2.1 := k.2.1.1
  refine ⟨⟨by omega, fun z => absurd (hyl.symm.trans z) (by decide)⟩, ⟨by omega, fun z => absurd (hyl.symm.trans z) (by decide)⟩, fun l p e R s m args below meth c dC dI dA ad0 n0 s0 A Qc C q f1 f2 f3 f4 ad H locs ls S => ?_⟩
  have hts := C.2.2.2.2.2.2.2.1
  have hK := C.2.2.2.2.2.2.2.2.1
  have z3 := S.2.2.2.2.2.1
  have z4 := S.2.2.2.2.2.2.1
  refine va_newq (D := (dC, dI)) (tys := mtys dA) C.1 C.2.1 C.2.2.2.2.2.1 (hts _ hcl) (C.2.2.2.2.2.2.2.2.2.1.2.2.2.2.2.1 _ hov) hK S.1 S.2.1 S.2.2.1 C.2.2.2.2.2.2.2.2.2.2 hn hN hbytes (by omega) (by omega) hd (fun qa cA1 H1 hK1 hP hD hS => ?_)
  have hcA : cA1 = dA t := by
    obtain ⟨_, _, _, _, _, g1⟩ := (hK1.2 (mtys dA).length (cA1, .object Cn) (by simp)).2
    obtain ⟨_, _, _, _, _, g2⟩ := (hK.2 t _ (ht dA)).2
    exact Option.some.inj (g1.symm.trans g2)
  subst hcA
  have hnr : ∀ j, ¬ hasRef (.inl (t, N', .inr (.inr (.inr (.inr (fun _ => none)))))) j := fun j hj => by obtain ⟨i, hi⟩ := hj; cases hi
  have ec : cE dA ad (.inl (t, N', .inr (.inr (.inr (.inr (fun _ => none)))))) = .inl (dA t, N', .inr (.inr (.inr (.inr (fun _ => none))))) := rfl
  have key := k.2.2 l p e R s m args below meth c dC dI dA ad0 n0 s0 A Qc C q f1 f2 f3 f4 (va_up ad h.1 qa) H1 locs ls (S.new hlt hnr hlv (by rw [ec]; exact hP) (by rw [ec]; exact hD) hS)
  rw [stk_new hst, show (mnew h N' (.inl (t, N', .inr (.inr (.inr (.inr (fun _ => none))))))).1 - n0 = h.1 - n0 + 1 by show h.1 + 1 - n0 = _; omega, show (mnew h N' (.inl (t, N', .inr (.inr (.inr (.inr (fun _ => none))))))).2.1 - s0 = h.2.1 - s0 + N' by show h.2.1 + N' - s0 = _; omega] at key
  exact key
theorem g_aast {t o v ci : Nat} {i : Int32} {h2 : mH} {q : vw_C} (hd : decode cc pc = .ok (.aastore, 1)) (hc : mcls[ci]? = some q) (ht : ∀ dA, (mtys dA)[t]? = some (dA t, .object q.1)) (hv : sR h t o ci i v = some h2) (k : G sc y cc mL ret fr lo (pc + 1) lv stk h2 r h') : G sc y cc mL ret fr lo pc lv (.ref v :: .int i :: .ref o :: stk) h r h' := by
  obtain ⟨n, f, fs, e1, e0, e5, e2, rfl⟩ := sR_spec hv
  refine ⟨k.1, k.2.1, fun l p e R s m args below meth c dC dI dA ad0 n0 s0 A Qc C q f1 f2 f3 f4 ad H locs ls S => ?_⟩
  have ho : o < h.1 := S.live (by rw [e1]; intro q; cases q)
  have hvl : v < h.1 := S.live e5
  have hov : (wl dA ad h)[v]? = some (ad v, .inr (ci, fs.map (cv ad))) := by rw [wl_at hvl, e0]; rfl
  refine va_astq (D := (dC, dI)) C.1 C.2.1 C.2.2.2.2.2.2.2.2.1 S.1 S.2.1 S.2.2.1 o t v ci (S.arr e1) (ht dA) hov hc e2 hd (fun H1 locs1 hP hD hS => ?_)
  have ef : va_up (fun j => (f j).map ad) i.toNatClampNeg (some (ad v)) = fun j => (va_up f i.toNatClampNeg (some v) j).map ad := by
    funext j
    unfold va_up
    split <;> rfl
  have ew := wl_set (dA := dA) (ad := ad) (h := h) (o := o) (c := .inl (t, n, .inr (.inr (.inr (.inr (va_up f i.toNatClampNeg (some v)))))))
  have ew2 : cE dA ad (.inl (t, n, .inr (.inr (.inr (.inr (va_up f i.toNatClampNeg (some v))))))) = .inl (dA t, n, .inr (.inr (.inr (.inr (va_up (fun j => (f j).map ad) i.toNatClampNeg (some (ad v))))))) := by rw [ef]; rfl
  rw [ew2] at ew
  refine k.2.2 l p e R s m args below meth c dC dI dA ad0 n0 s0 A Qc C q f1 f2 f3 f4 ad H1 locs1 ls (S.set ho (fun j hj => ?_) (ew ▸ hP) (ew ▸ hD) hS)
  obtain ⟨x, hx⟩ := hj
  unfold va_up at hx
  split at hx
  · cases hx; exact hvl
  · exact S.2.2.2.2.2.2.2.2.2 o j (by rw [e1]; exact ⟨x, hx⟩)
end
end
/-! 02h.pop -/
section
/-! a long that nobody asks for -/
section
variable {sc : Nat × (Nat → Int32)} {y : MethodName} {cc : ByteArray} {mL : Nat} {ret : Option FieldType} {fr lo pc : Nat} {lv lv' : List (Nat × Value)} {stk : List Value} {h h' : mH} {r : Option Value}
theorem g_pop2 {v : Value} (hd : decode cc pc = .ok (.pop2, 1)) (hc : v.category = 2) (k : G sc y cc mL ret fr lo (pc + 1) lv stk h r h') : G sc y cc mL ret fr lo pc lv (v :: stk) h r h' :=
  g_pure (fun hx hb hown hts hl k => lv_pop2_2 hx hb hd (by rw [cv_cat]; exact hc) k) k
end
end
/-! 02i.in -/
section
/-! words by their place in one of the six lists -/
theorem lw_eq : lw_tbl = k2_sels lw_privs ++ tables_1 := rfl
theorem lw_right {w : Cond} (h : w ∈ tables_1) : w ∈ lw_tbl := by
  rw [lw_eq]
  exact List.mem_append.mpr (Or.inr h)
theorem lw_left {w : Cond} (h : w ∈ k2_sels lw_privs) : w ∈ lw_tbl := by
  rw [lw_eq]
  exact List.mem_append.mpr (Or.inl h)
theorem tbg_c1 {w : Cond} (i : Nat) (h : tables_1_1[i]? = some w) (hg : goodWord w = true) : w ∈ tbg := List.mem_filter.mpr ⟨lw_right (tb_1 (List.mem_of_getElem? h)), hg⟩
theorem nests_c1 {w : Cond} (i : Nat) (h : tables_1_1[i]? = some w) (hg : isNest w = true) : w ∈ nests := List.mem_filter.mpr ⟨lw_right (tb_1 (List.mem_of_getElem? h)), hg⟩
theorem lw_c1 {w : Cond} (i : Nat) (h : tables_1_1[i]? = some w) : w ∈ lw_tbl := lw_right (tb_1 (List.mem_of_getElem? h))
theorem tbg_c2 {w : Cond} (i : Nat) (h : tables_1_2[i]? = some w) (hg : goodWord w = true) : w ∈ tbg := List.mem_filter.mpr ⟨lw_right (tb_2 (List.mem_of_getElem? h)), hg⟩
theorem nests_c2 {w : Cond} (i : Nat) (h : tables_1_2[i]? = some w) (hg : isNest w = true) : w ∈ nests := List.mem_filter.mpr ⟨lw_right (tb_2 (List.mem_of_getElem? h)), hg⟩
theorem lw_c2 {w : Cond} (i : Nat) (h : tables_1_2[i]? = some w) : w ∈ lw_tbl := lw_right (tb_2 (List.mem_of_getElem? h))
theorem tbg_c3 {w : Cond} (i : Nat) (h : tables_1_3[i]? = some w) (hg : goodWord w = true) : w ∈ tbg := List.mem_filter.mpr ⟨lw_right (tb_3 (List.mem_of_getElem? h)), hg⟩
theorem nests_c3 {w : Cond} (i : Nat) (h : tables_1_3[i]? = some w) (hg : isNest w = true) : w ∈ nests := List.mem_filter.mpr ⟨lw_right (tb_3 (List.mem_of_getElem? h)), hg⟩
theorem lw_c3 {w : Cond} (i : Nat) (h : tables_1_3[i]? = some w) : w ∈ lw_tbl := lw_right (tb_3 (List.mem_of_getElem? h))
theorem tbg_c4 {w : Cond} (i : Nat) (h : tables_1_4[i]? = some w) (hg : goodWord w = true) : w ∈ tbg := List.mem_filter.mpr ⟨lw_right (tb_4 (List.mem_of_getElem? h)), hg⟩
theorem nests_c4 {w : Cond} (i : Nat) (h : tables_1_4[i]? = some w) (hg : isNest w = true) : w ∈ nests := List.mem_filter.mpr ⟨lw_right (tb_4 (List.mem_of_getElem? h)), hg⟩
theorem lw_c4 {w : Cond} (i : Nat) (h : tables_1_4[i]? = some w) : w ∈ lw_tbl := lw_right (tb_4 (List.mem_of_getElem? h))
theorem tbg_c5 {w : Cond} (i : Nat) (h : tables_1_5[i]? = some w) (hg : goodWord w = true) : w ∈ tbg := List.mem_filter.mpr ⟨lw_right (tb_5 (List.mem_of_getElem? h)), hg⟩
theorem nests_c5 {w : Cond} (i : Nat) (h : tables_1_5[i]? = some w) (hg : isNest w = true) : w ∈ nests := List.mem_filter.mpr ⟨lw_right (tb_5 (List.mem_of_getElem? h)), hg⟩
theorem lw_c5 {w : Cond} (i : Nat) (h : tables_1_5[i]? = some w) : w ∈ lw_tbl := lw_right (tb_5 (List.mem_of_getElem? h))
theorem tbg_c6 {w : Cond} (i : Nat) (h : tables_1_6[i]? = some w) (hg : goodWord w = true) : w ∈ tbg := List.mem_filter.mpr ⟨lw_right (tb_6 (List.mem_of_getElem? h)), hg⟩
theorem nests_c6 {w : Cond} (i : Nat) (h : tables_1_6[i]? = some w) (hg : isNest w = true) : w ∈ nests := List.mem_filter.mpr ⟨lw_right (tb_6 (List.mem_of_getElem? h)), hg⟩
theorem lw_c6 {w : Cond} (i : Nat) (h : tables_1_6[i]? = some w) : w ∈ lw_tbl := lw_right (tb_6 (List.mem_of_getElem? h))
theorem tbg_in3 {w : Cond} (i : Nat) (h : (k2_sels lw_privs)[i]? = some w) (hg : goodWord w = true) : w ∈ tbg := List.mem_filter.mpr ⟨lw_left (List.mem_of_getElem? h), hg⟩
theorem tbg_m1 {w : Cond} (h : w ∈ tables_1_1) (hg : goodWord w = true) : w ∈ tbg := List.mem_filter.mpr ⟨lw_right (tb_1 h), hg⟩
theorem nests_m1 {w : Cond} (h : w ∈ tables_1_1) (hg : isNest w = true) : w ∈ nests := List.mem_filter.mpr ⟨lw_right (tb_1 h), hg⟩
theorem tbg_m2 {w : Cond} (h : w ∈ tables_1_2) (hg : goodWord w = true) : w ∈ tbg := List.mem_filter.mpr ⟨lw_right (tb_2 h), hg⟩
theorem nests_m2 {w : Cond} (h : w ∈ tables_1_2) (hg : isNest w = true) : w ∈ nests := List.mem_filter.mpr ⟨lw_right (tb_2 h), hg⟩
theorem tbg_m3 {w : Cond} (h : w ∈ tables_1_3) (hg : goodWord w = true) : w ∈ tbg := List.mem_filter.mpr ⟨lw_right (tb_3 h), hg⟩
theorem nests_m3 {w : Cond} (h : w ∈ tables_1_3) (hg : isNest w = true) : w ∈ nests := List.mem_filter.mpr ⟨lw_right (tb_3 h), hg⟩
theorem tbg_m4 {w : Cond} (h : w ∈ tables_1_4) (hg : goodWord w = true) : w ∈ tbg := List.mem_filter.mpr ⟨lw_right (tb_4 h), hg⟩
theorem nests_m4 {w : Cond} (h : w ∈ tables_1_4) (hg : isNest w = true) : w ∈ nests := List.mem_filter.mpr ⟨lw_right (tb_4 h), hg⟩
theorem tbg_m5 {w : Cond} (h : w ∈ tables_1_5) (hg : goodWord w = true) : w ∈ tbg := List.mem_filter.mpr ⟨lw_right (tb_5 h), hg⟩
theorem nests_m5 {w : Cond} (h : w ∈ tables_1_5) (hg : isNest w = true) : w ∈ nests := List.mem_filter.mpr ⟨lw_right (tb_5 h), hg⟩
theorem tbg_m6 {w : Cond} (h : w ∈ tables_1_6) (hg : goodWord w = true) : w ∈ tbg := List.mem_filter.mpr ⟨lw_right (tb_6 h), hg⟩
theorem nests_m6 {w : Cond} (h : w ∈ tables_1_6) (hg : isNest w = true) : w ∈ nests := List.mem_filter.mpr ⟨lw_right (tb_6 h), hg⟩
theorem ws_in {C : String} {T : u_T} {N : Nat} (tb : List Cond) (ht : ∀ {w}, w ∈ tb → w ∈ tables_1) (a : Nat) (h : ∀ k, k < N → tb[a + 2 * k]? = some (u_lay C T k)) : ∀ w ∈ u_ws C T N, w ∈ tbg := by
  intro w hw
  obtain ⟨k, hk, rfl⟩ := List.mem_map.mp hw
  have hk := List.mem_range.mp hk
  refine List.mem_filter.mpr ⟨lw_right (ht (List.mem_of_getElem? (h k hk))), ?_⟩
  unfold u_lay
  split <;> rfl
end
/-! 03.names2 -/
section
/-! facts of the names: printed by wip/gen/gen_names.py -/
theorem nm_Q : ∀ a, a < 10 → ∀ b, b < 10 → a ≠ b → (T_Q a).2.1 ≠ (T_Q b).2.1 := by decide +kernel
theorem tyok_Q : ∀ k, k < 10 → parseFieldDescriptor (T_Q k).2.2.1 = some (ty_Q k) := by decide +kernel
theorem in_Q : ∀ w ∈ u_ws "QuotaLaws" T_Q 10, w ∈ tbg := ws_in tables_1_2 tb_2 66 (by decide +kernel)
theorem nm_Odds : ∀ a, a < 3 → ∀ b, b < 3 → a ≠ b → (T_Odds a).2.1 ≠ (T_Odds b).2.1 := by decide +kernel
theorem tyok_Odds : ∀ k, k < 3 → parseFieldDescriptor (T_Odds k).2.2.1 = some (ty_Odds k) := by decide +kernel
theorem in_Odds : ∀ w ∈ u_ws "QuotaLaws$Odds" T_Odds 3, w ∈ tbg := ws_in tables_1_2 tb_2 33 (by decide +kernel)
theorem nm_Planner : ∀ a, a < 8 → ∀ b, b < 8 → a ≠ b → (T_Planner a).2.1 ≠ (T_Planner b).2.1 := by decide +kernel
theorem tyok_Planner : ∀ k, k < 8 → parseFieldDescriptor (T_Planner k).2.2.1 = some (ty_Planner k) := by decide +kernel
theorem in_Planner : ∀ w ∈ u_ws "QuotaLaws$Planner" T_Planner 8, w ∈ tbg := ws_in tables_1_1 tb_1 212 (by decide +kernel)
theorem nm_Reader : ∀ a, a < 9 → ∀ b, b < 9 → a ≠ b → (T_Reader a).2.1 ≠ (T_Reader b).2.1 := by decide +kernel
theorem tyok_Reader : ∀ k, k < 9 → parseFieldDescriptor (T_Reader k).2.2.1 = some (ty_Reader k) := by decide +kernel
theorem in_Reader : ∀ w ∈ u_ws "QuotaLaws$Reader" T_Reader 9, w ∈ tbg := ws_in tables_1_1 tb_1 45 (by decide +kernel)
theorem nm_Realm : ∀ a, a < 19 → ∀ b, b < 19 → a ≠ b → (T_Realm a).2.1 ≠ (T_Realm b).2.1 := by decide +kernel
theorem tyok_Realm : ∀ k, k < 19 → parseFieldDescriptor (T_Realm k).2.2.1 = some (ty_Realm k) := by decide +kernel
theorem in_Realm : ∀ w ∈ u_ws "QuotaLaws$Realm" T_Realm 19, w ∈ tbg := ws_in tables_1_1 tb_1 156 (by decide +kernel)
theorem nm_Sheet : ∀ a, a < 3 → ∀ b, b < 3 → a ≠ b → (T_Sheet a).2.1 ≠ (T_Sheet b).2.1 := by decide +kernel
theorem tyok_Sheet : ∀ k, k < 3 → parseFieldDescriptor (T_Sheet k).2.2.1 = some (ty_Sheet k) := by decide +kernel
theorem in_Sheet : ∀ w ∈ u_ws "QuotaLaws$Sheet" T_Sheet 3, w ∈ tbg := ws_in tables_1_2 tb_2 49 (by decide +kernel)
theorem nm_Sightings : ∀ a, a < 4 → ∀ b, b < 4 → a ≠ b → (T_Sightings a).2.1 ≠ (T_Sightings b).2.1 := by decide +kernel
theorem tyok_Sightings : ∀ k, k < 4 → parseFieldDescriptor (T_Sightings k).2.2.1 = some (ty_Sightings k) := by decide +kernel
theorem in_Sightings : ∀ w ∈ u_ws "QuotaLaws$Sightings" T_Sightings 4, w ∈ tbg := ws_in tables_1_1 tb_1 83 (by decide +kernel)
theorem nm_Tables : ∀ a, a < 8 → ∀ b, b < 8 → a ≠ b → (T_Tables a).2.1 ≠ (T_Tables b).2.1 := by decide +kernel
theorem tyok_Tables : ∀ k, k < 8 → parseFieldDescriptor (T_Tables k).2.2.1 = some (ty_Tables k) := by decide +kernel
theorem in_Tables : ∀ w ∈ u_ws "QuotaLaws$Tables" T_Tables 8, w ∈ tbg := ws_in tables_1_2 tb_2 4 (by decide +kernel)
theorem nm_M : ∀ a, a < 39 → ∀ b, b < 39 → a ≠ b → (T_M a).2.1 ≠ (T_M b).2.1 := by decide +kernel
theorem tyok_M : ∀ k, k < 39 → parseFieldDescriptor (T_M k).2.2.1 = some (ty_M k) := by decide +kernel
theorem in_M : ∀ w ∈ u_ws "QuotaLawsModel" T_M 39, w ∈ tbg := ws_in tables_1_5 tb_5 17 (by decide +kernel)
end
