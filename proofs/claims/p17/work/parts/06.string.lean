/-! String constants: length() and charAt(), over the model -/
def strLen (o : Nat) : Option Int32 := if 1000 ≤ o ∧ o < 1000 + strK.length then some (Int32.ofNat (strL.getD (o - 1000) 0)) else none
def strAt (o : Nat) (i : Int32) : Option Int32 := if (1000 ≤ o ∧ o < 1000 + strK.length) ∧ ¬ (i < 0 ∨ strL.getD (o - 1000) 0 ≤ i.toNatClampNeg) then some ((strB.getD (o - 1000) []).getD i.toNatClampNeg 0) else none
def f_String_length (o : Nat) (h : mH) : Option (Int32 × mH) := bd1 (strLen o) fun n => some (n >>> ((0 : Int32) &&& 31), h)
def f_String_charAt (o : Nat) (i : Int32) (h : mH) : Option (Int32 × mH) := bd1 (strAt o i) fun b => some (((b &&& 255).toUInt32 % 65536).toInt32, h)
section
variable {sc : Nat × (Nat → Int32)} {y : MethodName} {cc : ByteArray} {mL : Nat} {ret : Option FieldType} {fr lo pc : Nat} {lv lv' : List (Nat × Value)} {stk rest : List Value} {h h1 h' : mH} {r r1 : Option Value}
theorem Sr.out {dC : Nat → ClassId} {dI : Nat → Nat → Nat} {dA : Nat → ClassId} {ad0 : Nat → Nat} {n0 s0 : Nat} {A : Nat → Prop} {s : State} {ad : Nat → Nat} {H : Heap} {locs : List Loc} {ls : Array Slot} (S : Sr mL dC dI dA ad0 n0 s0 A s h lv ad H locs ls) {k : Nat} (hk : 1000 ≤ k) : ad k = ad0 k := S.2.2.2.2.1 k (Or.inr (Nat.le_trans S.2.2.2.2.2.2.2.1 hk))
theorem g_strV {index i : Nat} (hi : i < strK.length) (hd : decode cc pc = .ok (.getfield index, 3)) (hlink : Cond.fieldLink y.cls index "java/lang/String" "value" "[B" ∈ tbg) (k : G sc y cc mL ret fr lo (pc + 3) lv (.ref (1100 + i) :: stk) h r h') : G sc y cc mL ret fr lo pc lv (.ref (1000 + i) :: stk) h r h' :=
  ⟨k.1, k.2.1, fun l p e R s m args below meth c dC dI dA ad0 n0 s0 A Qc C q f1 f2 f3 f4 ad H locs ls S => by
    have key := k.2.2 l p e R s m args below meth c dC dI dA ad0 n0 s0 A Qc C q f1 f2 f3 f4 ad H locs ls S
    have hz := (C.2.2.2.2.2.2.2.2.2.1.2.2.1.1 i hi).2.2.1
    dsimp only at hz
    rw [← S.out (k := 1000 + i) (by omega), ← S.out (k := 1100 + i) (by omega)] at hz
    exact vk_getf C.1 C.2.1 hz S.2.2.1 C.2.2.2.2.2.1 (C.2.2.2.2.2.2.2.1 _ hlink) (fun _ z => z) hd key⟩
theorem g_strC {index i : Nat} (hi : i < strK.length) (hd : decode cc pc = .ok (.getfield index, 3)) (hlink : Cond.fieldLink y.cls index "java/lang/String" "coder" "B" ∈ tbg) (k : G sc y cc mL ret fr lo (pc + 3) lv (.int 0 :: stk) h r h') : G sc y cc mL ret fr lo pc lv (.ref (1000 + i) :: stk) h r h' :=
  ⟨k.1, k.2.1, fun l p e R s m args below meth c dC dI dA ad0 n0 s0 A Qc C q f1 f2 f3 f4 ad H locs ls S => by
    have key := k.2.2 l p e R s m args below meth c dC dI dA ad0 n0 s0 A Qc C q f1 f2 f3 f4 ad H locs ls S
    have hz := (C.2.2.2.2.2.2.2.2.2.1.2.2.1.1 i hi).2.1
    dsimp only at hz
    rw [← S.out (k := 1000 + i) (by omega)] at hz
    exact vk_getf C.1 C.2.1 hz S.2.2.1 C.2.2.2.2.2.1 (C.2.2.2.2.2.2.2.1 _ hlink) (fun _ z => z) hd key⟩
theorem g_strN {i : Nat} (hi : i < strK.length) (hd : decode cc pc = .ok (.arraylength, 1)) (k : G sc y cc mL ret fr lo (pc + 1) lv (.int (Int32.ofNat (strL.getD i 0)) :: stk) h r h') : G sc y cc mL ret fr lo pc lv (.ref (1100 + i) :: stk) h r h' :=
  ⟨k.1, k.2.1, fun l p e R s m args below meth c dC dI dA ad0 n0 s0 A Qc C q f1 f2 f3 f4 ad H locs ls S => by
    have key := k.2.2 l p e R s m args below meth c dC dI dA ad0 n0 s0 A Qc C q f1 f2 f3 f4 ad H locs ls S
    have hz := (C.2.2.2.2.2.2.2.2.2.1.2.2.1.1 i hi).2.2.2
    dsimp only at hz
    rw [← S.out (k := 1100 + i) (by omega)] at hz
    exact va_tlen C.1 C.2.1 hz S.2.2.1 rfl hd key⟩
theorem g_strB {i : Nat} {j : Int32} (hi : i < strK.length) (hj : vp_in j (strL.getD i 0)) (hd : decode cc pc = .ok (.baload, 1)) (k : G sc y cc mL ret fr lo (pc + 1) lv (.int ((strB.getD i []).getD j.toNatClampNeg 0) :: stk) h r h') : G sc y cc mL ret fr lo pc lv (.int j :: .ref (1100 + i) :: stk) h r h' :=
  ⟨k.1, k.2.1, fun l p e R s m args below meth c dC dI dA ad0 n0 s0 A Qc C q f1 f2 f3 f4 ad H locs ls S => by
    have key := k.2.2 l p e R s m args below meth c dC dI dA ad0 n0 s0 A Qc C q f1 f2 f3 f4 ad H locs ls S
    have hz := (C.2.2.2.2.2.2.2.2.2.1.2.2.1.1 i hi).2.2.2
    dsimp only at hz
    rw [← S.out (k := 1100 + i) (by omega)] at hz
    exact va_tb C.1 C.2.1 hz S.2.2.1 hj rfl hd key⟩
theorem g_getsC {index : Nat} (hd : decode cc pc = .ok (.getstatic index, 3)) (hlink : Cond.fieldLink y.cls index "java/lang/String" "COMPACT_STRINGS" "Z" ∈ tbg) (k : G sc y cc mL ret fr lo (pc + 3) lv (.int 1 :: stk) h r h') : G sc y cc mL ret fr lo pc lv stk h r h' :=
  ⟨k.1, k.2.1, fun l p e R s m args below meth c dC dI dA ad0 n0 s0 A Qc C q f1 f2 f3 f4 ad H locs ls S =>
    va_gets C.1 C.2.1 C.2.2.2.2.2.2.2.2.2.1.2.2.2.1 S.2.2.1 C.2.2.2.2.2.1 (C.2.2.2.2.2.2.2.1 _ hlink) (fun _ z => z) hd (k.2.2 l p e R s m args below meth c dC dI dA ad0 n0 s0 A Qc C q f1 f2 f3 f4 ad H locs ls S)⟩
theorem g_getsF {index : Nat} (hd : decode cc pc = .ok (.getstatic index, 3)) (hlink : Cond.fieldLink y.cls index "jdk/internal/util/Preconditions" "SIOOBE_FORMATTER" "Ljava/util/function/BiFunction;" ∈ tbg) (k : ∀ v : Value, v = .null ∨ v = .ref 1200 → G sc y cc mL ret fr lo (pc + 3) lv (v :: stk) h r h') : G sc y cc mL ret fr lo pc lv stk h r h' :=
  ⟨(k .null (Or.inl rfl)).1, (k .null (Or.inl rfl)).2.1, fun l p e R s m args below meth c dC dI dA ad0 n0 s0 A Qc C q f1 f2 f3 f4 ad H locs ls S => by
    rcases C.2.2.2.2.2.2.2.2.2.1.2.2.2.2.1 with hz | hz
    · exact va_gets C.1 C.2.1 hz S.2.2.1 C.2.2.2.2.2.1 (C.2.2.2.2.2.2.2.1 _ hlink) (fun _ z => z) hd ((k .null (Or.inl rfl)).2.2 l p e R s m args below meth c dC dI dA ad0 n0 s0 A Qc C q f1 f2 f3 f4 ad H locs ls S)
    · rw [← S.out (k := 1200) (by omega)] at hz
      exact va_gets C.1 C.2.1 hz S.2.2.1 C.2.2.2.2.2.1 (C.2.2.2.2.2.2.2.1 _ hlink) (fun _ z => z) hd ((k (.ref 1200) (Or.inr rfl)).2.2 l p e R s m args below meth c dC dI dA ad0 n0 s0 A Qc C q f1 f2 f3 f4 ad H locs ls S)⟩
theorem g_i2c {a : Int32} (hd : decode cc pc = .ok (.i2c, 1)) (k : G sc y cc mL ret fr lo (pc + 1) lv (.int (a.toUInt32 % 65536).toInt32 :: stk) h r h') : G sc y cc mL ret fr lo pc lv (.int a :: stk) h r h' :=
  g_pure (fun hx hb _ _ _ k => lv_i2c hx hb hd rfl k) k
theorem g_callT {y2 : MethodName} {cc2 : ByteArray} {mL2 : Nat} {ret2 : Option FieldType} {fr2 lo2 index i : Nat} (As : List Value) (hi : i < strK.length) (hs : site y y2 cc2 mL2 ret2 fr lo fr2 lo2 As.length) (hlink : Cond.methodLink y.cls index y2 ∈ tbg) (hin : Cond.instanceMethod y2 ∈ tbg) (hsel : Cond.selects "java/lang/String" y2 y2 ∈ tbg) (hd : decode cc pc = .ok (.invokevirtual index, 3)) (hcat : (rest.map fun v => v.category).sum ≤ 8) (hal : al y2 = true → al y = true) (hlv : al y2 = true → ∀ q ∈ lv, okv h.1 h1.1 q.2) (hst : al y2 = true → ∀ v ∈ rest, okv h.1 h1.1 v) (M : MM sc y2 cc2 mL2 ret2 fr2 lo2 (.ref (1000 + i) :: As) h r1 h1) (hk : stk = As.reverse ++ .ref (1000 + i) :: rest)
    (k : G sc y cc mL ret fr lo (pc + 3) lv (r1.toList ++ rest) h1 r h') : G sc y cc mL ret fr lo pc lv stk h r h' := by
  obtain ⟨s1, s2, s3, s4, s5, s6⟩ := hs
  subst hk
  refine g_run ⟨M.1, M.2.1⟩ hal hlv hst (fun l p e R s m args below meth c dC dI dA ad0 n0 s0 A C f1 f2 f3 f4 ad H locs ls S hpm => ?_) k
  have hts := C.2.2.2.2.2.2.2.1
  have z1 := M.1.1
  have z2 := M.2.1.1
  have z3 := S.2.2.2.2.2.1
  have z4 := S.2.2.2.2.2.2.1
  have hrc := vk_recv C.2.2.2.2.2.2.2.2.2.1.2.2.1 hi S.2.2.1
  try dsimp only at hrc
  rw [← S.out (k := 1000 + i) (by omega)] at hrc
  exact ⟨_, va_runV (C := "java/lang/String") (b := ad (1000 + i)) (As := As.map (cv ad)) (rest := rest.map (cv ad)) (Ts := tbg) (own := y.cls) (nL := mL) ⟨C.1, C.2.1, C.2.2.2.1, C.2.2.2.2.2.1, hts⟩ (M.2.2 l dC dI dA ad H.size)
    ⟨⟨rfl, rfl, by show fr2 + 1 ≤ _; omega, by show 8 + (mL2 + 11) + lo2 ≤ _; omega, pay_in hts (ws_good s1), List.mem_cons_self, hts _ s1, hts _ s2, s3, len_of s4, hts _ hlink⟩, hts _ hin, hts _ hsel⟩
    ⟨PM_blind, hrc, fun U hU hW => ⟨rfl, hpm U hU hW⟩⟩ rfl (by rw [List.length_map]) S.2.2.2.1.1 (by simp [cv]) (lv_room (by rw [cat_cv]; exact hcat)) hd ⟨by omega, by omega⟩⟩
theorem g_callTo {y2 : MethodName} {cc2 : ByteArray} {mL2 : Nat} {ret2 : Option FieldType} {fr2 lo2 index o : Nat} (As : List Value) (ho : ∃ i, i < strK.length ∧ o = 1000 + i) (hs : site y y2 cc2 mL2 ret2 fr lo fr2 lo2 As.length) (hlink : Cond.methodLink y.cls index y2 ∈ tbg) (hin : Cond.instanceMethod y2 ∈ tbg) (hsel : Cond.selects "java/lang/String" y2 y2 ∈ tbg) (hd : decode cc pc = .ok (.invokevirtual index, 3)) (hcat : (rest.map fun v => v.category).sum ≤ 8) (hal : al y2 = true → al y = true) (hlv : al y2 = true → ∀ q ∈ lv, okv h.1 h1.1 q.2) (hst : al y2 = true → ∀ v ∈ rest, okv h.1 h1.1 v) (M : MM sc y2 cc2 mL2 ret2 fr2 lo2 (.ref o :: As) h r1 h1) (hk : stk = As.reverse ++ .ref o :: rest)
    (k : G sc y cc mL ret fr lo (pc + 3) lv (r1.toList ++ rest) h1 r h') : G sc y cc mL ret fr lo pc lv stk h r h' := by
  obtain ⟨i, hi, rfl⟩ := ho
  exact g_callT As hi hs hlink hin hsel hd hcat hal hlv hst M hk k
end
theorem d_String_length_0 : decode prog_13_method_54_code 0 = .ok (.aload_n 0, 1) := by decide +kernel
theorem d_String_length_1 : decode prog_13_method_54_code 1 = .ok (.getfield 9, 3) := by decide +kernel
theorem d_String_length_4 : decode prog_13_method_54_code 4 = .ok (.arraylength, 1) := by decide +kernel
theorem d_String_length_5 : decode prog_13_method_54_code 5 = .ok (.aload_n 0, 1) := by decide +kernel
theorem d_String_length_6 : decode prog_13_method_54_code 6 = .ok (.invokevirtual 335, 3) := by decide +kernel
theorem d_String_length_9 : decode prog_13_method_54_code 9 = .ok (.ishr, 1) := by decide +kernel
theorem d_String_length_10 : decode prog_13_method_54_code 10 = .ok (.ireturn, 1) := by decide +kernel
theorem d_String_coder_0 : decode prog_13_method_152_code 0 = .ok (.getstatic 38, 3) := by decide +kernel
theorem d_String_coder_3 : decode prog_13_method_152_code 3 = .ok (.ifCond .eq 10, 3) := by decide +kernel
theorem d_String_coder_6 : decode prog_13_method_152_code 6 = .ok (.aload_n 0, 1) := by decide +kernel
theorem d_String_coder_7 : decode prog_13_method_152_code 7 = .ok (.getfield 15, 3) := by decide +kernel
theorem d_String_coder_10 : decode prog_13_method_152_code 10 = .ok (.goto 4, 3) := by decide +kernel
theorem d_String_coder_13 : decode prog_13_method_152_code 13 = .ok (.iconst 1, 1) := by decide +kernel
theorem d_String_coder_14 : decode prog_13_method_152_code 14 = .ok (.ireturn, 1) := by decide +kernel
theorem d_String_charAt_0 : decode prog_13_method_56_code 0 = .ok (.aload_n 0, 1) := by decide +kernel
theorem d_String_charAt_1 : decode prog_13_method_56_code 1 = .ok (.invokevirtual 492, 3) := by decide +kernel
theorem d_String_charAt_4 : decode prog_13_method_56_code 4 = .ok (.ifCond .eq 12, 3) := by decide +kernel
theorem d_String_charAt_7 : decode prog_13_method_56_code 7 = .ok (.aload_n 0, 1) := by decide +kernel
theorem d_String_charAt_8 : decode prog_13_method_56_code 8 = .ok (.getfield 9, 3) := by decide +kernel
theorem d_String_charAt_11 : decode prog_13_method_56_code 11 = .ok (.iload_n 1, 1) := by decide +kernel
theorem d_String_charAt_12 : decode prog_13_method_56_code 12 = .ok (.invokestatic 495, 3) := by decide +kernel
theorem d_String_charAt_15 : decode prog_13_method_56_code 15 = .ok (.ireturn, 1) := by decide +kernel
theorem d_String_charAt_16 : decode prog_13_method_56_code 16 = .ok (.aload_n 0, 1) := by decide +kernel
theorem d_String_charAt_17 : decode prog_13_method_56_code 17 = .ok (.getfield 9, 3) := by decide +kernel
theorem d_String_charAt_20 : decode prog_13_method_56_code 20 = .ok (.iload_n 1, 1) := by decide +kernel
theorem d_String_charAt_21 : decode prog_13_method_56_code 21 = .ok (.invokestatic 498, 3) := by decide +kernel
theorem d_String_charAt_24 : decode prog_13_method_56_code 24 = .ok (.ireturn, 1) := by decide +kernel
theorem d_String_isLatin1_0 : decode prog_13_method_154_code 0 = .ok (.getstatic 38, 3) := by decide +kernel
theorem d_String_isLatin1_3 : decode prog_13_method_154_code 3 = .ok (.ifCond .eq 14, 3) := by decide +kernel
theorem d_String_isLatin1_6 : decode prog_13_method_154_code 6 = .ok (.aload_n 0, 1) := by decide +kernel
theorem d_String_isLatin1_7 : decode prog_13_method_154_code 7 = .ok (.getfield 15, 3) := by decide +kernel
theorem d_String_isLatin1_10 : decode prog_13_method_154_code 10 = .ok (.ifCond .ne 7, 3) := by decide +kernel
theorem d_String_isLatin1_13 : decode prog_13_method_154_code 13 = .ok (.iconst 1, 1) := by decide +kernel
theorem d_String_isLatin1_14 : decode prog_13_method_154_code 14 = .ok (.goto 4, 3) := by decide +kernel
theorem d_String_isLatin1_17 : decode prog_13_method_154_code 17 = .ok (.iconst 0, 1) := by decide +kernel
theorem d_String_isLatin1_18 : decode prog_13_method_154_code 18 = .ok (.ireturn, 1) := by decide +kernel
theorem d_String_checkIndex_0 : decode prog_13_method_155_code 0 = .ok (.iload_n 0, 1) := by decide +kernel
theorem d_String_checkIndex_1 : decode prog_13_method_155_code 1 = .ok (.iload_n 1, 1) := by decide +kernel
theorem d_String_checkIndex_2 : decode prog_13_method_155_code 2 = .ok (.getstatic 1053, 3) := by decide +kernel
theorem d_String_checkIndex_5 : decode prog_13_method_155_code 5 = .ok (.invokestatic 1059, 3) := by decide +kernel
theorem d_String_checkIndex_8 : decode prog_13_method_155_code 8 = .ok (.pop, 1) := by decide +kernel
theorem d_String_checkIndex_9 : decode prog_13_method_155_code 9 = .ok (.return_, 1) := by decide +kernel
theorem d_StringLatin1_charAt_0 : decode prog_14_method_2_code 0 = .ok (.iload_n 1, 1) := by decide +kernel
theorem d_StringLatin1_charAt_1 : decode prog_14_method_2_code 1 = .ok (.aload_n 0, 1) := by decide +kernel
theorem d_StringLatin1_charAt_2 : decode prog_14_method_2_code 2 = .ok (.arraylength, 1) := by decide +kernel
theorem d_StringLatin1_charAt_3 : decode prog_14_method_2_code 3 = .ok (.invokestatic 9, 3) := by decide +kernel
theorem d_StringLatin1_charAt_6 : decode prog_14_method_2_code 6 = .ok (.aload_n 0, 1) := by decide +kernel
theorem d_StringLatin1_charAt_7 : decode prog_14_method_2_code 7 = .ok (.iload_n 1, 1) := by decide +kernel
theorem d_StringLatin1_charAt_8 : decode prog_14_method_2_code 8 = .ok (.baload, 1) := by decide +kernel
theorem d_StringLatin1_charAt_9 : decode prog_14_method_2_code 9 = .ok (.sipush 255, 3) := by decide +kernel
theorem d_StringLatin1_charAt_12 : decode prog_14_method_2_code 12 = .ok (.iand, 1) := by decide +kernel
theorem d_StringLatin1_charAt_13 : decode prog_14_method_2_code 13 = .ok (.i2c, 1) := by decide +kernel
theorem d_StringLatin1_charAt_14 : decode prog_14_method_2_code 14 = .ok (.ireturn, 1) := by decide +kernel
theorem d_Preconditions_checkIndex_0 : decode prog_18_method_11_code 0 = .ok (.iload_n 0, 1) := by decide +kernel
theorem d_Preconditions_checkIndex_1 : decode prog_18_method_11_code 1 = .ok (.ifCond .lt 8, 3) := by decide +kernel
theorem d_Preconditions_checkIndex_4 : decode prog_18_method_11_code 4 = .ok (.iload_n 0, 1) := by decide +kernel
theorem d_Preconditions_checkIndex_5 : decode prog_18_method_11_code 5 = .ok (.iload_n 1, 1) := by decide +kernel
theorem d_Preconditions_checkIndex_6 : decode prog_18_method_11_code 6 = .ok (.if_icmp .lt 10, 3) := by decide +kernel
theorem d_Preconditions_checkIndex_9 : decode prog_18_method_11_code 9 = .ok (.aload_n 2, 1) := by decide +kernel
theorem d_Preconditions_checkIndex_10 : decode prog_18_method_11_code 10 = .ok (.iload_n 0, 1) := by decide +kernel
theorem d_Preconditions_checkIndex_11 : decode prog_18_method_11_code 11 = .ok (.iload_n 1, 1) := by decide +kernel
theorem d_Preconditions_checkIndex_12 : decode prog_18_method_11_code 12 = .ok (.invokestatic 95, 3) := by decide +kernel
theorem d_Preconditions_checkIndex_15 : decode prog_18_method_11_code 15 = .ok (.athrow, 1) := by decide +kernel
theorem d_Preconditions_checkIndex_16 : decode prog_18_method_11_code 16 = .ok (.iload_n 0, 1) := by decide +kernel
theorem d_Preconditions_checkIndex_17 : decode prog_18_method_11_code 17 = .ok (.ireturn, 1) := by decide +kernel
theorem c_String_coder {sc : Nat × (Nat → Int32)} {i : Nat} {h : mH} (hi : i < strK.length) : MM sc y_String_coder prog_13_method_152_code 1 (some .byte) 0 0 [.ref (1000 + i)] h (some (.int 0)) h := by
  refine mm_of_G (by decide) (Nat.le_of_ble_eq_true rfl) ?_
  refine g_getsC (pc := 0) d_String_coder_0 wd_394 ?_
  refine g_ifeq (pc := 3) 13 d_String_coder_3 (by decide) (fun c => absurd c (by decide)) (fun _ => ?_)
  refine g_aload_n (pc := 6) 0 d_String_coder_6 rfl rfl ?_
  refine g_strC (pc := 7) hi d_String_coder_7 wd_1416 ?_
  refine g_goto (pc := 10) 14 d_String_coder_10 (by decide) ?_
  exact g_zret (pc := 14) rfl rfl d_String_coder_14
theorem c_String_isLatin1 {sc : Nat × (Nat → Int32)} {i : Nat} {h : mH} (hi : i < strK.length) : MM sc y_String_isLatin1 prog_13_method_154_code 1 (some .boolean) 0 0 [.ref (1000 + i)] h (some (.int 1)) h := by
  refine mm_of_G (by decide) (Nat.le_of_ble_eq_true rfl) ?_
  refine g_getsC (pc := 0) d_String_isLatin1_0 wd_394 ?_
  refine g_ifeq (pc := 3) 17 d_String_isLatin1_3 (by decide) (fun c => absurd c (by decide)) (fun _ => ?_)
  refine g_aload_n (pc := 6) 0 d_String_isLatin1_6 rfl rfl ?_
  refine g_strC (pc := 7) hi d_String_isLatin1_7 wd_1416 ?_
  refine g_ifne (pc := 10) 17 d_String_isLatin1_10 (by decide) (fun c => absurd rfl c) (fun _ => ?_)
  refine g_iconst (pc := 13) 1 d_String_isLatin1_13 (by decide) ?_
  refine g_goto (pc := 14) 18 d_String_isLatin1_14 (by decide) ?_
  exact g_zret (pc := 18) rfl rfl d_String_isLatin1_18
theorem c_String_length {sc : Nat × (Nat → Int32)} {o : Nat} {h : mH} {r : Int32} {h' : mH} (hf : f_String_length o h = some (r, h')) : MM sc y_String_length prog_13_method_54_code 1 (some .int) 1 20 [.ref o] h (some (.int r)) h' := by
  obtain ⟨n, e, hf⟩ := bd1_e hf
  unfold strLen at e
  split at e
  · next q =>
    obtain ⟨i, rfl⟩ : ∃ i, o = 1000 + i := ⟨o - 1000, by omega⟩
    have hi : i < strK.length := by omega
    rw [show 1000 + i - 1000 = i by omega] at e
    obtain rfl := ret1 e
    obtain ⟨rfl, rfl⟩ := ret2 hf
    refine mm_of_G (by decide) (Nat.le_of_ble_eq_true rfl) ?_
    refine g_aload_n (pc := 0) 0 d_String_length_0 rfl rfl ?_
    refine g_strV (pc := 1) hi d_String_length_1 wd_1415 ?_
    refine g_strN (pc := 4) hi d_String_length_4 ?_
    refine g_aload_n (pc := 5) 0 d_String_length_5 rfl rfl ?_
    refine g_callT (pc := 6) [] hi (site_of si_String_coder (by decide) (by decide)) wd_390 wd_391 wd_392 d_String_length_6 (Nat.le_of_ble_eq_true rfl) (fun z => absurd z (by decide)) (fun z => absurd z (by decide)) (fun z => absurd z (by decide)) (c_String_coder hi) rfl ?_
    refine g_st [.int 0, .int (Int32.ofNat (strL.getD i 0))] rfl ?_
    refine g_ishr (pc := 9) d_String_length_9 ?_
    exact g_iret (pc := 10) rfl d_String_length_10
  · cases e
theorem c_Preconditions_checkIndex {sc : Nat × (Nat → Int32)} {i n : Int32} {v : Value} {h : mH} (h0 : ¬ i < 0) (h1 : i < n) (hv : v = .null ∨ v = .ref 1200) : MM sc y_Preconditions_checkIndex prog_18_method_11_code 3 (some .int) 0 0 [.int i, .int n, v] h (some (.int i)) h := by
  rcases hv with rfl | rfl <;>
  · refine mm_of_G (by decide) (Nat.le_of_ble_eq_true rfl) ?_
    refine g_iload_n (pc := 0) 0 d_Preconditions_checkIndex_0 rfl rfl ?_
    refine g_iflt (pc := 1) 9 d_Preconditions_checkIndex_1 (by decide) (fun c => absurd c h0) (fun _ => ?_)
    refine g_iload_n (pc := 4) 0 d_Preconditions_checkIndex_4 rfl rfl ?_
    refine g_iload_n (pc := 5) 1 d_Preconditions_checkIndex_5 rfl rfl ?_
    refine g_icmplt (pc := 6) 16 d_Preconditions_checkIndex_6 (by decide) (fun _ => ?_) (fun c => absurd h1 c)
    refine g_iload_n (pc := 16) 0 d_Preconditions_checkIndex_16 rfl rfl ?_
    exact g_iret (pc := 17) rfl d_Preconditions_checkIndex_17
theorem c_String_checkIndex {sc : Nat × (Nat → Int32)} {i n : Int32} {h : mH} (h0 : ¬ i < 0) (h1 : i < n) : MM sc y_String_checkIndex prog_13_method_155_code 2 none 1 22 [.int i, .int n] h none h := by
  refine mm_of_G (by decide) (Nat.le_of_ble_eq_true rfl) ?_
  refine g_iload_n (pc := 0) 0 d_String_checkIndex_0 rfl rfl ?_
  refine g_iload_n (pc := 1) 1 d_String_checkIndex_1 rfl rfl ?_
  refine g_getsF (pc := 2) d_String_checkIndex_2 wd_410 (fun v hv => ?_)
  refine g_callS (pc := 5) (rest := []) [.int i, .int n, v] (site_of si_Preconditions_checkIndex (by decide) (by decide)) wd_412 wd_413 d_String_checkIndex_5 (Nat.le_of_ble_eq_true rfl) (fun z => absurd z (by decide)) (fun z => absurd z (by decide)) (fun z => absurd z (by decide)) (c_Preconditions_checkIndex h0 h1 hv) rfl ?_
  refine g_st [.int i] rfl ?_
  refine g_pop (pc := 8) d_String_checkIndex_8 rfl ?_
  exact g_vret (pc := 9) rfl d_String_checkIndex_9
theorem c_StringLatin1_charAt {sc : Nat × (Nat → Int32)} {i : Nat} {j : Int32} {h : mH} (hi : i < strK.length) (hj : vp_in j (strL.getD i 0)) (hn : strL.getD i 0 < 2 ^ 31) : MM sc y_StringLatin1_charAt prog_14_method_2_code 2 (some .char) 2 43 [.ref (1100 + i), .int j] h (some (.int ((((strB.getD i []).getD j.toNatClampNeg 0) &&& 255).toUInt32 % 65536).toInt32)) h := by
  obtain ⟨q, hq, hjq⟩ := vp_in_of hj hn
  have h0 : ¬ j < 0 := fun z => hj (Or.inl z)
  have h1 : j < Int32.ofNat (strL.getD i 0) := by rw [hjq]; exact nI_lt hq hn
  refine mm_of_G (by decide) (Nat.le_of_ble_eq_true rfl) ?_
  refine g_iload_n (pc := 0) 1 d_StringLatin1_charAt_0 rfl rfl ?_
  refine g_aload_n (pc := 1) 0 d_StringLatin1_charAt_1 rfl rfl ?_
  refine g_strN (pc := 2) hi d_StringLatin1_charAt_2 ?_
  refine g_callS (pc := 3) (rest := []) [.int j, .int (Int32.ofNat (strL.getD i 0))] (site_of si_String_checkIndex (by decide) (by decide)) wd_407 wd_408 d_StringLatin1_charAt_3 (Nat.le_of_ble_eq_true rfl) (fun z => absurd z (by decide)) (fun z => absurd z (by decide)) (fun z => absurd z (by decide)) (c_String_checkIndex h0 h1) rfl ?_
  refine g_st [] rfl ?_
  refine g_aload_n (pc := 6) 0 d_StringLatin1_charAt_6 rfl rfl ?_
  refine g_iload_n (pc := 7) 1 d_StringLatin1_charAt_7 rfl rfl ?_
  refine g_strB (pc := 8) hi hj d_StringLatin1_charAt_8 ?_
  refine g_sipush (pc := 9) 255 d_StringLatin1_charAt_9 (by decide) ?_
  refine g_iand (pc := 12) d_StringLatin1_charAt_12 ?_
  refine g_i2c (pc := 13) d_StringLatin1_charAt_13 ?_
  exact g_zret (pc := 14) rfl (pk_nc _) d_StringLatin1_charAt_14
theorem strL_small : ∀ i, strL.getD i 0 < 2 ^ 31 := by
  intro i
  by_cases h : i < strL.length
  · have hd : ∀ n ∈ strL, n < 2 ^ 31 := by decide
    rw [List.getD_eq_getElem?_getD, List.getElem?_eq_getElem h]
    exact hd _ (List.getElem_mem h)
  · rw [List.getD_eq_getElem?_getD, List.getElem?_eq_none (by omega)]
    decide
theorem c_String_charAt {sc : Nat × (Nat → Int32)} {o : Nat} {j : Int32} {h : mH} {r : Int32} {h' : mH} (hf : f_String_charAt o j h = some (r, h')) : MM sc y_String_charAt prog_13_method_56_code 2 (some .char) 3 64 [.ref o, .int j] h (some (.int r)) h' := by
  obtain ⟨n, e, hf⟩ := bd1_e hf
  unfold strAt at e
  split at e
  · next q =>
    obtain ⟨i, rfl⟩ : ∃ i, o = 1000 + i := ⟨o - 1000, by omega⟩
    have hi : i < strK.length := by omega
    rw [show 1000 + i - 1000 = i by omega] at e q
    obtain rfl := ret1 e
    obtain ⟨rfl, rfl⟩ := ret2 hf
    refine mm_of_G (by decide) (Nat.le_of_ble_eq_true rfl) ?_
    refine g_aload_n (pc := 0) 0 d_String_charAt_0 rfl rfl ?_
    refine g_callT (pc := 1) [] hi (site_of si_String_isLatin1 (by decide) (by decide)) wd_400 wd_401 wd_402 d_String_charAt_1 (Nat.le_of_ble_eq_true rfl) (fun z => absurd z (by decide)) (fun z => absurd z (by decide)) (fun z => absurd z (by decide)) (c_String_isLatin1 hi) rfl ?_
    refine g_st [.int 1] rfl ?_
    refine g_ifeq (pc := 4) 16 d_String_charAt_4 (by decide) (fun c => absurd c (by decide)) (fun _ => ?_)
    refine g_aload_n (pc := 7) 0 d_String_charAt_7 rfl rfl ?_
    refine g_strV (pc := 8) hi d_String_charAt_8 wd_1415 ?_
    refine g_iload_n (pc := 11) 1 d_String_charAt_11 rfl rfl ?_
    refine g_callS (pc := 12) (rest := []) [.ref (1100 + i), .int j] (site_of si_StringLatin1_charAt (by decide) (by decide)) wd_404 wd_405 d_String_charAt_12 (Nat.le_of_ble_eq_true rfl) (fun z => absurd z (by decide)) (fun z => absurd z (by decide)) (fun z => absurd z (by decide)) (c_StringLatin1_charAt hi q.2 (strL_small i)) rfl ?_
    refine g_st [.int ((((strB.getD i []).getD j.toNatClampNeg 0) &&& 255).toUInt32 % 65536).toInt32] rfl ?_
    exact g_zret (pc := 15) rfl (pk_nc _) d_String_charAt_15
  · cases e
theorem str_of_len {o : Nat} {h : mH} {r : Int32} {h' : mH} (hf : f_String_length o h = some (r, h')) : ∃ i, i < strK.length ∧ o = 1000 + i := by
  obtain ⟨n, e, hf⟩ := bd1_e hf
  unfold strLen at e
  split at e
  · next q => exact ⟨o - 1000, by omega, by omega⟩
  · cases e
theorem str_of_at {o : Nat} {j : Int32} {h : mH} {r : Int32} {h' : mH} (hf : f_String_charAt o j h = some (r, h')) : ∃ i, i < strK.length ∧ o = 1000 + i := by
  obtain ⟨n, e, hf⟩ := bd1_e hf
  unfold strAt at e
  split at e
  · next q => exact ⟨o - 1000, by omega, by omega⟩
  · cases e
/-! the script -/
def sX (sc : Nat × (Nat → Int32)) (i : Int32) : Option Int32 := if ¬ (i < 0 ∨ sc.1 ≤ i.toNatClampNeg) then some (sc.2 i.toNatClampNeg) else none
theorem sX_spec {sc : Nat × (Nat → Int32)} {i x : Int32} (e : sX sc i = some x) : vp_in i sc.1 ∧ x = sc.2 i.toNatClampNeg := by
  unfold sX at e
  split at e
  · next q => exact ⟨q, (Option.some.inj e).symm⟩
  · cases e
section
variable {sc : Nat × (Nat → Int32)} {y : MethodName} {cc : ByteArray} {mL : Nat} {ret : Option FieldType} {fr lo pc : Nat} {lv lv' : List (Nat × Value)} {stk rest : List Value} {h h1 h' : mH} {r r1 : Option Value}
theorem g_slen (hd : decode cc pc = .ok (.arraylength, 1)) (k : G sc y cc mL ret fr lo (pc + 1) lv (.int (Int32.ofNat sc.1) :: stk) h r h') : G sc y cc mL ret fr lo pc lv (.ref 1300 :: stk) h r h' :=
  ⟨k.1, k.2.1, fun l p e R s m args below meth c dC dI dA ad0 n0 s0 A Qc C q f1 f2 f3 f4 ad H locs ls S => by
    have key := k.2.2 l p e R s m args below meth c dC dI dA ad0 n0 s0 A Qc C q f1 f2 f3 f4 ad H locs ls S
    have hz := C.2.2.2.2.2.2.2.2.2.1.2.2.2.2.2.2
    rw [← S.out (k := 1300) (by omega)] at hz
    have hb : ad 1300 < s.heap.size := by
      obtain ⟨scr, z, -⟩ := hz.1
      exact (Array.getElem?_eq_some_iff.mp z).1
    exact va_slen C.1 C.2.1 hz.1 hb hz.2 S.2.2.1 hd key⟩
theorem g_sld {i x : Int32} (hd : decode cc pc = .ok (.iaload, 1)) (hv : sX sc i = some x) (k : G sc y cc mL ret fr lo (pc + 1) lv (.int x :: stk) h r h') : G sc y cc mL ret fr lo pc lv (.int i :: .ref 1300 :: stk) h r h' := by
  obtain ⟨e1, rfl⟩ := sX_spec hv
  exact ⟨k.1, k.2.1, fun l p e R s m args below meth c dC dI dA ad0 n0 s0 A Qc C q f1 f2 f3 f4 ad H locs ls S => by
    have key := k.2.2 l p e R s m args below meth c dC dI dA ad0 n0 s0 A Qc C q f1 f2 f3 f4 ad H locs ls S
    have hz := C.2.2.2.2.2.2.2.2.2.1.2.2.2.2.2.2
    rw [← S.out (k := 1300) (by omega)] at hz
    have hb : ad 1300 < s.heap.size := by
      obtain ⟨scr, z, -⟩ := hz.1
      exact (Array.getElem?_eq_some_iff.mp z).1
    exact va_sld C.1 C.2.1 hz.1 hb hz.2 S.2.2.1 e1 hd key⟩
end
