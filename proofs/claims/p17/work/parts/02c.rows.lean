section
variable {sc : Nat × (Nat → Int32)} {y : MethodName} {cc : ByteArray} {mL : Nat} {ret : Option FieldType} {fr lo pc : Nat} {lv lv' : List (Nat × Value)} {stk : List Value} {h h' : mH} {r : Option Value}
theorem g_bipush {n : Int} (v : Int32) (hd : decode cc pc = .ok (.bipush n, 2)) (hv : (Int8.ofInt n).toInt32 = v) (k : G sc y cc mL ret fr lo (pc + 2) lv (.int v :: stk) h r h') : G sc y cc mL ret fr lo pc lv stk h r h' :=
  g_pure (fun hx hb hown hts hl k => lv_bipush hx hb hd hv k) k
theorem g_sipush {n : Int} (v : Int32) (hd : decode cc pc = .ok (.sipush n, 3)) (hv : (Int16.ofInt n).toInt32 = v) (k : G sc y cc mL ret fr lo (pc + 3) lv (.int v :: stk) h r h') : G sc y cc mL ret fr lo pc lv stk h r h' :=
  g_pure (fun hx hb hown hts hl k => lv_sipush hx hb hd hv k) k
theorem g_lconst {n : Fin 2} (v : Int64) (hd : decode cc pc = .ok (.lconst n, 1)) (hv : Int64.ofNat (n : Nat) = v) (k : G sc y cc mL ret fr lo (pc + 1) lv (.long v :: stk) h r h') : G sc y cc mL ret fr lo pc lv stk h r h' :=
  g_pure (fun hx hb hown hts hl k => lv_lconst hx hb hd hv k) k
theorem g_ldc {index : Nat} (v : Int32) (hd : decode cc pc = .ok (.ldc index, 2)) (hw : Cond.constant y.cls index v ∈ tbg) (k : G sc y cc mL ret fr lo (pc + 2) lv (.int v :: stk) h r h') : G sc y cc mL ret fr lo pc lv stk h r h' :=
  g_pure (fun hx hb hown hts hl k => lv_ldc hx hb hown (hts _ hw) hd k) k
theorem g_ldcw {index : Nat} (v : Int32) (hd : decode cc pc = .ok (.ldc_w index, 3)) (hw : Cond.constant y.cls index v ∈ tbg) (k : G sc y cc mL ret fr lo (pc + 3) lv (.int v :: stk) h r h') : G sc y cc mL ret fr lo pc lv stk h r h' :=
  g_pure (fun hx hb hown hts hl k => lv_ldcw hx hb hown (hts _ hw) hd k) k
theorem g_ldc2 {index : Nat} (v : Int64) (hd : decode cc pc = .ok (.ldc2_w index, 3)) (hw : Cond.constantLong y.cls index v ∈ tbg) (k : G sc y cc mL ret fr lo (pc + 3) lv (.long v :: stk) h r h') : G sc y cc mL ret fr lo pc lv stk h r h' :=
  g_pure (fun hx hb hown hts hl k => lv_ldc2 hx hb hown (hts _ hw) hd k) k
theorem g_iload_n {f : Fin 4} {i : Nat} {x : Int32} (j : Nat) (hd : decode cc pc = .ok (.iload_n f, 1)) (hi : (f : Nat) = i) (hj : lv[j]? = some (i, .int x)) (k : G sc y cc mL ret fr lo (pc + 1) lv (.int x :: stk) h r h') : G sc y cc mL ret fr lo pc lv stk h r h' :=
  g_pure (fun hx hb hown hts hl k => lv_iload_n hx hb hd hi (lv_at hl j (by rw [List.getElem?_map, hj]; rfl)) k) k
theorem g_lload_n {f : Fin 4} {i : Nat} {x : Int64} (j : Nat) (hd : decode cc pc = .ok (.lload_n f, 1)) (hi : (f : Nat) = i) (hj : lv[j]? = some (i, .long x)) (k : G sc y cc mL ret fr lo (pc + 1) lv (.long x :: stk) h r h') : G sc y cc mL ret fr lo pc lv stk h r h' :=
  g_pure (fun hx hb hown hts hl k => lv_lload_n hx hb hd hi (lv_at hl j (by rw [List.getElem?_map, hj]; rfl)) k) k
theorem g_lload {i : Nat} {x : Int64} (j : Nat) (hd : decode cc pc = .ok (.lload i, 2)) (hj : lv[j]? = some (i, .long x)) (k : G sc y cc mL ret fr lo (pc + 2) lv (.long x :: stk) h r h') : G sc y cc mL ret fr lo pc lv stk h r h' :=
  g_pure (fun hx hb hown hts hl k => lv_lload hx hb hd (lv_at hl j (by rw [List.getElem?_map, hj]; rfl)) k) k
theorem g_aload_n {f : Fin 4} {i : Nat} {x : Nat} (j : Nat) (hd : decode cc pc = .ok (.aload_n f, 1)) (hi : (f : Nat) = i) (hj : lv[j]? = some (i, .ref x)) (k : G sc y cc mL ret fr lo (pc + 1) lv (.ref x :: stk) h r h') : G sc y cc mL ret fr lo pc lv stk h r h' :=
  g_pure (fun hx hb hown hts hl k => lv_aload_n hx hb hd hi (lv_at hl j (by rw [List.getElem?_map, hj]; rfl)) k) k
theorem g_aload {i : Nat} {x : Nat} (j : Nat) (hd : decode cc pc = .ok (.aload i, 2)) (hj : lv[j]? = some (i, .ref x)) (k : G sc y cc mL ret fr lo (pc + 2) lv (.ref x :: stk) h r h') : G sc y cc mL ret fr lo pc lv stk h r h' :=
  g_pure (fun hx hb hown hts hl k => lv_aload hx hb hd (lv_at hl j (by rw [List.getElem?_map, hj]; rfl)) k) k
theorem g_isub {a b : Int32} (hd : decode cc pc = .ok (.isub, 1)) (k : G sc y cc mL ret fr lo (pc + 1) lv (.int (a - b) :: stk) h r h') : G sc y cc mL ret fr lo pc lv (.int b :: .int a :: stk) h r h' :=
  g_pure (fun hx hb hown hts hl k => lv_isub hx hb hd k) k
theorem g_imul {a b : Int32} (hd : decode cc pc = .ok (.imul, 1)) (k : G sc y cc mL ret fr lo (pc + 1) lv (.int (a * b) :: stk) h r h') : G sc y cc mL ret fr lo pc lv (.int b :: .int a :: stk) h r h' :=
  g_pure (fun hx hb hown hts hl k => lv_imul hx hb hd k) k
theorem g_iand {a b : Int32} (hd : decode cc pc = .ok (.iand, 1)) (k : G sc y cc mL ret fr lo (pc + 1) lv (.int (a &&& b) :: stk) h r h') : G sc y cc mL ret fr lo pc lv (.int b :: .int a :: stk) h r h' :=
  g_pure (fun hx hb hown hts hl k => lv_iand hx hb hd k) k
theorem g_ior {a b : Int32} (hd : decode cc pc = .ok (.ior, 1)) (k : G sc y cc mL ret fr lo (pc + 1) lv (.int (a ||| b) :: stk) h r h') : G sc y cc mL ret fr lo pc lv (.int b :: .int a :: stk) h r h' :=
  g_pure (fun hx hb hown hts hl k => lv_ior hx hb hd k) k
theorem g_ixor {a b : Int32} (hd : decode cc pc = .ok (.ixor, 1)) (k : G sc y cc mL ret fr lo (pc + 1) lv (.int (a ^^^ b) :: stk) h r h') : G sc y cc mL ret fr lo pc lv (.int b :: .int a :: stk) h r h' :=
  g_pure (fun hx hb hown hts hl k => lv_ixor hx hb hd k) k
theorem g_ladd {a b : Int64} (hd : decode cc pc = .ok (.ladd, 1)) (k : G sc y cc mL ret fr lo (pc + 1) lv (.long (a + b) :: stk) h r h') : G sc y cc mL ret fr lo pc lv (.long b :: .long a :: stk) h r h' :=
  g_pure (fun hx hb hown hts hl k => lv_ladd hx hb hd k) k
theorem g_lsub {a b : Int64} (hd : decode cc pc = .ok (.lsub, 1)) (k : G sc y cc mL ret fr lo (pc + 1) lv (.long (a - b) :: stk) h r h') : G sc y cc mL ret fr lo pc lv (.long b :: .long a :: stk) h r h' :=
  g_pure (fun hx hb hown hts hl k => lv_lsub hx hb hd k) k
theorem g_lmul {a b : Int64} (hd : decode cc pc = .ok (.lmul, 1)) (k : G sc y cc mL ret fr lo (pc + 1) lv (.long (a * b) :: stk) h r h') : G sc y cc mL ret fr lo pc lv (.long b :: .long a :: stk) h r h' :=
  g_pure (fun hx hb hown hts hl k => lv_lmul hx hb hd k) k
theorem g_idiv {a b : Int32} (hd : decode cc pc = .ok (.idiv, 1)) (hne : ¬ b = 0) (k : G sc y cc mL ret fr lo (pc + 1) lv (.int (a / b) :: stk) h r h') : G sc y cc mL ret fr lo pc lv (.int b :: .int a :: stk) h r h' :=
  g_pure (fun hx hb hown hts hl k => lv_idiv hx hb hd hne k) k
theorem g_irem {a b : Int32} (hd : decode cc pc = .ok (.irem, 1)) (hne : ¬ b = 0) (k : G sc y cc mL ret fr lo (pc + 1) lv (.int (a - a / b * b) :: stk) h r h') : G sc y cc mL ret fr lo pc lv (.int b :: .int a :: stk) h r h' :=
  g_pure (fun hx hb hown hts hl k => lv_irem hx hb hd hne k) k
theorem g_ldiv {a b : Int64} (hd : decode cc pc = .ok (.ldiv, 1)) (hne : ¬ b = 0) (k : G sc y cc mL ret fr lo (pc + 1) lv (.long (a / b) :: stk) h r h') : G sc y cc mL ret fr lo pc lv (.long b :: .long a :: stk) h r h' :=
  g_pure (fun hx hb hown hts hl k => lv_ldiv hx hb hd hne k) k
theorem g_lrem {a b : Int64} (hd : decode cc pc = .ok (.lrem, 1)) (hne : ¬ b = 0) (k : G sc y cc mL ret fr lo (pc + 1) lv (.long (a - a / b * b) :: stk) h r h') : G sc y cc mL ret fr lo pc lv (.long b :: .long a :: stk) h r h' :=
  g_pure (fun hx hb hown hts hl k => lv_lrem hx hb hd hne k) k
theorem g_ishl {a b : Int32} (hd : decode cc pc = .ok (.ishl, 1)) (k : G sc y cc mL ret fr lo (pc + 1) lv (.int (a <<< (b &&& 31)) :: stk) h r h') : G sc y cc mL ret fr lo pc lv (.int b :: .int a :: stk) h r h' :=
  g_pure (fun hx hb hown hts hl k => lv_ishl hx hb hd k) k
theorem g_ishr {a b : Int32} (hd : decode cc pc = .ok (.ishr, 1)) (k : G sc y cc mL ret fr lo (pc + 1) lv (.int (a >>> (b &&& 31)) :: stk) h r h') : G sc y cc mL ret fr lo pc lv (.int b :: .int a :: stk) h r h' :=
  g_pure (fun hx hb hown hts hl k => lv_ishr hx hb hd k) k
theorem g_iushr {a b : Int32} (hd : decode cc pc = .ok (.iushr, 1)) (k : G sc y cc mL ret fr lo (pc + 1) lv (.int (a.toUInt32 >>> (b.toUInt32 &&& Int32.toUInt32 31)).toInt32 :: stk) h r h') : G sc y cc mL ret fr lo pc lv (.int b :: .int a :: stk) h r h' :=
  g_pure (fun hx hb hown hts hl k => lv_iushr hx hb hd rfl k) k
theorem g_i2l {a : Int32} (hd : decode cc pc = .ok (.i2l, 1)) (k : G sc y cc mL ret fr lo (pc + 1) lv (.long a.toInt64 :: stk) h r h') : G sc y cc mL ret fr lo pc lv (.int a :: stk) h r h' :=
  g_pure (fun hx hb hown hts hl k => lv_i2l hx hb hd rfl k) k
theorem g_l2i {a : Int64} (hd : decode cc pc = .ok (.l2i, 1)) (k : G sc y cc mL ret fr lo (pc + 1) lv (.int a.toInt32 :: stk) h r h') : G sc y cc mL ret fr lo pc lv (.long a :: stk) h r h' :=
  g_pure (fun hx hb hown hts hl k => lv_l2i hx hb hd rfl k) k
theorem g_i2b {a : Int32} (hd : decode cc pc = .ok (.i2b, 1)) (k : G sc y cc mL ret fr lo (pc + 1) lv (.int a.toInt8.toInt32 :: stk) h r h') : G sc y cc mL ret fr lo pc lv (.int a :: stk) h r h' :=
  g_pure (fun hx hb hown hts hl k => lv_i2b hx hb hd rfl k) k
theorem g_i2s {a : Int32} (hd : decode cc pc = .ok (.i2s, 1)) (k : G sc y cc mL ret fr lo (pc + 1) lv (.int a.toInt16.toInt32 :: stk) h r h') : G sc y cc mL ret fr lo pc lv (.int a :: stk) h r h' :=
  g_pure (fun hx hb hown hts hl k => lv_i2s hx hb hd rfl k) k
theorem g_lcmp {a b : Int64} (hd : decode cc pc = .ok (.lcmp, 1)) (k : G sc y cc mL ret fr lo (pc + 1) lv (.int (lg_cmp a b) :: stk) h r h') : G sc y cc mL ret fr lo pc lv (.long b :: .long a :: stk) h r h' :=
  g_pure (fun hx hb hown hts hl k => W.lcmp hx hb hd k) k
theorem g_dup {v : Value} (hd : decode cc pc = .ok (.dup, 1)) (hc : v.category = 1) (k : G sc y cc mL ret fr lo (pc + 1) lv (v :: v :: stk) h r h') : G sc y cc mL ret fr lo pc lv (v :: stk) h r h' :=
  g_pure (fun hx hb hown hts hl k => lv_dup hx hb hd (by rw [cv_cat]; exact hc) k) k
theorem g_pop {v : Value} (hd : decode cc pc = .ok (.pop, 1)) (hc : v.category = 1) (k : G sc y cc mL ret fr lo (pc + 1) lv stk h r h') : G sc y cc mL ret fr lo pc lv (v :: stk) h r h' :=
  g_pure (fun hx hb hown hts hl k => lv_pop hx hb hd (by rw [cv_cat]; exact hc) k) k
theorem g_dup2 {v w : Value} (hd : decode cc pc = .ok (.dup2, 1)) (hc : v.category = 1) (hc2 : w.category = 1) (k : G sc y cc mL ret fr lo (pc + 1) lv (v :: w :: v :: w :: stk) h r h') : G sc y cc mL ret fr lo pc lv (v :: w :: stk) h r h' :=
  g_pure (fun hx hb hown hts hl k => lv_dup2_11 hx hb hd (by rw [cv_cat]; exact hc) (by rw [cv_cat]; exact hc2) k) k
theorem g_goto {off : Int} (tgt : Nat) (hd : decode cc pc = .ok (.goto off, 3)) (ht : (pc : Int) + off = (tgt : Int)) (k : G sc y cc mL ret fr lo tgt lv stk h r h') : G sc y cc mL ret fr lo pc lv stk h r h' :=
  g_pure (fun hx hb _ _ _ k => lv_goto hx hb hd ht k) k
theorem g_two {pc2 pc3 : Nat} {stk2 : List Value} {c1 c2 : Prop} (f : ∀ {p : Program} {l : Launch} {e : Env} {R : Room} {s : State} {m : MethodId} {args : Array Value} {below : List Frame} {meth : Method} {c : Code} {H : Heap} {locs : List Loc} {cells slots : Nat} {Q : State → Prop} {ls : Array Slot} {ad : Nat → Nat}, p.tables.exec = Jvm.exec → c.code = cc → (c1 → W p l e R s m args below meth c H locs cells slots Q (F0 m pc2 ls (stk2.map (cv ad)))) → (c2 → W p l e R s m args below meth c H locs cells slots Q (F0 m pc3 ls (stk2.map (cv ad)))) → W p l e R s m args below meth c H locs cells slots Q (F0 m pc ls (stk.map (cv ad))))
    (hor : c1 ∨ c2) (k1 : c1 → G sc y cc mL ret fr lo pc2 lv stk2 h r h') (k2 : c2 → G sc y cc mL ret fr lo pc3 lv stk2 h r h') : G sc y cc mL ret fr lo pc lv stk h r h' :=
  ⟨hor.elim (fun q => (k1 q).1) (fun q => (k2 q).1), hor.elim (fun q => (k1 q).2.1) (fun q => (k2 q).2.1), fun l p e R s m args below meth c dC dI dA ad0 n0 s0 A Qc C q f1 f2 f3 f4 ad H locs ls S => f C.1 C.2.1 (fun z => (k1 z).2.2 l p e R s m args below meth c dC dI dA ad0 n0 s0 A Qc C q f1 f2 f3 f4 ad H locs ls S) (fun z => (k2 z).2.2 l p e R s m args below meth c dC dI dA ad0 n0 s0 A Qc C q f1 f2 f3 f4 ad H locs ls S)⟩
theorem g_ifeq {a : Int32} {off : Int} (tgt : Nat) (hd : decode cc pc = .ok (.ifCond .eq off, 3)) (ht : (pc : Int) + off = (tgt : Int)) (k1 : a = 0 → G sc y cc mL ret fr lo tgt lv stk h r h') (k2 : ¬ a = 0 → G sc y cc mL ret fr lo (pc + 3) lv stk h r h') : G sc y cc mL ret fr lo pc lv (.int a :: stk) h r h' :=
  g_two (fun hx hb k1 k2 => lv_if_eq hx hb hd ht k1 k2) (Classical.em _) k1 k2
theorem g_icmpeq {a b : Int32} {off : Int} (tgt : Nat) (hd : decode cc pc = .ok (.if_icmp .eq off, 3)) (ht : (pc : Int) + off = (tgt : Int)) (k1 : a = b → G sc y cc mL ret fr lo tgt lv stk h r h') (k2 : ¬ a = b → G sc y cc mL ret fr lo (pc + 3) lv stk h r h') : G sc y cc mL ret fr lo pc lv (.int b :: .int a :: stk) h r h' :=
  g_two (fun hx hb k1 k2 => lv_icmp_eq hx hb hd ht k1 k2) (Classical.em _) k1 k2
theorem g_ifne {a : Int32} {off : Int} (tgt : Nat) (hd : decode cc pc = .ok (.ifCond .ne off, 3)) (ht : (pc : Int) + off = (tgt : Int)) (k1 : ¬ a = 0 → G sc y cc mL ret fr lo tgt lv stk h r h') (k2 : a = 0 → G sc y cc mL ret fr lo (pc + 3) lv stk h r h') : G sc y cc mL ret fr lo pc lv (.int a :: stk) h r h' :=
  g_two (fun hx hb k1 k2 => lv_if_ne hx hb hd ht k1 k2) ((Classical.em _).symm) k1 k2
theorem g_icmpne {a b : Int32} {off : Int} (tgt : Nat) (hd : decode cc pc = .ok (.if_icmp .ne off, 3)) (ht : (pc : Int) + off = (tgt : Int)) (k1 : ¬ a = b → G sc y cc mL ret fr lo tgt lv stk h r h') (k2 : a = b → G sc y cc mL ret fr lo (pc + 3) lv stk h r h') : G sc y cc mL ret fr lo pc lv (.int b :: .int a :: stk) h r h' :=
  g_two (fun hx hb k1 k2 => lv_icmp_ne hx hb hd ht k1 k2) ((Classical.em _).symm) k1 k2
theorem g_iflt {a : Int32} {off : Int} (tgt : Nat) (hd : decode cc pc = .ok (.ifCond .lt off, 3)) (ht : (pc : Int) + off = (tgt : Int)) (k1 : a < 0 → G sc y cc mL ret fr lo tgt lv stk h r h') (k2 : ¬ a < 0 → G sc y cc mL ret fr lo (pc + 3) lv stk h r h') : G sc y cc mL ret fr lo pc lv (.int a :: stk) h r h' :=
  g_two (fun hx hb k1 k2 => lv_if_lt hx hb hd ht k1 k2) (Classical.em _) k1 k2
theorem g_icmplt {a b : Int32} {off : Int} (tgt : Nat) (hd : decode cc pc = .ok (.if_icmp .lt off, 3)) (ht : (pc : Int) + off = (tgt : Int)) (k1 : a < b → G sc y cc mL ret fr lo tgt lv stk h r h') (k2 : ¬ a < b → G sc y cc mL ret fr lo (pc + 3) lv stk h r h') : G sc y cc mL ret fr lo pc lv (.int b :: .int a :: stk) h r h' :=
  g_two (fun hx hb k1 k2 => lv_icmp_lt hx hb hd ht k1 k2) (Classical.em _) k1 k2
theorem g_ifge {a : Int32} {off : Int} (tgt : Nat) (hd : decode cc pc = .ok (.ifCond .ge off, 3)) (ht : (pc : Int) + off = (tgt : Int)) (k1 : 0 ≤ a → G sc y cc mL ret fr lo tgt lv stk h r h') (k2 : ¬ 0 ≤ a → G sc y cc mL ret fr lo (pc + 3) lv stk h r h') : G sc y cc mL ret fr lo pc lv (.int a :: stk) h r h' :=
  g_two (fun hx hb k1 k2 => lv_if_ge hx hb hd ht k1 k2) (Classical.em _) k1 k2
theorem g_icmpge {a b : Int32} {off : Int} (tgt : Nat) (hd : decode cc pc = .ok (.if_icmp .ge off, 3)) (ht : (pc : Int) + off = (tgt : Int)) (k1 : b ≤ a → G sc y cc mL ret fr lo tgt lv stk h r h') (k2 : ¬ b ≤ a → G sc y cc mL ret fr lo (pc + 3) lv stk h r h') : G sc y cc mL ret fr lo pc lv (.int b :: .int a :: stk) h r h' :=
  g_two (fun hx hb k1 k2 => lv_icmp_ge hx hb hd ht k1 k2) (Classical.em _) k1 k2
theorem g_ifgt {a : Int32} {off : Int} (tgt : Nat) (hd : decode cc pc = .ok (.ifCond .gt off, 3)) (ht : (pc : Int) + off = (tgt : Int)) (k1 : 0 < a → G sc y cc mL ret fr lo tgt lv stk h r h') (k2 : ¬ 0 < a → G sc y cc mL ret fr lo (pc + 3) lv stk h r h') : G sc y cc mL ret fr lo pc lv (.int a :: stk) h r h' :=
  g_two (fun hx hb k1 k2 => lv_if_gt hx hb hd ht k1 k2) (Classical.em _) k1 k2
theorem g_icmpgt {a b : Int32} {off : Int} (tgt : Nat) (hd : decode cc pc = .ok (.if_icmp .gt off, 3)) (ht : (pc : Int) + off = (tgt : Int)) (k1 : b < a → G sc y cc mL ret fr lo tgt lv stk h r h') (k2 : ¬ b < a → G sc y cc mL ret fr lo (pc + 3) lv stk h r h') : G sc y cc mL ret fr lo pc lv (.int b :: .int a :: stk) h r h' :=
  g_two (fun hx hb k1 k2 => lv_icmp_gt hx hb hd ht k1 k2) (Classical.em _) k1 k2
theorem g_ifle {a : Int32} {off : Int} (tgt : Nat) (hd : decode cc pc = .ok (.ifCond .le off, 3)) (ht : (pc : Int) + off = (tgt : Int)) (k1 : a ≤ 0 → G sc y cc mL ret fr lo tgt lv stk h r h') (k2 : ¬ a ≤ 0 → G sc y cc mL ret fr lo (pc + 3) lv stk h r h') : G sc y cc mL ret fr lo pc lv (.int a :: stk) h r h' :=
  g_two (fun hx hb k1 k2 => lv_if_le hx hb hd ht k1 k2) (Classical.em _) k1 k2
theorem g_icmple {a b : Int32} {off : Int} (tgt : Nat) (hd : decode cc pc = .ok (.if_icmp .le off, 3)) (ht : (pc : Int) + off = (tgt : Int)) (k1 : a ≤ b → G sc y cc mL ret fr lo tgt lv stk h r h') (k2 : ¬ a ≤ b → G sc y cc mL ret fr lo (pc + 3) lv stk h r h') : G sc y cc mL ret fr lo pc lv (.int b :: .int a :: stk) h r h' :=
  g_two (fun hx hb k1 k2 => lv_icmp_le hx hb hd ht k1 k2) (Classical.em _) k1 k2
theorem g_tabIn {dflt lo_ hi_ : Int} {offs : Array Int} {len : Nat} {a : Int32} {off : Int} (tgt : Nat) (v : Int32) (hd : decode cc pc = .ok (.tableswitch dflt lo_ hi_ offs, len)) (hv : a = v) (h1 : ¬ v.toInt < lo_) (h2 : ¬ hi_ < v.toInt) (ho : offs[(v.toInt - lo_).toNat]? = some off) (ht : (pc : Int) + off = (tgt : Int)) (k : G sc y cc mL ret fr lo tgt lv stk h r h') : G sc y cc mL ret fr lo pc lv (.int a :: stk) h r h' :=
  g_pure (fun hx hb _ _ _ k => by subst hv; exact lv_tableIn hx hb hd h1 h2 ho ht k) k
theorem g_tabOut {dflt lo_ hi_ : Int} {offs : Array Int} {len : Nat} {a : Int32} (tgt n : Nat) (hd : decode cc pc = .ok (.tableswitch dflt lo_ hi_ offs, len)) (hn : hi_ < lo_ + n) (hall : ∀ i : Nat, i < n → ¬ a = Int32.ofInt (lo_ + i)) (ht : (pc : Int) + dflt = (tgt : Int)) (k : G sc y cc mL ret fr lo tgt lv stk h r h') : G sc y cc mL ret fr lo pc lv (.int a :: stk) h r h' := by
  refine g_pure (fun hx hb _ _ _ k => lv_tableOut hx hb hd ?_ ht k) k
  rcases Int.lt_or_le a.toInt lo_ with q | q
  · exact Or.inl q
  · rcases Int.lt_or_le hi_ a.toInt with q2 | q2
    · exact Or.inr q2
    · exact absurd (by rw [show lo_ + ((a.toInt - lo_).toNat : Int) = a.toInt by omega]; exact (Int32.ofInt_toInt a).symm) (hall (a.toInt - lo_).toNat (by omega))
theorem cq_pick (ad : Nat → Nat) (lv : List (Nat × Value)) (ks : List Nat) : lv_pick (lv.map (cq ad)) ks = (lv_pick lv ks).map (cq ad) := by
  induction ks with
  | nil => rfl
  | cons a ks ih =>
    simp only [lv_pick, List.filterMap_cons, List.getElem?_map] at ih ⊢
    cases lv[a]? <;> simp [ih]
theorem cq_f1 (ad : Nat → Nat) (i : Nat) (lv : List (Nat × Value)) : (lv.map (cq ad)).filter (fun q => !(q.1 == i) && !(q.1 + 1 == i && q.2.category == 2)) = (lv.filter (fun q => !(q.1 == i) && !(q.1 + 1 == i && q.2.category == 2))).map (cq ad) := by
  rw [List.filter_map]; congr 1; apply List.filter_congr; intro q _; simp [cq, cv_cat]
theorem cq_f2 (ad : Nat → Nat) (i : Nat) (lv : List (Nat × Value)) : (lv.map (cq ad)).filter (fun q => !(q.1 == i) && (!(q.1 == i + 1) && !(q.1 + 1 == i && q.2.category == 2))) = (lv.filter (fun q => !(q.1 == i) && (!(q.1 == i + 1) && !(q.1 + 1 == i && q.2.category == 2)))).map (cq ad) := by
  rw [List.filter_map]; congr 1; apply List.filter_congr; intro q _; simp [cq, cv_cat]
/-- a row that changes locals alone -/
theorem g_loc {pc2 : Nat} {stk2 : List Value} (f : ∀ {p : Program} {l : Launch} {e : Env} {R : Room} {s : State} {m : MethodId} {args : Array Value} {below : List Frame} {meth : Method} {c : Code} {H : Heap} {locs : List Loc} {cells slots : Nat} {Q : State → Prop} {ls : Array Slot} {ad : Nat → Nat}, p.tables.exec = Jvm.exec → c.code = cc → lv_has ls mL (lv.map (cq ad)) → (∀ ls', lv_has ls' mL (lv'.map (cq ad)) → W p l e R s m args below meth c H locs cells slots Q (F0 m pc2 ls' (stk2.map (cv ad)))) → W p l e R s m args below meth c H locs cells slots Q (F0 m pc ls (stk.map (cv ad))))
    (k : G sc y cc mL ret fr lo pc2 lv' stk2 h r h') : G sc y cc mL ret fr lo pc lv stk h r h' :=
  ⟨k.1, k.2.1, fun l p e R s m args below meth c dC dI dA ad0 n0 s0 A Qc C q f1 f2 f3 f4 ad H locs ls S => f C.1 C.2.1 S.2.2.2.1 (fun ls' hl => k.2.2 l p e R s m args below meth c dC dI dA ad0 n0 s0 A Qc C q f1 f2 f3 f4 ad H locs ls' ⟨S.1, S.2.1, S.2.2.1, hl, S.2.2.2.2⟩)⟩
theorem g_lv (ks : List Nat) (hk : lv_pick lv ks = lv') (k : G sc y cc mL ret fr lo pc lv' stk h r h') : G sc y cc mL ret fr lo pc lv stk h r h' :=
  g_loc (fun _ _ hl k => k _ (lv_sub hl ks (by rw [cq_pick, hk]))) k
theorem g_istore_n {f : Fin 4} {i : Nat} {x : Int32} (lv' : List (Nat × Value)) (hd : decode cc pc = .ok (.istore_n f, 1)) (hi : (f : Nat) = i) (hn : i < mL) (hl : (i, Value.int x) :: lv.filter (fun q => !(q.1 == i) && !(q.1 + 1 == i && q.2.category == 2)) = lv') (k : G sc y cc mL ret fr lo (pc + 1) lv' stk h r h') : G sc y cc mL ret fr lo pc lv (.int x :: stk) h r h' :=
  g_loc (fun hx hb h1 k => lv_istore_n hx hb hd hi h1 hn (by rw [cq_f1, ← hl]; rfl) k) k
theorem g_istore {i : Nat} {x : Int32} (lv' : List (Nat × Value)) (hd : decode cc pc = .ok (.istore i, 2)) (hn : i < mL) (hl : (i, Value.int x) :: lv.filter (fun q => !(q.1 == i) && !(q.1 + 1 == i && q.2.category == 2)) = lv') (k : G sc y cc mL ret fr lo (pc + 2) lv' stk h r h') : G sc y cc mL ret fr lo pc lv (.int x :: stk) h r h' :=
  g_loc (fun hx hb h1 k => lv_istore hx hb hd h1 hn (by rw [cq_f1, ← hl]; rfl) k) k
theorem g_astore_n {f : Fin 4} {i : Nat} {x : Nat} (lv' : List (Nat × Value)) (hd : decode cc pc = .ok (.astore_n f, 1)) (hi : (f : Nat) = i) (hn : i < mL) (hl : (i, Value.ref x) :: lv.filter (fun q => !(q.1 == i) && !(q.1 + 1 == i && q.2.category == 2)) = lv') (k : G sc y cc mL ret fr lo (pc + 1) lv' stk h r h') : G sc y cc mL ret fr lo pc lv (.ref x :: stk) h r h' :=
  g_loc (fun hx hb h1 k => lv_astore_n hx hb hd hi h1 hn (by rw [cq_f1, ← hl]; rfl) k) k
theorem g_astore {i : Nat} {x : Nat} (lv' : List (Nat × Value)) (hd : decode cc pc = .ok (.astore i, 2)) (hn : i < mL) (hl : (i, Value.ref x) :: lv.filter (fun q => !(q.1 == i) && !(q.1 + 1 == i && q.2.category == 2)) = lv') (k : G sc y cc mL ret fr lo (pc + 2) lv' stk h r h') : G sc y cc mL ret fr lo pc lv (.ref x :: stk) h r h' :=
  g_loc (fun hx hb h1 k => lv_astore hx hb hd h1 hn (by rw [cq_f1, ← hl]; rfl) k) k
theorem g_lstore_n {f : Fin 4} {i : Nat} {x : Int64} (lv' : List (Nat × Value)) (hd : decode cc pc = .ok (.lstore_n f, 1)) (hi : (f : Nat) = i) (hn : i + 1 < mL) (hl : (i, Value.long x) :: lv.filter (fun q => !(q.1 == i) && (!(q.1 == i + 1) && !(q.1 + 1 == i && q.2.category == 2))) = lv') (k : G sc y cc mL ret fr lo (pc + 1) lv' stk h r h') : G sc y cc mL ret fr lo pc lv (.long x :: stk) h r h' :=
  g_loc (fun hx hb h1 k => lv_lstore_n hx hb hd hi h1 hn (by rw [cq_f2, ← hl]; rfl) k) k
theorem g_lstore {i : Nat} {x : Int64} (lv' : List (Nat × Value)) (hd : decode cc pc = .ok (.lstore i, 2)) (hn : i + 1 < mL) (hl : (i, Value.long x) :: lv.filter (fun q => !(q.1 == i) && (!(q.1 == i + 1) && !(q.1 + 1 == i && q.2.category == 2))) = lv') (k : G sc y cc mL ret fr lo (pc + 2) lv' stk h r h') : G sc y cc mL ret fr lo pc lv (.long x :: stk) h r h' :=
  g_loc (fun hx hb h1 k => lv_lstore hx hb hd h1 hn (by rw [cq_f2, ← hl]; rfl) k) k
theorem g_iinc {i : Nat} {n : Int} {x : Int32} (j : Nat) (v : Int32) (lv' : List (Nat × Value)) (hd : decode cc pc = .ok (.iinc i n, 3)) (hj : lv[j]? = some (i, .int x)) (hv : x + Int32.ofInt n = v) (hn : i < mL) (hl : (i, Value.int v) :: lv.filter (fun q => !(q.1 == i) && !(q.1 + 1 == i && q.2.category == 2)) = lv') (k : G sc y cc mL ret fr lo (pc + 3) lv' stk h r h') : G sc y cc mL ret fr lo pc lv stk h r h' :=
  g_loc (fun hx hb h1 k => lv_iinc hx hb hd h1 (k := j) (by rw [List.getElem?_map, hj]; rfl) hv hn (by rw [cq_f1, ← hl]; rfl) k) k
end
