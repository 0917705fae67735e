/-! 04.base -/
section
/-! small words of the printed functions and proofs -/
def FU : Nat := 600
def bd1 {α β : Type} (x : Option α) (f : α → Option β) : Option β := match x with
  | some a => f a
  | none => none
def bd2 {α β γ : Type} (x : Option (α × γ)) (f : α → γ → Option β) : Option β := match x with
  | some a => f a.1 a.2
  | none => none
theorem bd1_s {α β : Type} (a : α) (f : α → Option β) : bd1 (some a) f = f a := rfl
theorem bd2_s {α β γ : Type} (a : α) (c : γ) (f : α → γ → Option β) : bd2 (some (a, c)) f = f a c := rfl
theorem bd1_e {α β : Type} {x : Option α} {f : α → Option β} {b : β} (h : bd1 x f = some b) : ∃ a, x = some a ∧ f a = some b := by
  cases x with
  | none => cases h
  | some a => exact ⟨a, rfl, h⟩
theorem bd2_e {α β γ : Type} {x : Option (α × γ)} {f : α → γ → Option β} {b : β} (h : bd2 x f = some b) : ∃ a c, x = some (a, c) ∧ f a c = some b := by
  cases x with
  | none => cases h
  | some a => exact ⟨a.1, a.2, rfl, h⟩
theorem ret1 {α : Type} {a b : α} (h : some a = some b) : b = a := (Option.some.inj h).symm
theorem ret2 {α β : Type} {a c : α} {b d : β} (h : some (a, b) = some (c, d)) : c = a ∧ d = b := by
  have := Option.some.inj h
  exact ⟨(congrArg Prod.fst this).symm, (congrArg Prod.snd this).symm⟩
theorem nar_z {x : Int32} (h : x = 0 ∨ x = 1) : narrow .boolean (.int x) = .int x := by
  rcases h with rfl | rfl <;> rfl
def site0 (y2 : MethodName) (cc2 : ByteArray) (mL2 : Nat) (ret2 : Option FieldType) (n : Nat) : Prop :=
  Cond.code y2 cc2 mL2 ret2 ∈ tbg ∧ Cond.initialized y2.cls ∈ tbg ∧ (y2.cls ≠ "java/lang/invoke/MethodHandle" ∧ y2.cls ≠ "java/lang/invoke/VarHandle") ∧ (parseMethodDescriptor y2.desc).map (fun d => d.parameters.length) = some n
theorem site_of {y y2 : MethodName} {cc2 : ByteArray} {mL2 : Nat} {ret2 : Option FieldType} {fr lo fr2 lo2 n : Nat} (h : site0 y2 cc2 mL2 ret2 n) (h1 : fr2 + 1 ≤ fr) (h2 : 8 + (mL2 + 11) + lo2 ≤ lo) : site y y2 cc2 mL2 ret2 fr lo fr2 lo2 n := ⟨h.1, h.2.1, h.2.2.1, h.2.2.2, h1, h2⟩
end
/-! 04c.look -/
section
section
variable {sc : Nat × (Nat → Int32)} {y : MethodName} {cc : ByteArray} {mL : Nat} {ret : Option FieldType} {fr lo pc : Nat} {lv lv' : List (Nat × Value)} {stk stk2 : List Value} {h h' : mH} {r : Option Value}
theorem g_st (stk2 : List Value) (e : stk = stk2) (k : G sc y cc mL ret fr lo pc lv stk2 h r h') : G sc y cc mL ret fr lo pc lv stk h r h' := e ▸ k
theorem g_lookIn {dflt : Int} {ps : Array (Int × Int)} {len : Nat} {a : Int32} (tgt : Nat) (v : Int32) (hd : decode cc pc = .ok (.lookupswitch dflt ps, len)) (hv : a = v) (hp : (ps.toList.zip (ps.toList.drop 1)).all (fun (a, next) => a.1 < next.1) = true) (ho : (pc : Int) + Op.lookupswitch.offset ps.toList dflt v.toInt = (tgt : Int)) (k : G sc y cc mL ret fr lo tgt lv stk h r h') : G sc y cc mL ret fr lo pc lv (.int a :: stk) h r h' :=
  g_pure (fun hx hb _ _ _ k => by subst hv; exact lv_lookup hx hb hd hp rfl ho k) k
end
end
/-! 04d.look2 -/
section
section
variable {sc : Nat × (Nat → Int32)} {y : MethodName} {cc : ByteArray} {mL : Nat} {ret : Option FieldType} {fr lo pc : Nat} {lv lv' : List (Nat × Value)} {stk stk2 : List Value} {h h' : mH} {r : Option Value}
theorem look_out (ps : List (Int × Int)) (dflt k : Int) (hall : ∀ q ∈ ps, k ≠ q.1) : Op.lookupswitch.offset ps dflt k = dflt := by
  induction ps with
  | nil => rfl
  | cons q ps ih =>
    rw [Op.lookupswitch.offset_cons, ih (fun z hz => hall z (List.mem_cons_of_mem _ hz))]
    have := hall q List.mem_cons_self
    simp
    intro e
    exact absurd e (by first | exact this | exact fun z => this z.symm)
theorem g_lookOut {dflt : Int} {ps : Array (Int × Int)} {len : Nat} {a : Int32} (tgt : Nat) (hd : decode cc pc = .ok (.lookupswitch dflt ps, len)) (hp : (ps.toList.zip (ps.toList.drop 1)).all (fun (a, next) => a.1 < next.1) = true) (hall : ∀ q ∈ ps.toList, ¬ a = Int32.ofInt q.1) (ht : (pc : Int) + dflt = (tgt : Int)) (k : G sc y cc mL ret fr lo tgt lv stk h r h') : G sc y cc mL ret fr lo pc lv (.int a :: stk) h r h' :=
  g_pure (fun hx hb _ _ _ k => lv_lookup hx hb hd hp (look_out _ _ _ (fun q hq e => hall q hq (by rw [← e]; exact (Int32.ofInt_toInt a).symm))) ht k) k
end
end
/-! 04e.ldcs -/
section
section
variable {sc : Nat × (Nat → Int32)} {y : MethodName} {cc : ByteArray} {mL : Nat} {ret : Option FieldType} {fr lo pc : Nat} {lv lv' : List (Nat × Value)} {stk stk2 : List Value} {h h' : mH} {r : Option Value}
theorem ldcs_e {dC : Nat → ClassId} {dI : Nat → Nat → Nat} {dA : Nat → ClassId} {ad0 : Nat → Nat} {n0 s0 : Nat} {A : Nat → Prop} {s : State} {ad : Nat → Nat} {H : Heap} {locs : List Loc} {ls : Array Slot} (S : Sr mL dC dI dA ad0 n0 s0 A s h lv ad H locs ls) (i : Nat) : ad (1000 + i) = ad0 (1000 + i) := S.2.2.2.2.1 _ (Or.inr (Nat.le_trans S.2.2.2.2.2.2.2.1 (Nat.le_add_right 1000 i)))
theorem ldcs_x {dC : Nat → ClassId} {dI : Nat → Nat → Nat} {dA : Nat → ClassId} {ad0 : Nat → Nat} {A : Nat → Prop} {p : Program} {s : State} {m : MethodId} {args : Array Value} {meth : Method} {c : Code} (C : Cx sc y cc mL ret dC dI dA ad0 A p s m args meth c) {i index : Nat} {tx : String} (hi : strK[i]? = some (y.cls, index, tx)) : vk_R y.cls index tx (ad0 (1000 + i)) s := by
  obtain ⟨-, -, -, -, -, -, -, -, -, z, -⟩ := C
  exact z.2.1 i (y.cls, index, tx) hi
end
end
/-! 04f.ldcs2 -/
section
section
variable {sc : Nat × (Nat → Int32)} {y : MethodName} {cc : ByteArray} {mL : Nat} {ret : Option FieldType} {fr lo pc : Nat} {lv lv' : List (Nat × Value)} {stk stk2 : List Value} {h h' : mH} {r : Option Value}
theorem g_ldcS {index : Nat} {tx : String} (i : Nat) (hd : decode cc pc = .ok (.ldc index, 2)) (hi : strK[i]? = some (y.cls, index, tx)) (k : G sc y cc mL ret fr lo (pc + 2) lv (.ref (1000 + i) :: stk) h r h') : G sc y cc mL ret fr lo pc lv stk h r h' := by
  refine ⟨k.1, k.2.1, fun l p e R s m args below meth c dC dI dA ad0 n0 s0 A Qc C q f1 f2 f3 f4 ad H locs ls S => ?_⟩
  have k2 := k.2.2 l p e R s m args below meth c dC dI dA ad0 n0 s0 A Qc C q f1 f2 f3 f4 ad H locs ls S
  have x := ldcs_x C hi
  rw [← ldcs_e S i] at x
  obtain ⟨c1, c2, -, -, -, c6, -⟩ := C
  exact va_ldcS c1 c2 c6 x hd k2
end
end
/-! 04g.ops -/
section
/-! what an instruction is, by the bytes at its place -/
theorem zq_nx1 {l : List UInt8} {p q : Nat} {b : UInt8} {t : List UInt8} (h : List.drop p l = b :: t) (e : p + 1 = q) : List.drop q l = t := by
  subst e
  rw [← List.drop_drop, h]
  rfl
theorem zq_nx2 {l : List UInt8} {p q : Nat} {a b : UInt8} {t : List UInt8} (h : List.drop p l = a :: b :: t) (e : p + 2 = q) : List.drop q l = t := by
  subst e
  rw [← List.drop_drop, h]
  rfl
theorem zq_nx3 {l : List UInt8} {p q : Nat} {a b c : UInt8} {t : List UInt8} (h : List.drop p l = a :: b :: c :: t) (e : p + 3 = q) : List.drop q l = t := by
  subst e
  rw [← List.drop_drop, h]
  rfl
theorem zq_u1_at {cc : ByteArray} {p : Nat} {b : UInt8} {t : List UInt8} (h : List.drop p cc.data.toList = b :: t) : (Jvm.ClassFile.Reader.u1 : Jvm.ClassFile.Decoder Nat) cc p = .ok (b.toNat, p + 1) := by
  have hl : cc.data.toList[p]? = some b := by
    have z := congrArg (fun l => l[0]?) h
    simpa [List.getElem?_drop] using z
  obtain ⟨hp, e⟩ := List.getElem?_eq_some_iff.mp hl
  have hp2 : p < cc.size := hp
  have e2 : cc[p] = b := e
  show (dite (p < cc.size) (fun _ => _) (fun _ => _) : Jvm.ClassFile.Decoder Nat) cc p = _
  rw [dif_pos hp2]
  show Except.ok (cc[p].toNat, p + 1) = _
  rw [e2]
theorem zq_u2_at {cc : ByteArray} {p : Nat} {a b : UInt8} {t : List UInt8} (h : List.drop p cc.data.toList = a :: b :: t) : (Jvm.ClassFile.Reader.u2 : Jvm.ClassFile.Decoder Nat) cc p = .ok (a.toNat * 256 + b.toNat, p + 2) := by
  show Except.bind ((Jvm.ClassFile.Reader.u1 : Jvm.ClassFile.Decoder Nat) cc p) (fun r => Except.bind ((Jvm.ClassFile.Reader.u1 : Jvm.ClassFile.Decoder Nat) cc r.2) (fun s => Except.ok (r.1 * 256 + s.1, s.2))) = _
  rw [zq_u1_at h]
  show Except.bind ((Jvm.ClassFile.Reader.u1 : Jvm.ClassFile.Decoder Nat) cc (p + 1)) (fun s => Except.ok (a.toNat * 256 + s.1, s.2)) = _
  rw [zq_u1_at (zq_nx1 h rfl)]
  rfl
theorem zq_s1_at {cc : ByteArray} {p : Nat} {a : UInt8} {t : List UInt8} (h : List.drop p cc.data.toList = a :: t) : (Jvm.ClassFile.Reader.s1 : Jvm.ClassFile.Decoder Int) cc p = .ok (Jvm.ClassFile.Reader.signed 8 a.toNat, p + 1) := by
  show Except.bind ((Jvm.ClassFile.Reader.u1 : Jvm.ClassFile.Decoder Nat) cc p) (fun r => Except.ok (Jvm.ClassFile.Reader.signed 8 r.1, r.2)) = _
  rw [zq_u1_at h]
  rfl
theorem zq_s2_at {cc : ByteArray} {p : Nat} {a b : UInt8} {t : List UInt8} (h : List.drop p cc.data.toList = a :: b :: t) : (Jvm.ClassFile.Reader.s2 : Jvm.ClassFile.Decoder Int) cc p = .ok (Jvm.ClassFile.Reader.signed 16 (a.toNat * 256 + b.toNat), p + 2) := by
  show Except.bind ((Jvm.ClassFile.Reader.u2 : Jvm.ClassFile.Decoder Nat) cc p) (fun r => Except.ok (Jvm.ClassFile.Reader.signed 16 r.1, r.2)) = _
  rw [zq_u2_at h]
  rfl
noncomputable def zq_instrK (pc : Nat) : { K : Nat → Jvm.ClassFile.Decoder Jvm.ClassFile.Instr // Jvm.ClassFile.Decoder.instr pc = (Jvm.ClassFile.Reader.u1 >>= K) } := ⟨_, rfl⟩
theorem zq_instr_at {cc : ByteArray} {p : Nat} {b : UInt8} {t : List UInt8} (h : List.drop p cc.data.toList = b :: t) : Jvm.ClassFile.Decoder.instr p cc p = (zq_instrK p).1 b.toNat cc (p + 1) := by
  refine Eq.trans (congrArg (fun z : Jvm.ClassFile.Decoder Jvm.ClassFile.Instr => z cc p) (zq_instrK p).2) ?_
  show Except.bind ((Jvm.ClassFile.Reader.u1 : Jvm.ClassFile.Decoder Nat) cc p) (fun r => (zq_instrK p).1 r.1 cc r.2) = _
  rw [zq_u1_at h]
  rfl
theorem zq_dec_of {cc : ByteArray} {p n m : Nat} {i : Jvm.ClassFile.Instr} (h : Jvm.ClassFile.Decoder.instr p cc p = .ok (i, n)) (e : n = p + m) : decode cc p = .ok (i, m) := by
  have z : decode cc p = Except.bind (Jvm.ClassFile.Decoder.instr p cc p) (fun r => Except.ok (r.1, r.2 - p)) := rfl
  rw [z, h, e]
  show Except.ok (i, p + m - p) = _
  rw [Nat.add_sub_cancel_left]
theorem zq_k_n {cc : ByteArray} {p : Nat} {b : UInt8} {t : List UInt8} {i : Jvm.ClassFile.Instr} (op : Nat) (h : List.drop p cc.data.toList = b :: t) (hb : b.toNat = op) (hk : (zq_instrK p).1 op = Pure.pure i) : decode cc p = .ok (i, 1) := by
  refine zq_dec_of (n := p + 1) ?_ rfl
  rw [zq_instr_at h, hb, hk]
  rfl
theorem zq_k_u1 {cc : ByteArray} {p : Nat} {b x : UInt8} {t : List UInt8} (op : Nat) (f : Nat → Jvm.ClassFile.Instr) (n : Nat) (h : List.drop p cc.data.toList = b :: x :: t) (hb : b.toNat = op) (hk : (zq_instrK p).1 op = (Jvm.ClassFile.Reader.u1 >>= fun z => Pure.pure (f z))) (hn : x.toNat = n) : decode cc p = .ok (f n, 2) := by
  refine zq_dec_of (n := p + 1 + 1) ?_ rfl
  rw [zq_instr_at h, hb, hk]
  show Except.bind ((Jvm.ClassFile.Reader.u1 : Jvm.ClassFile.Decoder Nat) cc (p + 1)) (fun r => Except.ok (f r.1, r.2)) = _
  rw [zq_u1_at (zq_nx1 h rfl), hn]
  rfl
theorem zq_k_s1 {cc : ByteArray} {p : Nat} {b x : UInt8} {t : List UInt8} (op : Nat) (f : Int → Jvm.ClassFile.Instr) (n : Int) (h : List.drop p cc.data.toList = b :: x :: t) (hb : b.toNat = op) (hk : (zq_instrK p).1 op = (Jvm.ClassFile.Reader.s1 >>= fun z => Pure.pure (f z))) (hn : Jvm.ClassFile.Reader.signed 8 x.toNat = n) : decode cc p = .ok (f n, 2) := by
  refine zq_dec_of (n := p + 1 + 1) ?_ rfl
  rw [zq_instr_at h, hb, hk]
  show Except.bind ((Jvm.ClassFile.Reader.s1 : Jvm.ClassFile.Decoder Int) cc (p + 1)) (fun r => Except.ok (f r.1, r.2)) = _
  rw [zq_s1_at (zq_nx1 h rfl), hn]
  rfl
theorem zq_k_u2 {cc : ByteArray} {p : Nat} {b x y : UInt8} {t : List UInt8} (op : Nat) (f : Nat → Jvm.ClassFile.Instr) (n : Nat) (h : List.drop p cc.data.toList = b :: x :: y :: t) (hb : b.toNat = op) (hk : (zq_instrK p).1 op = (Jvm.ClassFile.Reader.u2 >>= fun z => Pure.pure (f z))) (hn : x.toNat * 256 + y.toNat = n) : decode cc p = .ok (f n, 3) := by
  refine zq_dec_of (n := p + 1 + 2) ?_ rfl
  rw [zq_instr_at h, hb, hk]
  show Except.bind ((Jvm.ClassFile.Reader.u2 : Jvm.ClassFile.Decoder Nat) cc (p + 1)) (fun r => Except.ok (f r.1, r.2)) = _
  rw [zq_u2_at (zq_nx1 h rfl), hn]
  rfl
theorem zq_k_s2 {cc : ByteArray} {p : Nat} {b x y : UInt8} {t : List UInt8} (op : Nat) (f : Int → Jvm.ClassFile.Instr) (n : Int) (h : List.drop p cc.data.toList = b :: x :: y :: t) (hb : b.toNat = op) (hk : (zq_instrK p).1 op = (Jvm.ClassFile.Reader.s2 >>= fun z => Pure.pure (f z))) (hn : Jvm.ClassFile.Reader.signed 16 (x.toNat * 256 + y.toNat) = n) : decode cc p = .ok (f n, 3) := by
  refine zq_dec_of (n := p + 1 + 2) ?_ rfl
  rw [zq_instr_at h, hb, hk]
  show Except.bind ((Jvm.ClassFile.Reader.s2 : Jvm.ClassFile.Decoder Int) cc (p + 1)) (fun r => Except.ok (f r.1, r.2)) = _
  rw [zq_s2_at (zq_nx1 h rfl), hn]
  rfl
theorem zq_k_iinc {cc : ByteArray} {p : Nat} {b x y : UInt8} {t : List UInt8} (n : Nat) (m : Int) (h : List.drop p cc.data.toList = b :: x :: y :: t) (hb : b.toNat = 132) (hk : (zq_instrK p).1 132 = (Jvm.ClassFile.Reader.u1 >>= fun z => Jvm.ClassFile.Reader.s1 >>= fun w => Pure.pure (Jvm.ClassFile.Instr.iinc z w))) (hn : x.toNat = n) (hm : Jvm.ClassFile.Reader.signed 8 y.toNat = m) : decode cc p = .ok (.iinc n m, 3) := by
  refine zq_dec_of (n := p + 1 + 1 + 1) ?_ rfl
  rw [zq_instr_at h, hb, hk]
  show Except.bind ((Jvm.ClassFile.Reader.u1 : Jvm.ClassFile.Decoder Nat) cc (p + 1)) (fun r => Except.bind ((Jvm.ClassFile.Reader.s1 : Jvm.ClassFile.Decoder Int) cc r.2) (fun s => Except.ok (Jvm.ClassFile.Instr.iinc r.1 s.1, s.2))) = _
  rw [zq_u1_at (zq_nx1 h rfl), hn]
  show Except.bind ((Jvm.ClassFile.Reader.s1 : Jvm.ClassFile.Decoder Int) cc (p + 1 + 1)) (fun s => Except.ok (Jvm.ClassFile.Instr.iinc n s.1, s.2)) = _
  rw [zq_s1_at (zq_nx2 h rfl), hm]
  rfl
theorem zq_o_2 (p : Nat) : (zq_instrK p).1 2 = Pure.pure (Jvm.ClassFile.Instr.iconst (-1)) := rfl
theorem zq_o_3 (p : Nat) : (zq_instrK p).1 3 = Pure.pure (Jvm.ClassFile.Instr.iconst 0) := rfl
theorem zq_o_4 (p : Nat) : (zq_instrK p).1 4 = Pure.pure (Jvm.ClassFile.Instr.iconst 1) := rfl
theorem zq_o_5 (p : Nat) : (zq_instrK p).1 5 = Pure.pure (Jvm.ClassFile.Instr.iconst 2) := rfl
theorem zq_o_6 (p : Nat) : (zq_instrK p).1 6 = Pure.pure (Jvm.ClassFile.Instr.iconst 3) := rfl
theorem zq_o_7 (p : Nat) : (zq_instrK p).1 7 = Pure.pure (Jvm.ClassFile.Instr.iconst 4) := rfl
theorem zq_o_8 (p : Nat) : (zq_instrK p).1 8 = Pure.pure (Jvm.ClassFile.Instr.iconst 5) := rfl
theorem zq_o_9 (p : Nat) : (zq_instrK p).1 9 = Pure.pure (Jvm.ClassFile.Instr.lconst 0) := rfl
theorem zq_o_10 (p : Nat) : (zq_instrK p).1 10 = Pure.pure (Jvm.ClassFile.Instr.lconst 1) := rfl
theorem zq_o_26 (p : Nat) : (zq_instrK p).1 26 = Pure.pure (Jvm.ClassFile.Instr.iload_n 0) := rfl
theorem zq_o_27 (p : Nat) : (zq_instrK p).1 27 = Pure.pure (Jvm.ClassFile.Instr.iload_n 1) := rfl
theorem zq_o_28 (p : Nat) : (zq_instrK p).1 28 = Pure.pure (Jvm.ClassFile.Instr.iload_n 2) := rfl
theorem zq_o_29 (p : Nat) : (zq_instrK p).1 29 = Pure.pure (Jvm.ClassFile.Instr.iload_n 3) := rfl
theorem zq_o_30 (p : Nat) : (zq_instrK p).1 30 = Pure.pure (Jvm.ClassFile.Instr.lload_n 0) := rfl
theorem zq_o_31 (p : Nat) : (zq_instrK p).1 31 = Pure.pure (Jvm.ClassFile.Instr.lload_n 1) := rfl
theorem zq_o_32 (p : Nat) : (zq_instrK p).1 32 = Pure.pure (Jvm.ClassFile.Instr.lload_n 2) := rfl
theorem zq_o_33 (p : Nat) : (zq_instrK p).1 33 = Pure.pure (Jvm.ClassFile.Instr.lload_n 3) := rfl
theorem zq_o_42 (p : Nat) : (zq_instrK p).1 42 = Pure.pure (Jvm.ClassFile.Instr.aload_n 0) := rfl
theorem zq_o_43 (p : Nat) : (zq_instrK p).1 43 = Pure.pure (Jvm.ClassFile.Instr.aload_n 1) := rfl
theorem zq_o_44 (p : Nat) : (zq_instrK p).1 44 = Pure.pure (Jvm.ClassFile.Instr.aload_n 2) := rfl
theorem zq_o_45 (p : Nat) : (zq_instrK p).1 45 = Pure.pure (Jvm.ClassFile.Instr.aload_n 3) := rfl
theorem zq_o_46 (p : Nat) : (zq_instrK p).1 46 = Pure.pure (Jvm.ClassFile.Instr.iaload) := rfl
theorem zq_o_47 (p : Nat) : (zq_instrK p).1 47 = Pure.pure (Jvm.ClassFile.Instr.laload) := rfl
theorem zq_o_50 (p : Nat) : (zq_instrK p).1 50 = Pure.pure (Jvm.ClassFile.Instr.aaload) := rfl
theorem zq_o_51 (p : Nat) : (zq_instrK p).1 51 = Pure.pure (Jvm.ClassFile.Instr.baload) := rfl
theorem zq_o_59 (p : Nat) : (zq_instrK p).1 59 = Pure.pure (Jvm.ClassFile.Instr.istore_n 0) := rfl
theorem zq_o_60 (p : Nat) : (zq_instrK p).1 60 = Pure.pure (Jvm.ClassFile.Instr.istore_n 1) := rfl
theorem zq_o_61 (p : Nat) : (zq_instrK p).1 61 = Pure.pure (Jvm.ClassFile.Instr.istore_n 2) := rfl
theorem zq_o_62 (p : Nat) : (zq_instrK p).1 62 = Pure.pure (Jvm.ClassFile.Instr.istore_n 3) := rfl
theorem zq_o_63 (p : Nat) : (zq_instrK p).1 63 = Pure.pure (Jvm.ClassFile.Instr.lstore_n 0) := rfl
theorem zq_o_64 (p : Nat) : (zq_instrK p).1 64 = Pure.pure (Jvm.ClassFile.Instr.lstore_n 1) := rfl
theorem zq_o_65 (p : Nat) : (zq_instrK p).1 65 = Pure.pure (Jvm.ClassFile.Instr.lstore_n 2) := rfl
theorem zq_o_66 (p : Nat) : (zq_instrK p).1 66 = Pure.pure (Jvm.ClassFile.Instr.lstore_n 3) := rfl
theorem zq_o_75 (p : Nat) : (zq_instrK p).1 75 = Pure.pure (Jvm.ClassFile.Instr.astore_n 0) := rfl
theorem zq_o_76 (p : Nat) : (zq_instrK p).1 76 = Pure.pure (Jvm.ClassFile.Instr.astore_n 1) := rfl
theorem zq_o_77 (p : Nat) : (zq_instrK p).1 77 = Pure.pure (Jvm.ClassFile.Instr.astore_n 2) := rfl
theorem zq_o_78 (p : Nat) : (zq_instrK p).1 78 = Pure.pure (Jvm.ClassFile.Instr.astore_n 3) := rfl
theorem zq_o_79 (p : Nat) : (zq_instrK p).1 79 = Pure.pure (Jvm.ClassFile.Instr.iastore) := rfl
theorem zq_o_80 (p : Nat) : (zq_instrK p).1 80 = Pure.pure (Jvm.ClassFile.Instr.lastore) := rfl
theorem zq_o_83 (p : Nat) : (zq_instrK p).1 83 = Pure.pure (Jvm.ClassFile.Instr.aastore) := rfl
theorem zq_o_84 (p : Nat) : (zq_instrK p).1 84 = Pure.pure (Jvm.ClassFile.Instr.bastore) := rfl
theorem zq_o_87 (p : Nat) : (zq_instrK p).1 87 = Pure.pure (Jvm.ClassFile.Instr.pop) := rfl
theorem zq_o_88 (p : Nat) : (zq_instrK p).1 88 = Pure.pure (Jvm.ClassFile.Instr.pop2) := rfl
theorem zq_o_89 (p : Nat) : (zq_instrK p).1 89 = Pure.pure (Jvm.ClassFile.Instr.dup) := rfl
theorem zq_o_92 (p : Nat) : (zq_instrK p).1 92 = Pure.pure (Jvm.ClassFile.Instr.dup2) := rfl
theorem zq_o_96 (p : Nat) : (zq_instrK p).1 96 = Pure.pure (Jvm.ClassFile.Instr.iadd) := rfl
theorem zq_o_97 (p : Nat) : (zq_instrK p).1 97 = Pure.pure (Jvm.ClassFile.Instr.ladd) := rfl
theorem zq_o_100 (p : Nat) : (zq_instrK p).1 100 = Pure.pure (Jvm.ClassFile.Instr.isub) := rfl
theorem zq_o_104 (p : Nat) : (zq_instrK p).1 104 = Pure.pure (Jvm.ClassFile.Instr.imul) := rfl
theorem zq_o_105 (p : Nat) : (zq_instrK p).1 105 = Pure.pure (Jvm.ClassFile.Instr.lmul) := rfl
theorem zq_o_108 (p : Nat) : (zq_instrK p).1 108 = Pure.pure (Jvm.ClassFile.Instr.idiv) := rfl
theorem zq_o_109 (p : Nat) : (zq_instrK p).1 109 = Pure.pure (Jvm.ClassFile.Instr.ldiv) := rfl
theorem zq_o_112 (p : Nat) : (zq_instrK p).1 112 = Pure.pure (Jvm.ClassFile.Instr.irem) := rfl
theorem zq_o_113 (p : Nat) : (zq_instrK p).1 113 = Pure.pure (Jvm.ClassFile.Instr.lrem) := rfl
theorem zq_o_120 (p : Nat) : (zq_instrK p).1 120 = Pure.pure (Jvm.ClassFile.Instr.ishl) := rfl
theorem zq_o_122 (p : Nat) : (zq_instrK p).1 122 = Pure.pure (Jvm.ClassFile.Instr.ishr) := rfl
theorem zq_o_124 (p : Nat) : (zq_instrK p).1 124 = Pure.pure (Jvm.ClassFile.Instr.iushr) := rfl
theorem zq_o_126 (p : Nat) : (zq_instrK p).1 126 = Pure.pure (Jvm.ClassFile.Instr.iand) := rfl
theorem zq_o_128 (p : Nat) : (zq_instrK p).1 128 = Pure.pure (Jvm.ClassFile.Instr.ior) := rfl
theorem zq_o_130 (p : Nat) : (zq_instrK p).1 130 = Pure.pure (Jvm.ClassFile.Instr.ixor) := rfl
theorem zq_o_133 (p : Nat) : (zq_instrK p).1 133 = Pure.pure (Jvm.ClassFile.Instr.i2l) := rfl
theorem zq_o_136 (p : Nat) : (zq_instrK p).1 136 = Pure.pure (Jvm.ClassFile.Instr.l2i) := rfl
theorem zq_o_145 (p : Nat) : (zq_instrK p).1 145 = Pure.pure (Jvm.ClassFile.Instr.i2b) := rfl
theorem zq_o_146 (p : Nat) : (zq_instrK p).1 146 = Pure.pure (Jvm.ClassFile.Instr.i2c) := rfl
theorem zq_o_147 (p : Nat) : (zq_instrK p).1 147 = Pure.pure (Jvm.ClassFile.Instr.i2s) := rfl
theorem zq_o_148 (p : Nat) : (zq_instrK p).1 148 = Pure.pure (Jvm.ClassFile.Instr.lcmp) := rfl
theorem zq_o_172 (p : Nat) : (zq_instrK p).1 172 = Pure.pure (Jvm.ClassFile.Instr.ireturn) := rfl
theorem zq_o_173 (p : Nat) : (zq_instrK p).1 173 = Pure.pure (Jvm.ClassFile.Instr.lreturn) := rfl
theorem zq_o_177 (p : Nat) : (zq_instrK p).1 177 = Pure.pure (Jvm.ClassFile.Instr.return_) := rfl
theorem zq_o_190 (p : Nat) : (zq_instrK p).1 190 = Pure.pure (Jvm.ClassFile.Instr.arraylength) := rfl
theorem zq_o_191 (p : Nat) : (zq_instrK p).1 191 = Pure.pure (Jvm.ClassFile.Instr.athrow) := rfl
theorem zq_o_16 (p : Nat) : (zq_instrK p).1 16 = (Jvm.ClassFile.Reader.s1 >>= fun z => Pure.pure (Jvm.ClassFile.Instr.bipush z)) := rfl
theorem zq_o_17 (p : Nat) : (zq_instrK p).1 17 = (Jvm.ClassFile.Reader.s2 >>= fun z => Pure.pure (Jvm.ClassFile.Instr.sipush z)) := rfl
theorem zq_o_18 (p : Nat) : (zq_instrK p).1 18 = (Jvm.ClassFile.Reader.u1 >>= fun z => Pure.pure (Jvm.ClassFile.Instr.ldc z)) := rfl
theorem zq_o_19 (p : Nat) : (zq_instrK p).1 19 = (Jvm.ClassFile.Reader.u2 >>= fun z => Pure.pure (Jvm.ClassFile.Instr.ldc_w z)) := rfl
theorem zq_o_20 (p : Nat) : (zq_instrK p).1 20 = (Jvm.ClassFile.Reader.u2 >>= fun z => Pure.pure (Jvm.ClassFile.Instr.ldc2_w z)) := rfl
theorem zq_o_21 (p : Nat) : (zq_instrK p).1 21 = (Jvm.ClassFile.Reader.u1 >>= fun z => Pure.pure (Jvm.ClassFile.Instr.iload z)) := rfl
theorem zq_o_22 (p : Nat) : (zq_instrK p).1 22 = (Jvm.ClassFile.Reader.u1 >>= fun z => Pure.pure (Jvm.ClassFile.Instr.lload z)) := rfl
theorem zq_o_25 (p : Nat) : (zq_instrK p).1 25 = (Jvm.ClassFile.Reader.u1 >>= fun z => Pure.pure (Jvm.ClassFile.Instr.aload z)) := rfl
theorem zq_o_54 (p : Nat) : (zq_instrK p).1 54 = (Jvm.ClassFile.Reader.u1 >>= fun z => Pure.pure (Jvm.ClassFile.Instr.istore z)) := rfl
theorem zq_o_55 (p : Nat) : (zq_instrK p).1 55 = (Jvm.ClassFile.Reader.u1 >>= fun z => Pure.pure (Jvm.ClassFile.Instr.lstore z)) := rfl
theorem zq_o_58 (p : Nat) : (zq_instrK p).1 58 = (Jvm.ClassFile.Reader.u1 >>= fun z => Pure.pure (Jvm.ClassFile.Instr.astore z)) := rfl
theorem zq_o_153 (p : Nat) : (zq_instrK p).1 153 = (Jvm.ClassFile.Reader.s2 >>= fun z => Pure.pure (Jvm.ClassFile.Instr.ifCond .eq z)) := rfl
theorem zq_o_154 (p : Nat) : (zq_instrK p).1 154 = (Jvm.ClassFile.Reader.s2 >>= fun z => Pure.pure (Jvm.ClassFile.Instr.ifCond .ne z)) := rfl
theorem zq_o_155 (p : Nat) : (zq_instrK p).1 155 = (Jvm.ClassFile.Reader.s2 >>= fun z => Pure.pure (Jvm.ClassFile.Instr.ifCond .lt z)) := rfl
theorem zq_o_156 (p : Nat) : (zq_instrK p).1 156 = (Jvm.ClassFile.Reader.s2 >>= fun z => Pure.pure (Jvm.ClassFile.Instr.ifCond .ge z)) := rfl
theorem zq_o_157 (p : Nat) : (zq_instrK p).1 157 = (Jvm.ClassFile.Reader.s2 >>= fun z => Pure.pure (Jvm.ClassFile.Instr.ifCond .gt z)) := rfl
theorem zq_o_158 (p : Nat) : (zq_instrK p).1 158 = (Jvm.ClassFile.Reader.s2 >>= fun z => Pure.pure (Jvm.ClassFile.Instr.ifCond .le z)) := rfl
theorem zq_o_159 (p : Nat) : (zq_instrK p).1 159 = (Jvm.ClassFile.Reader.s2 >>= fun z => Pure.pure (Jvm.ClassFile.Instr.if_icmp .eq z)) := rfl
theorem zq_o_160 (p : Nat) : (zq_instrK p).1 160 = (Jvm.ClassFile.Reader.s2 >>= fun z => Pure.pure (Jvm.ClassFile.Instr.if_icmp .ne z)) := rfl
theorem zq_o_161 (p : Nat) : (zq_instrK p).1 161 = (Jvm.ClassFile.Reader.s2 >>= fun z => Pure.pure (Jvm.ClassFile.Instr.if_icmp .lt z)) := rfl
theorem zq_o_162 (p : Nat) : (zq_instrK p).1 162 = (Jvm.ClassFile.Reader.s2 >>= fun z => Pure.pure (Jvm.ClassFile.Instr.if_icmp .ge z)) := rfl
theorem zq_o_163 (p : Nat) : (zq_instrK p).1 163 = (Jvm.ClassFile.Reader.s2 >>= fun z => Pure.pure (Jvm.ClassFile.Instr.if_icmp .gt z)) := rfl
theorem zq_o_164 (p : Nat) : (zq_instrK p).1 164 = (Jvm.ClassFile.Reader.s2 >>= fun z => Pure.pure (Jvm.ClassFile.Instr.if_icmp .le z)) := rfl
theorem zq_o_167 (p : Nat) : (zq_instrK p).1 167 = (Jvm.ClassFile.Reader.s2 >>= fun z => Pure.pure (Jvm.ClassFile.Instr.goto z)) := rfl
theorem zq_o_178 (p : Nat) : (zq_instrK p).1 178 = (Jvm.ClassFile.Reader.u2 >>= fun z => Pure.pure (Jvm.ClassFile.Instr.getstatic z)) := rfl
theorem zq_o_179 (p : Nat) : (zq_instrK p).1 179 = (Jvm.ClassFile.Reader.u2 >>= fun z => Pure.pure (Jvm.ClassFile.Instr.putstatic z)) := rfl
theorem zq_o_180 (p : Nat) : (zq_instrK p).1 180 = (Jvm.ClassFile.Reader.u2 >>= fun z => Pure.pure (Jvm.ClassFile.Instr.getfield z)) := rfl
theorem zq_o_181 (p : Nat) : (zq_instrK p).1 181 = (Jvm.ClassFile.Reader.u2 >>= fun z => Pure.pure (Jvm.ClassFile.Instr.putfield z)) := rfl
theorem zq_o_182 (p : Nat) : (zq_instrK p).1 182 = (Jvm.ClassFile.Reader.u2 >>= fun z => Pure.pure (Jvm.ClassFile.Instr.invokevirtual z)) := rfl
theorem zq_o_183 (p : Nat) : (zq_instrK p).1 183 = (Jvm.ClassFile.Reader.u2 >>= fun z => Pure.pure (Jvm.ClassFile.Instr.invokespecial z)) := rfl
theorem zq_o_184 (p : Nat) : (zq_instrK p).1 184 = (Jvm.ClassFile.Reader.u2 >>= fun z => Pure.pure (Jvm.ClassFile.Instr.invokestatic z)) := rfl
theorem zq_o_187 (p : Nat) : (zq_instrK p).1 187 = (Jvm.ClassFile.Reader.u2 >>= fun z => Pure.pure (Jvm.ClassFile.Instr.new z)) := rfl
theorem zq_o_189 (p : Nat) : (zq_instrK p).1 189 = (Jvm.ClassFile.Reader.u2 >>= fun z => Pure.pure (Jvm.ClassFile.Instr.anewarray z)) := rfl
theorem zq_o_192 (p : Nat) : (zq_instrK p).1 192 = (Jvm.ClassFile.Reader.u2 >>= fun z => Pure.pure (Jvm.ClassFile.Instr.checkcast z)) := rfl
theorem zq_o_193 (p : Nat) : (zq_instrK p).1 193 = (Jvm.ClassFile.Reader.u2 >>= fun z => Pure.pure (Jvm.ClassFile.Instr.instanceof z)) := rfl
theorem zq_o_132 (p : Nat) : (zq_instrK p).1 132 = (Jvm.ClassFile.Reader.u1 >>= fun z => Jvm.ClassFile.Reader.s1 >>= fun w => Pure.pure (Jvm.ClassFile.Instr.iinc z w)) := rfl
end
/-! 05.words -/
section
/-! names of the methods, and the words that their calls and fields need: printed by wip/gen/gen_all.py -/
def y_Q_new : MethodName := ⟨"QuotaLaws", "<init>", "()V"⟩
def y_Reader_new : MethodName := ⟨"QuotaLaws$Reader", "<init>", "()V"⟩
def y_Realm_new : MethodName := ⟨"QuotaLaws$Realm", "<init>", "()V"⟩
def y_Sightings_new : MethodName := ⟨"QuotaLaws$Sightings", "<init>", "()V"⟩
def y_Planner_new : MethodName := ⟨"QuotaLaws$Planner", "<init>", "()V"⟩
def y_Tables_new : MethodName := ⟨"QuotaLaws$Tables", "<init>", "()V"⟩
def y_Odds_new : MethodName := ⟨"QuotaLaws$Odds", "<init>", "()V"⟩
def y_Sheet_new : MethodName := ⟨"QuotaLaws$Sheet", "<init>", "()V"⟩
def y_Q_feed : MethodName := ⟨"QuotaLaws", "feed", "(I)I"⟩
def y_Q_isWithin : MethodName := ⟨"QuotaLaws", "isWithin", "(III)Z"⟩
def y_Reader_append : MethodName := ⟨"QuotaLaws$Reader", "append", "(I)Z"⟩
def y_Q_end : MethodName := ⟨"QuotaLaws", "end", "(I)I"⟩
def y_Q_text : MethodName := ⟨"QuotaLaws", "text", "()I"⟩
def y_Reader_readInto : MethodName := ⟨"QuotaLaws$Reader", "readInto", "(LQuotaLaws$Realm;)Z"⟩
def y_Realm_empty : MethodName := ⟨"QuotaLaws$Realm", "empty", "()V"⟩
def y_Arrays_fillI : MethodName := ⟨"java/util/Arrays", "fill", "([II)V"⟩
def y_Reader_takeToken : MethodName := ⟨"QuotaLaws$Reader", "takeToken", "()Z"⟩
def y_Reader_passRun : MethodName := ⟨"QuotaLaws$Reader", "passRun", "(II)V"⟩
def y_Reader_kindHere : MethodName := ⟨"QuotaLaws$Reader", "kindHere", "()I"⟩
def y_Reader_valueOfRun : MethodName := ⟨"QuotaLaws$Reader", "valueOfRun", "()I"⟩
def y_Reader_fail : MethodName := ⟨"QuotaLaws$Reader", "fail", "(II)Z"⟩
def y_Reader_takeLine : MethodName := ⟨"QuotaLaws$Reader", "takeLine", "(LQuotaLaws$Realm;)Z"⟩
def y_Reader_isWord : MethodName := ⟨"QuotaLaws$Reader", "isWord", "(Ljava/lang/String;)Z"⟩
def y_String_length : MethodName := ⟨"java/lang/String", "length", "()I"⟩
def y_String_coder : MethodName := ⟨"java/lang/String", "coder", "()B"⟩
def y_String_charAt : MethodName := ⟨"java/lang/String", "charAt", "(I)C"⟩
def y_String_isLatin1 : MethodName := ⟨"java/lang/String", "isLatin1", "()Z"⟩
def y_StringLatin1_charAt : MethodName := ⟨"java/lang/StringLatin1", "charAt", "([BI)C"⟩
def y_String_checkIndex : MethodName := ⟨"java/lang/String", "checkIndex", "(II)V"⟩
def y_Preconditions_checkIndex : MethodName := ⟨"jdk/internal/util/Preconditions", "checkIndex", "(IILjava/util/function/BiFunction;)I"⟩
def y_StringUTF16_charAt : MethodName := ⟨"java/lang/StringUTF16", "charAt", "([BI)C"⟩
def y_StringUTF16_checkIndex : MethodName := ⟨"java/lang/StringUTF16", "checkIndex", "(I[B)V"⟩
def y_StringUTF16_length : MethodName := ⟨"java/lang/StringUTF16", "length", "([B)I"⟩
def y_StringUTF16_getChar : MethodName := ⟨"java/lang/StringUTF16", "getChar", "([BI)C"⟩
def y_Reader_takeLaw : MethodName := ⟨"QuotaLaws$Reader", "takeLaw", "(LQuotaLaws$Realm;I)Z"⟩
def y_Reader_takeNumber : MethodName := ⟨"QuotaLaws$Reader", "takeNumber", "(II)Z"⟩
def y_Reader_isBounded : MethodName := ⟨"QuotaLaws$Reader", "isBounded", "(II)Z"⟩
def y_Reader_putInto : MethodName := ⟨"QuotaLaws$Reader", "putInto", "([II)Z"⟩
def y_Reader_takeCarried : MethodName := ⟨"QuotaLaws$Reader", "takeCarried", "(LQuotaLaws$Realm;I)Z"⟩
def y_Reader_isStop : MethodName := ⟨"QuotaLaws$Reader", "isStop", "()Z"⟩
def y_Reader_takeOne : MethodName := ⟨"QuotaLaws$Reader", "takeOne", "(LQuotaLaws$Realm;I)Z"⟩
def y_Reader_addLaw : MethodName := ⟨"QuotaLaws$Reader", "addLaw", "([II)Z"⟩
def y_Q_hasBit : MethodName := ⟨"QuotaLaws", "hasBit", "(II)Z"⟩
def y_Reader_takeWant : MethodName := ⟨"QuotaLaws$Reader", "takeWant", "(LQuotaLaws$Realm;)Z"⟩
def y_Reader_takeWatch : MethodName := ⟨"QuotaLaws$Reader", "takeWatch", "(LQuotaLaws$Realm;)Z"⟩
def y_Reader_allThere : MethodName := ⟨"QuotaLaws$Reader", "allThere", "(LQuotaLaws$Realm;)Z"⟩
def y_Q_isPart : MethodName := ⟨"QuotaLaws", "isPart", "(II)Z"⟩
def y_Realm_hasLaw : MethodName := ⟨"QuotaLaws$Realm", "hasLaw", "(I)Z"⟩
def y_Realm_hasOne : MethodName := ⟨"QuotaLaws$Realm", "hasOne", "(I)Z"⟩
def y_Realm_copyFrom : MethodName := ⟨"QuotaLaws$Realm", "copyFrom", "(LQuotaLaws$Realm;)V"⟩
def y_Sightings_copyFrom : MethodName := ⟨"QuotaLaws$Sightings", "copyFrom", "(LQuotaLaws$Sightings;)V"⟩
def y_Q_fault : MethodName := ⟨"QuotaLaws", "fault", "()I"⟩
def y_Q_rule : MethodName := ⟨"QuotaLaws", "rule", "(I)I"⟩
def y_Q_law : MethodName := ⟨"QuotaLaws", "law", "(II)I"⟩
def y_Realm_needOf : MethodName := ⟨"QuotaLaws$Realm", "needOf", "(I)I"⟩
def y_Realm_brokenBy : MethodName := ⟨"QuotaLaws$Realm", "brokenBy", "(II)I"⟩
def y_Realm_chainOf : MethodName := ⟨"QuotaLaws$Realm", "chainOf", "(I)I"⟩
def y_Q_one : MethodName := ⟨"QuotaLaws", "one", "(II)I"⟩
def y_Realm_brokenByOne : MethodName := ⟨"QuotaLaws$Realm", "brokenByOne", "(I)I"⟩
def y_Realm_breakable : MethodName := ⟨"QuotaLaws$Realm", "breakable", "(I)I"⟩
def y_Realm_ableAlone : MethodName := ⟨"QuotaLaws$Realm", "ableAlone", "(II)I"⟩
def y_Realm_roomOf : MethodName := ⟨"QuotaLaws$Realm", "roomOf", "(II)I"⟩
def y_Realm_timeLeft : MethodName := ⟨"QuotaLaws$Realm", "timeLeft", "(I)I"⟩
def y_Q_broken : MethodName := ⟨"QuotaLaws", "broken", "(II)I"⟩
def y_Realm_hasBoth : MethodName := ⟨"QuotaLaws$Realm", "hasBoth", "(II)Z"⟩
def y_Q_quota : MethodName := ⟨"QuotaLaws", "quota", "(II)I"⟩
def y_Q_carry : MethodName := ⟨"QuotaLaws", "carry", "(II)I"⟩
def y_Q_watch : MethodName := ⟨"QuotaLaws", "watch", "(IZ)I"⟩
def y_Q_bitOf : MethodName := ⟨"QuotaLaws", "bitOf", "(II)I"⟩
def y_Q_withBit : MethodName := ⟨"QuotaLaws", "withBit", "(IIZ)I"⟩
def y_Q_time : MethodName := ⟨"QuotaLaws", "time", "(II)I"⟩
def y_Q_refuse : MethodName := ⟨"QuotaLaws", "refuse", "(IIZ)I"⟩
def y_Q_want : MethodName := ⟨"QuotaLaws", "want", "(IIZ)I"⟩
def y_Q_fund : MethodName := ⟨"QuotaLaws", "fund", "(II)I"⟩
def y_Q_revive : MethodName := ⟨"QuotaLaws", "revive", "(I)I"⟩
def y_Integer_bitCount : MethodName := ⟨"java/lang/Integer", "bitCount", "(I)I"⟩
def y_Q_breaks : MethodName := ⟨"QuotaLaws", "breaks", "(II)I"⟩
def y_Realm_breakOnce : MethodName := ⟨"QuotaLaws$Realm", "breakOnce", "(II)I"⟩
def y_Realm_mark : MethodName := ⟨"QuotaLaws$Realm", "mark", "(II)I"⟩
def y_Q_year : MethodName := ⟨"QuotaLaws", "year", "()I"⟩
def y_Realm_endYear : MethodName := ⟨"QuotaLaws$Realm", "endYear", "()I"⟩
def y_Realm_lapsing : MethodName := ⟨"QuotaLaws$Realm", "lapsing", "()I"⟩
def y_Q_falls : MethodName := ⟨"QuotaLaws", "falls", "()I"⟩
def y_Q_most : MethodName := ⟨"QuotaLaws", "most", "(I)I"⟩
def y_Q_rota : MethodName := ⟨"QuotaLaws", "rota", "(I)I"⟩
def y_Planner_load : MethodName := ⟨"QuotaLaws$Planner", "load", "(LQuotaLaws$Realm;)V"⟩
def y_Planner_leastHarm : MethodName := ⟨"QuotaLaws$Planner", "leastHarm", "()I"⟩
def y_Planner_leftToLast : MethodName := ⟨"QuotaLaws$Planner", "leftToLast", "(III)I"⟩
def y_Planner_stateOf : MethodName := ⟨"QuotaLaws$Planner", "stateOf", "(III)I"⟩
def y_Planner_search : MethodName := ⟨"QuotaLaws$Planner", "search", "(III)I"⟩
def y_Planner_timesInFirst : MethodName := ⟨"QuotaLaws$Planner", "timesInFirst", "(II)I"⟩
def y_Q_more : MethodName := ⟨"QuotaLaws", "more", "(I)I"⟩
def y_Planner_grant : MethodName := ⟨"QuotaLaws$Planner", "grant", "(II)V"⟩
def y_Planner_canMeet : MethodName := ⟨"QuotaLaws$Planner", "canMeet", "(I)Z"⟩
def y_Planner_needOfAll : MethodName := ⟨"QuotaLaws$Planner", "needOfAll", "(I)I"⟩
def y_Planner_givenTo : MethodName := ⟨"QuotaLaws$Planner", "givenTo", "(I)I"⟩
def y_Q_together : MethodName := ⟨"QuotaLaws", "together", "(I)I"⟩
def y_Q_kill : MethodName := ⟨"QuotaLaws", "kill", "(II)I"⟩
def y_Realm_ableWithout : MethodName := ⟨"QuotaLaws$Realm", "ableWithout", "(II)I"⟩
def y_Q_selfish : MethodName := ⟨"QuotaLaws", "selfish", "(I)I"⟩
def y_Realm_eachForHimself : MethodName := ⟨"QuotaLaws$Realm", "eachForHimself", "()I"⟩
def y_Realm_mostNeeded : MethodName := ⟨"QuotaLaws$Realm", "mostNeeded", "(I)I"⟩
def y_Realm_met : MethodName := ⟨"QuotaLaws$Realm", "met", "()I"⟩
def y_Q_luck : MethodName := ⟨"QuotaLaws", "luck", "(II)J"⟩
def y_Odds_weigh : MethodName := ⟨"QuotaLaws$Odds", "weigh", "(LQuotaLaws$Realm;I)V"⟩
def y_Arrays_fillJ : MethodName := ⟨"java/util/Arrays", "fill", "([JJ)V"⟩
def y_Odds_addTry : MethodName := ⟨"QuotaLaws$Odds", "addTry", "(I)V"⟩
def y_Odds_reduce : MethodName := ⟨"QuotaLaws$Odds", "reduce", "()V"⟩
def y_Q_see : MethodName := ⟨"QuotaLaws", "see", "(III)I"⟩
def y_Sightings_append : MethodName := ⟨"QuotaLaws$Sightings", "append", "(III)Z"⟩
def y_Q_forget : MethodName := ⟨"QuotaLaws", "forget", "(I)I"⟩
def y_Q_books : MethodName := ⟨"QuotaLaws", "books", "()J"⟩
def y_Tables_load : MethodName := ⟨"QuotaLaws$Tables", "load", "(LQuotaLaws$Realm;)V"⟩
def y_Sightings_sumDue : MethodName := ⟨"QuotaLaws$Sightings", "sumDue", "(II)I"⟩
def y_Tables_fitting : MethodName := ⟨"QuotaLaws$Tables", "fitting", "()J"⟩
def y_Tables_spendAlone : MethodName := ⟨"QuotaLaws$Tables", "spendAlone", "(II)V"⟩
def y_Tables_joinAll : MethodName := ⟨"QuotaLaws$Tables", "joinAll", "()V"⟩
def y_Tables_stateOf : MethodName := ⟨"QuotaLaws$Tables", "stateOf", "(III)I"⟩
def y_Tables_spendTogether : MethodName := ⟨"QuotaLaws$Tables", "spendTogether", "(I)V"⟩
def y_Tables_waysTo : MethodName := ⟨"QuotaLaws$Tables", "waysTo", "(IIII)J"⟩
def y_Tables_sumOfDue : MethodName := ⟨"QuotaLaws$Tables", "sumOfDue", "()J"⟩
def y_Tables_isDueOf : MethodName := ⟨"QuotaLaws$Tables", "isDueOf", "(II)Z"⟩
def y_Q_entry : MethodName := ⟨"QuotaLaws", "entry", "(III)I"⟩
def y_Tables_firstThatFits : MethodName := ⟨"QuotaLaws$Tables", "firstThatFits", "(IIZ)I"⟩
def y_Q_wild : MethodName := ⟨"QuotaLaws", "wild", "(III)I"⟩
def y_Realm_breakBySeed : MethodName := ⟨"QuotaLaws$Realm", "breakBySeed", "(II)I"⟩
def y_Realm_nextSeed : MethodName := ⟨"QuotaLaws$Realm", "nextSeed", "(I)I"⟩
def y_Realm_drawn : MethodName := ⟨"QuotaLaws$Realm", "drawn", "(I)I"⟩
def y_Q_keep : MethodName := ⟨"QuotaLaws", "keep", "(I)I"⟩
def y_Q_back : MethodName := ⟨"QuotaLaws", "back", "(I)I"⟩
def y_Q_sheet : MethodName := ⟨"QuotaLaws", "sheet", "(III)I"⟩
def y_Sheet_renew : MethodName := ⟨"QuotaLaws$Sheet", "renew", "(II)V"⟩
def y_Q_lay : MethodName := ⟨"QuotaLaws", "lay", "(III)I"⟩
def y_Sheet_faultAt : MethodName := ⟨"QuotaLaws$Sheet", "faultAt", "(J)I"⟩
def y_Sheet_put : MethodName := ⟨"QuotaLaws$Sheet", "put", "(II)V"⟩
def y_Q_read : MethodName := ⟨"QuotaLaws", "read", "(IIII)I"⟩
def y_Sheet_faultAs : MethodName := ⟨"QuotaLaws$Sheet", "faultAs", "(I)I"⟩
def y_Sheet_faultOfPair : MethodName := ⟨"QuotaLaws$Sheet", "faultOfPair", "(J)I"⟩
def y_Sheet_cellAt : MethodName := ⟨"QuotaLaws$Sheet", "cellAt", "(J)I"⟩
def y_Q_torn : MethodName := ⟨"QuotaLaws", "torn", "()I"⟩
def y_Q_count : MethodName := ⟨"QuotaLaws", "count", "(I)I"⟩
def y_Realm_brokenInAll : MethodName := ⟨"QuotaLaws$Realm", "brokenInAll", "()I"⟩
def y_Q_countKept : MethodName := ⟨"QuotaLaws", "countKept", "()I"⟩
def y_Realm_allPurses : MethodName := ⟨"QuotaLaws$Realm", "allPurses", "()I"⟩
def y_Realm_allNeed : MethodName := ⟨"QuotaLaws$Realm", "allNeed", "()I"⟩
def y_M_new : MethodName := ⟨"QuotaLawsModel", "<init>", "()V"⟩
def y_M_firstDraft : MethodName := ⟨"QuotaLawsModel", "firstDraft", "()V"⟩
def y_M_keepDraft : MethodName := ⟨"QuotaLawsModel", "keepDraft", "()V"⟩
def y_M_feed : MethodName := ⟨"QuotaLawsModel", "feed", "(I)I"⟩
def y_M_in : MethodName := ⟨"QuotaLawsModel", "in", "(JJJ)Z"⟩
def y_M_end : MethodName := ⟨"QuotaLawsModel", "end", "(I)I"⟩
def y_M_text : MethodName := ⟨"QuotaLawsModel", "text", "()I"⟩
def y_M_next : MethodName := ⟨"QuotaLawsModel", "next", "()V"⟩
def y_M_look : MethodName := ⟨"QuotaLawsModel", "look", "(I)I"⟩
def y_M_needs : MethodName := ⟨"QuotaLawsModel", "needs", "(ZI)V"⟩
def y_M_readLine : MethodName := ⟨"QuotaLawsModel", "readLine", "()V"⟩
def y_M_lineNow : MethodName := ⟨"QuotaLawsModel", "lineNow", "()I"⟩
def y_M_is : MethodName := ⟨"QuotaLawsModel", "is", "(IIII)Z"⟩
def y_M_readLineOf : MethodName := ⟨"QuotaLawsModel", "readLineOf", "(I)V"⟩
def y_M_readLaw : MethodName := ⟨"QuotaLawsModel", "readLaw", "()V"⟩
def y_M_readNumber : MethodName := ⟨"QuotaLawsModel", "readNumber", "(II)I"⟩
def y_M_looked : MethodName := ⟨"QuotaLawsModel", "looked", "(II)I"⟩
def y_M_readLawOf : MethodName := ⟨"QuotaLawsModel", "readLawOf", "(I)I"⟩
def y_M_readOne : MethodName := ⟨"QuotaLawsModel", "readOne", "()V"⟩
def y_M_fault : MethodName := ⟨"QuotaLawsModel", "fault", "()I"⟩
def y_M_rule : MethodName := ⟨"QuotaLawsModel", "rule", "(I)I"⟩
def y_M_law : MethodName := ⟨"QuotaLawsModel", "law", "(II)I"⟩
def y_M_isLaw : MethodName := ⟨"QuotaLawsModel", "isLaw", "(I)Z"⟩
def y_M_needOf : MethodName := ⟨"QuotaLawsModel", "needOf", "(I)I"⟩
def y_M_doesStand : MethodName := ⟨"QuotaLawsModel", "doesStand", "(I)Z"⟩
def y_M_brokenBy : MethodName := ⟨"QuotaLawsModel", "brokenBy", "(II)I"⟩
def y_M_chainOf : MethodName := ⟨"QuotaLawsModel", "chainOf", "(I)I"⟩
def y_M_one : MethodName := ⟨"QuotaLawsModel", "one", "(II)I"⟩
def y_M_isOne : MethodName := ⟨"QuotaLawsModel", "isOne", "(I)Z"⟩
def y_M_canBreak : MethodName := ⟨"QuotaLawsModel", "canBreak", "(II)Z"⟩
def y_M_roomOf : MethodName := ⟨"QuotaLawsModel", "roomOf", "(II)I"⟩
def y_M_timeLeft : MethodName := ⟨"QuotaLawsModel", "timeLeft", "(I)I"⟩
def y_M_allBy : MethodName := ⟨"QuotaLawsModel", "allBy", "(I)I"⟩
def y_M_flag : MethodName := ⟨"QuotaLawsModel", "flag", "(Z)I"⟩
def y_M_broken : MethodName := ⟨"QuotaLawsModel", "broken", "(II)I"⟩
def y_M_quota : MethodName := ⟨"QuotaLawsModel", "quota", "(II)I"⟩
def y_M_becomes : MethodName := ⟨"QuotaLawsModel", "becomes", "(II)I"⟩
def y_M_carry : MethodName := ⟨"QuotaLawsModel", "carry", "(II)I"⟩
def y_M_watch : MethodName := ⟨"QuotaLawsModel", "watch", "(IZ)I"⟩
def y_M_becomesBit : MethodName := ⟨"QuotaLawsModel", "becomesBit", "(IIZ)I"⟩
def y_M_time : MethodName := ⟨"QuotaLawsModel", "time", "(II)I"⟩
def y_M_refuse : MethodName := ⟨"QuotaLawsModel", "refuse", "(IIZ)I"⟩
def y_M_want : MethodName := ⟨"QuotaLawsModel", "want", "(IIZ)I"⟩
def y_M_fund : MethodName := ⟨"QuotaLawsModel", "fund", "(II)I"⟩
def y_M_revive : MethodName := ⟨"QuotaLawsModel", "revive", "(I)I"⟩
def y_M_bitsOf : MethodName := ⟨"QuotaLawsModel", "bitsOf", "(I)I"⟩
def y_M_breaks : MethodName := ⟨"QuotaLawsModel", "breaks", "(II)I"⟩
def y_M_year : MethodName := ⟨"QuotaLawsModel", "year", "()I"⟩
def y_M_fallsNow : MethodName := ⟨"QuotaLawsModel", "fallsNow", "()I"⟩
def y_M_falls : MethodName := ⟨"QuotaLawsModel", "falls", "()I"⟩
def y_M_most : MethodName := ⟨"QuotaLawsModel", "most", "(I)I"⟩
def y_M_rota : MethodName := ⟨"QuotaLawsModel", "rota", "(I)I"⟩
def y_M_startsRota : MethodName := ⟨"QuotaLawsModel", "startsRota", "(I)V"⟩
def y_M_findRota : MethodName := ⟨"QuotaLawsModel", "findRota", "()I"⟩
def y_M_at : MethodName := ⟨"QuotaLawsModel", "at", "(IIII)I"⟩
def y_M_leastOf : MethodName := ⟨"QuotaLawsModel", "leastOf", "(IIII)I"⟩
def y_M_harmBy : MethodName := ⟨"QuotaLawsModel", "harmBy", "(IIIIIII)I"⟩
def y_M_roomAt : MethodName := ⟨"QuotaLawsModel", "roomAt", "(II)I"⟩
def y_M_sharesOf : MethodName := ⟨"QuotaLawsModel", "sharesOf", "(IIII)V"⟩
def y_M_more : MethodName := ⟨"QuotaLawsModel", "more", "(I)I"⟩
def y_M_together : MethodName := ⟨"QuotaLawsModel", "together", "(I)I"⟩
def y_M_kill : MethodName := ⟨"QuotaLawsModel", "kill", "(II)I"⟩
def y_M_triesOf : MethodName := ⟨"QuotaLawsModel", "triesOf", "(II)I"⟩
def y_M_selfish : MethodName := ⟨"QuotaLawsModel", "selfish", "(I)I"⟩
def y_M_saves : MethodName := ⟨"QuotaLawsModel", "saves", "()V"⟩
def y_M_wantedBy : MethodName := ⟨"QuotaLawsModel", "wantedBy", "(I)I"⟩
def y_M_returns : MethodName := ⟨"QuotaLawsModel", "returns", "()V"⟩
def y_M_luck : MethodName := ⟨"QuotaLawsModel", "luck", "(II)J"⟩
def y_M_common : MethodName := ⟨"QuotaLawsModel", "common", "(JJ)J"⟩
def y_M_see : MethodName := ⟨"QuotaLawsModel", "see", "(III)I"⟩
def y_M_forget : MethodName := ⟨"QuotaLawsModel", "forget", "(I)I"⟩
def y_M_books : MethodName := ⟨"QuotaLawsModel", "books", "()J"⟩
def y_M_tablesBy : MethodName := ⟨"QuotaLawsModel", "tablesBy", "(III)J"⟩
def y_M_addsLaw : MethodName := ⟨"QuotaLawsModel", "addsLaw", "(IIII)V"⟩
def y_M_mostOf : MethodName := ⟨"QuotaLawsModel", "mostOf", "(II)I"⟩
def y_M_isSo : MethodName := ⟨"QuotaLawsModel", "isSo", "(III)Z"⟩
def y_M_isAsked : MethodName := ⟨"QuotaLawsModel", "isAsked", "(IIIIII)Z"⟩
def y_M_addsTables : MethodName := ⟨"QuotaLawsModel", "addsTables", "(III)V"⟩
def y_M_isTime : MethodName := ⟨"QuotaLawsModel", "isTime", "(II)Z"⟩
def y_M_entry : MethodName := ⟨"QuotaLawsModel", "entry", "(III)I"⟩
def y_M_wild : MethodName := ⟨"QuotaLawsModel", "wild", "(III)I"⟩
def y_M_keep : MethodName := ⟨"QuotaLawsModel", "keep", "(I)I"⟩
def y_M_copies : MethodName := ⟨"QuotaLawsModel", "copies", "(II)V"⟩
def y_M_back : MethodName := ⟨"QuotaLawsModel", "back", "(I)I"⟩
def y_M_sheet : MethodName := ⟨"QuotaLawsModel", "sheet", "(III)I"⟩
def y_M_isSheet : MethodName := ⟨"QuotaLawsModel", "isSheet", "(II)Z"⟩
def y_M_lay : MethodName := ⟨"QuotaLawsModel", "lay", "(III)I"⟩
def y_M_read : MethodName := ⟨"QuotaLawsModel", "read", "(IIII)I"⟩
def y_M_torn : MethodName := ⟨"QuotaLawsModel", "torn", "()I"⟩
def y_M_count : MethodName := ⟨"QuotaLawsModel", "count", "(I)I"⟩
def y_QuotaLawsLaw_law : MethodName := ⟨"QuotaLawsLaw", "law", "([I)Z"⟩
theorem wp_0 : (.selects "QuotaLaws$Reader" y_Reader_takeToken y_Reader_takeToken : Cond) ∈ tbg := tbg_in3 0 (by decide +kernel) rfl
theorem wp_1 : (.selects "QuotaLaws$Reader" y_Reader_passRun y_Reader_passRun : Cond) ∈ tbg := tbg_in3 1 (by decide +kernel) rfl
theorem wp_2 : (.selects "QuotaLaws$Reader" y_Reader_kindHere y_Reader_kindHere : Cond) ∈ tbg := tbg_in3 2 (by decide +kernel) rfl
theorem wp_3 : (.selects "QuotaLaws$Reader" y_Reader_valueOfRun y_Reader_valueOfRun : Cond) ∈ tbg := tbg_in3 3 (by decide +kernel) rfl
theorem wp_4 : (.selects "QuotaLaws$Reader" y_Reader_fail y_Reader_fail : Cond) ∈ tbg := tbg_in3 4 (by decide +kernel) rfl
theorem wp_5 : (.selects "QuotaLaws$Reader" y_Reader_takeLine y_Reader_takeLine : Cond) ∈ tbg := tbg_in3 5 (by decide +kernel) rfl
theorem wp_6 : (.selects "QuotaLaws$Reader" y_Reader_isWord y_Reader_isWord : Cond) ∈ tbg := tbg_in3 6 (by decide +kernel) rfl
theorem wp_7 : (.selects "QuotaLaws$Reader" y_Reader_takeLaw y_Reader_takeLaw : Cond) ∈ tbg := tbg_in3 7 (by decide +kernel) rfl
theorem wp_8 : (.selects "QuotaLaws$Reader" y_Reader_takeNumber y_Reader_takeNumber : Cond) ∈ tbg := tbg_in3 8 (by decide +kernel) rfl
theorem wp_9 : (.selects "QuotaLaws$Reader" y_Reader_isBounded y_Reader_isBounded : Cond) ∈ tbg := tbg_in3 9 (by decide +kernel) rfl
theorem wp_10 : (.selects "QuotaLaws$Reader" y_Reader_putInto y_Reader_putInto : Cond) ∈ tbg := tbg_in3 10 (by decide +kernel) rfl
theorem wp_11 : (.selects "QuotaLaws$Reader" y_Reader_takeCarried y_Reader_takeCarried : Cond) ∈ tbg := tbg_in3 11 (by decide +kernel) rfl
theorem wp_12 : (.selects "QuotaLaws$Reader" y_Reader_isStop y_Reader_isStop : Cond) ∈ tbg := tbg_in3 12 (by decide +kernel) rfl
theorem wp_13 : (.selects "QuotaLaws$Reader" y_Reader_takeOne y_Reader_takeOne : Cond) ∈ tbg := tbg_in3 13 (by decide +kernel) rfl
theorem wp_14 : (.selects "QuotaLaws$Reader" y_Reader_addLaw y_Reader_addLaw : Cond) ∈ tbg := tbg_in3 14 (by decide +kernel) rfl
theorem wp_15 : (.selects "QuotaLaws$Reader" y_Reader_takeWant y_Reader_takeWant : Cond) ∈ tbg := tbg_in3 15 (by decide +kernel) rfl
theorem wp_16 : (.selects "QuotaLaws$Reader" y_Reader_takeWatch y_Reader_takeWatch : Cond) ∈ tbg := tbg_in3 16 (by decide +kernel) rfl
theorem wp_17 : (.selects "QuotaLaws$Planner" y_Planner_leftToLast y_Planner_leftToLast : Cond) ∈ tbg := tbg_in3 17 (by decide +kernel) rfl
theorem wp_18 : (.selects "QuotaLaws$Planner" y_Planner_search y_Planner_search : Cond) ∈ tbg := tbg_in3 18 (by decide +kernel) rfl
theorem wp_19 : (.selects "QuotaLaws$Planner" y_Planner_needOfAll y_Planner_needOfAll : Cond) ∈ tbg := tbg_in3 19 (by decide +kernel) rfl
theorem wp_20 : (.selects "QuotaLaws$Planner" y_Planner_givenTo y_Planner_givenTo : Cond) ∈ tbg := tbg_in3 20 (by decide +kernel) rfl
theorem wp_21 : (.selects "QuotaLaws$Odds" y_Odds_addTry y_Odds_addTry : Cond) ∈ tbg := tbg_in3 21 (by decide +kernel) rfl
theorem wp_22 : (.selects "QuotaLaws$Odds" y_Odds_reduce y_Odds_reduce : Cond) ∈ tbg := tbg_in3 22 (by decide +kernel) rfl
theorem wp_23 : (.selects "QuotaLaws$Tables" y_Tables_spendAlone y_Tables_spendAlone : Cond) ∈ tbg := tbg_in3 23 (by decide +kernel) rfl
theorem wp_24 : (.selects "QuotaLaws$Tables" y_Tables_joinAll y_Tables_joinAll : Cond) ∈ tbg := tbg_in3 24 (by decide +kernel) rfl
theorem wp_25 : (.selects "QuotaLaws$Tables" y_Tables_spendTogether y_Tables_spendTogether : Cond) ∈ tbg := tbg_in3 25 (by decide +kernel) rfl
theorem wp_26 : (.selects "QuotaLaws$Tables" y_Tables_waysTo y_Tables_waysTo : Cond) ∈ tbg := tbg_in3 26 (by decide +kernel) rfl
theorem wp_27 : (.selects "QuotaLaws$Tables" y_Tables_sumOfDue y_Tables_sumOfDue : Cond) ∈ tbg := tbg_in3 27 (by decide +kernel) rfl
theorem wp_28 : (.selects "QuotaLaws$Tables" y_Tables_isDueOf y_Tables_isDueOf : Cond) ∈ tbg := tbg_in3 28 (by decide +kernel) rfl
theorem wp_29 : (.selects "QuotaLaws" y_Q_countKept y_Q_countKept : Cond) ∈ tbg := tbg_in3 29 (by decide +kernel) rfl
theorem wp_30 : (.selects "QuotaLawsModel" y_M_firstDraft y_M_firstDraft : Cond) ∈ tbg := tbg_in3 30 (by decide +kernel) rfl
theorem wp_31 : (.selects "QuotaLawsModel" y_M_keepDraft y_M_keepDraft : Cond) ∈ tbg := tbg_in3 31 (by decide +kernel) rfl
theorem wp_32 : (.selects "QuotaLawsModel" y_M_next y_M_next : Cond) ∈ tbg := tbg_in3 32 (by decide +kernel) rfl
theorem wp_33 : (.selects "QuotaLawsModel" y_M_look y_M_look : Cond) ∈ tbg := tbg_in3 33 (by decide +kernel) rfl
theorem wp_34 : (.selects "QuotaLawsModel" y_M_needs y_M_needs : Cond) ∈ tbg := tbg_in3 34 (by decide +kernel) rfl
theorem wp_35 : (.selects "QuotaLawsModel" y_M_readLine y_M_readLine : Cond) ∈ tbg := tbg_in3 35 (by decide +kernel) rfl
theorem wp_36 : (.selects "QuotaLawsModel" y_M_lineNow y_M_lineNow : Cond) ∈ tbg := tbg_in3 36 (by decide +kernel) rfl
theorem wp_37 : (.selects "QuotaLawsModel" y_M_is y_M_is : Cond) ∈ tbg := tbg_in3 37 (by decide +kernel) rfl
theorem wp_38 : (.selects "QuotaLawsModel" y_M_readLineOf y_M_readLineOf : Cond) ∈ tbg := tbg_in3 38 (by decide +kernel) rfl
theorem wp_39 : (.selects "QuotaLawsModel" y_M_readLaw y_M_readLaw : Cond) ∈ tbg := tbg_in3 39 (by decide +kernel) rfl
theorem wp_40 : (.selects "QuotaLawsModel" y_M_readNumber y_M_readNumber : Cond) ∈ tbg := tbg_in3 40 (by decide +kernel) rfl
theorem wp_41 : (.selects "QuotaLawsModel" y_M_looked y_M_looked : Cond) ∈ tbg := tbg_in3 41 (by decide +kernel) rfl
theorem wp_42 : (.selects "QuotaLawsModel" y_M_readLawOf y_M_readLawOf : Cond) ∈ tbg := tbg_in3 42 (by decide +kernel) rfl
theorem wp_43 : (.selects "QuotaLawsModel" y_M_readOne y_M_readOne : Cond) ∈ tbg := tbg_in3 43 (by decide +kernel) rfl
theorem wp_44 : (.selects "QuotaLawsModel" y_M_isLaw y_M_isLaw : Cond) ∈ tbg := tbg_in3 44 (by decide +kernel) rfl
theorem wp_45 : (.selects "QuotaLawsModel" y_M_needOf y_M_needOf : Cond) ∈ tbg := tbg_in3 45 (by decide +kernel) rfl
theorem wp_46 : (.selects "QuotaLawsModel" y_M_doesStand y_M_doesStand : Cond) ∈ tbg := tbg_in3 46 (by decide +kernel) rfl
theorem wp_47 : (.selects "QuotaLawsModel" y_M_brokenBy y_M_brokenBy : Cond) ∈ tbg := tbg_in3 47 (by decide +kernel) rfl
theorem wp_48 : (.selects "QuotaLawsModel" y_M_chainOf y_M_chainOf : Cond) ∈ tbg := tbg_in3 48 (by decide +kernel) rfl
theorem wp_49 : (.selects "QuotaLawsModel" y_M_isOne y_M_isOne : Cond) ∈ tbg := tbg_in3 49 (by decide +kernel) rfl
theorem wp_50 : (.selects "QuotaLawsModel" y_M_canBreak y_M_canBreak : Cond) ∈ tbg := tbg_in3 50 (by decide +kernel) rfl
theorem wp_51 : (.selects "QuotaLawsModel" y_M_roomOf y_M_roomOf : Cond) ∈ tbg := tbg_in3 51 (by decide +kernel) rfl
theorem wp_52 : (.selects "QuotaLawsModel" y_M_timeLeft y_M_timeLeft : Cond) ∈ tbg := tbg_in3 52 (by decide +kernel) rfl
theorem wp_53 : (.selects "QuotaLawsModel" y_M_allBy y_M_allBy : Cond) ∈ tbg := tbg_in3 53 (by decide +kernel) rfl
theorem wp_54 : (.selects "QuotaLawsModel" y_M_becomes y_M_becomes : Cond) ∈ tbg := tbg_in3 54 (by decide +kernel) rfl
theorem wp_55 : (.selects "QuotaLawsModel" y_M_becomesBit y_M_becomesBit : Cond) ∈ tbg := tbg_in3 55 (by decide +kernel) rfl
theorem wp_56 : (.selects "QuotaLawsModel" y_M_fallsNow y_M_fallsNow : Cond) ∈ tbg := tbg_in3 56 (by decide +kernel) rfl
theorem wp_57 : (.selects "QuotaLawsModel" y_M_startsRota y_M_startsRota : Cond) ∈ tbg := tbg_in3 57 (by decide +kernel) rfl
theorem wp_58 : (.selects "QuotaLawsModel" y_M_findRota y_M_findRota : Cond) ∈ tbg := tbg_in3 58 (by decide +kernel) rfl
theorem wp_59 : (.selects "QuotaLawsModel" y_M_leastOf y_M_leastOf : Cond) ∈ tbg := tbg_in3 59 (by decide +kernel) rfl
theorem wp_60 : (.selects "QuotaLawsModel" y_M_harmBy y_M_harmBy : Cond) ∈ tbg := tbg_in3 60 (by decide +kernel) rfl
theorem wp_61 : (.selects "QuotaLawsModel" y_M_roomAt y_M_roomAt : Cond) ∈ tbg := tbg_in3 61 (by decide +kernel) rfl
theorem wp_62 : (.selects "QuotaLawsModel" y_M_sharesOf y_M_sharesOf : Cond) ∈ tbg := tbg_in3 62 (by decide +kernel) rfl
theorem wp_63 : (.selects "QuotaLawsModel" y_M_triesOf y_M_triesOf : Cond) ∈ tbg := tbg_in3 63 (by decide +kernel) rfl
theorem wp_64 : (.selects "QuotaLawsModel" y_M_saves y_M_saves : Cond) ∈ tbg := tbg_in3 64 (by decide +kernel) rfl
theorem wp_65 : (.selects "QuotaLawsModel" y_M_wantedBy y_M_wantedBy : Cond) ∈ tbg := tbg_in3 65 (by decide +kernel) rfl
theorem wp_66 : (.selects "QuotaLawsModel" y_M_returns y_M_returns : Cond) ∈ tbg := tbg_in3 66 (by decide +kernel) rfl
theorem wp_67 : (.selects "QuotaLawsModel" y_M_tablesBy y_M_tablesBy : Cond) ∈ tbg := tbg_in3 67 (by decide +kernel) rfl
theorem wp_68 : (.selects "QuotaLawsModel" y_M_addsLaw y_M_addsLaw : Cond) ∈ tbg := tbg_in3 68 (by decide +kernel) rfl
theorem wp_69 : (.selects "QuotaLawsModel" y_M_mostOf y_M_mostOf : Cond) ∈ tbg := tbg_in3 69 (by decide +kernel) rfl
theorem wp_70 : (.selects "QuotaLawsModel" y_M_isSo y_M_isSo : Cond) ∈ tbg := tbg_in3 70 (by decide +kernel) rfl
theorem wp_71 : (.selects "QuotaLawsModel" y_M_isAsked y_M_isAsked : Cond) ∈ tbg := tbg_in3 71 (by decide +kernel) rfl
theorem wp_72 : (.selects "QuotaLawsModel" y_M_addsTables y_M_addsTables : Cond) ∈ tbg := tbg_in3 72 (by decide +kernel) rfl
theorem wp_73 : (.selects "QuotaLawsModel" y_M_isTime y_M_isTime : Cond) ∈ tbg := tbg_in3 73 (by decide +kernel) rfl
theorem wp_74 : (.selects "QuotaLawsModel" y_M_copies y_M_copies : Cond) ∈ tbg := tbg_in3 74 (by decide +kernel) rfl
theorem zk1_0 : (.initialized "QuotaLaws" : Cond) ∈ tables_1_1 ∧ (.initialized "QuotaLaws$Reader" : Cond) ∈ tables_1_1 ∧ (.initialized "QuotaLaws$Realm" : Cond) ∈ tables_1_1 ∧ (.initialized "QuotaLaws$Sightings" : Cond) ∈ tables_1_1 ∧ (.initialized "QuotaLaws$Planner" : Cond) ∈ tables_1_1 ∧ (.initialized "QuotaLaws$Tables" : Cond) ∈ tables_1_1 ∧ (.initialized "QuotaLaws$Odds" : Cond) ∈ tables_1_1 ∧ (.initialized "QuotaLaws$Sheet" : Cond) ∈ tables_1_1 ∧ (.initialized "QuotaLawsModel" : Cond) ∈ tables_1_1 ∧ (.initialized "java/util/Arrays" : Cond) ∈ tables_1_1 ∧ (.initialized "java/lang/String" : Cond) ∈ tables_1_1 ∧ (.initialized "java/lang/StringLatin1" : Cond) ∈ tables_1_1 ∧ (.initialized "jdk/internal/util/Preconditions" : Cond) ∈ tables_1_1 ∧ (.initialized "java/lang/System" : Cond) ∈ tables_1_1 ∧ (.initialized "java/lang/Math" : Cond) ∈ tables_1_1 ∧ (.initialized "java/lang/Integer" : Cond) ∈ tables_1_1 ∧ (.classLink "QuotaLawsLaw" 7 "QuotaLaws" : Cond) ∈ tables_1_1 ∧ (.instantiable "QuotaLaws" 10 : Cond) ∈ tables_1_1 ∧ (.methodLink "QuotaLawsLaw" 9 y_Q_new : Cond) ∈ tables_1_1 ∧ (.instanceMethod y_Q_new : Cond) ∈ tables_1_1 ∧ (.methodLink "QuotaLaws" 1 Lib.objectInit : Cond) ∈ tables_1_1 ∧ (.instanceMethod Lib.objectInit : Cond) ∈ tables_1_1 ∧ (.classLink "QuotaLaws" 7 "QuotaLaws$Reader" : Cond) ∈ tables_1_1 ∧ (.instantiable "QuotaLaws$Reader" 9 : Cond) ∈ tables_1_1 ∧ (.methodLinkNest "QuotaLaws" 9 y_Reader_new "QuotaLaws" : Cond) ∈ tables_1_1 ∧ (.instanceMethod y_Reader_new : Cond) ∈ tables_1_1 ∧ (.methodLink "QuotaLaws$Reader" 3 Lib.objectInit : Cond) ∈ tables_1_1 := zw_s (rfl : tables_1_1.drop 1 = _) fun h => zw_s h fun h => zw_s h fun h => zw_s h fun h => zw_s h fun h => zw_s h fun h => zw_s h fun h => zw_s h fun h => zw_s h fun h => zw_s h fun h => zw_s h fun h => zw_s h fun h => zw_s h fun h => zw_g h fun h => zw_s h fun h => zw_s h fun h => zw_s h fun h => zw_s h fun h => zw_s h fun h => zw_s h fun h => zw_s h fun h => zw_g h fun h => zw_s h fun h => zw_s h fun h => zw_g h fun h => zw_s h fun h => zw_s h fun h => zw_s h fun h => zw_s h fun h => zw_g h fun h => zw_e h
def wd_1 := tbg_m1 zk1_0.1 rfl
def wd_2 := tbg_m1 zk1_0.2.1 rfl
def wd_3 := tbg_m1 zk1_0.2.2.1 rfl
def wd_4 := tbg_m1 zk1_0.2.2.2.1 rfl
def wd_5 := tbg_m1 zk1_0.2.2.2.2.1 rfl
def wd_6 := tbg_m1 zk1_0.2.2.2.2.2.1 rfl
def wd_7 := tbg_m1 zk1_0.2.2.2.2.2.2.1 rfl
def wd_8 := tbg_m1 zk1_0.2.2.2.2.2.2.2.1 rfl
def wd_9 := tbg_m1 zk1_0.2.2.2.2.2.2.2.2.1 rfl
def wd_10 := tbg_m1 zk1_0.2.2.2.2.2.2.2.2.2.1 rfl
def wd_11 := tbg_m1 zk1_0.2.2.2.2.2.2.2.2.2.2.1 rfl
def wd_12 := tbg_m1 zk1_0.2.2.2.2.2.2.2.2.2.2.2.1 rfl
def wd_13 := tbg_m1 zk1_0.2.2.2.2.2.2.2.2.2.2.2.2.1 rfl
def wd_15 := tbg_m1 zk1_0.2.2.2.2.2.2.2.2.2.2.2.2.2.1 rfl
def wd_16 := tbg_m1 zk1_0.2.2.2.2.2.2.2.2.2.2.2.2.2.2.1 rfl
def wd_17 := tbg_m1 zk1_0.2.2.2.2.2.2.2.2.2.2.2.2.2.2.2.1 rfl
def wd_18 := tbg_m1 zk1_0.2.2.2.2.2.2.2.2.2.2.2.2.2.2.2.2.1 rfl
def wd_19 := tbg_m1 zk1_0.2.2.2.2.2.2.2.2.2.2.2.2.2.2.2.2.2.1 rfl
def wd_20 := tbg_m1 zk1_0.2.2.2.2.2.2.2.2.2.2.2.2.2.2.2.2.2.2.1 rfl
def wd_21 := tbg_m1 zk1_0.2.2.2.2.2.2.2.2.2.2.2.2.2.2.2.2.2.2.2.1 rfl
def wd_23 := tbg_m1 zk1_0.2.2.2.2.2.2.2.2.2.2.2.2.2.2.2.2.2.2.2.2.1 rfl
def wd_24 := tbg_m1 zk1_0.2.2.2.2.2.2.2.2.2.2.2.2.2.2.2.2.2.2.2.2.2.1 rfl
def wd_26 := tbg_m1 zk1_0.2.2.2.2.2.2.2.2.2.2.2.2.2.2.2.2.2.2.2.2.2.2.1 rfl
def wd_27 := tbg_m1 zk1_0.2.2.2.2.2.2.2.2.2.2.2.2.2.2.2.2.2.2.2.2.2.2.2.1 rfl
def wd_28 := nests_m1 zk1_0.2.2.2.2.2.2.2.2.2.2.2.2.2.2.2.2.2.2.2.2.2.2.2.2.1 rfl
def wd_29 := tbg_m1 zk1_0.2.2.2.2.2.2.2.2.2.2.2.2.2.2.2.2.2.2.2.2.2.2.2.2.2.1 rfl
def wd_31 := tbg_m1 zk1_0.2.2.2.2.2.2.2.2.2.2.2.2.2.2.2.2.2.2.2.2.2.2.2.2.2.2 rfl
theorem zk1_1 : (.fieldLink "QuotaLaws$Reader" 9 "QuotaLaws$Reader" "tape" "[B" : Cond) ∈ tables_1_1 ∧ (.fieldLink "QuotaLaws$Reader" 15 "QuotaLaws$Reader" "length" "I" : Cond) ∈ tables_1_1 ∧ (.fieldLink "QuotaLaws" 70 "QuotaLaws$Reader" "length" "I" : Cond) ∈ tables_1_1 ∧ (.fieldLink "QuotaLaws$Reader" 24 "QuotaLaws$Reader" "fault" "I" : Cond) ∈ tables_1_1 ∧ (.fieldLink "QuotaLaws" 88 "QuotaLaws$Reader" "fault" "I" : Cond) ∈ tables_1_1 ∧ (.fieldLink "QuotaLaws$Reader" 27 "QuotaLaws$Reader" "faultPlace" "I" : Cond) ∈ tables_1_1 ∧ (.fieldLink "QuotaLaws" 78 "QuotaLaws$Reader" "faultPlace" "I" : Cond) ∈ tables_1_1 ∧ (.fieldLink "QuotaLaws$Reader" 30 "QuotaLaws$Reader" "lines" "I" : Cond) ∈ tables_1_1 ∧ (.fieldLink "QuotaLaws" 85 "QuotaLaws$Reader" "lines" "I" : Cond) ∈ tables_1_1 ∧ (.fieldLink "QuotaLaws$Reader" 33 "QuotaLaws$Reader" "place" "I" : Cond) ∈ tables_1_1 ∧ (.fieldLink "QuotaLaws$Reader" 40 "QuotaLaws$Reader" "kind" "I" : Cond) ∈ tables_1_1 ∧ (.fieldLink "QuotaLaws$Reader" 85 "QuotaLaws$Reader" "start" "I" : Cond) ∈ tables_1_1 ∧ (.fieldLink "QuotaLaws$Reader" 123 "QuotaLaws$Reader" "value" "I" : Cond) ∈ tables_1_1 := zw_s (rfl : tables_1_1.drop 32 = _) fun h => zw_s h fun h => zw_s h fun h => zw_s h fun h => zw_s h fun h => zw_s h fun h => zw_s h fun h => zw_s h fun h => zw_s h fun h => zw_s h fun h => zw_s h fun h => zw_s h fun h => zw_e h
def wd_32 := tbg_m1 zk1_1.1 rfl
def wd_33 := tbg_m1 zk1_1.2.1 rfl
def wd_34 := tbg_m1 zk1_1.2.2.1 rfl
def wd_35 := tbg_m1 zk1_1.2.2.2.1 rfl
def wd_36 := tbg_m1 zk1_1.2.2.2.2.1 rfl
def wd_37 := tbg_m1 zk1_1.2.2.2.2.2.1 rfl
def wd_38 := tbg_m1 zk1_1.2.2.2.2.2.2.1 rfl
def wd_39 := tbg_m1 zk1_1.2.2.2.2.2.2.2.1 rfl
def wd_40 := tbg_m1 zk1_1.2.2.2.2.2.2.2.2.1 rfl
def wd_41 := tbg_m1 zk1_1.2.2.2.2.2.2.2.2.2.1 rfl
def wd_42 := tbg_m1 zk1_1.2.2.2.2.2.2.2.2.2.2.1 rfl
def wd_43 := tbg_m1 zk1_1.2.2.2.2.2.2.2.2.2.2.2.1 rfl
def wd_44 := tbg_m1 zk1_1.2.2.2.2.2.2.2.2.2.2.2.2 rfl
theorem zk1_2 : (.arrayClass .byte : Cond) ∈ tables_1_1 ∧ (.classLink "QuotaLaws" 16 "QuotaLaws$Realm" : Cond) ∈ tables_1_1 ∧ (.instantiable "QuotaLaws$Realm" 19 : Cond) ∈ tables_1_1 ∧ (.methodLinkNest "QuotaLaws" 18 y_Realm_new "QuotaLaws" : Cond) ∈ tables_1_1 ∧ (.instanceMethod y_Realm_new : Cond) ∈ tables_1_1 ∧ (.methodLink "QuotaLaws$Realm" 3 Lib.objectInit : Cond) ∈ tables_1_1 ∧ (.classLink "QuotaLaws$Realm" 48 "QuotaLaws$Sightings" : Cond) ∈ tables_1_1 ∧ (.instantiable "QuotaLaws$Sightings" 4 : Cond) ∈ tables_1_1 ∧ (.methodLinkNest "QuotaLaws$Realm" 50 y_Sightings_new "QuotaLaws" : Cond) ∈ tables_1_1 ∧ (.instanceMethod y_Sightings_new : Cond) ∈ tables_1_1 ∧ (.methodLink "QuotaLaws$Sightings" 3 Lib.objectInit : Cond) ∈ tables_1_1 ∧ (.fieldLink "QuotaLaws$Sightings" 21 "QuotaLaws$Sightings" "size" "I" : Cond) ∈ tables_1_1 ∧ (.fieldLink "QuotaLaws$Realm" 74 "QuotaLaws$Sightings" "size" "I" : Cond) ∈ tables_1_1 ∧ (.fieldLink "QuotaLaws" 244 "QuotaLaws$Sightings" "size" "I" : Cond) ∈ tables_1_1 ∧ (.fieldLink "QuotaLaws$Sightings" 9 "QuotaLaws$Sightings" "kinds" "[I" : Cond) ∈ tables_1_1 ∧ (.fieldLink "QuotaLaws$Sightings" 15 "QuotaLaws$Sightings" "whose" "[I" : Cond) ∈ tables_1_1 ∧ (.fieldLink "QuotaLaws$Sightings" 18 "QuotaLaws$Sightings" "times" "[I" : Cond) ∈ tables_1_1 ∧ (.arrayClass .int : Cond) ∈ tables_1_1 ∧ (.fieldLink "QuotaLaws$Realm" 55 "QuotaLaws$Realm" "laws" "I" : Cond) ∈ tables_1_1 ∧ (.fieldLink "QuotaLaws$Planner" 33 "QuotaLaws$Realm" "laws" "I" : Cond) ∈ tables_1_1 ∧ (.fieldLink "QuotaLaws$Tables" 34 "QuotaLaws$Realm" "laws" "I" : Cond) ∈ tables_1_1 := zw_s (rfl : tables_1_1.drop 64 = _) fun h => zw_s h fun h => zw_s h fun h => zw_s h fun h => zw_s h fun h => zw_g h fun h => zw_s h fun h => zw_s h fun h => zw_s h fun h => zw_s h fun h => zw_s h fun h => zw_g h fun h => zw_s h fun h => zw_s h fun h => zw_s h fun h => zw_s h fun h => zw_s h fun h => zw_s h fun h => zw_s h fun h => zw_g h fun h => zw_g h fun h => zw_g h fun h => zw_g h fun h => zw_g h fun h => zw_g h fun h => zw_g h fun h => zw_g h fun h => zw_g h fun h => zw_s h fun h => zw_s h fun h => zw_s h fun h => zw_e h
def wd_64 := tbg_m1 zk1_2.1 rfl
def wd_65 := tbg_m1 zk1_2.2.1 rfl
def wd_66 := tbg_m1 zk1_2.2.2.1 rfl
def wd_67 := nests_m1 zk1_2.2.2.2.1 rfl
def wd_68 := tbg_m1 zk1_2.2.2.2.2.1 rfl
def wd_70 := tbg_m1 zk1_2.2.2.2.2.2.1 rfl
def wd_71 := tbg_m1 zk1_2.2.2.2.2.2.2.1 rfl
def wd_72 := tbg_m1 zk1_2.2.2.2.2.2.2.2.1 rfl
def wd_73 := nests_m1 zk1_2.2.2.2.2.2.2.2.2.1 rfl
def wd_74 := tbg_m1 zk1_2.2.2.2.2.2.2.2.2.2.1 rfl
def wd_76 := tbg_m1 zk1_2.2.2.2.2.2.2.2.2.2.2.1 rfl
def wd_77 := tbg_m1 zk1_2.2.2.2.2.2.2.2.2.2.2.2.1 rfl
def wd_78 := tbg_m1 zk1_2.2.2.2.2.2.2.2.2.2.2.2.2.1 rfl
def wd_79 := tbg_m1 zk1_2.2.2.2.2.2.2.2.2.2.2.2.2.2.1 rfl
def wd_80 := tbg_m1 zk1_2.2.2.2.2.2.2.2.2.2.2.2.2.2.2.1 rfl
def wd_81 := tbg_m1 zk1_2.2.2.2.2.2.2.2.2.2.2.2.2.2.2.2.1 rfl
def wd_82 := tbg_m1 zk1_2.2.2.2.2.2.2.2.2.2.2.2.2.2.2.2.2.1 rfl
def wd_92 := tbg_m1 zk1_2.2.2.2.2.2.2.2.2.2.2.2.2.2.2.2.2.2.1 rfl
def wd_93 := tbg_m1 zk1_2.2.2.2.2.2.2.2.2.2.2.2.2.2.2.2.2.2.2.1 rfl
def wd_94 := tbg_m1 zk1_2.2.2.2.2.2.2.2.2.2.2.2.2.2.2.2.2.2.2.2.1 rfl
def wd_95 := tbg_m1 zk1_2.2.2.2.2.2.2.2.2.2.2.2.2.2.2.2.2.2.2.2.2 rfl
theorem zk1_3 : (.fieldLink "QuotaLaws$Reader" 60 "QuotaLaws$Realm" "laws" "I" : Cond) ∈ tables_1_1 ∧ (.fieldLink "QuotaLaws" 91 "QuotaLaws$Realm" "laws" "I" : Cond) ∈ tables_1_1 ∧ (.fieldLink "QuotaLaws$Realm" 59 "QuotaLaws$Realm" "people" "I" : Cond) ∈ tables_1_1 ∧ (.fieldLink "QuotaLaws$Odds" 25 "QuotaLaws$Realm" "people" "I" : Cond) ∈ tables_1_1 ∧ (.fieldLink "QuotaLaws$Planner" 57 "QuotaLaws$Realm" "people" "I" : Cond) ∈ tables_1_1 ∧ (.fieldLink "QuotaLaws$Reader" 69 "QuotaLaws$Realm" "people" "I" : Cond) ∈ tables_1_1 ∧ (.fieldLink "QuotaLaws" 94 "QuotaLaws$Realm" "people" "I" : Cond) ∈ tables_1_1 ∧ (.fieldLink "QuotaLaws$Realm" 62 "QuotaLaws$Realm" "year" "I" : Cond) ∈ tables_1_1 ∧ (.fieldLink "QuotaLaws" 97 "QuotaLaws$Realm" "year" "I" : Cond) ∈ tables_1_1 ∧ (.fieldLink "QuotaLaws$Realm" 65 "QuotaLaws$Realm" "done" "I" : Cond) ∈ tables_1_1 ∧ (.fieldLink "QuotaLaws" 100 "QuotaLaws$Realm" "done" "I" : Cond) ∈ tables_1_1 ∧ (.fieldLink "QuotaLaws$Realm" 68 "QuotaLaws$Realm" "stands" "I" : Cond) ∈ tables_1_1 ∧ (.fieldLink "QuotaLaws$Reader" 92 "QuotaLaws$Realm" "stands" "I" : Cond) ∈ tables_1_1 ∧ (.fieldLink "QuotaLaws" 103 "QuotaLaws$Realm" "stands" "I" : Cond) ∈ tables_1_1 ∧ (.fieldLink "QuotaLaws$Realm" 71 "QuotaLaws$Realm" "watched" "I" : Cond) ∈ tables_1_1 ∧ (.fieldLink "QuotaLaws" 106 "QuotaLaws$Realm" "watched" "I" : Cond) ∈ tables_1_1 ∧ (.fieldLink "QuotaLaws$Reader" 147 "QuotaLaws$Realm" "watched" "I" : Cond) ∈ tables_1_1 ∧ (.fieldLink "QuotaLaws$Realm" 9 "QuotaLaws$Realm" "quota" "[I" : Cond) ∈ tables_1_1 ∧ (.fieldLink "QuotaLaws$Reader" 98 "QuotaLaws$Realm" "quota" "[I" : Cond) ∈ tables_1_1 ∧ (.fieldLink "QuotaLaws" 112 "QuotaLaws$Realm" "quota" "[I" : Cond) ∈ tables_1_1 ∧ (.fieldLink "QuotaLaws$Realm" 15 "QuotaLaws$Realm" "cap" "[I" : Cond) ∈ tables_1_1 ∧ (.fieldLink "QuotaLaws$Tables" 69 "QuotaLaws$Realm" "cap" "[I" : Cond) ∈ tables_1_1 ∧ (.fieldLink "QuotaLaws$Reader" 105 "QuotaLaws$Realm" "cap" "[I" : Cond) ∈ tables_1_1 ∧ (.fieldLink "QuotaLaws" 116 "QuotaLaws$Realm" "cap" "[I" : Cond) ∈ tables_1_1 ∧ (.fieldLink "QuotaLaws$Realm" 18 "QuotaLaws$Realm" "harm" "[I" : Cond) ∈ tables_1_1 ∧ (.fieldLink "QuotaLaws$Planner" 64 "QuotaLaws$Realm" "harm" "[I" : Cond) ∈ tables_1_1 ∧ (.fieldLink "QuotaLaws$Reader" 108 "QuotaLaws$Realm" "harm" "[I" : Cond) ∈ tables_1_1 ∧ (.fieldLink "QuotaLaws" 119 "QuotaLaws$Realm" "harm" "[I" : Cond) ∈ tables_1_1 ∧ (.fieldLink "QuotaLaws$Realm" 21 "QuotaLaws$Realm" "fine" "[I" : Cond) ∈ tables_1_1 ∧ (.fieldLink "QuotaLaws$Reader" 111 "QuotaLaws$Realm" "fine" "[I" : Cond) ∈ tables_1_1 ∧ (.fieldLink "QuotaLaws" 122 "QuotaLaws$Realm" "fine" "[I" : Cond) ∈ tables_1_1 ∧ (.fieldLink "QuotaLaws$Realm" 24 "QuotaLaws$Realm" "carries" "[I" : Cond) ∈ tables_1_1 := zw_s (rfl : tables_1_1.drop 96 = _) fun h => zw_s h fun h => zw_s h fun h => zw_s h fun h => zw_s h fun h => zw_s h fun h => zw_s h fun h => zw_s h fun h => zw_s h fun h => zw_s h fun h => zw_s h fun h => zw_s h fun h => zw_s h fun h => zw_s h fun h => zw_s h fun h => zw_s h fun h => zw_s h fun h => zw_s h fun h => zw_s h fun h => zw_s h fun h => zw_s h fun h => zw_s h fun h => zw_s h fun h => zw_s h fun h => zw_s h fun h => zw_s h fun h => zw_s h fun h => zw_s h fun h => zw_s h fun h => zw_s h fun h => zw_s h fun h => zw_e h
def wd_96 := tbg_m1 zk1_3.1 rfl
def wd_97 := tbg_m1 zk1_3.2.1 rfl
def wd_98 := tbg_m1 zk1_3.2.2.1 rfl
def wd_99 := tbg_m1 zk1_3.2.2.2.1 rfl
def wd_100 := tbg_m1 zk1_3.2.2.2.2.1 rfl
def wd_101 := tbg_m1 zk1_3.2.2.2.2.2.1 rfl
def wd_102 := tbg_m1 zk1_3.2.2.2.2.2.2.1 rfl
def wd_103 := tbg_m1 zk1_3.2.2.2.2.2.2.2.1 rfl
def wd_104 := tbg_m1 zk1_3.2.2.2.2.2.2.2.2.1 rfl
def wd_105 := tbg_m1 zk1_3.2.2.2.2.2.2.2.2.2.1 rfl
def wd_106 := tbg_m1 zk1_3.2.2.2.2.2.2.2.2.2.2.1 rfl
def wd_107 := tbg_m1 zk1_3.2.2.2.2.2.2.2.2.2.2.2.1 rfl
def wd_108 := tbg_m1 zk1_3.2.2.2.2.2.2.2.2.2.2.2.2.1 rfl
def wd_109 := tbg_m1 zk1_3.2.2.2.2.2.2.2.2.2.2.2.2.2.1 rfl
def wd_110 := tbg_m1 zk1_3.2.2.2.2.2.2.2.2.2.2.2.2.2.2.1 rfl
def wd_111 := tbg_m1 zk1_3.2.2.2.2.2.2.2.2.2.2.2.2.2.2.2.1 rfl
def wd_112 := tbg_m1 zk1_3.2.2.2.2.2.2.2.2.2.2.2.2.2.2.2.2.1 rfl
def wd_113 := tbg_m1 zk1_3.2.2.2.2.2.2.2.2.2.2.2.2.2.2.2.2.2.1 rfl
def wd_114 := tbg_m1 zk1_3.2.2.2.2.2.2.2.2.2.2.2.2.2.2.2.2.2.2.1 rfl
def wd_115 := tbg_m1 zk1_3.2.2.2.2.2.2.2.2.2.2.2.2.2.2.2.2.2.2.2.1 rfl
def wd_116 := tbg_m1 zk1_3.2.2.2.2.2.2.2.2.2.2.2.2.2.2.2.2.2.2.2.2.1 rfl
def wd_117 := tbg_m1 zk1_3.2.2.2.2.2.2.2.2.2.2.2.2.2.2.2.2.2.2.2.2.2.1 rfl
def wd_118 := tbg_m1 zk1_3.2.2.2.2.2.2.2.2.2.2.2.2.2.2.2.2.2.2.2.2.2.2.1 rfl
def wd_119 := tbg_m1 zk1_3.2.2.2.2.2.2.2.2.2.2.2.2.2.2.2.2.2.2.2.2.2.2.2.1 rfl
def wd_120 := tbg_m1 zk1_3.2.2.2.2.2.2.2.2.2.2.2.2.2.2.2.2.2.2.2.2.2.2.2.2.1 rfl
def wd_121 := tbg_m1 zk1_3.2.2.2.2.2.2.2.2.2.2.2.2.2.2.2.2.2.2.2.2.2.2.2.2.2.1 rfl
def wd_122 := tbg_m1 zk1_3.2.2.2.2.2.2.2.2.2.2.2.2.2.2.2.2.2.2.2.2.2.2.2.2.2.2.1 rfl
def wd_123 := tbg_m1 zk1_3.2.2.2.2.2.2.2.2.2.2.2.2.2.2.2.2.2.2.2.2.2.2.2.2.2.2.2.1 rfl
def wd_124 := tbg_m1 zk1_3.2.2.2.2.2.2.2.2.2.2.2.2.2.2.2.2.2.2.2.2.2.2.2.2.2.2.2.2.1 rfl
def wd_125 := tbg_m1 zk1_3.2.2.2.2.2.2.2.2.2.2.2.2.2.2.2.2.2.2.2.2.2.2.2.2.2.2.2.2.2.1 rfl
def wd_126 := tbg_m1 zk1_3.2.2.2.2.2.2.2.2.2.2.2.2.2.2.2.2.2.2.2.2.2.2.2.2.2.2.2.2.2.2.1 rfl
def wd_127 := tbg_m1 zk1_3.2.2.2.2.2.2.2.2.2.2.2.2.2.2.2.2.2.2.2.2.2.2.2.2.2.2.2.2.2.2.2 rfl
theorem zk1_4 : (.fieldLink "QuotaLaws$Reader" 88 "QuotaLaws$Realm" "carries" "[I" : Cond) ∈ tables_1_1 ∧ (.fieldLink "QuotaLaws" 125 "QuotaLaws$Realm" "carries" "[I" : Cond) ∈ tables_1_1 ∧ (.fieldLink "QuotaLaws$Realm" 27 "QuotaLaws$Realm" "time" "[I" : Cond) ∈ tables_1_1 ∧ (.fieldLink "QuotaLaws$Tables" 61 "QuotaLaws$Realm" "time" "[I" : Cond) ∈ tables_1_1 ∧ (.fieldLink "QuotaLaws$Reader" 126 "QuotaLaws$Realm" "time" "[I" : Cond) ∈ tables_1_1 ∧ (.fieldLink "QuotaLaws" 138 "QuotaLaws$Realm" "time" "[I" : Cond) ∈ tables_1_1 ∧ (.fieldLink "QuotaLaws$Realm" 30 "QuotaLaws$Realm" "clumsy" "[I" : Cond) ∈ tables_1_1 ∧ (.fieldLink "QuotaLaws$Planner" 65 "QuotaLaws$Realm" "clumsy" "[I" : Cond) ∈ tables_1_1 ∧ (.fieldLink "QuotaLaws$Reader" 129 "QuotaLaws$Realm" "clumsy" "[I" : Cond) ∈ tables_1_1 ∧ (.fieldLink "QuotaLaws" 141 "QuotaLaws$Realm" "clumsy" "[I" : Cond) ∈ tables_1_1 ∧ (.fieldLink "QuotaLaws$Realm" 33 "QuotaLaws$Realm" "nerve" "[I" : Cond) ∈ tables_1_1 ∧ (.fieldLink "QuotaLaws$Odds" 35 "QuotaLaws$Realm" "nerve" "[I" : Cond) ∈ tables_1_1 ∧ (.fieldLink "QuotaLaws$Reader" 132 "QuotaLaws$Realm" "nerve" "[I" : Cond) ∈ tables_1_1 ∧ (.fieldLink "QuotaLaws" 144 "QuotaLaws$Realm" "nerve" "[I" : Cond) ∈ tables_1_1 ∧ (.fieldLink "QuotaLaws$Realm" 36 "QuotaLaws$Realm" "purse" "[I" : Cond) ∈ tables_1_1 ∧ (.fieldLink "QuotaLaws$Reader" 135 "QuotaLaws$Realm" "purse" "[I" : Cond) ∈ tables_1_1 ∧ (.fieldLink "QuotaLaws" 147 "QuotaLaws$Realm" "purse" "[I" : Cond) ∈ tables_1_1 ∧ (.fieldLink "QuotaLaws$Realm" 39 "QuotaLaws$Realm" "refused" "[I" : Cond) ∈ tables_1_1 ∧ (.fieldLink "QuotaLaws$Tables" 62 "QuotaLaws$Realm" "refused" "[I" : Cond) ∈ tables_1_1 ∧ (.fieldLink "QuotaLaws$Reader" 138 "QuotaLaws$Realm" "refused" "[I" : Cond) ∈ tables_1_1 ∧ (.fieldLink "QuotaLaws" 150 "QuotaLaws$Realm" "refused" "[I" : Cond) ∈ tables_1_1 ∧ (.fieldLink "QuotaLaws$Realm" 42 "QuotaLaws$Realm" "wanted" "[I" : Cond) ∈ tables_1_1 ∧ (.fieldLink "QuotaLaws$Reader" 144 "QuotaLaws$Realm" "wanted" "[I" : Cond) ∈ tables_1_1 ∧ (.fieldLink "QuotaLaws" 153 "QuotaLaws$Realm" "wanted" "[I" : Cond) ∈ tables_1_1 ∧ (.fieldLink "QuotaLaws$Realm" 45 "QuotaLaws$Realm" "breakings" "[I" : Cond) ∈ tables_1_1 ∧ (.fieldLink "QuotaLaws$Realm" 51 "QuotaLaws$Realm" "seen" "LQuotaLaws$Sightings;" : Cond) ∈ tables_1_1 ∧ (.fieldLink "QuotaLaws$Tables" 47 "QuotaLaws$Realm" "seen" "LQuotaLaws$Sightings;" : Cond) ∈ tables_1_1 ∧ (.fieldLink "QuotaLaws" 236 "QuotaLaws$Realm" "seen" "LQuotaLaws$Sightings;" : Cond) ∈ tables_1_1 := zw_s (rfl : tables_1_1.drop 128 = _) fun h => zw_s h fun h => zw_s h fun h => zw_s h fun h => zw_s h fun h => zw_s h fun h => zw_s h fun h => zw_s h fun h => zw_s h fun h => zw_s h fun h => zw_s h fun h => zw_s h fun h => zw_s h fun h => zw_s h fun h => zw_s h fun h => zw_s h fun h => zw_s h fun h => zw_s h fun h => zw_s h fun h => zw_s h fun h => zw_s h fun h => zw_s h fun h => zw_s h fun h => zw_s h fun h => zw_s h fun h => zw_s h fun h => zw_s h fun h => zw_e h
def wd_128 := tbg_m1 zk1_4.1 rfl
def wd_129 := tbg_m1 zk1_4.2.1 rfl
def wd_130 := tbg_m1 zk1_4.2.2.1 rfl
def wd_131 := tbg_m1 zk1_4.2.2.2.1 rfl
def wd_132 := tbg_m1 zk1_4.2.2.2.2.1 rfl
def wd_133 := tbg_m1 zk1_4.2.2.2.2.2.1 rfl
def wd_134 := tbg_m1 zk1_4.2.2.2.2.2.2.1 rfl
def wd_135 := tbg_m1 zk1_4.2.2.2.2.2.2.2.1 rfl
def wd_136 := tbg_m1 zk1_4.2.2.2.2.2.2.2.2.1 rfl
def wd_137 := tbg_m1 zk1_4.2.2.2.2.2.2.2.2.2.1 rfl
def wd_138 := tbg_m1 zk1_4.2.2.2.2.2.2.2.2.2.2.1 rfl
def wd_139 := tbg_m1 zk1_4.2.2.2.2.2.2.2.2.2.2.2.1 rfl
def wd_140 := tbg_m1 zk1_4.2.2.2.2.2.2.2.2.2.2.2.2.1 rfl
def wd_141 := tbg_m1 zk1_4.2.2.2.2.2.2.2.2.2.2.2.2.2.1 rfl
def wd_142 := tbg_m1 zk1_4.2.2.2.2.2.2.2.2.2.2.2.2.2.2.1 rfl
def wd_143 := tbg_m1 zk1_4.2.2.2.2.2.2.2.2.2.2.2.2.2.2.2.1 rfl
def wd_144 := tbg_m1 zk1_4.2.2.2.2.2.2.2.2.2.2.2.2.2.2.2.2.1 rfl
def wd_145 := tbg_m1 zk1_4.2.2.2.2.2.2.2.2.2.2.2.2.2.2.2.2.2.1 rfl
def wd_146 := tbg_m1 zk1_4.2.2.2.2.2.2.2.2.2.2.2.2.2.2.2.2.2.2.1 rfl
def wd_147 := tbg_m1 zk1_4.2.2.2.2.2.2.2.2.2.2.2.2.2.2.2.2.2.2.2.1 rfl
def wd_148 := tbg_m1 zk1_4.2.2.2.2.2.2.2.2.2.2.2.2.2.2.2.2.2.2.2.2.1 rfl
def wd_149 := tbg_m1 zk1_4.2.2.2.2.2.2.2.2.2.2.2.2.2.2.2.2.2.2.2.2.2.1 rfl
def wd_150 := tbg_m1 zk1_4.2.2.2.2.2.2.2.2.2.2.2.2.2.2.2.2.2.2.2.2.2.2.1 rfl
def wd_151 := tbg_m1 zk1_4.2.2.2.2.2.2.2.2.2.2.2.2.2.2.2.2.2.2.2.2.2.2.2.1 rfl
def wd_152 := tbg_m1 zk1_4.2.2.2.2.2.2.2.2.2.2.2.2.2.2.2.2.2.2.2.2.2.2.2.2.1 rfl
def wd_153 := tbg_m1 zk1_4.2.2.2.2.2.2.2.2.2.2.2.2.2.2.2.2.2.2.2.2.2.2.2.2.2.1 rfl
def wd_154 := tbg_m1 zk1_4.2.2.2.2.2.2.2.2.2.2.2.2.2.2.2.2.2.2.2.2.2.2.2.2.2.2.1 rfl
def wd_155 := tbg_m1 zk1_4.2.2.2.2.2.2.2.2.2.2.2.2.2.2.2.2.2.2.2.2.2.2.2.2.2.2.2 rfl
theorem zk1_6 : (.classLink "QuotaLaws" 34 "QuotaLaws$Sheet" : Cond) ∈ tables_1_1 ∧ (.classLink "QuotaLaws" 40 "QuotaLaws$Planner" : Cond) ∈ tables_1_1 ∧ (.instantiable "QuotaLaws$Planner" 8 : Cond) ∈ tables_1_1 ∧ (.methodLinkNest "QuotaLaws" 42 y_Planner_new "QuotaLaws" : Cond) ∈ tables_1_1 ∧ (.instanceMethod y_Planner_new : Cond) ∈ tables_1_1 ∧ (.methodLink "QuotaLaws$Planner" 3 Lib.objectInit : Cond) ∈ tables_1_1 ∧ (.fieldLink "QuotaLaws$Planner" 39 "QuotaLaws$Planner" "laws" "I" : Cond) ∈ tables_1_1 ∧ (.fieldLink "QuotaLaws$Planner" 9 "QuotaLaws$Planner" "left" "[I" : Cond) ∈ tables_1_1 ∧ (.fieldLink "QuotaLaws$Planner" 15 "QuotaLaws$Planner" "need" "[I" : Cond) ∈ tables_1_1 ∧ (.fieldLink "QuotaLaws$Planner" 18 "QuotaLaws$Planner" "needAhead" "[I" : Cond) ∈ tables_1_1 ∧ (.fieldLink "QuotaLaws$Planner" 21 "QuotaLaws$Planner" "room" "[I" : Cond) ∈ tables_1_1 ∧ (.fieldLink "QuotaLaws$Planner" 24 "QuotaLaws$Planner" "harm" "[I" : Cond) ∈ tables_1_1 ∧ (.fieldLink "QuotaLaws$Planner" 27 "QuotaLaws$Planner" "first" "[I" : Cond) ∈ tables_1_1 ∧ (.fieldLink "QuotaLaws$Planner" 30 "QuotaLaws$Planner" "best" "[I" : Cond) ∈ tables_1_1 := zw_s (rfl : tables_1_1.drop 196 = _) fun h => zw_g h fun h => zw_s h fun h => zw_s h fun h => zw_s h fun h => zw_s h fun h => zw_g h fun h => zw_s h fun h => zw_s h fun h => zw_s h fun h => zw_s h fun h => zw_s h fun h => zw_s h fun h => zw_s h fun h => zw_s h fun h => zw_e h
def wd_196 := tbg_m1 zk1_6.1 rfl
def wd_198 := tbg_m1 zk1_6.2.1 rfl
def wd_199 := tbg_m1 zk1_6.2.2.1 rfl
def wd_200 := nests_m1 zk1_6.2.2.2.1 rfl
def wd_201 := tbg_m1 zk1_6.2.2.2.2.1 rfl
def wd_203 := tbg_m1 zk1_6.2.2.2.2.2.1 rfl
def wd_204 := tbg_m1 zk1_6.2.2.2.2.2.2.1 rfl
def wd_205 := tbg_m1 zk1_6.2.2.2.2.2.2.2.1 rfl
def wd_206 := tbg_m1 zk1_6.2.2.2.2.2.2.2.2.1 rfl
def wd_207 := tbg_m1 zk1_6.2.2.2.2.2.2.2.2.2.1 rfl
def wd_208 := tbg_m1 zk1_6.2.2.2.2.2.2.2.2.2.2.1 rfl
def wd_209 := tbg_m1 zk1_6.2.2.2.2.2.2.2.2.2.2.2.1 rfl
def wd_210 := tbg_m1 zk1_6.2.2.2.2.2.2.2.2.2.2.2.2.1 rfl
def wd_211 := tbg_m1 zk1_6.2.2.2.2.2.2.2.2.2.2.2.2.2 rfl
theorem zk1_7 : (.arrayClass .boolean : Cond) ∈ tables_1_1 ∧ (.classLink "QuotaLaws" 47 "QuotaLaws$Tables" : Cond) ∈ tables_1_1 ∧ (.instantiable "QuotaLaws$Tables" 8 : Cond) ∈ tables_1_1 ∧ (.methodLinkNest "QuotaLaws" 49 y_Tables_new "QuotaLaws" : Cond) ∈ tables_1_1 ∧ (.instanceMethod y_Tables_new : Cond) ∈ tables_1_1 ∧ (.methodLink "QuotaLaws$Tables" 3 Lib.objectInit : Cond) ∈ tables_1_1 ∧ (.fieldLink "QuotaLaws$Tables" 40 "QuotaLaws$Tables" "laws" "I" : Cond) ∈ tables_1_1 ∧ (.fieldLink "QuotaLaws$Tables" 9 "QuotaLaws$Tables" "low" "[I" : Cond) ∈ tables_1_1 ∧ (.fieldLink "QuotaLaws$Tables" 15 "QuotaLaws$Tables" "high" "[I" : Cond) ∈ tables_1_1 ∧ (.fieldLink "QuotaLaws$Tables" 18 "QuotaLaws$Tables" "lawDue" "[I" : Cond) ∈ tables_1_1 := zw_s (rfl : tables_1_1.drop 229 = _) fun h => zw_s h fun h => zw_s h fun h => zw_s h fun h => zw_s h fun h => zw_g h fun h => zw_s h fun h => zw_s h fun h => zw_s h fun h => zw_s h fun h => zw_e h
def wd_229 := tbg_m1 zk1_7.1 rfl
def wd_230 := tbg_m1 zk1_7.2.1 rfl
def wd_231 := tbg_m1 zk1_7.2.2.1 rfl
def wd_232 := nests_m1 zk1_7.2.2.2.1 rfl
def wd_233 := tbg_m1 zk1_7.2.2.2.2.1 rfl
def wd_235 := tbg_m1 zk1_7.2.2.2.2.2.1 rfl
def wd_236 := tbg_m1 zk1_7.2.2.2.2.2.2.1 rfl
def wd_237 := tbg_m1 zk1_7.2.2.2.2.2.2.2.1 rfl
def wd_238 := tbg_m1 zk1_7.2.2.2.2.2.2.2.2.1 rfl
def wd_239 := tbg_m1 zk1_7.2.2.2.2.2.2.2.2.2 rfl
theorem zk2_0 : (.fieldLink "QuotaLaws$Tables" 21 "QuotaLaws$Tables" "oneDue" "[I" : Cond) ∈ tables_1_2 ∧ (.fieldLink "QuotaLaws$Tables" 24 "QuotaLaws$Tables" "time" "[I" : Cond) ∈ tables_1_2 ∧ (.fieldLink "QuotaLaws$Tables" 27 "QuotaLaws$Tables" "alone" "[J" : Cond) ∈ tables_1_2 ∧ (.fieldLink "QuotaLaws$Tables" 31 "QuotaLaws$Tables" "ways" "[J" : Cond) ∈ tables_1_2 ∧ (.arrayClass .long : Cond) ∈ tables_1_2 ∧ (.classLink "QuotaLaws" 54 "QuotaLaws$Odds" : Cond) ∈ tables_1_2 ∧ (.instantiable "QuotaLaws$Odds" 3 : Cond) ∈ tables_1_2 ∧ (.methodLinkNest "QuotaLaws" 56 y_Odds_new "QuotaLaws" : Cond) ∈ tables_1_2 ∧ (.instanceMethod y_Odds_new : Cond) ∈ tables_1_2 ∧ (.methodLink "QuotaLaws$Odds" 3 Lib.objectInit : Cond) ∈ tables_1_2 ∧ (.fieldLink "QuotaLaws$Odds" 43 "QuotaLaws$Odds" "over" "J" : Cond) ∈ tables_1_2 ∧ (.fieldLink "QuotaLaws" 229 "QuotaLaws$Odds" "over" "J" : Cond) ∈ tables_1_2 ∧ (.fieldLink "QuotaLaws$Odds" 21 "QuotaLaws$Odds" "under" "J" : Cond) ∈ tables_1_2 ∧ (.fieldLink "QuotaLaws" 233 "QuotaLaws$Odds" "under" "J" : Cond) ∈ tables_1_2 := zw_s (rfl : tables_1_2.drop 0 = _) fun h => zw_s h fun h => zw_s h fun h => zw_s h fun h => zw_g h fun h => zw_g h fun h => zw_g h fun h => zw_g h fun h => zw_g h fun h => zw_g h fun h => zw_g h fun h => zw_g h fun h => zw_g h fun h => zw_g h fun h => zw_g h fun h => zw_g h fun h => zw_g h fun h => zw_g h fun h => zw_g h fun h => zw_g h fun h => zw_g h fun h => zw_s h fun h => zw_s h fun h => zw_s h fun h => zw_s h fun h => zw_s h fun h => zw_g h fun h => zw_s h fun h => zw_s h fun h => zw_s h fun h => zw_s h fun h => zw_e h
def wd_240 := tbg_m2 zk2_0.1 rfl
def wd_241 := tbg_m2 zk2_0.2.1 rfl
def wd_242 := tbg_m2 zk2_0.2.2.1 rfl
def wd_243 := tbg_m2 zk2_0.2.2.2.1 rfl
def wd_261 := tbg_m2 zk2_0.2.2.2.2.1 rfl
def wd_262 := tbg_m2 zk2_0.2.2.2.2.2.1 rfl
def wd_263 := tbg_m2 zk2_0.2.2.2.2.2.2.1 rfl
def wd_264 := nests_m2 zk2_0.2.2.2.2.2.2.2.1 rfl
def wd_265 := tbg_m2 zk2_0.2.2.2.2.2.2.2.2.1 rfl
def wd_267 := tbg_m2 zk2_0.2.2.2.2.2.2.2.2.2.1 rfl
def wd_268 := tbg_m2 zk2_0.2.2.2.2.2.2.2.2.2.2.1 rfl
def wd_269 := tbg_m2 zk2_0.2.2.2.2.2.2.2.2.2.2.2.1 rfl
def wd_270 := tbg_m2 zk2_0.2.2.2.2.2.2.2.2.2.2.2.2.1 rfl
def wd_271 := tbg_m2 zk2_0.2.2.2.2.2.2.2.2.2.2.2.2.2 rfl
theorem zk2_1 : (.fieldLink "QuotaLaws$Odds" 11 "QuotaLaws$Odds" "weights" "[J" : Cond) ∈ tables_1_2 ∧ (.instantiable "QuotaLaws$Sheet" 3 : Cond) ∈ tables_1_2 ∧ (.methodLinkNest "QuotaLaws" 61 y_Sheet_new "QuotaLaws" : Cond) ∈ tables_1_2 ∧ (.instanceMethod y_Sheet_new : Cond) ∈ tables_1_2 ∧ (.methodLink "QuotaLaws$Sheet" 3 Lib.objectInit : Cond) ∈ tables_1_2 ∧ (.fieldLink "QuotaLaws$Sheet" 9 "QuotaLaws$Sheet" "size" "I" : Cond) ∈ tables_1_2 ∧ (.fieldLink "QuotaLaws" 286 "QuotaLaws$Sheet" "size" "I" : Cond) ∈ tables_1_2 ∧ (.fieldLink "QuotaLaws$Sheet" 19 "QuotaLaws$Sheet" "lane" "I" : Cond) ∈ tables_1_2 ∧ (.fieldLink "QuotaLaws$Sheet" 15 "QuotaLaws$Sheet" "cells" "[I" : Cond) ∈ tables_1_2 ∧ (.fieldLink "QuotaLaws" 10 "QuotaLaws" "reader" "LQuotaLaws$Reader;" : Cond) ∈ tables_1_2 ∧ (.fieldLink "QuotaLaws" 19 "QuotaLaws" "now" "LQuotaLaws$Realm;" : Cond) ∈ tables_1_2 ∧ (.fieldLink "QuotaLaws" 23 "QuotaLaws" "trial" "LQuotaLaws$Realm;" : Cond) ∈ tables_1_2 ∧ (.fieldLink "QuotaLaws" 26 "QuotaLaws" "images" "[LQuotaLaws$Realm;" : Cond) ∈ tables_1_2 ∧ (.fieldLink "QuotaLaws" 30 "QuotaLaws" "kept" "[Z" : Cond) ∈ tables_1_2 ∧ (.fieldLink "QuotaLaws" 36 "QuotaLaws" "sheets" "[LQuotaLaws$Sheet;" : Cond) ∈ tables_1_2 ∧ (.fieldLink "QuotaLaws" 43 "QuotaLaws" "planner" "LQuotaLaws$Planner;" : Cond) ∈ tables_1_2 ∧ (.fieldLink "QuotaLaws" 50 "QuotaLaws" "tables" "LQuotaLaws$Tables;" : Cond) ∈ tables_1_2 := zw_s (rfl : tables_1_2.drop 32 = _) fun h => zw_g h fun h => zw_g h fun h => zw_g h fun h => zw_g h fun h => zw_g h fun h => zw_g h fun h => zw_g h fun h => zw_s h fun h => zw_s h fun h => zw_s h fun h => zw_g h fun h => zw_s h fun h => zw_s h fun h => zw_s h fun h => zw_s h fun h => zw_s h fun h => zw_g h fun h => zw_g h fun h => zw_g h fun h => zw_g h fun h => zw_g h fun h => zw_g h fun h => zw_g h fun h => zw_s h fun h => zw_s h fun h => zw_s h fun h => zw_s h fun h => zw_s h fun h => zw_s h fun h => zw_s h fun h => zw_e h
def wd_272 := tbg_m2 zk2_1.1 rfl
def wd_280 := tbg_m2 zk2_1.2.1 rfl
def wd_281 := nests_m2 zk2_1.2.2.1 rfl
def wd_282 := tbg_m2 zk2_1.2.2.2.1 rfl
def wd_284 := tbg_m2 zk2_1.2.2.2.2.1 rfl
def wd_285 := tbg_m2 zk2_1.2.2.2.2.2.1 rfl
def wd_286 := tbg_m2 zk2_1.2.2.2.2.2.2.1 rfl
def wd_287 := tbg_m2 zk2_1.2.2.2.2.2.2.2.1 rfl
def wd_288 := tbg_m2 zk2_1.2.2.2.2.2.2.2.2.1 rfl
def wd_296 := tbg_m2 zk2_1.2.2.2.2.2.2.2.2.2.1 rfl
def wd_297 := tbg_m2 zk2_1.2.2.2.2.2.2.2.2.2.2.1 rfl
def wd_298 := tbg_m2 zk2_1.2.2.2.2.2.2.2.2.2.2.2.1 rfl
def wd_299 := tbg_m2 zk2_1.2.2.2.2.2.2.2.2.2.2.2.2.1 rfl
def wd_300 := tbg_m2 zk2_1.2.2.2.2.2.2.2.2.2.2.2.2.2.1 rfl
def wd_301 := tbg_m2 zk2_1.2.2.2.2.2.2.2.2.2.2.2.2.2.2.1 rfl
def wd_302 := tbg_m2 zk2_1.2.2.2.2.2.2.2.2.2.2.2.2.2.2.2.1 rfl
def wd_303 := tbg_m2 zk2_1.2.2.2.2.2.2.2.2.2.2.2.2.2.2.2.2 rfl
theorem zk2_2 : (.fieldLink "QuotaLaws" 57 "QuotaLaws" "odds" "LQuotaLaws$Odds;" : Cond) ∈ tables_1_2 ∧ (.fieldLink "QuotaLaws" 277 "QuotaLaws" "tornFault" "I" : Cond) ∈ tables_1_2 ∧ (.methodLink "QuotaLawsLaw" 13 y_Q_feed : Cond) ∈ tables_1_2 ∧ (.instanceMethod y_Q_feed : Cond) ∈ tables_1_2 ∧ (.selects "QuotaLaws" y_Q_feed y_Q_feed : Cond) ∈ tables_1_2 ∧ (.methodLink "QuotaLaws" 62 y_Q_isWithin : Cond) ∈ tables_1_2 ∧ (.static y_Q_isWithin : Cond) ∈ tables_1_2 ∧ (.methodLink "QuotaLaws" 66 y_Reader_append : Cond) ∈ tables_1_2 ∧ (.instanceMethod y_Reader_append : Cond) ∈ tables_1_2 := zw_s (rfl : tables_1_2.drop 64 = _) fun h => zw_s h fun h => zw_g h fun h => zw_g h fun h => zw_g h fun h => zw_g h fun h => zw_g h fun h => zw_g h fun h => zw_g h fun h => zw_g h fun h => zw_g h fun h => zw_g h fun h => zw_g h fun h => zw_g h fun h => zw_g h fun h => zw_g h fun h => zw_g h fun h => zw_g h fun h => zw_g h fun h => zw_g h fun h => zw_g h fun h => zw_g h fun h => zw_g h fun h => zw_s h fun h => zw_s h fun h => zw_s h fun h => zw_g h fun h => zw_s h fun h => zw_s h fun h => zw_g h fun h => zw_s h fun h => zw_e h
def wd_304 := tbg_m2 zk2_2.1 rfl
def wd_305 := tbg_m2 zk2_2.2.1 rfl
def wd_327 := tbg_m2 zk2_2.2.2.1 rfl
def wd_328 := tbg_m2 zk2_2.2.2.2.1 rfl
def wd_329 := tbg_m2 zk2_2.2.2.2.2.1 rfl
def wd_331 := tbg_m2 zk2_2.2.2.2.2.2.1 rfl
def wd_332 := tbg_m2 zk2_2.2.2.2.2.2.2.1 rfl
def wd_334 := tbg_m2 zk2_2.2.2.2.2.2.2.2.1 rfl
def wd_335 := tbg_m2 zk2_2.2.2.2.2.2.2.2.2 rfl
theorem zk2_3 : (.selects "QuotaLaws$Reader" y_Reader_append y_Reader_append : Cond) ∈ tables_1_2 ∧ (.methodLink "QuotaLawsLaw" 18 y_Q_end : Cond) ∈ tables_1_2 ∧ (.instanceMethod y_Q_end : Cond) ∈ tables_1_2 ∧ (.selects "QuotaLaws" y_Q_end y_Q_end : Cond) ∈ tables_1_2 ∧ (.methodLink "QuotaLawsLaw" 22 y_Q_text : Cond) ∈ tables_1_2 ∧ (.instanceMethod y_Q_text : Cond) ∈ tables_1_2 ∧ (.selects "QuotaLaws" y_Q_text y_Q_text : Cond) ∈ tables_1_2 ∧ (.methodLink "QuotaLaws" 74 y_Reader_readInto : Cond) ∈ tables_1_2 ∧ (.instanceMethod y_Reader_readInto : Cond) ∈ tables_1_2 ∧ (.selects "QuotaLaws$Reader" y_Reader_readInto y_Reader_readInto : Cond) ∈ tables_1_2 ∧ (.methodLink "QuotaLaws$Reader" 19 y_Realm_empty : Cond) ∈ tables_1_2 ∧ (.instanceMethod y_Realm_empty : Cond) ∈ tables_1_2 ∧ (.selects "QuotaLaws$Realm" y_Realm_empty y_Realm_empty : Cond) ∈ tables_1_2 ∧ (.methodLink "QuotaLaws$Realm" 77 y_Arrays_fillI : Cond) ∈ tables_1_2 ∧ (.static y_Arrays_fillI : Cond) ∈ tables_1_2 ∧ (.methodLink "QuotaLaws$Reader" 36 y_Reader_takeToken : Cond) ∈ tables_1_2 ∧ (.instanceMethod y_Reader_takeToken : Cond) ∈ tables_1_2 ∧ (.methodLink "QuotaLaws$Reader" 176 y_Reader_passRun : Cond) ∈ tables_1_2 ∧ (.instanceMethod y_Reader_passRun : Cond) ∈ tables_1_2 ∧ (.methodLink "QuotaLaws$Reader" 180 y_Reader_kindHere : Cond) ∈ tables_1_2 ∧ (.instanceMethod y_Reader_kindHere : Cond) ∈ tables_1_2 := zw_s (rfl : tables_1_2.drop 96 = _) fun h => zw_g h fun h => zw_s h fun h => zw_s h fun h => zw_s h fun h => zw_g h fun h => zw_s h fun h => zw_s h fun h => zw_s h fun h => zw_g h fun h => zw_s h fun h => zw_s h fun h => zw_s h fun h => zw_g h fun h => zw_s h fun h => zw_s h fun h => zw_s h fun h => zw_g h fun h => zw_s h fun h => zw_s h fun h => zw_g h fun h => zw_s h fun h => zw_g h fun h => zw_s h fun h => zw_g h fun h => zw_s h fun h => zw_g h fun h => zw_s h fun h => zw_g h fun h => zw_s h fun h => zw_g h fun h => zw_e h
def wd_336 := tbg_m2 zk2_3.1 rfl
def wd_338 := tbg_m2 zk2_3.2.1 rfl
def wd_339 := tbg_m2 zk2_3.2.2.1 rfl
def wd_340 := tbg_m2 zk2_3.2.2.2.1 rfl
def wd_342 := tbg_m2 zk2_3.2.2.2.2.1 rfl
def wd_343 := tbg_m2 zk2_3.2.2.2.2.2.1 rfl
def wd_344 := tbg_m2 zk2_3.2.2.2.2.2.2.1 rfl
def wd_346 := tbg_m2 zk2_3.2.2.2.2.2.2.2.1 rfl
def wd_347 := tbg_m2 zk2_3.2.2.2.2.2.2.2.2.1 rfl
def wd_348 := tbg_m2 zk2_3.2.2.2.2.2.2.2.2.2.1 rfl
def wd_350 := tbg_m2 zk2_3.2.2.2.2.2.2.2.2.2.2.1 rfl
def wd_351 := tbg_m2 zk2_3.2.2.2.2.2.2.2.2.2.2.2.1 rfl
def wd_352 := tbg_m2 zk2_3.2.2.2.2.2.2.2.2.2.2.2.2.1 rfl
def wd_354 := tbg_m2 zk2_3.2.2.2.2.2.2.2.2.2.2.2.2.2.1 rfl
def wd_355 := tbg_m2 zk2_3.2.2.2.2.2.2.2.2.2.2.2.2.2.2.1 rfl
def wd_357 := tbg_m2 zk2_3.2.2.2.2.2.2.2.2.2.2.2.2.2.2.2.1 rfl
def wd_359 := tbg_m2 zk2_3.2.2.2.2.2.2.2.2.2.2.2.2.2.2.2.2.1 rfl
def wd_361 := tbg_m2 zk2_3.2.2.2.2.2.2.2.2.2.2.2.2.2.2.2.2.2.1 rfl
def wd_363 := tbg_m2 zk2_3.2.2.2.2.2.2.2.2.2.2.2.2.2.2.2.2.2.2.1 rfl
def wd_365 := tbg_m2 zk2_3.2.2.2.2.2.2.2.2.2.2.2.2.2.2.2.2.2.2.2.1 rfl
def wd_367 := tbg_m2 zk2_3.2.2.2.2.2.2.2.2.2.2.2.2.2.2.2.2.2.2.2.2 rfl
theorem zk2_4 : (.methodLink "QuotaLaws$Reader" 183 y_Reader_valueOfRun : Cond) ∈ tables_1_2 ∧ (.instanceMethod y_Reader_valueOfRun : Cond) ∈ tables_1_2 ∧ (.methodLink "QuotaLaws$Reader" 50 y_Reader_fail : Cond) ∈ tables_1_2 ∧ (.instanceMethod y_Reader_fail : Cond) ∈ tables_1_2 ∧ (.methodLink "QuotaLaws$Reader" 43 y_Reader_takeLine : Cond) ∈ tables_1_2 ∧ (.instanceMethod y_Reader_takeLine : Cond) ∈ tables_1_2 ∧ (.methodLink "QuotaLaws$Reader" 56 y_Reader_isWord : Cond) ∈ tables_1_2 ∧ (.instanceMethod y_Reader_isWord : Cond) ∈ tables_1_2 ∧ (.methodLink "QuotaLaws$Reader" 167 y_String_length : Cond) ∈ tables_1_2 ∧ (.instanceMethod y_String_length : Cond) ∈ tables_1_2 ∧ (.selects "java/lang/String" y_String_length y_String_length : Cond) ∈ tables_1_2 ∧ (.methodLink "java/lang/String" 335 y_String_coder : Cond) ∈ tables_1_2 ∧ (.instanceMethod y_String_coder : Cond) ∈ tables_1_2 ∧ (.selects "java/lang/String" y_String_coder y_String_coder : Cond) ∈ tables_1_2 ∧ (.fieldLink "java/lang/String" 38 "java/lang/String" "COMPACT_STRINGS" "Z" : Cond) ∈ tables_1_2 ∧ (.methodLink "QuotaLaws$Reader" 172 y_String_charAt : Cond) ∈ tables_1_2 ∧ (.instanceMethod y_String_charAt : Cond) ∈ tables_1_2 ∧ (.selects "java/lang/String" y_String_charAt y_String_charAt : Cond) ∈ tables_1_2 := zw_s (rfl : tables_1_2.drop 129 = _) fun h => zw_g h fun h => zw_s h fun h => zw_g h fun h => zw_s h fun h => zw_g h fun h => zw_s h fun h => zw_g h fun h => zw_s h fun h => zw_g h fun h => zw_s h fun h => zw_g h fun h => zw_g h fun h => zw_s h fun h => zw_g h fun h => zw_s h fun h => zw_g h fun h => zw_s h fun h => zw_s h fun h => zw_s h fun h => zw_g h fun h => zw_s h fun h => zw_s h fun h => zw_s h fun h => zw_g h fun h => zw_s h fun h => zw_g h fun h => zw_s h fun h => zw_s h fun h => zw_e h
def wd_369 := tbg_m2 zk2_4.1 rfl
def wd_371 := tbg_m2 zk2_4.2.1 rfl
def wd_373 := tbg_m2 zk2_4.2.2.1 rfl
def wd_375 := tbg_m2 zk2_4.2.2.2.1 rfl
def wd_377 := tbg_m2 zk2_4.2.2.2.2.1 rfl
def wd_379 := tbg_m2 zk2_4.2.2.2.2.2.1 rfl
def wd_382 := tbg_m2 zk2_4.2.2.2.2.2.2.1 rfl
def wd_384 := tbg_m2 zk2_4.2.2.2.2.2.2.2.1 rfl
def wd_386 := tbg_m2 zk2_4.2.2.2.2.2.2.2.2.1 rfl
def wd_387 := tbg_m2 zk2_4.2.2.2.2.2.2.2.2.2.1 rfl
def wd_388 := tbg_m2 zk2_4.2.2.2.2.2.2.2.2.2.2.1 rfl
def wd_390 := tbg_m2 zk2_4.2.2.2.2.2.2.2.2.2.2.2.1 rfl
def wd_391 := tbg_m2 zk2_4.2.2.2.2.2.2.2.2.2.2.2.2.1 rfl
def wd_392 := tbg_m2 zk2_4.2.2.2.2.2.2.2.2.2.2.2.2.2.1 rfl
def wd_394 := tbg_m2 zk2_4.2.2.2.2.2.2.2.2.2.2.2.2.2.2.1 rfl
def wd_396 := tbg_m2 zk2_4.2.2.2.2.2.2.2.2.2.2.2.2.2.2.2.1 rfl
def wd_397 := tbg_m2 zk2_4.2.2.2.2.2.2.2.2.2.2.2.2.2.2.2.2.1 rfl
def wd_398 := tbg_m2 zk2_4.2.2.2.2.2.2.2.2.2.2.2.2.2.2.2.2.2 rfl
theorem zk2_5 : (.methodLink "java/lang/String" 492 y_String_isLatin1 : Cond) ∈ tables_1_2 ∧ (.instanceMethod y_String_isLatin1 : Cond) ∈ tables_1_2 ∧ (.selects "java/lang/String" y_String_isLatin1 y_String_isLatin1 : Cond) ∈ tables_1_2 ∧ (.methodLink "java/lang/String" 495 y_StringLatin1_charAt : Cond) ∈ tables_1_2 ∧ (.static y_StringLatin1_charAt : Cond) ∈ tables_1_2 ∧ (.methodLink "java/lang/StringLatin1" 9 y_String_checkIndex : Cond) ∈ tables_1_2 ∧ (.static y_String_checkIndex : Cond) ∈ tables_1_2 ∧ (.fieldLink "java/lang/String" 1053 "jdk/internal/util/Preconditions" "SIOOBE_FORMATTER" "Ljava/util/function/BiFunction;" : Cond) ∈ tables_1_2 ∧ (.methodLink "java/lang/String" 1059 y_Preconditions_checkIndex : Cond) ∈ tables_1_2 ∧ (.static y_Preconditions_checkIndex : Cond) ∈ tables_1_2 ∧ (.methodLink "java/lang/String" 498 y_StringUTF16_charAt : Cond) ∈ tables_1_2 := zw_s (rfl : tables_1_2.drop 160 = _) fun h => zw_s h fun h => zw_s h fun h => zw_g h fun h => zw_s h fun h => zw_s h fun h => zw_g h fun h => zw_s h fun h => zw_s h fun h => zw_g h fun h => zw_s h fun h => zw_g h fun h => zw_s h fun h => zw_s h fun h => zw_g h fun h => zw_e h
def wd_400 := tbg_m2 zk2_5.1 rfl
def wd_401 := tbg_m2 zk2_5.2.1 rfl
def wd_402 := tbg_m2 zk2_5.2.2.1 rfl
def wd_404 := tbg_m2 zk2_5.2.2.2.1 rfl
def wd_405 := tbg_m2 zk2_5.2.2.2.2.1 rfl
def wd_407 := tbg_m2 zk2_5.2.2.2.2.2.1 rfl
def wd_408 := tbg_m2 zk2_5.2.2.2.2.2.2.1 rfl
def wd_410 := tbg_m2 zk2_5.2.2.2.2.2.2.2.1 rfl
def wd_412 := tbg_m2 zk2_5.2.2.2.2.2.2.2.2.1 rfl
def wd_413 := tbg_m2 zk2_5.2.2.2.2.2.2.2.2.2.1 rfl
def wd_415 := tbg_m2 zk2_5.2.2.2.2.2.2.2.2.2.2 rfl
theorem zk2_6 : (.methodLink "QuotaLaws$Reader" 63 y_Reader_takeLaw : Cond) ∈ tables_1_2 ∧ (.instanceMethod y_Reader_takeLaw : Cond) ∈ tables_1_2 ∧ (.methodLink "QuotaLaws$Reader" 95 y_Reader_takeNumber : Cond) ∈ tables_1_2 ∧ (.instanceMethod y_Reader_takeNumber : Cond) ∈ tables_1_2 ∧ (.methodLink "QuotaLaws$Reader" 120 y_Reader_isBounded : Cond) ∈ tables_1_2 ∧ (.instanceMethod y_Reader_isBounded : Cond) ∈ tables_1_2 ∧ (.methodLinkNest "QuotaLaws$Reader" 163 y_Q_isWithin "QuotaLaws" : Cond) ∈ tables_1_2 ∧ (.methodLink "QuotaLaws$Reader" 101 y_Reader_putInto : Cond) ∈ tables_1_2 ∧ (.instanceMethod y_Reader_putInto : Cond) ∈ tables_1_2 ∧ (.methodLink "QuotaLaws$Reader" 114 y_Reader_takeCarried : Cond) ∈ tables_1_2 ∧ (.instanceMethod y_Reader_takeCarried : Cond) ∈ tables_1_2 ∧ (.methodLink "QuotaLaws$Reader" 117 y_Reader_isStop : Cond) ∈ tables_1_2 ∧ (.instanceMethod y_Reader_isStop : Cond) ∈ tables_1_2 ∧ (.methodLink "QuotaLaws$Reader" 72 y_Reader_takeOne : Cond) ∈ tables_1_2 ∧ (.instanceMethod y_Reader_takeOne : Cond) ∈ tables_1_2 := zw_s (rfl : tables_1_2.drop 194 = _) fun h => zw_g h fun h => zw_s h fun h => zw_g h fun h => zw_s h fun h => zw_g h fun h => zw_s h fun h => zw_g h fun h => zw_s h fun h => zw_g h fun h => zw_s h fun h => zw_g h fun h => zw_s h fun h => zw_s h fun h => zw_g h fun h => zw_s h fun h => zw_g h fun h => zw_s h fun h => zw_g h fun h => zw_s h fun h => zw_g h fun h => zw_s h fun h => zw_g h fun h => zw_s h fun h => zw_g h fun h => zw_g h fun h => zw_s h fun h => zw_g h fun h => zw_e h
def wd_434 := tbg_m2 zk2_6.1 rfl
def wd_436 := tbg_m2 zk2_6.2.1 rfl
def wd_438 := tbg_m2 zk2_6.2.2.1 rfl
def wd_440 := tbg_m2 zk2_6.2.2.2.1 rfl
def wd_442 := tbg_m2 zk2_6.2.2.2.2.1 rfl
def wd_444 := tbg_m2 zk2_6.2.2.2.2.2.1 rfl
def wd_446 := nests_m2 zk2_6.2.2.2.2.2.2.1 rfl
def wd_447 := tbg_m2 zk2_6.2.2.2.2.2.2.2.1 rfl
def wd_449 := tbg_m2 zk2_6.2.2.2.2.2.2.2.2.1 rfl
def wd_451 := tbg_m2 zk2_6.2.2.2.2.2.2.2.2.2.1 rfl
def wd_453 := tbg_m2 zk2_6.2.2.2.2.2.2.2.2.2.2.1 rfl
def wd_455 := tbg_m2 zk2_6.2.2.2.2.2.2.2.2.2.2.2.1 rfl
def wd_457 := tbg_m2 zk2_6.2.2.2.2.2.2.2.2.2.2.2.2.1 rfl
def wd_460 := tbg_m2 zk2_6.2.2.2.2.2.2.2.2.2.2.2.2.2.1 rfl
def wd_462 := tbg_m2 zk2_6.2.2.2.2.2.2.2.2.2.2.2.2.2.2 rfl
theorem zk2_7 : (.methodLink "QuotaLaws$Reader" 141 y_Reader_addLaw : Cond) ∈ tables_1_2 ∧ (.instanceMethod y_Reader_addLaw : Cond) ∈ tables_1_2 ∧ (.methodLinkNest "QuotaLaws$Reader" 150 y_Q_hasBit "QuotaLaws" : Cond) ∈ tables_1_2 ∧ (.static y_Q_hasBit : Cond) ∈ tables_1_2 ∧ (.methodLink "QuotaLaws$Reader" 77 y_Reader_takeWant : Cond) ∈ tables_1_2 ∧ (.instanceMethod y_Reader_takeWant : Cond) ∈ tables_1_2 ∧ (.methodLink "QuotaLaws$Reader" 82 y_Reader_takeWatch : Cond) ∈ tables_1_2 ∧ (.instanceMethod y_Reader_takeWatch : Cond) ∈ tables_1_2 := zw_s (rfl : tables_1_2.drop 224 = _) fun h => zw_g h fun h => zw_s h fun h => zw_g h fun h => zw_s h fun h => zw_s h fun h => zw_g h fun h => zw_g h fun h => zw_s h fun h => zw_g h fun h => zw_s h fun h => zw_g h fun h => zw_g h fun h => zw_s h fun h => zw_g h fun h => zw_e h
def wd_464 := tbg_m2 zk2_7.1 rfl
def wd_466 := tbg_m2 zk2_7.2.1 rfl
def wd_468 := nests_m2 zk2_7.2.2.1 rfl
def wd_469 := tbg_m2 zk2_7.2.2.2.1 rfl
def wd_472 := tbg_m2 zk2_7.2.2.2.2.1 rfl
def wd_474 := tbg_m2 zk2_7.2.2.2.2.2.1 rfl
def wd_477 := tbg_m2 zk2_7.2.2.2.2.2.2.1 rfl
def wd_479 := tbg_m2 zk2_7.2.2.2.2.2.2.2 rfl
theorem zk3_0 : (.methodLink "QuotaLaws$Reader" 47 y_Reader_allThere : Cond) ∈ tables_1_3 ∧ (.static y_Reader_allThere : Cond) ∈ tables_1_3 ∧ (.methodLinkNest "QuotaLaws$Reader" 153 y_Q_isPart "QuotaLaws" : Cond) ∈ tables_1_3 ∧ (.static y_Q_isPart : Cond) ∈ tables_1_3 ∧ (.methodLink "QuotaLaws$Reader" 156 y_Realm_hasLaw : Cond) ∈ tables_1_3 ∧ (.instanceMethod y_Realm_hasLaw : Cond) ∈ tables_1_3 ∧ (.selects "QuotaLaws$Realm" y_Realm_hasLaw y_Realm_hasLaw : Cond) ∈ tables_1_3 ∧ (.methodLink "QuotaLaws$Reader" 160 y_Realm_hasOne : Cond) ∈ tables_1_3 ∧ (.instanceMethod y_Realm_hasOne : Cond) ∈ tables_1_3 ∧ (.selects "QuotaLaws$Realm" y_Realm_hasOne y_Realm_hasOne : Cond) ∈ tables_1_3 ∧ (.methodLink "QuotaLaws" 81 y_Realm_copyFrom : Cond) ∈ tables_1_3 ∧ (.instanceMethod y_Realm_copyFrom : Cond) ∈ tables_1_3 ∧ (.selects "QuotaLaws$Realm" y_Realm_copyFrom y_Realm_copyFrom : Cond) ∈ tables_1_3 ∧ (.methodLink "QuotaLaws$Realm" 83 arraycopyName : Cond) ∈ tables_1_3 ∧ (.static arraycopyName : Cond) ∈ tables_1_3 ∧ (.native arraycopyName : Cond) ∈ tables_1_3 ∧ (.methodLink "QuotaLaws$Realm" 89 y_Sightings_copyFrom : Cond) ∈ tables_1_3 ∧ (.instanceMethod y_Sightings_copyFrom : Cond) ∈ tables_1_3 ∧ (.selects "QuotaLaws$Sightings" y_Sightings_copyFrom y_Sightings_copyFrom : Cond) ∈ tables_1_3 ∧ (.methodLink "QuotaLaws$Sightings" 25 arraycopyName : Cond) ∈ tables_1_3 ∧ (.methodLink "QuotaLawsLaw" 27 y_Q_fault : Cond) ∈ tables_1_3 ∧ (.instanceMethod y_Q_fault : Cond) ∈ tables_1_3 ∧ (.selects "QuotaLaws" y_Q_fault y_Q_fault : Cond) ∈ tables_1_3 ∧ (.methodLink "QuotaLawsLaw" 31 y_Q_rule : Cond) ∈ tables_1_3 := zw_s (rfl : tables_1_3.drop 1 = _) fun h => zw_s h fun h => zw_g h fun h => zw_s h fun h => zw_s h fun h => zw_g h fun h => zw_s h fun h => zw_s h fun h => zw_s h fun h => zw_g h fun h => zw_s h fun h => zw_s h fun h => zw_s h fun h => zw_g h fun h => zw_s h fun h => zw_s h fun h => zw_s h fun h => zw_g h fun h => zw_s h fun h => zw_s h fun h => zw_s h fun h => zw_s h fun h => zw_s h fun h => zw_s h fun h => zw_g h fun h => zw_s h fun h => zw_s h fun h => zw_s h fun h => zw_s h fun h => zw_g h fun h => zw_e h
def wd_481 := tbg_m3 zk3_0.1 rfl
def wd_482 := tbg_m3 zk3_0.2.1 rfl
def wd_484 := nests_m3 zk3_0.2.2.1 rfl
def wd_485 := tbg_m3 zk3_0.2.2.2.1 rfl
def wd_487 := tbg_m3 zk3_0.2.2.2.2.1 rfl
def wd_488 := tbg_m3 zk3_0.2.2.2.2.2.1 rfl
def wd_489 := tbg_m3 zk3_0.2.2.2.2.2.2.1 rfl
def wd_491 := tbg_m3 zk3_0.2.2.2.2.2.2.2.1 rfl
def wd_492 := tbg_m3 zk3_0.2.2.2.2.2.2.2.2.1 rfl
def wd_493 := tbg_m3 zk3_0.2.2.2.2.2.2.2.2.2.1 rfl
def wd_495 := tbg_m3 zk3_0.2.2.2.2.2.2.2.2.2.2.1 rfl
def wd_496 := tbg_m3 zk3_0.2.2.2.2.2.2.2.2.2.2.2.1 rfl
def wd_497 := tbg_m3 zk3_0.2.2.2.2.2.2.2.2.2.2.2.2.1 rfl
def wd_499 := tbg_m3 zk3_0.2.2.2.2.2.2.2.2.2.2.2.2.2.1 rfl
def wd_500 := tbg_m3 zk3_0.2.2.2.2.2.2.2.2.2.2.2.2.2.2.1 rfl
def wd_501 := tbg_m3 zk3_0.2.2.2.2.2.2.2.2.2.2.2.2.2.2.2.1 rfl
def wd_502 := tbg_m3 zk3_0.2.2.2.2.2.2.2.2.2.2.2.2.2.2.2.2.1 rfl
def wd_503 := tbg_m3 zk3_0.2.2.2.2.2.2.2.2.2.2.2.2.2.2.2.2.2.1 rfl
def wd_504 := tbg_m3 zk3_0.2.2.2.2.2.2.2.2.2.2.2.2.2.2.2.2.2.2.1 rfl
def wd_506 := tbg_m3 zk3_0.2.2.2.2.2.2.2.2.2.2.2.2.2.2.2.2.2.2.2.1 rfl
def wd_507 := tbg_m3 zk3_0.2.2.2.2.2.2.2.2.2.2.2.2.2.2.2.2.2.2.2.2.1 rfl
def wd_508 := tbg_m3 zk3_0.2.2.2.2.2.2.2.2.2.2.2.2.2.2.2.2.2.2.2.2.2.1 rfl
def wd_509 := tbg_m3 zk3_0.2.2.2.2.2.2.2.2.2.2.2.2.2.2.2.2.2.2.2.2.2.2.1 rfl
def wd_511 := tbg_m3 zk3_0.2.2.2.2.2.2.2.2.2.2.2.2.2.2.2.2.2.2.2.2.2.2.2 rfl
theorem zk3_1 : (.instanceMethod y_Q_rule : Cond) ∈ tables_1_3 ∧ (.selects "QuotaLaws" y_Q_rule y_Q_rule : Cond) ∈ tables_1_3 ∧ (.methodLink "QuotaLawsLaw" 35 y_Q_law : Cond) ∈ tables_1_3 ∧ (.instanceMethod y_Q_law : Cond) ∈ tables_1_3 ∧ (.selects "QuotaLaws" y_Q_law y_Q_law : Cond) ∈ tables_1_3 ∧ (.methodLink "QuotaLaws" 109 y_Realm_hasLaw : Cond) ∈ tables_1_3 ∧ (.methodLink "QuotaLaws" 128 y_Realm_needOf : Cond) ∈ tables_1_3 ∧ (.instanceMethod y_Realm_needOf : Cond) ∈ tables_1_3 ∧ (.selects "QuotaLaws$Realm" y_Realm_needOf y_Realm_needOf : Cond) ∈ tables_1_3 ∧ (.methodLinkNest "QuotaLaws$Realm" 104 y_Q_hasBit "QuotaLaws" : Cond) ∈ tables_1_3 ∧ (.methodLink "QuotaLaws$Realm" 108 y_Realm_brokenBy : Cond) ∈ tables_1_3 ∧ (.instanceMethod y_Realm_brokenBy : Cond) ∈ tables_1_3 ∧ (.selects "QuotaLaws$Realm" y_Realm_brokenBy y_Realm_brokenBy : Cond) ∈ tables_1_3 ∧ (.methodLink "QuotaLaws$Realm" 112 Lib.Math.max.name : Cond) ∈ tables_1_3 ∧ (.static Lib.Math.max.name : Cond) ∈ tables_1_3 ∧ (.methodLink "QuotaLaws" 132 y_Realm_chainOf : Cond) ∈ tables_1_3 ∧ (.instanceMethod y_Realm_chainOf : Cond) ∈ tables_1_3 ∧ (.selects "QuotaLaws$Realm" y_Realm_chainOf y_Realm_chainOf : Cond) ∈ tables_1_3 ∧ (.methodLink "QuotaLaws$Realm" 97 y_Realm_hasLaw : Cond) ∈ tables_1_3 ∧ (.methodLink "QuotaLawsLaw" 40 y_Q_one : Cond) ∈ tables_1_3 ∧ (.instanceMethod y_Q_one : Cond) ∈ tables_1_3 ∧ (.selects "QuotaLaws" y_Q_one y_Q_one : Cond) ∈ tables_1_3 ∧ (.methodLink "QuotaLaws" 135 y_Realm_hasOne : Cond) ∈ tables_1_3 ∧ (.methodLink "QuotaLaws" 156 y_Realm_brokenByOne : Cond) ∈ tables_1_3 ∧ (.instanceMethod y_Realm_brokenByOne : Cond) ∈ tables_1_3 := zw_s (rfl : tables_1_3.drop 32 = _) fun h => zw_s h fun h => zw_g h fun h => zw_s h fun h => zw_s h fun h => zw_s h fun h => zw_g h fun h => zw_s h fun h => zw_s h fun h => zw_s h fun h => zw_s h fun h => zw_g h fun h => zw_s h fun h => zw_s h fun h => zw_s h fun h => zw_s h fun h => zw_g h fun h => zw_s h fun h => zw_s h fun h => zw_g h fun h => zw_s h fun h => zw_s h fun h => zw_s h fun h => zw_g h fun h => zw_s h fun h => zw_s h fun h => zw_s h fun h => zw_s h fun h => zw_g h fun h => zw_s h fun h => zw_s h fun h => zw_e h
def wd_512 := tbg_m3 zk3_1.1 rfl
def wd_513 := tbg_m3 zk3_1.2.1 rfl
def wd_515 := tbg_m3 zk3_1.2.2.1 rfl
def wd_516 := tbg_m3 zk3_1.2.2.2.1 rfl
def wd_517 := tbg_m3 zk3_1.2.2.2.2.1 rfl
def wd_519 := tbg_m3 zk3_1.2.2.2.2.2.1 rfl
def wd_520 := tbg_m3 zk3_1.2.2.2.2.2.2.1 rfl
def wd_521 := tbg_m3 zk3_1.2.2.2.2.2.2.2.1 rfl
def wd_522 := tbg_m3 zk3_1.2.2.2.2.2.2.2.2.1 rfl
def wd_524 := nests_m3 zk3_1.2.2.2.2.2.2.2.2.2.1 rfl
def wd_525 := tbg_m3 zk3_1.2.2.2.2.2.2.2.2.2.2.1 rfl
def wd_526 := tbg_m3 zk3_1.2.2.2.2.2.2.2.2.2.2.2.1 rfl
def wd_527 := tbg_m3 zk3_1.2.2.2.2.2.2.2.2.2.2.2.2.1 rfl
def wd_529 := tbg_m3 zk3_1.2.2.2.2.2.2.2.2.2.2.2.2.2.1 rfl
def wd_530 := tbg_m3 zk3_1.2.2.2.2.2.2.2.2.2.2.2.2.2.2.1 rfl
def wd_532 := tbg_m3 zk3_1.2.2.2.2.2.2.2.2.2.2.2.2.2.2.2.1 rfl
def wd_533 := tbg_m3 zk3_1.2.2.2.2.2.2.2.2.2.2.2.2.2.2.2.2.1 rfl
def wd_534 := tbg_m3 zk3_1.2.2.2.2.2.2.2.2.2.2.2.2.2.2.2.2.2.1 rfl
def wd_536 := tbg_m3 zk3_1.2.2.2.2.2.2.2.2.2.2.2.2.2.2.2.2.2.2.1 rfl
def wd_537 := tbg_m3 zk3_1.2.2.2.2.2.2.2.2.2.2.2.2.2.2.2.2.2.2.2.1 rfl
def wd_538 := tbg_m3 zk3_1.2.2.2.2.2.2.2.2.2.2.2.2.2.2.2.2.2.2.2.2.1 rfl
def wd_539 := tbg_m3 zk3_1.2.2.2.2.2.2.2.2.2.2.2.2.2.2.2.2.2.2.2.2.2.1 rfl
def wd_541 := tbg_m3 zk3_1.2.2.2.2.2.2.2.2.2.2.2.2.2.2.2.2.2.2.2.2.2.2.1 rfl
def wd_542 := tbg_m3 zk3_1.2.2.2.2.2.2.2.2.2.2.2.2.2.2.2.2.2.2.2.2.2.2.2.1 rfl
def wd_543 := tbg_m3 zk3_1.2.2.2.2.2.2.2.2.2.2.2.2.2.2.2.2.2.2.2.2.2.2.2.2 rfl
theorem zk3_2 : (.selects "QuotaLaws$Realm" y_Realm_brokenByOne y_Realm_brokenByOne : Cond) ∈ tables_1_3 ∧ (.methodLink "QuotaLaws" 159 y_Realm_breakable : Cond) ∈ tables_1_3 ∧ (.instanceMethod y_Realm_breakable : Cond) ∈ tables_1_3 ∧ (.selects "QuotaLaws$Realm" y_Realm_breakable y_Realm_breakable : Cond) ∈ tables_1_3 ∧ (.methodLink "QuotaLaws$Realm" 129 y_Realm_ableAlone : Cond) ∈ tables_1_3 ∧ (.instanceMethod y_Realm_ableAlone : Cond) ∈ tables_1_3 ∧ (.selects "QuotaLaws$Realm" y_Realm_ableAlone y_Realm_ableAlone : Cond) ∈ tables_1_3 ∧ (.methodLink "QuotaLaws$Realm" 120 y_Realm_roomOf : Cond) ∈ tables_1_3 ∧ (.instanceMethod y_Realm_roomOf : Cond) ∈ tables_1_3 ∧ (.selects "QuotaLaws$Realm" y_Realm_roomOf y_Realm_roomOf : Cond) ∈ tables_1_3 ∧ (.methodLink "QuotaLaws$Realm" 123 y_Realm_timeLeft : Cond) ∈ tables_1_3 ∧ (.instanceMethod y_Realm_timeLeft : Cond) ∈ tables_1_3 ∧ (.selects "QuotaLaws$Realm" y_Realm_timeLeft y_Realm_timeLeft : Cond) ∈ tables_1_3 ∧ (.methodLink "QuotaLaws$Realm" 100 y_Realm_brokenByOne : Cond) ∈ tables_1_3 ∧ (.methodLink "QuotaLaws$Realm" 126 Lib.Math.min.name : Cond) ∈ tables_1_3 ∧ (.static Lib.Math.min.name : Cond) ∈ tables_1_3 ∧ (.methodLink "QuotaLawsLaw" 44 y_Q_broken : Cond) ∈ tables_1_3 ∧ (.instanceMethod y_Q_broken : Cond) ∈ tables_1_3 ∧ (.selects "QuotaLaws" y_Q_broken y_Q_broken : Cond) ∈ tables_1_3 ∧ (.methodLink "QuotaLaws" 162 y_Realm_hasBoth : Cond) ∈ tables_1_3 ∧ (.instanceMethod y_Realm_hasBoth : Cond) ∈ tables_1_3 ∧ (.selects "QuotaLaws$Realm" y_Realm_hasBoth y_Realm_hasBoth : Cond) ∈ tables_1_3 ∧ (.methodLink "QuotaLaws$Realm" 93 y_Realm_hasOne : Cond) ∈ tables_1_3 ∧ (.methodLink "QuotaLaws" 166 y_Realm_brokenBy : Cond) ∈ tables_1_3 := zw_s (rfl : tables_1_3.drop 64 = _) fun h => zw_g h fun h => zw_s h fun h => zw_s h fun h => zw_s h fun h => zw_g h fun h => zw_s h fun h => zw_s h fun h => zw_s h fun h => zw_g h fun h => zw_s h fun h => zw_s h fun h => zw_s h fun h => zw_g h fun h => zw_s h fun h => zw_s h fun h => zw_s h fun h => zw_g h fun h => zw_s h fun h => zw_s h fun h => zw_s h fun h => zw_g h fun h => zw_s h fun h => zw_s h fun h => zw_s h fun h => zw_g h fun h => zw_s h fun h => zw_s h fun h => zw_s h fun h => zw_g h fun h => zw_s h fun h => zw_e h
def wd_544 := tbg_m3 zk3_2.1 rfl
def wd_546 := tbg_m3 zk3_2.2.1 rfl
def wd_547 := tbg_m3 zk3_2.2.2.1 rfl
def wd_548 := tbg_m3 zk3_2.2.2.2.1 rfl
def wd_550 := tbg_m3 zk3_2.2.2.2.2.1 rfl
def wd_551 := tbg_m3 zk3_2.2.2.2.2.2.1 rfl
def wd_552 := tbg_m3 zk3_2.2.2.2.2.2.2.1 rfl
def wd_554 := tbg_m3 zk3_2.2.2.2.2.2.2.2.1 rfl
def wd_555 := tbg_m3 zk3_2.2.2.2.2.2.2.2.2.1 rfl
def wd_556 := tbg_m3 zk3_2.2.2.2.2.2.2.2.2.2.1 rfl
def wd_558 := tbg_m3 zk3_2.2.2.2.2.2.2.2.2.2.2.1 rfl
def wd_559 := tbg_m3 zk3_2.2.2.2.2.2.2.2.2.2.2.2.1 rfl
def wd_560 := tbg_m3 zk3_2.2.2.2.2.2.2.2.2.2.2.2.2.1 rfl
def wd_562 := tbg_m3 zk3_2.2.2.2.2.2.2.2.2.2.2.2.2.2.1 rfl
def wd_563 := tbg_m3 zk3_2.2.2.2.2.2.2.2.2.2.2.2.2.2.2.1 rfl
def wd_564 := tbg_m3 zk3_2.2.2.2.2.2.2.2.2.2.2.2.2.2.2.2.1 rfl
def wd_566 := tbg_m3 zk3_2.2.2.2.2.2.2.2.2.2.2.2.2.2.2.2.2.1 rfl
def wd_567 := tbg_m3 zk3_2.2.2.2.2.2.2.2.2.2.2.2.2.2.2.2.2.2.1 rfl
def wd_568 := tbg_m3 zk3_2.2.2.2.2.2.2.2.2.2.2.2.2.2.2.2.2.2.2.1 rfl
def wd_570 := tbg_m3 zk3_2.2.2.2.2.2.2.2.2.2.2.2.2.2.2.2.2.2.2.2.1 rfl
def wd_571 := tbg_m3 zk3_2.2.2.2.2.2.2.2.2.2.2.2.2.2.2.2.2.2.2.2.2.1 rfl
def wd_572 := tbg_m3 zk3_2.2.2.2.2.2.2.2.2.2.2.2.2.2.2.2.2.2.2.2.2.2.1 rfl
def wd_574 := tbg_m3 zk3_2.2.2.2.2.2.2.2.2.2.2.2.2.2.2.2.2.2.2.2.2.2.2.1 rfl
def wd_575 := tbg_m3 zk3_2.2.2.2.2.2.2.2.2.2.2.2.2.2.2.2.2.2.2.2.2.2.2.2 rfl
theorem zk3_3 : (.methodLink "QuotaLawsLaw" 48 y_Q_quota : Cond) ∈ tables_1_3 ∧ (.instanceMethod y_Q_quota : Cond) ∈ tables_1_3 ∧ (.selects "QuotaLaws" y_Q_quota y_Q_quota : Cond) ∈ tables_1_3 ∧ (.methodLink "QuotaLawsLaw" 52 y_Q_carry : Cond) ∈ tables_1_3 ∧ (.instanceMethod y_Q_carry : Cond) ∈ tables_1_3 ∧ (.selects "QuotaLaws" y_Q_carry y_Q_carry : Cond) ∈ tables_1_3 ∧ (.methodLink "QuotaLawsLaw" 56 y_Q_watch : Cond) ∈ tables_1_3 ∧ (.instanceMethod y_Q_watch : Cond) ∈ tables_1_3 ∧ (.selects "QuotaLaws" y_Q_watch y_Q_watch : Cond) ∈ tables_1_3 ∧ (.methodLink "QuotaLaws" 170 y_Q_bitOf : Cond) ∈ tables_1_3 ∧ (.static y_Q_bitOf : Cond) ∈ tables_1_3 ∧ (.methodLink "QuotaLaws" 173 y_Q_withBit : Cond) ∈ tables_1_3 ∧ (.static y_Q_withBit : Cond) ∈ tables_1_3 ∧ (.methodLink "QuotaLawsLaw" 61 y_Q_time : Cond) ∈ tables_1_3 ∧ (.instanceMethod y_Q_time : Cond) ∈ tables_1_3 ∧ (.selects "QuotaLaws" y_Q_time y_Q_time : Cond) ∈ tables_1_3 ∧ (.methodLink "QuotaLawsLaw" 65 y_Q_refuse : Cond) ∈ tables_1_3 ∧ (.instanceMethod y_Q_refuse : Cond) ∈ tables_1_3 ∧ (.selects "QuotaLaws" y_Q_refuse y_Q_refuse : Cond) ∈ tables_1_3 ∧ (.methodLink "QuotaLawsLaw" 70 y_Q_want : Cond) ∈ tables_1_3 ∧ (.instanceMethod y_Q_want : Cond) ∈ tables_1_3 ∧ (.selects "QuotaLaws" y_Q_want y_Q_want : Cond) ∈ tables_1_3 ∧ (.methodLink "QuotaLawsLaw" 74 y_Q_fund : Cond) ∈ tables_1_3 ∧ (.instanceMethod y_Q_fund : Cond) ∈ tables_1_3 := zw_s (rfl : tables_1_3.drop 96 = _) fun h => zw_s h fun h => zw_s h fun h => zw_g h fun h => zw_s h fun h => zw_s h fun h => zw_s h fun h => zw_g h fun h => zw_s h fun h => zw_s h fun h => zw_s h fun h => zw_g h fun h => zw_s h fun h => zw_s h fun h => zw_g h fun h => zw_s h fun h => zw_s h fun h => zw_g h fun h => zw_s h fun h => zw_s h fun h => zw_s h fun h => zw_g h fun h => zw_s h fun h => zw_s h fun h => zw_s h fun h => zw_g h fun h => zw_s h fun h => zw_s h fun h => zw_s h fun h => zw_g h fun h => zw_s h fun h => zw_e h
def wd_576 := tbg_m3 zk3_3.1 rfl
def wd_577 := tbg_m3 zk3_3.2.1 rfl
def wd_578 := tbg_m3 zk3_3.2.2.1 rfl
def wd_580 := tbg_m3 zk3_3.2.2.2.1 rfl
def wd_581 := tbg_m3 zk3_3.2.2.2.2.1 rfl
def wd_582 := tbg_m3 zk3_3.2.2.2.2.2.1 rfl
def wd_584 := tbg_m3 zk3_3.2.2.2.2.2.2.1 rfl
def wd_585 := tbg_m3 zk3_3.2.2.2.2.2.2.2.1 rfl
def wd_586 := tbg_m3 zk3_3.2.2.2.2.2.2.2.2.1 rfl
def wd_588 := tbg_m3 zk3_3.2.2.2.2.2.2.2.2.2.1 rfl
def wd_589 := tbg_m3 zk3_3.2.2.2.2.2.2.2.2.2.2.1 rfl
def wd_591 := tbg_m3 zk3_3.2.2.2.2.2.2.2.2.2.2.2.1 rfl
def wd_592 := tbg_m3 zk3_3.2.2.2.2.2.2.2.2.2.2.2.2.1 rfl
def wd_594 := tbg_m3 zk3_3.2.2.2.2.2.2.2.2.2.2.2.2.2.1 rfl
def wd_595 := tbg_m3 zk3_3.2.2.2.2.2.2.2.2.2.2.2.2.2.2.1 rfl
def wd_596 := tbg_m3 zk3_3.2.2.2.2.2.2.2.2.2.2.2.2.2.2.2.1 rfl
def wd_598 := tbg_m3 zk3_3.2.2.2.2.2.2.2.2.2.2.2.2.2.2.2.2.1 rfl
def wd_599 := tbg_m3 zk3_3.2.2.2.2.2.2.2.2.2.2.2.2.2.2.2.2.2.1 rfl
def wd_600 := tbg_m3 zk3_3.2.2.2.2.2.2.2.2.2.2.2.2.2.2.2.2.2.2.1 rfl
def wd_602 := tbg_m3 zk3_3.2.2.2.2.2.2.2.2.2.2.2.2.2.2.2.2.2.2.2.1 rfl
def wd_603 := tbg_m3 zk3_3.2.2.2.2.2.2.2.2.2.2.2.2.2.2.2.2.2.2.2.2.1 rfl
def wd_604 := tbg_m3 zk3_3.2.2.2.2.2.2.2.2.2.2.2.2.2.2.2.2.2.2.2.2.2.1 rfl
def wd_606 := tbg_m3 zk3_3.2.2.2.2.2.2.2.2.2.2.2.2.2.2.2.2.2.2.2.2.2.2.1 rfl
def wd_607 := tbg_m3 zk3_3.2.2.2.2.2.2.2.2.2.2.2.2.2.2.2.2.2.2.2.2.2.2.2 rfl
theorem zk3_4 : (.selects "QuotaLaws" y_Q_fund y_Q_fund : Cond) ∈ tables_1_3 ∧ (.methodLink "QuotaLawsLaw" 78 y_Q_revive : Cond) ∈ tables_1_3 ∧ (.instanceMethod y_Q_revive : Cond) ∈ tables_1_3 ∧ (.selects "QuotaLaws" y_Q_revive y_Q_revive : Cond) ∈ tables_1_3 ∧ (.methodLink "QuotaLaws" 177 y_Q_hasBit : Cond) ∈ tables_1_3 ∧ (.methodLink "QuotaLaws" 180 y_Integer_bitCount : Cond) ∈ tables_1_3 ∧ (.static y_Integer_bitCount : Cond) ∈ tables_1_3 ∧ (.constant "java/lang/Integer" 265 (1431655765) : Cond) ∈ tables_1_3 ∧ (.constant "java/lang/Integer" 266 (858993459) : Cond) ∈ tables_1_3 ∧ (.constant "java/lang/Integer" 267 (252645135) : Cond) ∈ tables_1_3 ∧ (.methodLink "QuotaLawsLaw" 82 y_Q_breaks : Cond) ∈ tables_1_3 ∧ (.instanceMethod y_Q_breaks : Cond) ∈ tables_1_3 ∧ (.selects "QuotaLaws" y_Q_breaks y_Q_breaks : Cond) ∈ tables_1_3 ∧ (.methodLink "QuotaLaws" 185 y_Realm_breakOnce : Cond) ∈ tables_1_3 ∧ (.instanceMethod y_Realm_breakOnce : Cond) ∈ tables_1_3 ∧ (.selects "QuotaLaws$Realm" y_Realm_breakOnce y_Realm_breakOnce : Cond) ∈ tables_1_3 ∧ (.methodLink "QuotaLaws$Realm" 132 y_Realm_hasBoth : Cond) ∈ tables_1_3 ∧ (.methodLink "QuotaLaws$Realm" 135 y_Realm_mark : Cond) ∈ tables_1_3 ∧ (.instanceMethod y_Realm_mark : Cond) ∈ tables_1_3 ∧ (.selects "QuotaLaws$Realm" y_Realm_mark y_Realm_mark : Cond) ∈ tables_1_3 ∧ (.methodLink "QuotaLawsLaw" 86 y_Q_year : Cond) ∈ tables_1_3 ∧ (.instanceMethod y_Q_year : Cond) ∈ tables_1_3 ∧ (.selects "QuotaLaws" y_Q_year y_Q_year : Cond) ∈ tables_1_3 ∧ (.methodLink "QuotaLaws" 188 y_Realm_endYear : Cond) ∈ tables_1_3 ∧ (.instanceMethod y_Realm_endYear : Cond) ∈ tables_1_3 := zw_s (rfl : tables_1_3.drop 128 = _) fun h => zw_g h fun h => zw_s h fun h => zw_s h fun h => zw_s h fun h => zw_g h fun h => zw_s h fun h => zw_s h fun h => zw_s h fun h => zw_g h fun h => zw_s h fun h => zw_s h fun h => zw_s h fun h => zw_s h fun h => zw_s h fun h => zw_s h fun h => zw_g h fun h => zw_s h fun h => zw_s h fun h => zw_s h fun h => zw_g h fun h => zw_s h fun h => zw_s h fun h => zw_s h fun h => zw_s h fun h => zw_g h fun h => zw_s h fun h => zw_s h fun h => zw_s h fun h => zw_g h fun h => zw_s h fun h => zw_e h
def wd_608 := tbg_m3 zk3_4.1 rfl
def wd_610 := tbg_m3 zk3_4.2.1 rfl
def wd_611 := tbg_m3 zk3_4.2.2.1 rfl
def wd_612 := tbg_m3 zk3_4.2.2.2.1 rfl
def wd_614 := tbg_m3 zk3_4.2.2.2.2.1 rfl
def wd_615 := tbg_m3 zk3_4.2.2.2.2.2.1 rfl
def wd_616 := tbg_m3 zk3_4.2.2.2.2.2.2.1 rfl
def wd_618 := tbg_m3 zk3_4.2.2.2.2.2.2.2.1 rfl
def wd_619 := tbg_m3 zk3_4.2.2.2.2.2.2.2.2.1 rfl
def wd_620 := tbg_m3 zk3_4.2.2.2.2.2.2.2.2.2.1 rfl
def wd_621 := tbg_m3 zk3_4.2.2.2.2.2.2.2.2.2.2.1 rfl
def wd_622 := tbg_m3 zk3_4.2.2.2.2.2.2.2.2.2.2.2.1 rfl
def wd_623 := tbg_m3 zk3_4.2.2.2.2.2.2.2.2.2.2.2.2.1 rfl
def wd_625 := tbg_m3 zk3_4.2.2.2.2.2.2.2.2.2.2.2.2.2.1 rfl
def wd_626 := tbg_m3 zk3_4.2.2.2.2.2.2.2.2.2.2.2.2.2.2.1 rfl
def wd_627 := tbg_m3 zk3_4.2.2.2.2.2.2.2.2.2.2.2.2.2.2.2.1 rfl
def wd_629 := tbg_m3 zk3_4.2.2.2.2.2.2.2.2.2.2.2.2.2.2.2.2.1 rfl
def wd_630 := tbg_m3 zk3_4.2.2.2.2.2.2.2.2.2.2.2.2.2.2.2.2.2.1 rfl
def wd_631 := tbg_m3 zk3_4.2.2.2.2.2.2.2.2.2.2.2.2.2.2.2.2.2.2.1 rfl
def wd_632 := tbg_m3 zk3_4.2.2.2.2.2.2.2.2.2.2.2.2.2.2.2.2.2.2.2.1 rfl
def wd_634 := tbg_m3 zk3_4.2.2.2.2.2.2.2.2.2.2.2.2.2.2.2.2.2.2.2.2.1 rfl
def wd_635 := tbg_m3 zk3_4.2.2.2.2.2.2.2.2.2.2.2.2.2.2.2.2.2.2.2.2.2.1 rfl
def wd_636 := tbg_m3 zk3_4.2.2.2.2.2.2.2.2.2.2.2.2.2.2.2.2.2.2.2.2.2.2.1 rfl
def wd_638 := tbg_m3 zk3_4.2.2.2.2.2.2.2.2.2.2.2.2.2.2.2.2.2.2.2.2.2.2.2.1 rfl
def wd_639 := tbg_m3 zk3_4.2.2.2.2.2.2.2.2.2.2.2.2.2.2.2.2.2.2.2.2.2.2.2.2 rfl
theorem zk3_5 : (.selects "QuotaLaws$Realm" y_Realm_endYear y_Realm_endYear : Cond) ∈ tables_1_3 ∧ (.methodLink "QuotaLaws$Realm" 141 y_Realm_lapsing : Cond) ∈ tables_1_3 ∧ (.instanceMethod y_Realm_lapsing : Cond) ∈ tables_1_3 ∧ (.selects "QuotaLaws$Realm" y_Realm_lapsing y_Realm_lapsing : Cond) ∈ tables_1_3 ∧ (.methodLink "QuotaLaws$Realm" 117 y_Realm_needOf : Cond) ∈ tables_1_3 ∧ (.methodLink "QuotaLaws$Realm" 138 y_Realm_chainOf : Cond) ∈ tables_1_3 ∧ (.methodLink "QuotaLawsLaw" 90 y_Q_falls : Cond) ∈ tables_1_3 ∧ (.instanceMethod y_Q_falls : Cond) ∈ tables_1_3 ∧ (.selects "QuotaLaws" y_Q_falls y_Q_falls : Cond) ∈ tables_1_3 ∧ (.methodLink "QuotaLaws" 192 y_Realm_lapsing : Cond) ∈ tables_1_3 ∧ (.methodLink "QuotaLawsLaw" 94 y_Q_most : Cond) ∈ tables_1_3 ∧ (.instanceMethod y_Q_most : Cond) ∈ tables_1_3 ∧ (.selects "QuotaLaws" y_Q_most y_Q_most : Cond) ∈ tables_1_3 ∧ (.methodLink "QuotaLawsLaw" 98 y_Q_rota : Cond) ∈ tables_1_3 ∧ (.instanceMethod y_Q_rota : Cond) ∈ tables_1_3 ∧ (.selects "QuotaLaws" y_Q_rota y_Q_rota : Cond) ∈ tables_1_3 ∧ (.methodLink "QuotaLaws" 195 y_Planner_load : Cond) ∈ tables_1_3 ∧ (.instanceMethod y_Planner_load : Cond) ∈ tables_1_3 ∧ (.selects "QuotaLaws$Planner" y_Planner_load y_Planner_load : Cond) ∈ tables_1_3 ∧ (.methodLink "QuotaLaws$Planner" 40 y_Arrays_fillI : Cond) ∈ tables_1_3 ∧ (.methodLink "QuotaLaws$Planner" 46 y_Realm_hasOne : Cond) ∈ tables_1_3 ∧ (.methodLink "QuotaLaws$Planner" 50 y_Realm_timeLeft : Cond) ∈ tables_1_3 ∧ (.methodLink "QuotaLaws$Planner" 54 y_Realm_needOf : Cond) ∈ tables_1_3 ∧ (.methodLink "QuotaLaws$Planner" 60 y_Realm_roomOf : Cond) ∈ tables_1_3 ∧ (.methodLink "QuotaLaws" 198 y_Planner_leastHarm : Cond) ∈ tables_1_3 ∧ (.instanceMethod y_Planner_leastHarm : Cond) ∈ tables_1_3 := zw_s (rfl : tables_1_3.drop 160 = _) fun h => zw_g h fun h => zw_s h fun h => zw_s h fun h => zw_s h fun h => zw_g h fun h => zw_s h fun h => zw_s h fun h => zw_s h fun h => zw_s h fun h => zw_s h fun h => zw_g h fun h => zw_s h fun h => zw_s h fun h => zw_s h fun h => zw_s h fun h => zw_g h fun h => zw_s h fun h => zw_s h fun h => zw_s h fun h => zw_g h fun h => zw_s h fun h => zw_s h fun h => zw_s h fun h => zw_g h fun h => zw_s h fun h => zw_s h fun h => zw_s h fun h => zw_s h fun h => zw_s h fun h => zw_s h fun h => zw_e h
def wd_640 := tbg_m3 zk3_5.1 rfl
def wd_642 := tbg_m3 zk3_5.2.1 rfl
def wd_643 := tbg_m3 zk3_5.2.2.1 rfl
def wd_644 := tbg_m3 zk3_5.2.2.2.1 rfl
def wd_646 := tbg_m3 zk3_5.2.2.2.2.1 rfl
def wd_647 := tbg_m3 zk3_5.2.2.2.2.2.1 rfl
def wd_648 := tbg_m3 zk3_5.2.2.2.2.2.2.1 rfl
def wd_649 := tbg_m3 zk3_5.2.2.2.2.2.2.2.1 rfl
def wd_650 := tbg_m3 zk3_5.2.2.2.2.2.2.2.2.1 rfl
def wd_652 := tbg_m3 zk3_5.2.2.2.2.2.2.2.2.2.1 rfl
def wd_653 := tbg_m3 zk3_5.2.2.2.2.2.2.2.2.2.2.1 rfl
def wd_654 := tbg_m3 zk3_5.2.2.2.2.2.2.2.2.2.2.2.1 rfl
def wd_655 := tbg_m3 zk3_5.2.2.2.2.2.2.2.2.2.2.2.2.1 rfl
def wd_657 := tbg_m3 zk3_5.2.2.2.2.2.2.2.2.2.2.2.2.2.1 rfl
def wd_658 := tbg_m3 zk3_5.2.2.2.2.2.2.2.2.2.2.2.2.2.2.1 rfl
def wd_659 := tbg_m3 zk3_5.2.2.2.2.2.2.2.2.2.2.2.2.2.2.2.1 rfl
def wd_661 := tbg_m3 zk3_5.2.2.2.2.2.2.2.2.2.2.2.2.2.2.2.2.1 rfl
def wd_662 := tbg_m3 zk3_5.2.2.2.2.2.2.2.2.2.2.2.2.2.2.2.2.2.1 rfl
def wd_663 := tbg_m3 zk3_5.2.2.2.2.2.2.2.2.2.2.2.2.2.2.2.2.2.2.1 rfl
def wd_665 := tbg_m3 zk3_5.2.2.2.2.2.2.2.2.2.2.2.2.2.2.2.2.2.2.2.1 rfl
def wd_666 := tbg_m3 zk3_5.2.2.2.2.2.2.2.2.2.2.2.2.2.2.2.2.2.2.2.2.1 rfl
def wd_667 := tbg_m3 zk3_5.2.2.2.2.2.2.2.2.2.2.2.2.2.2.2.2.2.2.2.2.2.1 rfl
def wd_668 := tbg_m3 zk3_5.2.2.2.2.2.2.2.2.2.2.2.2.2.2.2.2.2.2.2.2.2.2.1 rfl
def wd_669 := tbg_m3 zk3_5.2.2.2.2.2.2.2.2.2.2.2.2.2.2.2.2.2.2.2.2.2.2.2.1 rfl
def wd_670 := tbg_m3 zk3_5.2.2.2.2.2.2.2.2.2.2.2.2.2.2.2.2.2.2.2.2.2.2.2.2.1 rfl
def wd_671 := tbg_m3 zk3_5.2.2.2.2.2.2.2.2.2.2.2.2.2.2.2.2.2.2.2.2.2.2.2.2.2 rfl
theorem zk3_6 : (.selects "QuotaLaws$Planner" y_Planner_leastHarm y_Planner_leastHarm : Cond) ∈ tables_1_3 ∧ (.constant "QuotaLaws$Planner" 89 (1000000) : Cond) ∈ tables_1_3 ∧ (.methodLink "QuotaLaws$Planner" 90 y_Planner_leftToLast : Cond) ∈ tables_1_3 ∧ (.instanceMethod y_Planner_leftToLast : Cond) ∈ tables_1_3 ∧ (.methodLink "QuotaLaws$Planner" 94 y_Planner_stateOf : Cond) ∈ tables_1_3 ∧ (.static y_Planner_stateOf : Cond) ∈ tables_1_3 ∧ (.methodLink "QuotaLaws$Planner" 97 y_Planner_search : Cond) ∈ tables_1_3 ∧ (.instanceMethod y_Planner_search : Cond) ∈ tables_1_3 ∧ (.methodLink "QuotaLaws$Planner" 86 Lib.Math.min.name : Cond) ∈ tables_1_3 ∧ (.methodLinkNest "QuotaLaws$Planner" 100 y_Q_isWithin "QuotaLaws" : Cond) ∈ tables_1_3 ∧ (.methodLink "QuotaLaws" 201 y_Planner_timesInFirst : Cond) ∈ tables_1_3 ∧ (.instanceMethod y_Planner_timesInFirst : Cond) ∈ tables_1_3 ∧ (.selects "QuotaLaws$Planner" y_Planner_timesInFirst y_Planner_timesInFirst : Cond) ∈ tables_1_3 ∧ (.methodLink "QuotaLawsLaw" 102 y_Q_more : Cond) ∈ tables_1_3 ∧ (.instanceMethod y_Q_more : Cond) ∈ tables_1_3 ∧ (.selects "QuotaLaws" y_Q_more y_Q_more : Cond) ∈ tables_1_3 ∧ (.methodLink "QuotaLaws" 204 y_Planner_grant : Cond) ∈ tables_1_3 ∧ (.instanceMethod y_Planner_grant : Cond) ∈ tables_1_3 ∧ (.selects "QuotaLaws$Planner" y_Planner_grant y_Planner_grant : Cond) ∈ tables_1_3 ∧ (.methodLink "QuotaLaws$Planner" 68 Lib.Math.max.name : Cond) ∈ tables_1_3 ∧ (.methodLink "QuotaLaws" 208 y_Planner_canMeet : Cond) ∈ tables_1_3 ∧ (.instanceMethod y_Planner_canMeet : Cond) ∈ tables_1_3 ∧ (.selects "QuotaLaws$Planner" y_Planner_canMeet y_Planner_canMeet : Cond) ∈ tables_1_3 := zw_s (rfl : tables_1_3.drop 192 = _) fun h => zw_g h fun h => zw_s h fun h => zw_s h fun h => zw_g h fun h => zw_s h fun h => zw_g h fun h => zw_s h fun h => zw_s h fun h => zw_g h fun h => zw_s h fun h => zw_g h fun h => zw_s h fun h => zw_g h fun h => zw_s h fun h => zw_s h fun h => zw_s h fun h => zw_s h fun h => zw_s h fun h => zw_g h fun h => zw_s h fun h => zw_s h fun h => zw_s h fun h => zw_g h fun h => zw_s h fun h => zw_s h fun h => zw_s h fun h => zw_g h fun h => zw_s h fun h => zw_s h fun h => zw_s h fun h => zw_e h
def wd_672 := tbg_m3 zk3_6.1 rfl
def wd_674 := tbg_m3 zk3_6.2.1 rfl
def wd_675 := tbg_m3 zk3_6.2.2.1 rfl
def wd_677 := tbg_m3 zk3_6.2.2.2.1 rfl
def wd_679 := tbg_m3 zk3_6.2.2.2.2.1 rfl
def wd_680 := tbg_m3 zk3_6.2.2.2.2.2.1 rfl
def wd_682 := tbg_m3 zk3_6.2.2.2.2.2.2.1 rfl
def wd_684 := tbg_m3 zk3_6.2.2.2.2.2.2.2.1 rfl
def wd_686 := tbg_m3 zk3_6.2.2.2.2.2.2.2.2.1 rfl
def wd_687 := nests_m3 zk3_6.2.2.2.2.2.2.2.2.2.1 rfl
def wd_688 := tbg_m3 zk3_6.2.2.2.2.2.2.2.2.2.2.1 rfl
def wd_689 := tbg_m3 zk3_6.2.2.2.2.2.2.2.2.2.2.2.1 rfl
def wd_690 := tbg_m3 zk3_6.2.2.2.2.2.2.2.2.2.2.2.2.1 rfl
def wd_692 := tbg_m3 zk3_6.2.2.2.2.2.2.2.2.2.2.2.2.2.1 rfl
def wd_693 := tbg_m3 zk3_6.2.2.2.2.2.2.2.2.2.2.2.2.2.2.1 rfl
def wd_694 := tbg_m3 zk3_6.2.2.2.2.2.2.2.2.2.2.2.2.2.2.2.1 rfl
def wd_696 := tbg_m3 zk3_6.2.2.2.2.2.2.2.2.2.2.2.2.2.2.2.2.1 rfl
def wd_697 := tbg_m3 zk3_6.2.2.2.2.2.2.2.2.2.2.2.2.2.2.2.2.2.1 rfl
def wd_698 := tbg_m3 zk3_6.2.2.2.2.2.2.2.2.2.2.2.2.2.2.2.2.2.2.1 rfl
def wd_700 := tbg_m3 zk3_6.2.2.2.2.2.2.2.2.2.2.2.2.2.2.2.2.2.2.2.1 rfl
def wd_701 := tbg_m3 zk3_6.2.2.2.2.2.2.2.2.2.2.2.2.2.2.2.2.2.2.2.2.1 rfl
def wd_702 := tbg_m3 zk3_6.2.2.2.2.2.2.2.2.2.2.2.2.2.2.2.2.2.2.2.2.2.1 rfl
def wd_703 := tbg_m3 zk3_6.2.2.2.2.2.2.2.2.2.2.2.2.2.2.2.2.2.2.2.2.2.2 rfl
theorem zk3_7 : (.methodLinkNest "QuotaLaws$Planner" 73 y_Q_isPart "QuotaLaws" : Cond) ∈ tables_1_3 ∧ (.methodLink "QuotaLaws$Planner" 77 y_Planner_needOfAll : Cond) ∈ tables_1_3 ∧ (.instanceMethod y_Planner_needOfAll : Cond) ∈ tables_1_3 ∧ (.methodLinkNest "QuotaLaws$Planner" 83 y_Q_hasBit "QuotaLaws" : Cond) ∈ tables_1_3 ∧ (.methodLink "QuotaLaws$Planner" 80 y_Planner_givenTo : Cond) ∈ tables_1_3 ∧ (.instanceMethod y_Planner_givenTo : Cond) ∈ tables_1_3 ∧ (.methodLink "QuotaLawsLaw" 106 y_Q_together : Cond) ∈ tables_1_3 ∧ (.instanceMethod y_Q_together : Cond) ∈ tables_1_3 ∧ (.selects "QuotaLaws" y_Q_together y_Q_together : Cond) ∈ tables_1_3 ∧ (.methodLink "QuotaLaws" 211 y_Q_isPart : Cond) ∈ tables_1_3 := zw_s (rfl : tables_1_3.drop 225 = _) fun h => zw_s h fun h => zw_g h fun h => zw_s h fun h => zw_g h fun h => zw_s h fun h => zw_s h fun h => zw_g h fun h => zw_s h fun h => zw_g h fun h => zw_s h fun h => zw_s h fun h => zw_s h fun h => zw_g h fun h => zw_e h
def wd_705 := nests_m3 zk3_7.1 rfl
def wd_706 := tbg_m3 zk3_7.2.1 rfl
def wd_708 := tbg_m3 zk3_7.2.2.1 rfl
def wd_710 := nests_m3 zk3_7.2.2.2.1 rfl
def wd_711 := tbg_m3 zk3_7.2.2.2.2.1 rfl
def wd_713 := tbg_m3 zk3_7.2.2.2.2.2.1 rfl
def wd_715 := tbg_m3 zk3_7.2.2.2.2.2.2.1 rfl
def wd_716 := tbg_m3 zk3_7.2.2.2.2.2.2.2.1 rfl
def wd_717 := tbg_m3 zk3_7.2.2.2.2.2.2.2.2.1 rfl
def wd_719 := tbg_m3 zk3_7.2.2.2.2.2.2.2.2.2 rfl
theorem zk4_0 : (.methodLink "QuotaLawsLaw" 110 y_Q_kill : Cond) ∈ tables_1_4 ∧ (.instanceMethod y_Q_kill : Cond) ∈ tables_1_4 ∧ (.selects "QuotaLaws" y_Q_kill y_Q_kill : Cond) ∈ tables_1_4 ∧ (.methodLink "QuotaLaws" 214 y_Realm_ableWithout : Cond) ∈ tables_1_4 ∧ (.instanceMethod y_Realm_ableWithout : Cond) ∈ tables_1_4 ∧ (.selects "QuotaLaws$Realm" y_Realm_ableWithout y_Realm_ableWithout : Cond) ∈ tables_1_4 ∧ (.methodLink "QuotaLawsLaw" 114 y_Q_selfish : Cond) ∈ tables_1_4 ∧ (.instanceMethod y_Q_selfish : Cond) ∈ tables_1_4 ∧ (.selects "QuotaLaws" y_Q_selfish y_Q_selfish : Cond) ∈ tables_1_4 ∧ (.methodLink "QuotaLaws" 217 y_Realm_eachForHimself : Cond) ∈ tables_1_4 ∧ (.instanceMethod y_Realm_eachForHimself : Cond) ∈ tables_1_4 ∧ (.selects "QuotaLaws$Realm" y_Realm_eachForHimself y_Realm_eachForHimself : Cond) ∈ tables_1_4 ∧ (.methodLink "QuotaLaws$Realm" 145 y_Realm_mostNeeded : Cond) ∈ tables_1_4 ∧ (.instanceMethod y_Realm_mostNeeded : Cond) ∈ tables_1_4 ∧ (.selects "QuotaLaws$Realm" y_Realm_mostNeeded y_Realm_mostNeeded : Cond) ∈ tables_1_4 ∧ (.methodLink "QuotaLaws$Realm" 148 y_Realm_breakable : Cond) ∈ tables_1_4 ∧ (.methodLink "QuotaLaws" 220 y_Realm_met : Cond) ∈ tables_1_4 ∧ (.instanceMethod y_Realm_met : Cond) ∈ tables_1_4 ∧ (.selects "QuotaLaws$Realm" y_Realm_met y_Realm_met : Cond) ∈ tables_1_4 ∧ (.methodLink "QuotaLawsLaw" 118 y_Q_luck : Cond) ∈ tables_1_4 ∧ (.instanceMethod y_Q_luck : Cond) ∈ tables_1_4 ∧ (.selects "QuotaLaws" y_Q_luck y_Q_luck : Cond) ∈ tables_1_4 ∧ (.constantLong "QuotaLaws" 223 (-1) : Cond) ∈ tables_1_4 ∧ (.methodLink "QuotaLaws" 225 y_Odds_weigh : Cond) ∈ tables_1_4 ∧ (.instanceMethod y_Odds_weigh : Cond) ∈ tables_1_4 := zw_s (rfl : tables_1_4.drop 0 = _) fun h => zw_s h fun h => zw_s h fun h => zw_g h fun h => zw_s h fun h => zw_s h fun h => zw_s h fun h => zw_g h fun h => zw_s h fun h => zw_s h fun h => zw_s h fun h => zw_g h fun h => zw_s h fun h => zw_s h fun h => zw_s h fun h => zw_g h fun h => zw_s h fun h => zw_s h fun h => zw_s h fun h => zw_g h fun h => zw_s h fun h => zw_s h fun h => zw_s h fun h => zw_s h fun h => zw_g h fun h => zw_s h fun h => zw_s h fun h => zw_s h fun h => zw_g h fun h => zw_s h fun h => zw_s h fun h => zw_e h
def wd_720 := tbg_m4 zk4_0.1 rfl
def wd_721 := tbg_m4 zk4_0.2.1 rfl
def wd_722 := tbg_m4 zk4_0.2.2.1 rfl
def wd_724 := tbg_m4 zk4_0.2.2.2.1 rfl
def wd_725 := tbg_m4 zk4_0.2.2.2.2.1 rfl
def wd_726 := tbg_m4 zk4_0.2.2.2.2.2.1 rfl
def wd_728 := tbg_m4 zk4_0.2.2.2.2.2.2.1 rfl
def wd_729 := tbg_m4 zk4_0.2.2.2.2.2.2.2.1 rfl
def wd_730 := tbg_m4 zk4_0.2.2.2.2.2.2.2.2.1 rfl
def wd_732 := tbg_m4 zk4_0.2.2.2.2.2.2.2.2.2.1 rfl
def wd_733 := tbg_m4 zk4_0.2.2.2.2.2.2.2.2.2.2.1 rfl
def wd_734 := tbg_m4 zk4_0.2.2.2.2.2.2.2.2.2.2.2.1 rfl
def wd_736 := tbg_m4 zk4_0.2.2.2.2.2.2.2.2.2.2.2.2.1 rfl
def wd_737 := tbg_m4 zk4_0.2.2.2.2.2.2.2.2.2.2.2.2.2.1 rfl
def wd_738 := tbg_m4 zk4_0.2.2.2.2.2.2.2.2.2.2.2.2.2.2.1 rfl
def wd_740 := tbg_m4 zk4_0.2.2.2.2.2.2.2.2.2.2.2.2.2.2.2.1 rfl
def wd_741 := tbg_m4 zk4_0.2.2.2.2.2.2.2.2.2.2.2.2.2.2.2.2.1 rfl
def wd_742 := tbg_m4 zk4_0.2.2.2.2.2.2.2.2.2.2.2.2.2.2.2.2.2.1 rfl
def wd_743 := tbg_m4 zk4_0.2.2.2.2.2.2.2.2.2.2.2.2.2.2.2.2.2.2.1 rfl
def wd_745 := tbg_m4 zk4_0.2.2.2.2.2.2.2.2.2.2.2.2.2.2.2.2.2.2.2.1 rfl
def wd_746 := tbg_m4 zk4_0.2.2.2.2.2.2.2.2.2.2.2.2.2.2.2.2.2.2.2.2.1 rfl
def wd_747 := tbg_m4 zk4_0.2.2.2.2.2.2.2.2.2.2.2.2.2.2.2.2.2.2.2.2.2.1 rfl
def wd_749 := tbg_m4 zk4_0.2.2.2.2.2.2.2.2.2.2.2.2.2.2.2.2.2.2.2.2.2.2.1 rfl
def wd_750 := tbg_m4 zk4_0.2.2.2.2.2.2.2.2.2.2.2.2.2.2.2.2.2.2.2.2.2.2.2.1 rfl
def wd_751 := tbg_m4 zk4_0.2.2.2.2.2.2.2.2.2.2.2.2.2.2.2.2.2.2.2.2.2.2.2.2 rfl
theorem zk4_1 : (.selects "QuotaLaws$Odds" y_Odds_weigh y_Odds_weigh : Cond) ∈ tables_1_4 ∧ (.methodLink "QuotaLaws$Odds" 15 y_Arrays_fillJ : Cond) ∈ tables_1_4 ∧ (.static y_Arrays_fillJ : Cond) ∈ tables_1_4 ∧ (.methodLink "QuotaLaws$Odds" 31 y_Realm_ableAlone : Cond) ∈ tables_1_4 ∧ (.methodLink "QuotaLaws$Odds" 39 y_Odds_addTry : Cond) ∈ tables_1_4 ∧ (.instanceMethod y_Odds_addTry : Cond) ∈ tables_1_4 ∧ (.constantLong "QuotaLaws$Odds" 53 (10) : Cond) ∈ tables_1_4 ∧ (.methodLink "QuotaLaws$Odds" 46 y_Realm_needOf : Cond) ∈ tables_1_4 ∧ (.methodLink "QuotaLaws$Odds" 50 y_Odds_reduce : Cond) ∈ tables_1_4 ∧ (.instanceMethod y_Odds_reduce : Cond) ∈ tables_1_4 ∧ (.methodLink "QuotaLawsLaw" 123 y_Q_see : Cond) ∈ tables_1_4 ∧ (.instanceMethod y_Q_see : Cond) ∈ tables_1_4 ∧ (.selects "QuotaLaws" y_Q_see y_Q_see : Cond) ∈ tables_1_4 ∧ (.methodLink "QuotaLaws" 240 y_Sightings_append : Cond) ∈ tables_1_4 ∧ (.instanceMethod y_Sightings_append : Cond) ∈ tables_1_4 ∧ (.selects "QuotaLaws$Sightings" y_Sightings_append y_Sightings_append : Cond) ∈ tables_1_4 ∧ (.methodLink "QuotaLawsLaw" 128 y_Q_forget : Cond) ∈ tables_1_4 ∧ (.instanceMethod y_Q_forget : Cond) ∈ tables_1_4 ∧ (.selects "QuotaLaws" y_Q_forget y_Q_forget : Cond) ∈ tables_1_4 ∧ (.methodLink "QuotaLawsLaw" 132 y_Q_books : Cond) ∈ tables_1_4 ∧ (.instanceMethod y_Q_books : Cond) ∈ tables_1_4 ∧ (.selects "QuotaLaws" y_Q_books y_Q_books : Cond) ∈ tables_1_4 := zw_s (rfl : tables_1_4.drop 32 = _) fun h => zw_g h fun h => zw_s h fun h => zw_s h fun h => zw_g h fun h => zw_s h fun h => zw_s h fun h => zw_g h fun h => zw_s h fun h => zw_g h fun h => zw_s h fun h => zw_s h fun h => zw_s h fun h => zw_g h fun h => zw_s h fun h => zw_g h fun h => zw_s h fun h => zw_s h fun h => zw_s h fun h => zw_g h fun h => zw_s h fun h => zw_s h fun h => zw_s h fun h => zw_g h fun h => zw_s h fun h => zw_s h fun h => zw_s h fun h => zw_g h fun h => zw_s h fun h => zw_s h fun h => zw_e h
def wd_752 := tbg_m4 zk4_1.1 rfl
def wd_754 := tbg_m4 zk4_1.2.1 rfl
def wd_755 := tbg_m4 zk4_1.2.2.1 rfl
def wd_757 := tbg_m4 zk4_1.2.2.2.1 rfl
def wd_758 := tbg_m4 zk4_1.2.2.2.2.1 rfl
def wd_760 := tbg_m4 zk4_1.2.2.2.2.2.1 rfl
def wd_762 := tbg_m4 zk4_1.2.2.2.2.2.2.1 rfl
def wd_763 := tbg_m4 zk4_1.2.2.2.2.2.2.2.1 rfl
def wd_764 := tbg_m4 zk4_1.2.2.2.2.2.2.2.2.1 rfl
def wd_766 := tbg_m4 zk4_1.2.2.2.2.2.2.2.2.2.1 rfl
def wd_768 := tbg_m4 zk4_1.2.2.2.2.2.2.2.2.2.2.1 rfl
def wd_769 := tbg_m4 zk4_1.2.2.2.2.2.2.2.2.2.2.2.1 rfl
def wd_770 := tbg_m4 zk4_1.2.2.2.2.2.2.2.2.2.2.2.2.1 rfl
def wd_772 := tbg_m4 zk4_1.2.2.2.2.2.2.2.2.2.2.2.2.2.1 rfl
def wd_773 := tbg_m4 zk4_1.2.2.2.2.2.2.2.2.2.2.2.2.2.2.1 rfl
def wd_774 := tbg_m4 zk4_1.2.2.2.2.2.2.2.2.2.2.2.2.2.2.2.1 rfl
def wd_776 := tbg_m4 zk4_1.2.2.2.2.2.2.2.2.2.2.2.2.2.2.2.2.1 rfl
def wd_777 := tbg_m4 zk4_1.2.2.2.2.2.2.2.2.2.2.2.2.2.2.2.2.2.1 rfl
def wd_778 := tbg_m4 zk4_1.2.2.2.2.2.2.2.2.2.2.2.2.2.2.2.2.2.2.1 rfl
def wd_780 := tbg_m4 zk4_1.2.2.2.2.2.2.2.2.2.2.2.2.2.2.2.2.2.2.2.1 rfl
def wd_781 := tbg_m4 zk4_1.2.2.2.2.2.2.2.2.2.2.2.2.2.2.2.2.2.2.2.2.1 rfl
def wd_782 := tbg_m4 zk4_1.2.2.2.2.2.2.2.2.2.2.2.2.2.2.2.2.2.2.2.2.2 rfl
theorem zk4_2 : (.methodLink "QuotaLaws" 247 y_Tables_load : Cond) ∈ tables_1_4 ∧ (.instanceMethod y_Tables_load : Cond) ∈ tables_1_4 ∧ (.selects "QuotaLaws$Tables" y_Tables_load y_Tables_load : Cond) ∈ tables_1_4 ∧ (.methodLink "QuotaLaws$Tables" 41 y_Arrays_fillI : Cond) ∈ tables_1_4 ∧ (.methodLink "QuotaLaws$Tables" 53 y_Sightings_sumDue : Cond) ∈ tables_1_4 ∧ (.instanceMethod y_Sightings_sumDue : Cond) ∈ tables_1_4 ∧ (.selects "QuotaLaws$Sightings" y_Sightings_sumDue y_Sightings_sumDue : Cond) ∈ tables_1_4 ∧ (.methodLink "QuotaLaws$Tables" 57 y_Realm_hasOne : Cond) ∈ tables_1_4 ∧ (.methodLinkNest "QuotaLaws$Tables" 65 y_Q_hasBit "QuotaLaws" : Cond) ∈ tables_1_4 ∧ (.methodLink "QuotaLaws" 248 y_Tables_fitting : Cond) ∈ tables_1_4 ∧ (.instanceMethod y_Tables_fitting : Cond) ∈ tables_1_4 ∧ (.selects "QuotaLaws$Tables" y_Tables_fitting y_Tables_fitting : Cond) ∈ tables_1_4 ∧ (.methodLink "QuotaLaws$Tables" 76 y_Arrays_fillJ : Cond) ∈ tables_1_4 ∧ (.methodLink "QuotaLaws$Tables" 79 y_Tables_spendAlone : Cond) ∈ tables_1_4 ∧ (.instanceMethod y_Tables_spendAlone : Cond) ∈ tables_1_4 ∧ (.methodLink "QuotaLaws$Tables" 83 y_Tables_joinAll : Cond) ∈ tables_1_4 ∧ (.instanceMethod y_Tables_joinAll : Cond) ∈ tables_1_4 ∧ (.methodLink "QuotaLaws$Tables" 93 y_Tables_stateOf : Cond) ∈ tables_1_4 ∧ (.static y_Tables_stateOf : Cond) ∈ tables_1_4 ∧ (.methodLink "QuotaLaws$Tables" 86 y_Tables_spendTogether : Cond) ∈ tables_1_4 ∧ (.instanceMethod y_Tables_spendTogether : Cond) ∈ tables_1_4 ∧ (.methodLink "QuotaLaws$Tables" 97 y_Tables_waysTo : Cond) ∈ tables_1_4 := zw_s (rfl : tables_1_4.drop 64 = _) fun h => zw_s h fun h => zw_s h fun h => zw_g h fun h => zw_s h fun h => zw_s h fun h => zw_s h fun h => zw_s h fun h => zw_g h fun h => zw_s h fun h => zw_s h fun h => zw_s h fun h => zw_s h fun h => zw_s h fun h => zw_g h fun h => zw_s h fun h => zw_s h fun h => zw_g h fun h => zw_s h fun h => zw_g h fun h => zw_s h fun h => zw_g h fun h => zw_s h fun h => zw_g h fun h => zw_s h fun h => zw_s h fun h => zw_g h fun h => zw_s h fun h => zw_g h fun h => zw_s h fun h => zw_g h fun h => zw_e h
def wd_784 := tbg_m4 zk4_2.1 rfl
def wd_785 := tbg_m4 zk4_2.2.1 rfl
def wd_786 := tbg_m4 zk4_2.2.2.1 rfl
def wd_788 := tbg_m4 zk4_2.2.2.2.1 rfl
def wd_789 := tbg_m4 zk4_2.2.2.2.2.1 rfl
def wd_790 := tbg_m4 zk4_2.2.2.2.2.2.1 rfl
def wd_791 := tbg_m4 zk4_2.2.2.2.2.2.2.1 rfl
def wd_793 := tbg_m4 zk4_2.2.2.2.2.2.2.2.1 rfl
def wd_794 := nests_m4 zk4_2.2.2.2.2.2.2.2.2.1 rfl
def wd_795 := tbg_m4 zk4_2.2.2.2.2.2.2.2.2.2.1 rfl
def wd_796 := tbg_m4 zk4_2.2.2.2.2.2.2.2.2.2.2.1 rfl
def wd_797 := tbg_m4 zk4_2.2.2.2.2.2.2.2.2.2.2.2.1 rfl
def wd_799 := tbg_m4 zk4_2.2.2.2.2.2.2.2.2.2.2.2.2.1 rfl
def wd_800 := tbg_m4 zk4_2.2.2.2.2.2.2.2.2.2.2.2.2.2.1 rfl
def wd_802 := tbg_m4 zk4_2.2.2.2.2.2.2.2.2.2.2.2.2.2.2.1 rfl
def wd_804 := tbg_m4 zk4_2.2.2.2.2.2.2.2.2.2.2.2.2.2.2.2.1 rfl
def wd_806 := tbg_m4 zk4_2.2.2.2.2.2.2.2.2.2.2.2.2.2.2.2.2.1 rfl
def wd_808 := tbg_m4 zk4_2.2.2.2.2.2.2.2.2.2.2.2.2.2.2.2.2.2.1 rfl
def wd_809 := tbg_m4 zk4_2.2.2.2.2.2.2.2.2.2.2.2.2.2.2.2.2.2.2.1 rfl
def wd_811 := tbg_m4 zk4_2.2.2.2.2.2.2.2.2.2.2.2.2.2.2.2.2.2.2.2.1 rfl
def wd_813 := tbg_m4 zk4_2.2.2.2.2.2.2.2.2.2.2.2.2.2.2.2.2.2.2.2.2.1 rfl
def wd_815 := tbg_m4 zk4_2.2.2.2.2.2.2.2.2.2.2.2.2.2.2.2.2.2.2.2.2.2 rfl
theorem zk4_3 : (.instanceMethod y_Tables_waysTo : Cond) ∈ tables_1_4 ∧ (.methodLink "QuotaLaws$Tables" 101 Lib.Math.min.name : Cond) ∈ tables_1_4 ∧ (.methodLinkNest "QuotaLaws$Tables" 106 y_Q_isWithin "QuotaLaws" : Cond) ∈ tables_1_4 ∧ (.methodLink "QuotaLaws$Tables" 90 y_Tables_sumOfDue : Cond) ∈ tables_1_4 ∧ (.instanceMethod y_Tables_sumOfDue : Cond) ∈ tables_1_4 ∧ (.methodLink "QuotaLaws$Tables" 110 y_Tables_isDueOf : Cond) ∈ tables_1_4 ∧ (.instanceMethod y_Tables_isDueOf : Cond) ∈ tables_1_4 ∧ (.methodLink "QuotaLawsLaw" 137 y_Q_entry : Cond) ∈ tables_1_4 ∧ (.instanceMethod y_Q_entry : Cond) ∈ tables_1_4 ∧ (.selects "QuotaLaws" y_Q_entry y_Q_entry : Cond) ∈ tables_1_4 ∧ (.methodLink "QuotaLaws" 252 y_Tables_firstThatFits : Cond) ∈ tables_1_4 ∧ (.instanceMethod y_Tables_firstThatFits : Cond) ∈ tables_1_4 ∧ (.selects "QuotaLaws$Tables" y_Tables_firstThatFits y_Tables_firstThatFits : Cond) ∈ tables_1_4 ∧ (.methodLink "QuotaLaws$Tables" 72 y_Tables_fitting : Cond) ∈ tables_1_4 ∧ (.methodLink "QuotaLawsLaw" 141 y_Q_wild : Cond) ∈ tables_1_4 ∧ (.instanceMethod y_Q_wild : Cond) ∈ tables_1_4 ∧ (.selects "QuotaLaws" y_Q_wild y_Q_wild : Cond) ∈ tables_1_4 ∧ (.methodLink "QuotaLaws" 255 y_Realm_breakBySeed : Cond) ∈ tables_1_4 ∧ (.instanceMethod y_Realm_breakBySeed : Cond) ∈ tables_1_4 ∧ (.selects "QuotaLaws$Realm" y_Realm_breakBySeed y_Realm_breakBySeed : Cond) ∈ tables_1_4 ∧ (.methodLink "QuotaLaws$Realm" 151 y_Realm_nextSeed : Cond) ∈ tables_1_4 ∧ (.static y_Realm_nextSeed : Cond) ∈ tables_1_4 := zw_s (rfl : tables_1_4.drop 97 = _) fun h => zw_g h fun h => zw_s h fun h => zw_s h fun h => zw_s h fun h => zw_g h fun h => zw_s h fun h => zw_g h fun h => zw_s h fun h => zw_g h fun h => zw_s h fun h => zw_g h fun h => zw_s h fun h => zw_s h fun h => zw_s h fun h => zw_g h fun h => zw_s h fun h => zw_s h fun h => zw_s h fun h => zw_g h fun h => zw_s h fun h => zw_s h fun h => zw_s h fun h => zw_s h fun h => zw_g h fun h => zw_s h fun h => zw_s h fun h => zw_s h fun h => zw_g h fun h => zw_s h fun h => zw_e h
def wd_817 := tbg_m4 zk4_3.1 rfl
def wd_819 := tbg_m4 zk4_3.2.1 rfl
def wd_820 := nests_m4 zk4_3.2.2.1 rfl
def wd_821 := tbg_m4 zk4_3.2.2.2.1 rfl
def wd_823 := tbg_m4 zk4_3.2.2.2.2.1 rfl
def wd_825 := tbg_m4 zk4_3.2.2.2.2.2.1 rfl
def wd_827 := tbg_m4 zk4_3.2.2.2.2.2.2.1 rfl
def wd_829 := tbg_m4 zk4_3.2.2.2.2.2.2.2.1 rfl
def wd_830 := tbg_m4 zk4_3.2.2.2.2.2.2.2.2.1 rfl
def wd_831 := tbg_m4 zk4_3.2.2.2.2.2.2.2.2.2.1 rfl
def wd_833 := tbg_m4 zk4_3.2.2.2.2.2.2.2.2.2.2.1 rfl
def wd_834 := tbg_m4 zk4_3.2.2.2.2.2.2.2.2.2.2.2.1 rfl
def wd_835 := tbg_m4 zk4_3.2.2.2.2.2.2.2.2.2.2.2.2.1 rfl
def wd_837 := tbg_m4 zk4_3.2.2.2.2.2.2.2.2.2.2.2.2.2.1 rfl
def wd_838 := tbg_m4 zk4_3.2.2.2.2.2.2.2.2.2.2.2.2.2.2.1 rfl
def wd_839 := tbg_m4 zk4_3.2.2.2.2.2.2.2.2.2.2.2.2.2.2.2.1 rfl
def wd_840 := tbg_m4 zk4_3.2.2.2.2.2.2.2.2.2.2.2.2.2.2.2.2.1 rfl
def wd_842 := tbg_m4 zk4_3.2.2.2.2.2.2.2.2.2.2.2.2.2.2.2.2.2.1 rfl
def wd_843 := tbg_m4 zk4_3.2.2.2.2.2.2.2.2.2.2.2.2.2.2.2.2.2.2.1 rfl
def wd_844 := tbg_m4 zk4_3.2.2.2.2.2.2.2.2.2.2.2.2.2.2.2.2.2.2.2.1 rfl
def wd_846 := tbg_m4 zk4_3.2.2.2.2.2.2.2.2.2.2.2.2.2.2.2.2.2.2.2.2.1 rfl
def wd_847 := tbg_m4 zk4_3.2.2.2.2.2.2.2.2.2.2.2.2.2.2.2.2.2.2.2.2.2 rfl
theorem zk4_4 : (.constant "QuotaLaws$Realm" 160 (1103515245) : Cond) ∈ tables_1_4 ∧ (.methodLink "QuotaLaws$Realm" 154 y_Realm_drawn : Cond) ∈ tables_1_4 ∧ (.static y_Realm_drawn : Cond) ∈ tables_1_4 ∧ (.methodLink "QuotaLaws$Realm" 157 y_Realm_breakOnce : Cond) ∈ tables_1_4 ∧ (.methodLink "QuotaLawsLaw" 145 y_Q_keep : Cond) ∈ tables_1_4 ∧ (.instanceMethod y_Q_keep : Cond) ∈ tables_1_4 ∧ (.selects "QuotaLaws" y_Q_keep y_Q_keep : Cond) ∈ tables_1_4 ∧ (.methodLink "QuotaLawsLaw" 149 y_Q_back : Cond) ∈ tables_1_4 ∧ (.instanceMethod y_Q_back : Cond) ∈ tables_1_4 ∧ (.selects "QuotaLaws" y_Q_back y_Q_back : Cond) ∈ tables_1_4 ∧ (.methodLink "QuotaLawsLaw" 153 y_Q_sheet : Cond) ∈ tables_1_4 ∧ (.instanceMethod y_Q_sheet : Cond) ∈ tables_1_4 ∧ (.selects "QuotaLaws" y_Q_sheet y_Q_sheet : Cond) ∈ tables_1_4 ∧ (.methodLink "QuotaLaws" 258 y_Sheet_renew : Cond) ∈ tables_1_4 ∧ (.instanceMethod y_Sheet_renew : Cond) ∈ tables_1_4 ∧ (.selects "QuotaLaws$Sheet" y_Sheet_renew y_Sheet_renew : Cond) ∈ tables_1_4 ∧ (.methodLink "QuotaLaws$Sheet" 22 y_Arrays_fillI : Cond) ∈ tables_1_4 ∧ (.methodLink "QuotaLawsLaw" 157 y_Q_lay : Cond) ∈ tables_1_4 ∧ (.instanceMethod y_Q_lay : Cond) ∈ tables_1_4 ∧ (.selects "QuotaLaws" y_Q_lay y_Q_lay : Cond) ∈ tables_1_4 ∧ (.methodLink "QuotaLaws" 261 y_Sheet_faultAt : Cond) ∈ tables_1_4 ∧ (.instanceMethod y_Sheet_faultAt : Cond) ∈ tables_1_4 ∧ (.selects "QuotaLaws$Sheet" y_Sheet_faultAt y_Sheet_faultAt : Cond) ∈ tables_1_4 ∧ (.methodLink "QuotaLaws" 265 y_Sheet_put : Cond) ∈ tables_1_4 := zw_s (rfl : tables_1_4.drop 129 = _) fun h => zw_s h fun h => zw_s h fun h => zw_g h fun h => zw_s h fun h => zw_s h fun h => zw_s h fun h => zw_s h fun h => zw_g h fun h => zw_s h fun h => zw_s h fun h => zw_s h fun h => zw_g h fun h => zw_s h fun h => zw_s h fun h => zw_s h fun h => zw_g h fun h => zw_s h fun h => zw_s h fun h => zw_s h fun h => zw_g h fun h => zw_s h fun h => zw_s h fun h => zw_s h fun h => zw_s h fun h => zw_g h fun h => zw_s h fun h => zw_s h fun h => zw_s h fun h => zw_g h fun h => zw_e h
def wd_849 := tbg_m4 zk4_4.1 rfl
def wd_850 := tbg_m4 zk4_4.2.1 rfl
def wd_851 := tbg_m4 zk4_4.2.2.1 rfl
def wd_853 := tbg_m4 zk4_4.2.2.2.1 rfl
def wd_854 := tbg_m4 zk4_4.2.2.2.2.1 rfl
def wd_855 := tbg_m4 zk4_4.2.2.2.2.2.1 rfl
def wd_856 := tbg_m4 zk4_4.2.2.2.2.2.2.1 rfl
def wd_858 := tbg_m4 zk4_4.2.2.2.2.2.2.2.1 rfl
def wd_859 := tbg_m4 zk4_4.2.2.2.2.2.2.2.2.1 rfl
def wd_860 := tbg_m4 zk4_4.2.2.2.2.2.2.2.2.2.1 rfl
def wd_862 := tbg_m4 zk4_4.2.2.2.2.2.2.2.2.2.2.1 rfl
def wd_863 := tbg_m4 zk4_4.2.2.2.2.2.2.2.2.2.2.2.1 rfl
def wd_864 := tbg_m4 zk4_4.2.2.2.2.2.2.2.2.2.2.2.2.1 rfl
def wd_866 := tbg_m4 zk4_4.2.2.2.2.2.2.2.2.2.2.2.2.2.1 rfl
def wd_867 := tbg_m4 zk4_4.2.2.2.2.2.2.2.2.2.2.2.2.2.2.1 rfl
def wd_868 := tbg_m4 zk4_4.2.2.2.2.2.2.2.2.2.2.2.2.2.2.2.1 rfl
def wd_870 := tbg_m4 zk4_4.2.2.2.2.2.2.2.2.2.2.2.2.2.2.2.2.1 rfl
def wd_871 := tbg_m4 zk4_4.2.2.2.2.2.2.2.2.2.2.2.2.2.2.2.2.2.1 rfl
def wd_872 := tbg_m4 zk4_4.2.2.2.2.2.2.2.2.2.2.2.2.2.2.2.2.2.2.1 rfl
def wd_873 := tbg_m4 zk4_4.2.2.2.2.2.2.2.2.2.2.2.2.2.2.2.2.2.2.2.1 rfl
def wd_875 := tbg_m4 zk4_4.2.2.2.2.2.2.2.2.2.2.2.2.2.2.2.2.2.2.2.2.1 rfl
def wd_876 := tbg_m4 zk4_4.2.2.2.2.2.2.2.2.2.2.2.2.2.2.2.2.2.2.2.2.2.1 rfl
def wd_877 := tbg_m4 zk4_4.2.2.2.2.2.2.2.2.2.2.2.2.2.2.2.2.2.2.2.2.2.2.1 rfl
def wd_879 := tbg_m4 zk4_4.2.2.2.2.2.2.2.2.2.2.2.2.2.2.2.2.2.2.2.2.2.2.2 rfl
theorem zk4_5 : (.instanceMethod y_Sheet_put : Cond) ∈ tables_1_4 ∧ (.selects "QuotaLaws$Sheet" y_Sheet_put y_Sheet_put : Cond) ∈ tables_1_4 ∧ (.methodLink "QuotaLawsLaw" 161 y_Q_read : Cond) ∈ tables_1_4 ∧ (.instanceMethod y_Q_read : Cond) ∈ tables_1_4 ∧ (.selects "QuotaLaws" y_Q_read y_Q_read : Cond) ∈ tables_1_4 ∧ (.methodLink "QuotaLaws" 268 y_Sheet_faultAs : Cond) ∈ tables_1_4 ∧ (.instanceMethod y_Sheet_faultAs : Cond) ∈ tables_1_4 ∧ (.selects "QuotaLaws$Sheet" y_Sheet_faultAs y_Sheet_faultAs : Cond) ∈ tables_1_4 ∧ (.methodLink "QuotaLaws" 271 y_Sheet_faultOfPair : Cond) ∈ tables_1_4 ∧ (.instanceMethod y_Sheet_faultOfPair : Cond) ∈ tables_1_4 ∧ (.selects "QuotaLaws$Sheet" y_Sheet_faultOfPair y_Sheet_faultOfPair : Cond) ∈ tables_1_4 ∧ (.methodLink "QuotaLaws$Sheet" 28 y_Sheet_faultAt : Cond) ∈ tables_1_4 ∧ (.methodLink "QuotaLaws" 274 y_Sheet_cellAt : Cond) ∈ tables_1_4 ∧ (.instanceMethod y_Sheet_cellAt : Cond) ∈ tables_1_4 ∧ (.selects "QuotaLaws$Sheet" y_Sheet_cellAt y_Sheet_cellAt : Cond) ∈ tables_1_4 ∧ (.methodLink "QuotaLawsLaw" 166 y_Q_torn : Cond) ∈ tables_1_4 ∧ (.instanceMethod y_Q_torn : Cond) ∈ tables_1_4 ∧ (.selects "QuotaLaws" y_Q_torn y_Q_torn : Cond) ∈ tables_1_4 ∧ (.methodLink "QuotaLawsLaw" 170 y_Q_count : Cond) ∈ tables_1_4 ∧ (.instanceMethod y_Q_count : Cond) ∈ tables_1_4 ∧ (.selects "QuotaLaws" y_Q_count y_Q_count : Cond) ∈ tables_1_4 ∧ (.methodLink "QuotaLaws" 280 y_Realm_brokenInAll : Cond) ∈ tables_1_4 ∧ (.instanceMethod y_Realm_brokenInAll : Cond) ∈ tables_1_4 ∧ (.selects "QuotaLaws$Realm" y_Realm_brokenInAll y_Realm_brokenInAll : Cond) ∈ tables_1_4 := zw_s (rfl : tables_1_4.drop 160 = _) fun h => zw_s h fun h => zw_g h fun h => zw_s h fun h => zw_s h fun h => zw_s h fun h => zw_g h fun h => zw_s h fun h => zw_s h fun h => zw_s h fun h => zw_g h fun h => zw_s h fun h => zw_s h fun h => zw_s h fun h => zw_g h fun h => zw_s h fun h => zw_s h fun h => zw_s h fun h => zw_s h fun h => zw_g h fun h => zw_s h fun h => zw_s h fun h => zw_s h fun h => zw_g h fun h => zw_s h fun h => zw_s h fun h => zw_s h fun h => zw_g h fun h => zw_s h fun h => zw_s h fun h => zw_e h
def wd_880 := tbg_m4 zk4_5.1 rfl
def wd_881 := tbg_m4 zk4_5.2.1 rfl
def wd_883 := tbg_m4 zk4_5.2.2.1 rfl
def wd_884 := tbg_m4 zk4_5.2.2.2.1 rfl
def wd_885 := tbg_m4 zk4_5.2.2.2.2.1 rfl
def wd_887 := tbg_m4 zk4_5.2.2.2.2.2.1 rfl
def wd_888 := tbg_m4 zk4_5.2.2.2.2.2.2.1 rfl
def wd_889 := tbg_m4 zk4_5.2.2.2.2.2.2.2.1 rfl
def wd_891 := tbg_m4 zk4_5.2.2.2.2.2.2.2.2.1 rfl
def wd_892 := tbg_m4 zk4_5.2.2.2.2.2.2.2.2.2.1 rfl
def wd_893 := tbg_m4 zk4_5.2.2.2.2.2.2.2.2.2.2.1 rfl
def wd_895 := tbg_m4 zk4_5.2.2.2.2.2.2.2.2.2.2.2.1 rfl
def wd_896 := tbg_m4 zk4_5.2.2.2.2.2.2.2.2.2.2.2.2.1 rfl
def wd_897 := tbg_m4 zk4_5.2.2.2.2.2.2.2.2.2.2.2.2.2.1 rfl
def wd_898 := tbg_m4 zk4_5.2.2.2.2.2.2.2.2.2.2.2.2.2.2.1 rfl
def wd_900 := tbg_m4 zk4_5.2.2.2.2.2.2.2.2.2.2.2.2.2.2.2.1 rfl
def wd_901 := tbg_m4 zk4_5.2.2.2.2.2.2.2.2.2.2.2.2.2.2.2.2.1 rfl
def wd_902 := tbg_m4 zk4_5.2.2.2.2.2.2.2.2.2.2.2.2.2.2.2.2.2.1 rfl
def wd_904 := tbg_m4 zk4_5.2.2.2.2.2.2.2.2.2.2.2.2.2.2.2.2.2.2.1 rfl
def wd_905 := tbg_m4 zk4_5.2.2.2.2.2.2.2.2.2.2.2.2.2.2.2.2.2.2.2.1 rfl
def wd_906 := tbg_m4 zk4_5.2.2.2.2.2.2.2.2.2.2.2.2.2.2.2.2.2.2.2.2.1 rfl
def wd_908 := tbg_m4 zk4_5.2.2.2.2.2.2.2.2.2.2.2.2.2.2.2.2.2.2.2.2.2.1 rfl
def wd_909 := tbg_m4 zk4_5.2.2.2.2.2.2.2.2.2.2.2.2.2.2.2.2.2.2.2.2.2.2.1 rfl
def wd_910 := tbg_m4 zk4_5.2.2.2.2.2.2.2.2.2.2.2.2.2.2.2.2.2.2.2.2.2.2.2 rfl
theorem zk4_6 : (.methodLink "QuotaLaws" 283 y_Q_countKept : Cond) ∈ tables_1_4 ∧ (.instanceMethod y_Q_countKept : Cond) ∈ tables_1_4 ∧ (.methodLink "QuotaLaws" 287 y_Realm_allPurses : Cond) ∈ tables_1_4 ∧ (.instanceMethod y_Realm_allPurses : Cond) ∈ tables_1_4 ∧ (.selects "QuotaLaws$Realm" y_Realm_allPurses y_Realm_allPurses : Cond) ∈ tables_1_4 ∧ (.methodLink "QuotaLaws" 290 y_Realm_allNeed : Cond) ∈ tables_1_4 ∧ (.instanceMethod y_Realm_allNeed : Cond) ∈ tables_1_4 ∧ (.selects "QuotaLaws$Realm" y_Realm_allNeed y_Realm_allNeed : Cond) ∈ tables_1_4 ∧ (.classLink "QuotaLawsLaw" 10 "QuotaLawsModel" : Cond) ∈ tables_1_4 ∧ (.instantiable "QuotaLawsModel" 39 : Cond) ∈ tables_1_4 ∧ (.methodLink "QuotaLawsLaw" 12 y_M_new : Cond) ∈ tables_1_4 ∧ (.instanceMethod y_M_new : Cond) ∈ tables_1_4 ∧ (.methodLink "QuotaLawsModel" 1 Lib.objectInit : Cond) ∈ tables_1_4 ∧ (.methodLink "QuotaLawsModel" 87 y_M_firstDraft : Cond) ∈ tables_1_4 ∧ (.instanceMethod y_M_firstDraft : Cond) ∈ tables_1_4 ∧ (.methodLink "QuotaLawsModel" 90 y_M_keepDraft : Cond) ∈ tables_1_4 ∧ (.instanceMethod y_M_keepDraft : Cond) ∈ tables_1_4 ∧ (.fieldLink "QuotaLawsModel" 7 "QuotaLawsModel" "st" "[I" : Cond) ∈ tables_1_4 ∧ (.fieldLink "QuotaLawsModel" 13 "QuotaLawsModel" "isKept" "[Z" : Cond) ∈ tables_1_4 ∧ (.fieldLink "QuotaLawsModel" 106 "QuotaLawsModel" "laws" "I" : Cond) ∈ tables_1_4 ∧ (.fieldLink "QuotaLawsModel" 109 "QuotaLawsModel" "people" "I" : Cond) ∈ tables_1_4 ∧ (.fieldLink "QuotaLawsModel" 17 "QuotaLawsModel" "cap" "[I" : Cond) ∈ tables_1_4 ∧ (.fieldLink "QuotaLawsModel" 20 "QuotaLawsModel" "harm" "[I" : Cond) ∈ tables_1_4 := zw_s (rfl : tables_1_4.drop 192 = _) fun h => zw_g h fun h => zw_s h fun h => zw_g h fun h => zw_s h fun h => zw_s h fun h => zw_s h fun h => zw_g h fun h => zw_s h fun h => zw_s h fun h => zw_s h fun h => zw_g h fun h => zw_s h fun h => zw_s h fun h => zw_s h fun h => zw_s h fun h => zw_g h fun h => zw_s h fun h => zw_s h fun h => zw_g h fun h => zw_s h fun h => zw_g h fun h => zw_s h fun h => zw_g h fun h => zw_s h fun h => zw_g h fun h => zw_s h fun h => zw_s h fun h => zw_s h fun h => zw_s h fun h => zw_s h fun h => zw_e h
def wd_912 := tbg_m4 zk4_6.1 rfl
def wd_914 := tbg_m4 zk4_6.2.1 rfl
def wd_916 := tbg_m4 zk4_6.2.2.1 rfl
def wd_917 := tbg_m4 zk4_6.2.2.2.1 rfl
def wd_918 := tbg_m4 zk4_6.2.2.2.2.1 rfl
def wd_920 := tbg_m4 zk4_6.2.2.2.2.2.1 rfl
def wd_921 := tbg_m4 zk4_6.2.2.2.2.2.2.1 rfl
def wd_922 := tbg_m4 zk4_6.2.2.2.2.2.2.2.1 rfl
def wd_924 := tbg_m4 zk4_6.2.2.2.2.2.2.2.2.1 rfl
def wd_925 := tbg_m4 zk4_6.2.2.2.2.2.2.2.2.2.1 rfl
def wd_926 := tbg_m4 zk4_6.2.2.2.2.2.2.2.2.2.2.1 rfl
def wd_927 := tbg_m4 zk4_6.2.2.2.2.2.2.2.2.2.2.2.1 rfl
def wd_929 := tbg_m4 zk4_6.2.2.2.2.2.2.2.2.2.2.2.2.1 rfl
def wd_930 := tbg_m4 zk4_6.2.2.2.2.2.2.2.2.2.2.2.2.2.1 rfl
def wd_932 := tbg_m4 zk4_6.2.2.2.2.2.2.2.2.2.2.2.2.2.2.1 rfl
def wd_934 := tbg_m4 zk4_6.2.2.2.2.2.2.2.2.2.2.2.2.2.2.2.1 rfl
def wd_936 := tbg_m4 zk4_6.2.2.2.2.2.2.2.2.2.2.2.2.2.2.2.2.1 rfl
def wd_938 := tbg_m4 zk4_6.2.2.2.2.2.2.2.2.2.2.2.2.2.2.2.2.2.1 rfl
def wd_939 := tbg_m4 zk4_6.2.2.2.2.2.2.2.2.2.2.2.2.2.2.2.2.2.2.1 rfl
def wd_940 := tbg_m4 zk4_6.2.2.2.2.2.2.2.2.2.2.2.2.2.2.2.2.2.2.2.1 rfl
def wd_941 := tbg_m4 zk4_6.2.2.2.2.2.2.2.2.2.2.2.2.2.2.2.2.2.2.2.2.1 rfl
def wd_942 := tbg_m4 zk4_6.2.2.2.2.2.2.2.2.2.2.2.2.2.2.2.2.2.2.2.2.2.1 rfl
def wd_943 := tbg_m4 zk4_6.2.2.2.2.2.2.2.2.2.2.2.2.2.2.2.2.2.2.2.2.2.2 rfl
theorem zk4_7 : (.fieldLink "QuotaLawsModel" 23 "QuotaLawsModel" "fine" "[I" : Cond) ∈ tables_1_4 ∧ (.fieldLink "QuotaLawsModel" 26 "QuotaLawsModel" "clumsy" "[I" : Cond) ∈ tables_1_4 ∧ (.fieldLink "QuotaLawsModel" 29 "QuotaLawsModel" "nerve" "[I" : Cond) ∈ tables_1_4 ∧ (.fieldLink "QuotaLawsModel" 32 "QuotaLawsModel" "draft" "[I" : Cond) ∈ tables_1_4 ∧ (.fieldLink "QuotaLawsModel" 93 "QuotaLawsModel" "dLaws" "I" : Cond) ∈ tables_1_4 ∧ (.fieldLink "QuotaLawsModel" 97 "QuotaLawsModel" "dPeople" "I" : Cond) ∈ tables_1_4 ∧ (.fieldLink "QuotaLawsModel" 35 "QuotaLawsModel" "dCap" "[I" : Cond) ∈ tables_1_4 ∧ (.fieldLink "QuotaLawsModel" 38 "QuotaLawsModel" "dHarm" "[I" : Cond) ∈ tables_1_4 ∧ (.fieldLink "QuotaLawsModel" 41 "QuotaLawsModel" "dFine" "[I" : Cond) ∈ tables_1_4 ∧ (.fieldLink "QuotaLawsModel" 44 "QuotaLawsModel" "dClumsy" "[I" : Cond) ∈ tables_1_4 ∧ (.fieldLink "QuotaLawsModel" 47 "QuotaLawsModel" "dNerve" "[I" : Cond) ∈ tables_1_4 ∧ (.fieldLink "QuotaLawsModel" 100 "QuotaLawsModel" "highestLaw" "I" : Cond) ∈ tables_1_4 ∧ (.fieldLink "QuotaLawsModel" 103 "QuotaLawsModel" "highestOne" "I" : Cond) ∈ tables_1_4 ∧ (.fieldLink "QuotaLawsModel" 50 "QuotaLawsModel" "tape" "[I" : Cond) ∈ tables_1_4 ∧ (.fieldLink "QuotaLawsModel" 118 "QuotaLawsModel" "taped" "I" : Cond) ∈ tables_1_4 ∧ (.fieldLink "QuotaLawsModel" 130 "QuotaLawsModel" "pos" "I" : Cond) ∈ tables_1_4 := zw_s (rfl : tables_1_4.drop 224 = _) fun h => zw_s h fun h => zw_s h fun h => zw_s h fun h => zw_s h fun h => zw_s h fun h => zw_s h fun h => zw_s h fun h => zw_s h fun h => zw_s h fun h => zw_s h fun h => zw_s h fun h => zw_s h fun h => zw_s h fun h => zw_s h fun h => zw_e h
def wd_944 := tbg_m4 zk4_7.1 rfl
def wd_945 := tbg_m4 zk4_7.2.1 rfl
def wd_946 := tbg_m4 zk4_7.2.2.1 rfl
def wd_947 := tbg_m4 zk4_7.2.2.2.1 rfl
def wd_948 := tbg_m4 zk4_7.2.2.2.2.1 rfl
def wd_949 := tbg_m4 zk4_7.2.2.2.2.2.1 rfl
def wd_950 := tbg_m4 zk4_7.2.2.2.2.2.2.1 rfl
def wd_951 := tbg_m4 zk4_7.2.2.2.2.2.2.2.1 rfl
def wd_952 := tbg_m4 zk4_7.2.2.2.2.2.2.2.2.1 rfl
def wd_953 := tbg_m4 zk4_7.2.2.2.2.2.2.2.2.2.1 rfl
def wd_954 := tbg_m4 zk4_7.2.2.2.2.2.2.2.2.2.2.1 rfl
def wd_955 := tbg_m4 zk4_7.2.2.2.2.2.2.2.2.2.2.2.1 rfl
def wd_956 := tbg_m4 zk4_7.2.2.2.2.2.2.2.2.2.2.2.2.1 rfl
def wd_957 := tbg_m4 zk4_7.2.2.2.2.2.2.2.2.2.2.2.2.2.1 rfl
def wd_958 := tbg_m4 zk4_7.2.2.2.2.2.2.2.2.2.2.2.2.2.2.1 rfl
def wd_959 := tbg_m4 zk4_7.2.2.2.2.2.2.2.2.2.2.2.2.2.2.2 rfl
theorem zk5_0 : (.fieldLink "QuotaLawsModel" 124 "QuotaLawsModel" "from" "I" : Cond) ∈ tables_1_5 ∧ (.fieldLink "QuotaLawsModel" 141 "QuotaLawsModel" "sort" "I" : Cond) ∈ tables_1_5 ∧ (.fieldLink "QuotaLawsModel" 152 "QuotaLawsModel" "value" "I" : Cond) ∈ tables_1_5 ∧ (.fieldLink "QuotaLawsModel" 121 "QuotaLawsModel" "fault" "I" : Cond) ∈ tables_1_5 ∧ (.fieldLink "QuotaLawsModel" 127 "QuotaLawsModel" "wrongAt" "I" : Cond) ∈ tables_1_5 ∧ (.fieldLink "QuotaLawsModel" 53 "QuotaLawsModel" "least" "[I" : Cond) ∈ tables_1_5 ∧ (.fieldLink "QuotaLawsModel" 56 "QuotaLawsModel" "needs" "[I" : Cond) ∈ tables_1_5 ∧ (.fieldLink "QuotaLawsModel" 59 "QuotaLawsModel" "lefts" "[I" : Cond) ∈ tables_1_5 ∧ (.fieldLink "QuotaLawsModel" 62 "QuotaLawsModel" "shares" "[I" : Cond) ∈ tables_1_5 ∧ (.fieldLink "QuotaLawsModel" 65 "QuotaLawsModel" "saved" "[I" : Cond) ∈ tables_1_5 ∧ (.fieldLink "QuotaLawsModel" 68 "QuotaLawsModel" "ways" "[J" : Cond) ∈ tables_1_5 ∧ (.fieldLink "QuotaLawsModel" 72 "QuotaLawsModel" "tables" "[J" : Cond) ∈ tables_1_5 ∧ (.fieldLink "QuotaLawsModel" 75 "QuotaLawsModel" "then" "[J" : Cond) ∈ tables_1_5 ∧ (.fieldLink "QuotaLawsModel" 78 "QuotaLawsModel" "lanes" "[I" : Cond) ∈ tables_1_5 ∧ (.fieldLink "QuotaLawsModel" 81 "QuotaLawsModel" "sizes" "[I" : Cond) ∈ tables_1_5 ∧ (.fieldLink "QuotaLawsModel" 84 "QuotaLawsModel" "cells" "[I" : Cond) ∈ tables_1_5 ∧ (.fieldLink "QuotaLawsModel" 332 "QuotaLawsModel" "torn" "I" : Cond) ∈ tables_1_5 := zw_s (rfl : tables_1_5.drop 0 = _) fun h => zw_s h fun h => zw_s h fun h => zw_s h fun h => zw_s h fun h => zw_s h fun h => zw_s h fun h => zw_s h fun h => zw_s h fun h => zw_s h fun h => zw_s h fun h => zw_s h fun h => zw_s h fun h => zw_s h fun h => zw_s h fun h => zw_s h fun h => zw_e h
def wd_960 := tbg_m5 zk5_0.1 rfl
def wd_961 := tbg_m5 zk5_0.2.1 rfl
def wd_962 := tbg_m5 zk5_0.2.2.1 rfl
def wd_963 := tbg_m5 zk5_0.2.2.2.1 rfl
def wd_964 := tbg_m5 zk5_0.2.2.2.2.1 rfl
def wd_965 := tbg_m5 zk5_0.2.2.2.2.2.1 rfl
def wd_966 := tbg_m5 zk5_0.2.2.2.2.2.2.1 rfl
def wd_967 := tbg_m5 zk5_0.2.2.2.2.2.2.2.1 rfl
def wd_968 := tbg_m5 zk5_0.2.2.2.2.2.2.2.2.1 rfl
def wd_969 := tbg_m5 zk5_0.2.2.2.2.2.2.2.2.2.1 rfl
def wd_970 := tbg_m5 zk5_0.2.2.2.2.2.2.2.2.2.2.1 rfl
def wd_971 := tbg_m5 zk5_0.2.2.2.2.2.2.2.2.2.2.2.1 rfl
def wd_972 := tbg_m5 zk5_0.2.2.2.2.2.2.2.2.2.2.2.2.1 rfl
def wd_973 := tbg_m5 zk5_0.2.2.2.2.2.2.2.2.2.2.2.2.2.1 rfl
def wd_974 := tbg_m5 zk5_0.2.2.2.2.2.2.2.2.2.2.2.2.2.2.1 rfl
def wd_975 := tbg_m5 zk5_0.2.2.2.2.2.2.2.2.2.2.2.2.2.2.2.1 rfl
def wd_976 := tbg_m5 zk5_0.2.2.2.2.2.2.2.2.2.2.2.2.2.2.2.2 rfl
theorem zk5_3 : (.methodLink "QuotaLawsLaw" 17 y_M_feed : Cond) ∈ tables_1_5 ∧ (.instanceMethod y_M_feed : Cond) ∈ tables_1_5 ∧ (.selects "QuotaLawsModel" y_M_feed y_M_feed : Cond) ∈ tables_1_5 ∧ (.constantLong "QuotaLawsModel" 112 (127) : Cond) ∈ tables_1_5 ∧ (.methodLink "QuotaLawsModel" 114 y_M_in : Cond) ∈ tables_1_5 ∧ (.static y_M_in : Cond) ∈ tables_1_5 ∧ (.methodLink "QuotaLawsLaw" 21 y_M_end : Cond) ∈ tables_1_5 ∧ (.instanceMethod y_M_end : Cond) ∈ tables_1_5 ∧ (.selects "QuotaLawsModel" y_M_end y_M_end : Cond) ∈ tables_1_5 ∧ (.methodLink "QuotaLawsLaw" 26 y_M_text : Cond) ∈ tables_1_5 ∧ (.instanceMethod y_M_text : Cond) ∈ tables_1_5 ∧ (.selects "QuotaLawsModel" y_M_text y_M_text : Cond) ∈ tables_1_5 ∧ (.methodLink "QuotaLawsModel" 162 y_M_next : Cond) ∈ tables_1_5 ∧ (.instanceMethod y_M_next : Cond) ∈ tables_1_5 ∧ (.methodLink "QuotaLawsModel" 133 y_M_look : Cond) ∈ tables_1_5 ∧ (.instanceMethod y_M_look : Cond) ∈ tables_1_5 ∧ (.constantLong "QuotaLawsModel" 144 (97) : Cond) ∈ tables_1_5 ∧ (.constantLong "QuotaLawsModel" 146 (122) : Cond) ∈ tables_1_5 ∧ (.constantLong "QuotaLawsModel" 148 (48) : Cond) ∈ tables_1_5 ∧ (.constantLong "QuotaLawsModel" 150 (57) : Cond) ∈ tables_1_5 ∧ (.methodLink "QuotaLawsModel" 155 y_M_needs : Cond) ∈ tables_1_5 ∧ (.instanceMethod y_M_needs : Cond) ∈ tables_1_5 := zw_s (rfl : tables_1_5.drop 96 = _) fun h => zw_s h fun h => zw_s h fun h => zw_g h fun h => zw_s h fun h => zw_s h fun h => zw_s h fun h => zw_g h fun h => zw_s h fun h => zw_s h fun h => zw_s h fun h => zw_g h fun h => zw_s h fun h => zw_s h fun h => zw_s h fun h => zw_g h fun h => zw_s h fun h => zw_g h fun h => zw_s h fun h => zw_g h fun h => zw_s h fun h => zw_g h fun h => zw_s h fun h => zw_g h fun h => zw_s h fun h => zw_s h fun h => zw_s h fun h => zw_s h fun h => zw_s h fun h => zw_g h fun h => zw_e h
def wd_1056 := tbg_m5 zk5_3.1 rfl
def wd_1057 := tbg_m5 zk5_3.2.1 rfl
def wd_1058 := tbg_m5 zk5_3.2.2.1 rfl
def wd_1060 := tbg_m5 zk5_3.2.2.2.1 rfl
def wd_1061 := tbg_m5 zk5_3.2.2.2.2.1 rfl
def wd_1062 := tbg_m5 zk5_3.2.2.2.2.2.1 rfl
def wd_1064 := tbg_m5 zk5_3.2.2.2.2.2.2.1 rfl
def wd_1065 := tbg_m5 zk5_3.2.2.2.2.2.2.2.1 rfl
def wd_1066 := tbg_m5 zk5_3.2.2.2.2.2.2.2.2.1 rfl
def wd_1068 := tbg_m5 zk5_3.2.2.2.2.2.2.2.2.2.1 rfl
def wd_1069 := tbg_m5 zk5_3.2.2.2.2.2.2.2.2.2.2.1 rfl
def wd_1070 := tbg_m5 zk5_3.2.2.2.2.2.2.2.2.2.2.2.1 rfl
def wd_1072 := tbg_m5 zk5_3.2.2.2.2.2.2.2.2.2.2.2.2.1 rfl
def wd_1074 := tbg_m5 zk5_3.2.2.2.2.2.2.2.2.2.2.2.2.2.1 rfl
def wd_1076 := tbg_m5 zk5_3.2.2.2.2.2.2.2.2.2.2.2.2.2.2.1 rfl
def wd_1078 := tbg_m5 zk5_3.2.2.2.2.2.2.2.2.2.2.2.2.2.2.2.1 rfl
def wd_1080 := tbg_m5 zk5_3.2.2.2.2.2.2.2.2.2.2.2.2.2.2.2.2.1 rfl
def wd_1081 := tbg_m5 zk5_3.2.2.2.2.2.2.2.2.2.2.2.2.2.2.2.2.2.1 rfl
def wd_1082 := tbg_m5 zk5_3.2.2.2.2.2.2.2.2.2.2.2.2.2.2.2.2.2.2.1 rfl
def wd_1083 := tbg_m5 zk5_3.2.2.2.2.2.2.2.2.2.2.2.2.2.2.2.2.2.2.2.1 rfl
def wd_1084 := tbg_m5 zk5_3.2.2.2.2.2.2.2.2.2.2.2.2.2.2.2.2.2.2.2.2.1 rfl
def wd_1086 := tbg_m5 zk5_3.2.2.2.2.2.2.2.2.2.2.2.2.2.2.2.2.2.2.2.2.2 rfl
theorem zk5_4 : (.methodLink "QuotaLawsModel" 185 y_M_readLine : Cond) ∈ tables_1_5 ∧ (.instanceMethod y_M_readLine : Cond) ∈ tables_1_5 ∧ (.methodLink "QuotaLawsModel" 177 y_M_lineNow : Cond) ∈ tables_1_5 ∧ (.instanceMethod y_M_lineNow : Cond) ∈ tables_1_5 ∧ (.methodLink "QuotaLawsModel" 137 y_M_is : Cond) ∈ tables_1_5 ∧ (.instanceMethod y_M_is : Cond) ∈ tables_1_5 ∧ (.methodLink "QuotaLawsModel" 181 y_M_readLineOf : Cond) ∈ tables_1_5 ∧ (.instanceMethod y_M_readLineOf : Cond) ∈ tables_1_5 ∧ (.methodLink "QuotaLawsModel" 171 y_M_readLaw : Cond) ∈ tables_1_5 ∧ (.instanceMethod y_M_readLaw : Cond) ∈ tables_1_5 ∧ (.methodLink "QuotaLawsModel" 165 y_M_readNumber : Cond) ∈ tables_1_5 ∧ (.instanceMethod y_M_readNumber : Cond) ∈ tables_1_5 ∧ (.methodLink "QuotaLawsModel" 158 y_M_looked : Cond) ∈ tables_1_5 ∧ (.instanceMethod y_M_looked : Cond) ∈ tables_1_5 ∧ (.methodLink "QuotaLawsModel" 168 y_M_readLawOf : Cond) ∈ tables_1_5 ∧ (.instanceMethod y_M_readLawOf : Cond) ∈ tables_1_5 := zw_s (rfl : tables_1_5.drop 128 = _) fun h => zw_g h fun h => zw_s h fun h => zw_g h fun h => zw_s h fun h => zw_g h fun h => zw_s h fun h => zw_g h fun h => zw_s h fun h => zw_g h fun h => zw_s h fun h => zw_g h fun h => zw_s h fun h => zw_g h fun h => zw_s h fun h => zw_g h fun h => zw_s h fun h => zw_g h fun h => zw_s h fun h => zw_g h fun h => zw_s h fun h => zw_g h fun h => zw_s h fun h => zw_g h fun h => zw_s h fun h => zw_g h fun h => zw_s h fun h => zw_g h fun h => zw_s h fun h => zw_g h fun h => zw_e h
def wd_1088 := tbg_m5 zk5_4.1 rfl
def wd_1090 := tbg_m5 zk5_4.2.1 rfl
def wd_1092 := tbg_m5 zk5_4.2.2.1 rfl
def wd_1094 := tbg_m5 zk5_4.2.2.2.1 rfl
def wd_1096 := tbg_m5 zk5_4.2.2.2.2.1 rfl
def wd_1098 := tbg_m5 zk5_4.2.2.2.2.2.1 rfl
def wd_1100 := tbg_m5 zk5_4.2.2.2.2.2.2.1 rfl
def wd_1102 := tbg_m5 zk5_4.2.2.2.2.2.2.2.1 rfl
def wd_1104 := tbg_m5 zk5_4.2.2.2.2.2.2.2.2.1 rfl
def wd_1106 := tbg_m5 zk5_4.2.2.2.2.2.2.2.2.2.1 rfl
def wd_1108 := tbg_m5 zk5_4.2.2.2.2.2.2.2.2.2.2.1 rfl
def wd_1110 := tbg_m5 zk5_4.2.2.2.2.2.2.2.2.2.2.2.1 rfl
def wd_1112 := tbg_m5 zk5_4.2.2.2.2.2.2.2.2.2.2.2.2.1 rfl
def wd_1114 := tbg_m5 zk5_4.2.2.2.2.2.2.2.2.2.2.2.2.2.1 rfl
def wd_1116 := tbg_m5 zk5_4.2.2.2.2.2.2.2.2.2.2.2.2.2.2.1 rfl
def wd_1118 := tbg_m5 zk5_4.2.2.2.2.2.2.2.2.2.2.2.2.2.2.2 rfl
theorem zk5_5 : (.methodLink "QuotaLawsModel" 174 y_M_readOne : Cond) ∈ tables_1_5 ∧ (.instanceMethod y_M_readOne : Cond) ∈ tables_1_5 ∧ (.methodLink "QuotaLawsLaw" 30 y_M_fault : Cond) ∈ tables_1_5 ∧ (.instanceMethod y_M_fault : Cond) ∈ tables_1_5 ∧ (.selects "QuotaLawsModel" y_M_fault y_M_fault : Cond) ∈ tables_1_5 ∧ (.methodLink "QuotaLawsLaw" 34 y_M_rule : Cond) ∈ tables_1_5 ∧ (.instanceMethod y_M_rule : Cond) ∈ tables_1_5 ∧ (.selects "QuotaLawsModel" y_M_rule y_M_rule : Cond) ∈ tables_1_5 ∧ (.methodLink "QuotaLawsLaw" 39 y_M_law : Cond) ∈ tables_1_5 ∧ (.instanceMethod y_M_law : Cond) ∈ tables_1_5 ∧ (.selects "QuotaLawsModel" y_M_law y_M_law : Cond) ∈ tables_1_5 ∧ (.methodLink "QuotaLawsModel" 210 y_M_isLaw : Cond) ∈ tables_1_5 ∧ (.instanceMethod y_M_isLaw : Cond) ∈ tables_1_5 ∧ (.methodLink "QuotaLawsModel" 204 y_M_needOf : Cond) ∈ tables_1_5 ∧ (.instanceMethod y_M_needOf : Cond) ∈ tables_1_5 ∧ (.methodLink "QuotaLawsModel" 191 y_M_doesStand : Cond) ∈ tables_1_5 ∧ (.instanceMethod y_M_doesStand : Cond) ∈ tables_1_5 ∧ (.methodLink "QuotaLawsModel" 188 y_M_brokenBy : Cond) ∈ tables_1_5 ∧ (.instanceMethod y_M_brokenBy : Cond) ∈ tables_1_5 := zw_s (rfl : tables_1_5.drop 160 = _) fun h => zw_g h fun h => zw_s h fun h => zw_g h fun h => zw_s h fun h => zw_s h fun h => zw_s h fun h => zw_g h fun h => zw_s h fun h => zw_s h fun h => zw_s h fun h => zw_g h fun h => zw_s h fun h => zw_s h fun h => zw_s h fun h => zw_g h fun h => zw_s h fun h => zw_g h fun h => zw_s h fun h => zw_g h fun h => zw_s h fun h => zw_g h fun h => zw_s h fun h => zw_g h fun h => zw_s h fun h => zw_g h fun h => zw_s h fun h => zw_g h fun h => zw_s h fun h => zw_g h fun h => zw_e h
def wd_1120 := tbg_m5 zk5_5.1 rfl
def wd_1122 := tbg_m5 zk5_5.2.1 rfl
def wd_1124 := tbg_m5 zk5_5.2.2.1 rfl
def wd_1125 := tbg_m5 zk5_5.2.2.2.1 rfl
def wd_1126 := tbg_m5 zk5_5.2.2.2.2.1 rfl
def wd_1128 := tbg_m5 zk5_5.2.2.2.2.2.1 rfl
def wd_1129 := tbg_m5 zk5_5.2.2.2.2.2.2.1 rfl
def wd_1130 := tbg_m5 zk5_5.2.2.2.2.2.2.2.1 rfl
def wd_1132 := tbg_m5 zk5_5.2.2.2.2.2.2.2.2.1 rfl
def wd_1133 := tbg_m5 zk5_5.2.2.2.2.2.2.2.2.2.1 rfl
def wd_1134 := tbg_m5 zk5_5.2.2.2.2.2.2.2.2.2.2.1 rfl
def wd_1136 := tbg_m5 zk5_5.2.2.2.2.2.2.2.2.2.2.2.1 rfl
def wd_1138 := tbg_m5 zk5_5.2.2.2.2.2.2.2.2.2.2.2.2.1 rfl
def wd_1140 := tbg_m5 zk5_5.2.2.2.2.2.2.2.2.2.2.2.2.2.1 rfl
def wd_1142 := tbg_m5 zk5_5.2.2.2.2.2.2.2.2.2.2.2.2.2.2.1 rfl
def wd_1144 := tbg_m5 zk5_5.2.2.2.2.2.2.2.2.2.2.2.2.2.2.2.1 rfl
def wd_1146 := tbg_m5 zk5_5.2.2.2.2.2.2.2.2.2.2.2.2.2.2.2.2.1 rfl
def wd_1148 := tbg_m5 zk5_5.2.2.2.2.2.2.2.2.2.2.2.2.2.2.2.2.2.1 rfl
def wd_1150 := tbg_m5 zk5_5.2.2.2.2.2.2.2.2.2.2.2.2.2.2.2.2.2.2 rfl
theorem zk5_6 : (.methodLink "QuotaLawsModel" 207 y_M_chainOf : Cond) ∈ tables_1_5 ∧ (.instanceMethod y_M_chainOf : Cond) ∈ tables_1_5 ∧ (.methodLink "QuotaLawsLaw" 43 y_M_one : Cond) ∈ tables_1_5 ∧ (.instanceMethod y_M_one : Cond) ∈ tables_1_5 ∧ (.selects "QuotaLawsModel" y_M_one y_M_one : Cond) ∈ tables_1_5 ∧ (.methodLink "QuotaLawsModel" 213 y_M_isOne : Cond) ∈ tables_1_5 ∧ (.instanceMethod y_M_isOne : Cond) ∈ tables_1_5 ∧ (.methodLink "QuotaLawsModel" 216 y_M_canBreak : Cond) ∈ tables_1_5 ∧ (.instanceMethod y_M_canBreak : Cond) ∈ tables_1_5 ∧ (.methodLink "QuotaLawsModel" 198 y_M_roomOf : Cond) ∈ tables_1_5 ∧ (.instanceMethod y_M_roomOf : Cond) ∈ tables_1_5 ∧ (.methodLink "QuotaLawsModel" 201 y_M_timeLeft : Cond) ∈ tables_1_5 ∧ (.instanceMethod y_M_timeLeft : Cond) ∈ tables_1_5 ∧ (.methodLink "QuotaLawsModel" 195 y_M_allBy : Cond) ∈ tables_1_5 ∧ (.instanceMethod y_M_allBy : Cond) ∈ tables_1_5 ∧ (.methodLink "QuotaLawsModel" 220 y_M_flag : Cond) ∈ tables_1_5 ∧ (.static y_M_flag : Cond) ∈ tables_1_5 ∧ (.methodLink "QuotaLawsLaw" 47 y_M_broken : Cond) ∈ tables_1_5 := zw_s (rfl : tables_1_5.drop 192 = _) fun h => zw_g h fun h => zw_s h fun h => zw_g h fun h => zw_s h fun h => zw_s h fun h => zw_s h fun h => zw_g h fun h => zw_s h fun h => zw_g h fun h => zw_s h fun h => zw_g h fun h => zw_s h fun h => zw_g h fun h => zw_s h fun h => zw_g h fun h => zw_s h fun h => zw_g h fun h => zw_s h fun h => zw_g h fun h => zw_s h fun h => zw_g h fun h => zw_s h fun h => zw_g h fun h => zw_s h fun h => zw_g h fun h => zw_s h fun h => zw_g h fun h => zw_s h fun h => zw_s h fun h => zw_g h fun h => zw_e h
def wd_1152 := tbg_m5 zk5_6.1 rfl
def wd_1154 := tbg_m5 zk5_6.2.1 rfl
def wd_1156 := tbg_m5 zk5_6.2.2.1 rfl
def wd_1157 := tbg_m5 zk5_6.2.2.2.1 rfl
def wd_1158 := tbg_m5 zk5_6.2.2.2.2.1 rfl
def wd_1160 := tbg_m5 zk5_6.2.2.2.2.2.1 rfl
def wd_1162 := tbg_m5 zk5_6.2.2.2.2.2.2.1 rfl
def wd_1164 := tbg_m5 zk5_6.2.2.2.2.2.2.2.1 rfl
def wd_1166 := tbg_m5 zk5_6.2.2.2.2.2.2.2.2.1 rfl
def wd_1168 := tbg_m5 zk5_6.2.2.2.2.2.2.2.2.2.1 rfl
def wd_1170 := tbg_m5 zk5_6.2.2.2.2.2.2.2.2.2.2.1 rfl
def wd_1172 := tbg_m5 zk5_6.2.2.2.2.2.2.2.2.2.2.2.1 rfl
def wd_1174 := tbg_m5 zk5_6.2.2.2.2.2.2.2.2.2.2.2.2.1 rfl
def wd_1176 := tbg_m5 zk5_6.2.2.2.2.2.2.2.2.2.2.2.2.2.1 rfl
def wd_1178 := tbg_m5 zk5_6.2.2.2.2.2.2.2.2.2.2.2.2.2.2.1 rfl
def wd_1180 := tbg_m5 zk5_6.2.2.2.2.2.2.2.2.2.2.2.2.2.2.2.1 rfl
def wd_1181 := tbg_m5 zk5_6.2.2.2.2.2.2.2.2.2.2.2.2.2.2.2.2.1 rfl
def wd_1183 := tbg_m5 zk5_6.2.2.2.2.2.2.2.2.2.2.2.2.2.2.2.2.2 rfl
theorem zk5_7 : (.instanceMethod y_M_broken : Cond) ∈ tables_1_5 ∧ (.selects "QuotaLawsModel" y_M_broken y_M_broken : Cond) ∈ tables_1_5 ∧ (.methodLink "QuotaLawsLaw" 51 y_M_quota : Cond) ∈ tables_1_5 ∧ (.instanceMethod y_M_quota : Cond) ∈ tables_1_5 ∧ (.selects "QuotaLawsModel" y_M_quota y_M_quota : Cond) ∈ tables_1_5 ∧ (.constantLong "QuotaLawsModel" 224 (9) : Cond) ∈ tables_1_5 ∧ (.methodLink "QuotaLawsModel" 226 y_M_becomes : Cond) ∈ tables_1_5 ∧ (.instanceMethod y_M_becomes : Cond) ∈ tables_1_5 ∧ (.methodLink "QuotaLawsLaw" 55 y_M_carry : Cond) ∈ tables_1_5 ∧ (.instanceMethod y_M_carry : Cond) ∈ tables_1_5 ∧ (.selects "QuotaLawsModel" y_M_carry y_M_carry : Cond) ∈ tables_1_5 := zw_s (rfl : tables_1_5.drop 224 = _) fun h => zw_s h fun h => zw_g h fun h => zw_s h fun h => zw_s h fun h => zw_s h fun h => zw_g h fun h => zw_s h fun h => zw_s h fun h => zw_g h fun h => zw_s h fun h => zw_g h fun h => zw_s h fun h => zw_s h fun h => zw_e h
def wd_1184 := tbg_m5 zk5_7.1 rfl
def wd_1185 := tbg_m5 zk5_7.2.1 rfl
def wd_1187 := tbg_m5 zk5_7.2.2.1 rfl
def wd_1188 := tbg_m5 zk5_7.2.2.2.1 rfl
def wd_1189 := tbg_m5 zk5_7.2.2.2.2.1 rfl
def wd_1191 := tbg_m5 zk5_7.2.2.2.2.2.1 rfl
def wd_1192 := tbg_m5 zk5_7.2.2.2.2.2.2.1 rfl
def wd_1194 := tbg_m5 zk5_7.2.2.2.2.2.2.2.1 rfl
def wd_1196 := tbg_m5 zk5_7.2.2.2.2.2.2.2.2.1 rfl
def wd_1197 := tbg_m5 zk5_7.2.2.2.2.2.2.2.2.2.1 rfl
def wd_1198 := tbg_m5 zk5_7.2.2.2.2.2.2.2.2.2.2 rfl
theorem zk6_0 : (.methodLink "QuotaLawsLaw" 60 y_M_watch : Cond) ∈ tables_1_6 ∧ (.instanceMethod y_M_watch : Cond) ∈ tables_1_6 ∧ (.selects "QuotaLawsModel" y_M_watch y_M_watch : Cond) ∈ tables_1_6 ∧ (.methodLink "QuotaLawsModel" 229 y_M_becomesBit : Cond) ∈ tables_1_6 ∧ (.instanceMethod y_M_becomesBit : Cond) ∈ tables_1_6 ∧ (.methodLink "QuotaLawsLaw" 64 y_M_time : Cond) ∈ tables_1_6 ∧ (.instanceMethod y_M_time : Cond) ∈ tables_1_6 ∧ (.selects "QuotaLawsModel" y_M_time y_M_time : Cond) ∈ tables_1_6 ∧ (.constantLong "QuotaLawsModel" 233 (5) : Cond) ∈ tables_1_6 ∧ (.methodLink "QuotaLawsLaw" 69 y_M_refuse : Cond) ∈ tables_1_6 ∧ (.instanceMethod y_M_refuse : Cond) ∈ tables_1_6 ∧ (.selects "QuotaLawsModel" y_M_refuse y_M_refuse : Cond) ∈ tables_1_6 ∧ (.methodLink "QuotaLawsLaw" 73 y_M_want : Cond) ∈ tables_1_6 ∧ (.instanceMethod y_M_want : Cond) ∈ tables_1_6 ∧ (.selects "QuotaLawsModel" y_M_want y_M_want : Cond) ∈ tables_1_6 ∧ (.methodLink "QuotaLawsLaw" 77 y_M_fund : Cond) ∈ tables_1_6 ∧ (.instanceMethod y_M_fund : Cond) ∈ tables_1_6 ∧ (.selects "QuotaLawsModel" y_M_fund y_M_fund : Cond) ∈ tables_1_6 ∧ (.constantLong "QuotaLawsModel" 235 (99) : Cond) ∈ tables_1_6 ∧ (.methodLink "QuotaLawsLaw" 81 y_M_revive : Cond) ∈ tables_1_6 ∧ (.instanceMethod y_M_revive : Cond) ∈ tables_1_6 ∧ (.selects "QuotaLawsModel" y_M_revive y_M_revive : Cond) ∈ tables_1_6 ∧ (.methodLink "QuotaLawsModel" 237 y_M_bitsOf : Cond) ∈ tables_1_6 ∧ (.static y_M_bitsOf : Cond) ∈ tables_1_6 := zw_s (rfl : tables_1_6.drop 0 = _) fun h => zw_s h fun h => zw_s h fun h => zw_g h fun h => zw_s h fun h => zw_g h fun h => zw_s h fun h => zw_g h fun h => zw_s h fun h => zw_s h fun h => zw_s h fun h => zw_g h fun h => zw_s h fun h => zw_s h fun h => zw_s h fun h => zw_s h fun h => zw_g h fun h => zw_s h fun h => zw_s h fun h => zw_s h fun h => zw_g h fun h => zw_s h fun h => zw_s h fun h => zw_s h fun h => zw_g h fun h => zw_s h fun h => zw_s h fun h => zw_s h fun h => zw_s h fun h => zw_g h fun h => zw_s h fun h => zw_e h
def wd_1200 := tbg_m6 zk6_0.1 rfl
def wd_1201 := tbg_m6 zk6_0.2.1 rfl
def wd_1202 := tbg_m6 zk6_0.2.2.1 rfl
def wd_1204 := tbg_m6 zk6_0.2.2.2.1 rfl
def wd_1206 := tbg_m6 zk6_0.2.2.2.2.1 rfl
def wd_1208 := tbg_m6 zk6_0.2.2.2.2.2.1 rfl
def wd_1209 := tbg_m6 zk6_0.2.2.2.2.2.2.1 rfl
def wd_1210 := tbg_m6 zk6_0.2.2.2.2.2.2.2.1 rfl
def wd_1212 := tbg_m6 zk6_0.2.2.2.2.2.2.2.2.1 rfl
def wd_1213 := tbg_m6 zk6_0.2.2.2.2.2.2.2.2.2.1 rfl
def wd_1214 := tbg_m6 zk6_0.2.2.2.2.2.2.2.2.2.2.1 rfl
def wd_1215 := tbg_m6 zk6_0.2.2.2.2.2.2.2.2.2.2.2.1 rfl
def wd_1217 := tbg_m6 zk6_0.2.2.2.2.2.2.2.2.2.2.2.2.1 rfl
def wd_1218 := tbg_m6 zk6_0.2.2.2.2.2.2.2.2.2.2.2.2.2.1 rfl
def wd_1219 := tbg_m6 zk6_0.2.2.2.2.2.2.2.2.2.2.2.2.2.2.1 rfl
def wd_1221 := tbg_m6 zk6_0.2.2.2.2.2.2.2.2.2.2.2.2.2.2.2.1 rfl
def wd_1222 := tbg_m6 zk6_0.2.2.2.2.2.2.2.2.2.2.2.2.2.2.2.2.1 rfl
def wd_1223 := tbg_m6 zk6_0.2.2.2.2.2.2.2.2.2.2.2.2.2.2.2.2.2.1 rfl
def wd_1225 := tbg_m6 zk6_0.2.2.2.2.2.2.2.2.2.2.2.2.2.2.2.2.2.2.1 rfl
def wd_1226 := tbg_m6 zk6_0.2.2.2.2.2.2.2.2.2.2.2.2.2.2.2.2.2.2.2.1 rfl
def wd_1227 := tbg_m6 zk6_0.2.2.2.2.2.2.2.2.2.2.2.2.2.2.2.2.2.2.2.2.1 rfl
def wd_1228 := tbg_m6 zk6_0.2.2.2.2.2.2.2.2.2.2.2.2.2.2.2.2.2.2.2.2.2.1 rfl
def wd_1230 := tbg_m6 zk6_0.2.2.2.2.2.2.2.2.2.2.2.2.2.2.2.2.2.2.2.2.2.2.1 rfl
def wd_1231 := tbg_m6 zk6_0.2.2.2.2.2.2.2.2.2.2.2.2.2.2.2.2.2.2.2.2.2.2.2 rfl
theorem zk6_1 : (.methodLink "QuotaLawsLaw" 85 y_M_breaks : Cond) ∈ tables_1_6 ∧ (.instanceMethod y_M_breaks : Cond) ∈ tables_1_6 ∧ (.selects "QuotaLawsModel" y_M_breaks y_M_breaks : Cond) ∈ tables_1_6 ∧ (.methodLink "QuotaLawsLaw" 89 y_M_year : Cond) ∈ tables_1_6 ∧ (.instanceMethod y_M_year : Cond) ∈ tables_1_6 ∧ (.selects "QuotaLawsModel" y_M_year y_M_year : Cond) ∈ tables_1_6 ∧ (.methodLink "QuotaLawsModel" 240 y_M_fallsNow : Cond) ∈ tables_1_6 ∧ (.instanceMethod y_M_fallsNow : Cond) ∈ tables_1_6 ∧ (.methodLink "QuotaLawsLaw" 93 y_M_falls : Cond) ∈ tables_1_6 ∧ (.instanceMethod y_M_falls : Cond) ∈ tables_1_6 ∧ (.selects "QuotaLawsModel" y_M_falls y_M_falls : Cond) ∈ tables_1_6 ∧ (.methodLink "QuotaLawsLaw" 97 y_M_most : Cond) ∈ tables_1_6 ∧ (.instanceMethod y_M_most : Cond) ∈ tables_1_6 ∧ (.selects "QuotaLawsModel" y_M_most y_M_most : Cond) ∈ tables_1_6 ∧ (.methodLink "QuotaLawsLaw" 101 y_M_rota : Cond) ∈ tables_1_6 ∧ (.instanceMethod y_M_rota : Cond) ∈ tables_1_6 ∧ (.selects "QuotaLawsModel" y_M_rota y_M_rota : Cond) ∈ tables_1_6 ∧ (.methodLink "QuotaLawsModel" 260 y_M_startsRota : Cond) ∈ tables_1_6 ∧ (.instanceMethod y_M_startsRota : Cond) ∈ tables_1_6 ∧ (.methodLink "QuotaLawsModel" 263 y_M_findRota : Cond) ∈ tables_1_6 ∧ (.instanceMethod y_M_findRota : Cond) ∈ tables_1_6 := zw_s (rfl : tables_1_6.drop 33 = _) fun h => zw_s h fun h => zw_s h fun h => zw_g h fun h => zw_s h fun h => zw_s h fun h => zw_s h fun h => zw_g h fun h => zw_s h fun h => zw_g h fun h => zw_s h fun h => zw_g h fun h => zw_s h fun h => zw_s h fun h => zw_s h fun h => zw_g h fun h => zw_s h fun h => zw_s h fun h => zw_s h fun h => zw_g h fun h => zw_s h fun h => zw_s h fun h => zw_s h fun h => zw_g h fun h => zw_s h fun h => zw_g h fun h => zw_s h fun h => zw_g h fun h => zw_s h fun h => zw_g h fun h => zw_e h
def wd_1233 := tbg_m6 zk6_1.1 rfl
def wd_1234 := tbg_m6 zk6_1.2.1 rfl
def wd_1235 := tbg_m6 zk6_1.2.2.1 rfl
def wd_1237 := tbg_m6 zk6_1.2.2.2.1 rfl
def wd_1238 := tbg_m6 zk6_1.2.2.2.2.1 rfl
def wd_1239 := tbg_m6 zk6_1.2.2.2.2.2.1 rfl
def wd_1241 := tbg_m6 zk6_1.2.2.2.2.2.2.1 rfl
def wd_1243 := tbg_m6 zk6_1.2.2.2.2.2.2.2.1 rfl
def wd_1245 := tbg_m6 zk6_1.2.2.2.2.2.2.2.2.1 rfl
def wd_1246 := tbg_m6 zk6_1.2.2.2.2.2.2.2.2.2.1 rfl
def wd_1247 := tbg_m6 zk6_1.2.2.2.2.2.2.2.2.2.2.1 rfl
def wd_1249 := tbg_m6 zk6_1.2.2.2.2.2.2.2.2.2.2.2.1 rfl
def wd_1250 := tbg_m6 zk6_1.2.2.2.2.2.2.2.2.2.2.2.2.1 rfl
def wd_1251 := tbg_m6 zk6_1.2.2.2.2.2.2.2.2.2.2.2.2.2.1 rfl
def wd_1253 := tbg_m6 zk6_1.2.2.2.2.2.2.2.2.2.2.2.2.2.2.1 rfl
def wd_1254 := tbg_m6 zk6_1.2.2.2.2.2.2.2.2.2.2.2.2.2.2.2.1 rfl
def wd_1255 := tbg_m6 zk6_1.2.2.2.2.2.2.2.2.2.2.2.2.2.2.2.2.1 rfl
def wd_1257 := tbg_m6 zk6_1.2.2.2.2.2.2.2.2.2.2.2.2.2.2.2.2.2.1 rfl
def wd_1259 := tbg_m6 zk6_1.2.2.2.2.2.2.2.2.2.2.2.2.2.2.2.2.2.2.1 rfl
def wd_1261 := tbg_m6 zk6_1.2.2.2.2.2.2.2.2.2.2.2.2.2.2.2.2.2.2.2.1 rfl
def wd_1263 := tbg_m6 zk6_1.2.2.2.2.2.2.2.2.2.2.2.2.2.2.2.2.2.2.2.2 rfl
theorem zk6_2 : (.methodLink "QuotaLawsModel" 247 y_M_at : Cond) ∈ tables_1_6 ∧ (.static y_M_at : Cond) ∈ tables_1_6 ∧ (.methodLink "QuotaLawsModel" 257 y_M_leastOf : Cond) ∈ tables_1_6 ∧ (.instanceMethod y_M_leastOf : Cond) ∈ tables_1_6 ∧ (.constant "QuotaLawsModel" 246 (1000000) : Cond) ∈ tables_1_6 ∧ (.constantLong "QuotaLawsModel" 251 (3) : Cond) ∈ tables_1_6 ∧ (.methodLink "QuotaLawsModel" 253 y_M_harmBy : Cond) ∈ tables_1_6 ∧ (.instanceMethod y_M_harmBy : Cond) ∈ tables_1_6 ∧ (.methodLink "QuotaLawsModel" 243 y_M_roomAt : Cond) ∈ tables_1_6 ∧ (.instanceMethod y_M_roomAt : Cond) ∈ tables_1_6 ∧ (.methodLink "QuotaLawsModel" 266 y_M_sharesOf : Cond) ∈ tables_1_6 ∧ (.instanceMethod y_M_sharesOf : Cond) ∈ tables_1_6 ∧ (.methodLink "QuotaLawsLaw" 105 y_M_more : Cond) ∈ tables_1_6 ∧ (.instanceMethod y_M_more : Cond) ∈ tables_1_6 ∧ (.selects "QuotaLawsModel" y_M_more y_M_more : Cond) ∈ tables_1_6 ∧ (.methodLink "QuotaLawsLaw" 109 y_M_together : Cond) ∈ tables_1_6 ∧ (.instanceMethod y_M_together : Cond) ∈ tables_1_6 ∧ (.selects "QuotaLawsModel" y_M_together y_M_together : Cond) ∈ tables_1_6 ∧ (.methodLink "QuotaLawsLaw" 113 y_M_kill : Cond) ∈ tables_1_6 ∧ (.instanceMethod y_M_kill : Cond) ∈ tables_1_6 := zw_s (rfl : tables_1_6.drop 65 = _) fun h => zw_s h fun h => zw_g h fun h => zw_s h fun h => zw_g h fun h => zw_s h fun h => zw_g h fun h => zw_s h fun h => zw_s h fun h => zw_s h fun h => zw_g h fun h => zw_s h fun h => zw_g h fun h => zw_s h fun h => zw_g h fun h => zw_s h fun h => zw_g h fun h => zw_s h fun h => zw_g h fun h => zw_s h fun h => zw_g h fun h => zw_s h fun h => zw_s h fun h => zw_s h fun h => zw_g h fun h => zw_s h fun h => zw_s h fun h => zw_s h fun h => zw_g h fun h => zw_s h fun h => zw_e h
def wd_1265 := tbg_m6 zk6_2.1 rfl
def wd_1266 := tbg_m6 zk6_2.2.1 rfl
def wd_1268 := tbg_m6 zk6_2.2.2.1 rfl
def wd_1270 := tbg_m6 zk6_2.2.2.2.1 rfl
def wd_1272 := tbg_m6 zk6_2.2.2.2.2.1 rfl
def wd_1273 := tbg_m6 zk6_2.2.2.2.2.2.1 rfl
def wd_1274 := tbg_m6 zk6_2.2.2.2.2.2.2.1 rfl
def wd_1276 := tbg_m6 zk6_2.2.2.2.2.2.2.2.1 rfl
def wd_1278 := tbg_m6 zk6_2.2.2.2.2.2.2.2.2.1 rfl
def wd_1280 := tbg_m6 zk6_2.2.2.2.2.2.2.2.2.2.1 rfl
def wd_1282 := tbg_m6 zk6_2.2.2.2.2.2.2.2.2.2.2.1 rfl
def wd_1284 := tbg_m6 zk6_2.2.2.2.2.2.2.2.2.2.2.2.1 rfl
def wd_1286 := tbg_m6 zk6_2.2.2.2.2.2.2.2.2.2.2.2.2.1 rfl
def wd_1287 := tbg_m6 zk6_2.2.2.2.2.2.2.2.2.2.2.2.2.2.1 rfl
def wd_1288 := tbg_m6 zk6_2.2.2.2.2.2.2.2.2.2.2.2.2.2.2.1 rfl
def wd_1290 := tbg_m6 zk6_2.2.2.2.2.2.2.2.2.2.2.2.2.2.2.2.1 rfl
def wd_1291 := tbg_m6 zk6_2.2.2.2.2.2.2.2.2.2.2.2.2.2.2.2.2.1 rfl
def wd_1292 := tbg_m6 zk6_2.2.2.2.2.2.2.2.2.2.2.2.2.2.2.2.2.2.1 rfl
def wd_1294 := tbg_m6 zk6_2.2.2.2.2.2.2.2.2.2.2.2.2.2.2.2.2.2.2.1 rfl
def wd_1295 := tbg_m6 zk6_2.2.2.2.2.2.2.2.2.2.2.2.2.2.2.2.2.2.2.2 rfl
theorem zk6_3 : (.selects "QuotaLawsModel" y_M_kill y_M_kill : Cond) ∈ tables_1_6 ∧ (.methodLink "QuotaLawsModel" 270 y_M_triesOf : Cond) ∈ tables_1_6 ∧ (.instanceMethod y_M_triesOf : Cond) ∈ tables_1_6 ∧ (.methodLink "QuotaLawsLaw" 117 y_M_selfish : Cond) ∈ tables_1_6 ∧ (.instanceMethod y_M_selfish : Cond) ∈ tables_1_6 ∧ (.selects "QuotaLawsModel" y_M_selfish y_M_selfish : Cond) ∈ tables_1_6 ∧ (.constantLong "QuotaLawsModel" 273 (2) : Cond) ∈ tables_1_6 ∧ (.methodLink "QuotaLawsModel" 275 y_M_saves : Cond) ∈ tables_1_6 ∧ (.instanceMethod y_M_saves : Cond) ∈ tables_1_6 ∧ (.methodLink "QuotaLawsModel" 278 y_M_wantedBy : Cond) ∈ tables_1_6 ∧ (.instanceMethod y_M_wantedBy : Cond) ∈ tables_1_6 ∧ (.methodLink "QuotaLawsModel" 281 y_M_returns : Cond) ∈ tables_1_6 ∧ (.instanceMethod y_M_returns : Cond) ∈ tables_1_6 ∧ (.methodLink "QuotaLawsLaw" 122 y_M_luck : Cond) ∈ tables_1_6 ∧ (.instanceMethod y_M_luck : Cond) ∈ tables_1_6 ∧ (.selects "QuotaLawsModel" y_M_luck y_M_luck : Cond) ∈ tables_1_6 ∧ (.constantLong "QuotaLawsModel" 284 (-1) : Cond) ∈ tables_1_6 ∧ (.constantLong "QuotaLawsModel" 286 (10) : Cond) ∈ tables_1_6 ∧ (.methodLink "QuotaLawsModel" 288 y_M_common : Cond) ∈ tables_1_6 ∧ (.static y_M_common : Cond) ∈ tables_1_6 := zw_s (rfl : tables_1_6.drop 96 = _) fun h => zw_g h fun h => zw_s h fun h => zw_g h fun h => zw_s h fun h => zw_g h fun h => zw_s h fun h => zw_s h fun h => zw_s h fun h => zw_g h fun h => zw_s h fun h => zw_s h fun h => zw_g h fun h => zw_s h fun h => zw_g h fun h => zw_s h fun h => zw_g h fun h => zw_s h fun h => zw_g h fun h => zw_s h fun h => zw_g h fun h => zw_s h fun h => zw_g h fun h => zw_s h fun h => zw_s h fun h => zw_s h fun h => zw_g h fun h => zw_s h fun h => zw_s h fun h => zw_s h fun h => zw_e h
def wd_1296 := tbg_m6 zk6_3.1 rfl
def wd_1298 := tbg_m6 zk6_3.2.1 rfl
def wd_1300 := tbg_m6 zk6_3.2.2.1 rfl
def wd_1302 := tbg_m6 zk6_3.2.2.2.1 rfl
def wd_1303 := tbg_m6 zk6_3.2.2.2.2.1 rfl
def wd_1304 := tbg_m6 zk6_3.2.2.2.2.2.1 rfl
def wd_1306 := tbg_m6 zk6_3.2.2.2.2.2.2.1 rfl
def wd_1307 := tbg_m6 zk6_3.2.2.2.2.2.2.2.1 rfl
def wd_1309 := tbg_m6 zk6_3.2.2.2.2.2.2.2.2.1 rfl
def wd_1311 := tbg_m6 zk6_3.2.2.2.2.2.2.2.2.2.1 rfl
def wd_1313 := tbg_m6 zk6_3.2.2.2.2.2.2.2.2.2.2.1 rfl
def wd_1315 := tbg_m6 zk6_3.2.2.2.2.2.2.2.2.2.2.2.1 rfl
def wd_1317 := tbg_m6 zk6_3.2.2.2.2.2.2.2.2.2.2.2.2.1 rfl
def wd_1319 := tbg_m6 zk6_3.2.2.2.2.2.2.2.2.2.2.2.2.2.1 rfl
def wd_1320 := tbg_m6 zk6_3.2.2.2.2.2.2.2.2.2.2.2.2.2.2.1 rfl
def wd_1321 := tbg_m6 zk6_3.2.2.2.2.2.2.2.2.2.2.2.2.2.2.2.1 rfl
def wd_1323 := tbg_m6 zk6_3.2.2.2.2.2.2.2.2.2.2.2.2.2.2.2.2.1 rfl
def wd_1324 := tbg_m6 zk6_3.2.2.2.2.2.2.2.2.2.2.2.2.2.2.2.2.2.1 rfl
def wd_1325 := tbg_m6 zk6_3.2.2.2.2.2.2.2.2.2.2.2.2.2.2.2.2.2.2.1 rfl
def wd_1326 := tbg_m6 zk6_3.2.2.2.2.2.2.2.2.2.2.2.2.2.2.2.2.2.2.2 rfl
theorem zk6_4 : (.methodLink "QuotaLawsLaw" 127 y_M_see : Cond) ∈ tables_1_6 ∧ (.instanceMethod y_M_see : Cond) ∈ tables_1_6 ∧ (.selects "QuotaLawsModel" y_M_see y_M_see : Cond) ∈ tables_1_6 ∧ (.constantLong "QuotaLawsModel" 292 (20) : Cond) ∈ tables_1_6 ∧ (.methodLink "QuotaLawsLaw" 131 y_M_forget : Cond) ∈ tables_1_6 ∧ (.instanceMethod y_M_forget : Cond) ∈ tables_1_6 ∧ (.selects "QuotaLawsModel" y_M_forget y_M_forget : Cond) ∈ tables_1_6 ∧ (.methodLink "QuotaLawsLaw" 136 y_M_books : Cond) ∈ tables_1_6 ∧ (.instanceMethod y_M_books : Cond) ∈ tables_1_6 ∧ (.selects "QuotaLawsModel" y_M_books y_M_books : Cond) ∈ tables_1_6 ∧ (.methodLink "QuotaLawsModel" 315 y_M_tablesBy : Cond) ∈ tables_1_6 ∧ (.instanceMethod y_M_tablesBy : Cond) ∈ tables_1_6 ∧ (.methodLink "QuotaLawsModel" 309 y_M_addsLaw : Cond) ∈ tables_1_6 ∧ (.instanceMethod y_M_addsLaw : Cond) ∈ tables_1_6 ∧ (.methodLink "QuotaLawsModel" 294 y_M_mostOf : Cond) ∈ tables_1_6 ∧ (.instanceMethod y_M_mostOf : Cond) ∈ tables_1_6 ∧ (.methodLink "QuotaLawsModel" 297 y_M_isSo : Cond) ∈ tables_1_6 ∧ (.instanceMethod y_M_isSo : Cond) ∈ tables_1_6 ∧ (.methodLink "QuotaLawsModel" 301 y_M_isAsked : Cond) ∈ tables_1_6 ∧ (.instanceMethod y_M_isAsked : Cond) ∈ tables_1_6 := zw_s (rfl : tables_1_6.drop 128 = _) fun h => zw_s h fun h => zw_s h fun h => zw_g h fun h => zw_s h fun h => zw_s h fun h => zw_s h fun h => zw_s h fun h => zw_g h fun h => zw_s h fun h => zw_s h fun h => zw_s h fun h => zw_g h fun h => zw_s h fun h => zw_g h fun h => zw_s h fun h => zw_g h fun h => zw_s h fun h => zw_g h fun h => zw_s h fun h => zw_g h fun h => zw_s h fun h => zw_g h fun h => zw_s h fun h => zw_g h fun h => zw_s h fun h => zw_g h fun h => zw_s h fun h => zw_g h fun h => zw_s h fun h => zw_g h fun h => zw_e h
def wd_1328 := tbg_m6 zk6_4.1 rfl
def wd_1329 := tbg_m6 zk6_4.2.1 rfl
def wd_1330 := tbg_m6 zk6_4.2.2.1 rfl
def wd_1332 := tbg_m6 zk6_4.2.2.2.1 rfl
def wd_1333 := tbg_m6 zk6_4.2.2.2.2.1 rfl
def wd_1334 := tbg_m6 zk6_4.2.2.2.2.2.1 rfl
def wd_1335 := tbg_m6 zk6_4.2.2.2.2.2.2.1 rfl
def wd_1337 := tbg_m6 zk6_4.2.2.2.2.2.2.2.1 rfl
def wd_1338 := tbg_m6 zk6_4.2.2.2.2.2.2.2.2.1 rfl
def wd_1339 := tbg_m6 zk6_4.2.2.2.2.2.2.2.2.2.1 rfl
def wd_1341 := tbg_m6 zk6_4.2.2.2.2.2.2.2.2.2.2.1 rfl
def wd_1343 := tbg_m6 zk6_4.2.2.2.2.2.2.2.2.2.2.2.1 rfl
def wd_1345 := tbg_m6 zk6_4.2.2.2.2.2.2.2.2.2.2.2.2.1 rfl
def wd_1347 := tbg_m6 zk6_4.2.2.2.2.2.2.2.2.2.2.2.2.2.1 rfl
def wd_1349 := tbg_m6 zk6_4.2.2.2.2.2.2.2.2.2.2.2.2.2.2.1 rfl
def wd_1351 := tbg_m6 zk6_4.2.2.2.2.2.2.2.2.2.2.2.2.2.2.2.1 rfl
def wd_1353 := tbg_m6 zk6_4.2.2.2.2.2.2.2.2.2.2.2.2.2.2.2.2.1 rfl
def wd_1355 := tbg_m6 zk6_4.2.2.2.2.2.2.2.2.2.2.2.2.2.2.2.2.2.1 rfl
def wd_1357 := tbg_m6 zk6_4.2.2.2.2.2.2.2.2.2.2.2.2.2.2.2.2.2.2.1 rfl
def wd_1359 := tbg_m6 zk6_4.2.2.2.2.2.2.2.2.2.2.2.2.2.2.2.2.2.2.2 rfl
theorem zk6_5 : (.methodLink "QuotaLawsModel" 305 y_M_addsTables : Cond) ∈ tables_1_6 ∧ (.instanceMethod y_M_addsTables : Cond) ∈ tables_1_6 ∧ (.methodLink "QuotaLawsModel" 312 y_M_isTime : Cond) ∈ tables_1_6 ∧ (.instanceMethod y_M_isTime : Cond) ∈ tables_1_6 ∧ (.methodLink "QuotaLawsLaw" 140 y_M_entry : Cond) ∈ tables_1_6 ∧ (.instanceMethod y_M_entry : Cond) ∈ tables_1_6 ∧ (.selects "QuotaLawsModel" y_M_entry y_M_entry : Cond) ∈ tables_1_6 ∧ (.methodLink "QuotaLawsLaw" 144 y_M_wild : Cond) ∈ tables_1_6 ∧ (.instanceMethod y_M_wild : Cond) ∈ tables_1_6 ∧ (.selects "QuotaLawsModel" y_M_wild y_M_wild : Cond) ∈ tables_1_6 ∧ (.constantLong "QuotaLawsModel" 319 (60) : Cond) ∈ tables_1_6 ∧ (.constant "QuotaLawsModel" 321 (1103515245) : Cond) ∈ tables_1_6 ∧ (.methodLink "QuotaLawsModel" 322 y_M_breaks : Cond) ∈ tables_1_6 ∧ (.methodLink "QuotaLawsLaw" 148 y_M_keep : Cond) ∈ tables_1_6 ∧ (.instanceMethod y_M_keep : Cond) ∈ tables_1_6 ∧ (.selects "QuotaLawsModel" y_M_keep y_M_keep : Cond) ∈ tables_1_6 ∧ (.methodLink "QuotaLawsModel" 325 y_M_copies : Cond) ∈ tables_1_6 ∧ (.instanceMethod y_M_copies : Cond) ∈ tables_1_6 ∧ (.methodLink "QuotaLawsLaw" 152 y_M_back : Cond) ∈ tables_1_6 ∧ (.instanceMethod y_M_back : Cond) ∈ tables_1_6 ∧ (.selects "QuotaLawsModel" y_M_back y_M_back : Cond) ∈ tables_1_6 := zw_s (rfl : tables_1_6.drop 161 = _) fun h => zw_g h fun h => zw_s h fun h => zw_g h fun h => zw_s h fun h => zw_g h fun h => zw_s h fun h => zw_g h fun h => zw_s h fun h => zw_s h fun h => zw_s h fun h => zw_g h fun h => zw_s h fun h => zw_s h fun h => zw_s h fun h => zw_g h fun h => zw_s h fun h => zw_s h fun h => zw_s h fun h => zw_s h fun h => zw_s h fun h => zw_s h fun h => zw_g h fun h => zw_s h fun h => zw_g h fun h => zw_s h fun h => zw_g h fun h => zw_s h fun h => zw_s h fun h => zw_e h
def wd_1361 := tbg_m6 zk6_5.1 rfl
def wd_1363 := tbg_m6 zk6_5.2.1 rfl
def wd_1365 := tbg_m6 zk6_5.2.2.1 rfl
def wd_1367 := tbg_m6 zk6_5.2.2.2.1 rfl
def wd_1369 := tbg_m6 zk6_5.2.2.2.2.1 rfl
def wd_1370 := tbg_m6 zk6_5.2.2.2.2.2.1 rfl
def wd_1371 := tbg_m6 zk6_5.2.2.2.2.2.2.1 rfl
def wd_1373 := tbg_m6 zk6_5.2.2.2.2.2.2.2.1 rfl
def wd_1374 := tbg_m6 zk6_5.2.2.2.2.2.2.2.2.1 rfl
def wd_1375 := tbg_m6 zk6_5.2.2.2.2.2.2.2.2.2.1 rfl
def wd_1377 := tbg_m6 zk6_5.2.2.2.2.2.2.2.2.2.2.1 rfl
def wd_1378 := tbg_m6 zk6_5.2.2.2.2.2.2.2.2.2.2.2.1 rfl
def wd_1379 := tbg_m6 zk6_5.2.2.2.2.2.2.2.2.2.2.2.2.1 rfl
def wd_1380 := tbg_m6 zk6_5.2.2.2.2.2.2.2.2.2.2.2.2.2.1 rfl
def wd_1381 := tbg_m6 zk6_5.2.2.2.2.2.2.2.2.2.2.2.2.2.2.1 rfl
def wd_1382 := tbg_m6 zk6_5.2.2.2.2.2.2.2.2.2.2.2.2.2.2.2.1 rfl
def wd_1384 := tbg_m6 zk6_5.2.2.2.2.2.2.2.2.2.2.2.2.2.2.2.2.1 rfl
def wd_1386 := tbg_m6 zk6_5.2.2.2.2.2.2.2.2.2.2.2.2.2.2.2.2.2.1 rfl
def wd_1388 := tbg_m6 zk6_5.2.2.2.2.2.2.2.2.2.2.2.2.2.2.2.2.2.2.1 rfl
def wd_1389 := tbg_m6 zk6_5.2.2.2.2.2.2.2.2.2.2.2.2.2.2.2.2.2.2.2.1 rfl
def wd_1390 := tbg_m6 zk6_5.2.2.2.2.2.2.2.2.2.2.2.2.2.2.2.2.2.2.2.2 rfl
theorem zk6_6 : (.methodLink "QuotaLawsLaw" 156 y_M_sheet : Cond) ∈ tables_1_6 ∧ (.instanceMethod y_M_sheet : Cond) ∈ tables_1_6 ∧ (.selects "QuotaLawsModel" y_M_sheet y_M_sheet : Cond) ∈ tables_1_6 ∧ (.methodLink "QuotaLawsModel" 329 y_M_isSheet : Cond) ∈ tables_1_6 ∧ (.static y_M_isSheet : Cond) ∈ tables_1_6 ∧ (.methodLink "QuotaLawsLaw" 160 y_M_lay : Cond) ∈ tables_1_6 ∧ (.instanceMethod y_M_lay : Cond) ∈ tables_1_6 ∧ (.selects "QuotaLawsModel" y_M_lay y_M_lay : Cond) ∈ tables_1_6 ∧ (.methodLink "QuotaLawsLaw" 165 y_M_read : Cond) ∈ tables_1_6 ∧ (.instanceMethod y_M_read : Cond) ∈ tables_1_6 ∧ (.selects "QuotaLawsModel" y_M_read y_M_read : Cond) ∈ tables_1_6 ∧ (.methodLink "QuotaLawsLaw" 169 y_M_torn : Cond) ∈ tables_1_6 ∧ (.instanceMethod y_M_torn : Cond) ∈ tables_1_6 ∧ (.selects "QuotaLawsModel" y_M_torn y_M_torn : Cond) ∈ tables_1_6 ∧ (.methodLink "QuotaLawsLaw" 173 y_M_count : Cond) ∈ tables_1_6 ∧ (.instanceMethod y_M_count : Cond) ∈ tables_1_6 ∧ (.selects "QuotaLawsModel" y_M_count y_M_count : Cond) ∈ tables_1_6 ∧ (.fieldLink "java/lang/String" 9 "java/lang/String" "value" "[B" : Cond) ∈ tables_1_6 ∧ (.fieldLink "java/lang/String" 15 "java/lang/String" "coder" "B" : Cond) ∈ tables_1_6 := zw_s (rfl : tables_1_6.drop 192 = _) fun h => zw_s h fun h => zw_s h fun h => zw_g h fun h => zw_s h fun h => zw_s h fun h => zw_g h fun h => zw_s h fun h => zw_s h fun h => zw_s h fun h => zw_g h fun h => zw_s h fun h => zw_s h fun h => zw_s h fun h => zw_g h fun h => zw_s h fun h => zw_s h fun h => zw_s h fun h => zw_g h fun h => zw_s h fun h => zw_s h fun h => zw_s h fun h => zw_g h fun h => zw_s h fun h => zw_e h
def wd_1392 := tbg_m6 zk6_6.1 rfl
def wd_1393 := tbg_m6 zk6_6.2.1 rfl
def wd_1394 := tbg_m6 zk6_6.2.2.1 rfl
def wd_1396 := tbg_m6 zk6_6.2.2.2.1 rfl
def wd_1397 := tbg_m6 zk6_6.2.2.2.2.1 rfl
def wd_1399 := tbg_m6 zk6_6.2.2.2.2.2.1 rfl
def wd_1400 := tbg_m6 zk6_6.2.2.2.2.2.2.1 rfl
def wd_1401 := tbg_m6 zk6_6.2.2.2.2.2.2.2.1 rfl
def wd_1403 := tbg_m6 zk6_6.2.2.2.2.2.2.2.2.1 rfl
def wd_1404 := tbg_m6 zk6_6.2.2.2.2.2.2.2.2.2.1 rfl
def wd_1405 := tbg_m6 zk6_6.2.2.2.2.2.2.2.2.2.2.1 rfl
def wd_1407 := tbg_m6 zk6_6.2.2.2.2.2.2.2.2.2.2.2.1 rfl
def wd_1408 := tbg_m6 zk6_6.2.2.2.2.2.2.2.2.2.2.2.2.1 rfl
def wd_1409 := tbg_m6 zk6_6.2.2.2.2.2.2.2.2.2.2.2.2.2.1 rfl
def wd_1411 := tbg_m6 zk6_6.2.2.2.2.2.2.2.2.2.2.2.2.2.2.1 rfl
def wd_1412 := tbg_m6 zk6_6.2.2.2.2.2.2.2.2.2.2.2.2.2.2.2.1 rfl
def wd_1413 := tbg_m6 zk6_6.2.2.2.2.2.2.2.2.2.2.2.2.2.2.2.2.1 rfl
def wd_1415 := tbg_m6 zk6_6.2.2.2.2.2.2.2.2.2.2.2.2.2.2.2.2.2.1 rfl
def wd_1416 := tbg_m6 zk6_6.2.2.2.2.2.2.2.2.2.2.2.2.2.2.2.2.2.2 rfl
end
/-! 05b.code -/
section
set_option maxRecDepth 100000 in
theorem wd_22 : (.code y_Q_new prog_1_method_1_code 2 none : Cond) ∈ tbg := tbg_c1 22 rfl rfl
set_option maxRecDepth 100000 in
theorem wd_25 : (.code Lib.objectInit ⟨#[0xb1]⟩ 1 none : Cond) ∈ tbg := tbg_c1 25 rfl rfl
set_option maxRecDepth 100000 in
theorem wd_30 : (.code y_Reader_new prog_4_method_1_code 1 none : Cond) ∈ tbg := tbg_c1 30 rfl rfl
set_option maxRecDepth 100000 in
theorem wd_69 : (.code y_Realm_new prog_5_method_1_code 1 none : Cond) ∈ tbg := tbg_c1 69 rfl rfl
set_option maxRecDepth 100000 in
theorem wd_75 : (.code y_Sightings_new prog_7_method_1_code 1 none : Cond) ∈ tbg := tbg_c1 75 rfl rfl
set_option maxRecDepth 100000 in
theorem wd_202 : (.code y_Planner_new prog_3_method_1_code 1 none : Cond) ∈ tbg := tbg_c1 202 rfl rfl
set_option maxRecDepth 100000 in
theorem wd_234 : (.code y_Tables_new prog_8_method_1_code 1 none : Cond) ∈ tbg := tbg_c1 234 rfl rfl
set_option maxRecDepth 100000 in
theorem wd_266 : (.code y_Odds_new prog_2_method_1_code 1 none : Cond) ∈ tbg := tbg_c2 26 rfl rfl
set_option maxRecDepth 100000 in
theorem wd_283 : (.code y_Sheet_new prog_6_method_1_code 1 none : Cond) ∈ tbg := tbg_c2 43 rfl rfl
set_option maxRecDepth 100000 in
theorem wd_330 : (.code y_Q_feed prog_1_method_2_code 2 (some .int) : Cond) ∈ tbg := tbg_c2 90 rfl rfl
set_option maxRecDepth 100000 in
theorem wd_333 : (.code y_Q_isWithin prog_1_method_41_code 3 (some .boolean) : Cond) ∈ tbg := tbg_c2 93 rfl rfl
set_option maxRecDepth 100000 in
theorem wd_337 : (.code y_Reader_append prog_4_method_2_code 2 (some .boolean) : Cond) ∈ tbg := tbg_c2 97 rfl rfl
set_option maxRecDepth 100000 in
theorem wd_341 : (.code y_Q_end prog_1_method_3_code 3 (some .int) : Cond) ∈ tbg := tbg_c2 101 rfl rfl
set_option maxRecDepth 100000 in
theorem wd_345 : (.code y_Q_text prog_1_method_4_code 3 (some .int) : Cond) ∈ tbg := tbg_c2 105 rfl rfl
set_option maxRecDepth 100000 in
theorem wd_349 : (.code y_Reader_readInto prog_4_method_3_code 4 (some .boolean) : Cond) ∈ tbg := tbg_c2 109 rfl rfl
set_option maxRecDepth 100000 in
theorem wd_353 : (.code y_Realm_empty prog_5_method_2_code 1 none : Cond) ∈ tbg := tbg_c2 113 rfl rfl
set_option maxRecDepth 100000 in
theorem wd_356 : (.code y_Arrays_fillI prog_17_method_103_code 4 none : Cond) ∈ tbg := tbg_c2 116 rfl rfl
set_option maxRecDepth 100000 in
theorem wd_360 : (.code y_Reader_takeToken prog_4_method_17_code 1 (some .boolean) : Cond) ∈ tbg := tbg_c2 120 rfl rfl
set_option maxRecDepth 100000 in
theorem wd_364 : (.code y_Reader_passRun prog_4_method_19_code 3 none : Cond) ∈ tbg := tbg_c2 124 rfl rfl
set_option maxRecDepth 100000 in
theorem wd_368 : (.code y_Reader_kindHere prog_4_method_18_code 2 (some .int) : Cond) ∈ tbg := tbg_c2 128 rfl rfl
set_option maxRecDepth 100000 in
theorem wd_372 : (.code y_Reader_valueOfRun prog_4_method_20_code 3 (some .int) : Cond) ∈ tbg := tbg_c2 132 rfl rfl
set_option maxRecDepth 100000 in
theorem wd_376 : (.code y_Reader_fail prog_4_method_21_code 3 (some .boolean) : Cond) ∈ tbg := tbg_c2 136 rfl rfl
set_option maxRecDepth 100000 in
theorem wd_380 : (.code y_Reader_takeLine prog_4_method_4_code 2 (some .boolean) : Cond) ∈ tbg := tbg_c2 140 rfl rfl
set_option maxRecDepth 100000 in
theorem wd_385 : (.code y_Reader_isWord prog_4_method_16_code 3 (some .boolean) : Cond) ∈ tbg := tbg_c2 145 rfl rfl
set_option maxRecDepth 100000 in
theorem wd_389 : (.code y_String_length prog_13_method_54_code 1 (some .int) : Cond) ∈ tbg := tbg_c2 149 rfl rfl
set_option maxRecDepth 100000 in
theorem wd_393 : (.code y_String_coder prog_13_method_152_code 1 (some .byte) : Cond) ∈ tbg := tbg_c2 153 rfl rfl
set_option maxRecDepth 100000 in
theorem wd_399 : (.code y_String_charAt prog_13_method_56_code 2 (some .char) : Cond) ∈ tbg := tbg_c2 159 rfl rfl
set_option maxRecDepth 100000 in
theorem wd_403 : (.code y_String_isLatin1 prog_13_method_154_code 1 (some .boolean) : Cond) ∈ tbg := tbg_c2 163 rfl rfl
set_option maxRecDepth 100000 in
theorem wd_406 : (.code y_StringLatin1_charAt prog_14_method_2_code 2 (some .char) : Cond) ∈ tbg := tbg_c2 166 rfl rfl
set_option maxRecDepth 100000 in
theorem wd_409 : (.code y_String_checkIndex prog_13_method_155_code 2 none : Cond) ∈ tbg := tbg_c2 169 rfl rfl
set_option maxRecDepth 100000 in
theorem wd_414 : (.code y_Preconditions_checkIndex prog_18_method_11_code 3 (some .int) : Cond) ∈ tbg := tbg_c2 174 rfl rfl
set_option maxRecDepth 100000 in
theorem wd_437 : (.code y_Reader_takeLaw prog_4_method_5_code 3 (some .boolean) : Cond) ∈ tbg := tbg_c2 197 rfl rfl
set_option maxRecDepth 100000 in
theorem wd_441 : (.code y_Reader_takeNumber prog_4_method_13_code 3 (some .boolean) : Cond) ∈ tbg := tbg_c2 201 rfl rfl
set_option maxRecDepth 100000 in
theorem wd_445 : (.code y_Reader_isBounded prog_4_method_14_code 3 (some .boolean) : Cond) ∈ tbg := tbg_c2 205 rfl rfl
set_option maxRecDepth 100000 in
theorem wd_450 : (.code y_Reader_putInto prog_4_method_12_code 3 (some .boolean) : Cond) ∈ tbg := tbg_c2 210 rfl rfl
set_option maxRecDepth 100000 in
theorem wd_454 : (.code y_Reader_takeCarried prog_4_method_6_code 3 (some .boolean) : Cond) ∈ tbg := tbg_c2 214 rfl rfl
set_option maxRecDepth 100000 in
theorem wd_458 : (.code y_Reader_isStop prog_4_method_15_code 1 (some .boolean) : Cond) ∈ tbg := tbg_c2 218 rfl rfl
set_option maxRecDepth 100000 in
theorem wd_463 : (.code y_Reader_takeOne prog_4_method_7_code 5 (some .boolean) : Cond) ∈ tbg := tbg_c2 223 rfl rfl
set_option maxRecDepth 100000 in
theorem wd_467 : (.code y_Reader_addLaw prog_4_method_10_code 3 (some .boolean) : Cond) ∈ tbg := tbg_c2 227 rfl rfl
set_option maxRecDepth 100000 in
theorem wd_470 : (.code y_Q_hasBit prog_1_method_42_code 2 (some .boolean) : Cond) ∈ tbg := tbg_c2 230 rfl rfl
set_option maxRecDepth 100000 in
theorem wd_475 : (.code y_Reader_takeWant prog_4_method_8_code 3 (some .boolean) : Cond) ∈ tbg := tbg_c2 235 rfl rfl
set_option maxRecDepth 100000 in
theorem wd_480 : (.code y_Reader_takeWatch prog_4_method_9_code 2 (some .boolean) : Cond) ∈ tbg := tbg_c3 0 rfl rfl
set_option maxRecDepth 100000 in
theorem wd_483 : (.code y_Reader_allThere prog_4_method_11_code 4 (some .boolean) : Cond) ∈ tbg := tbg_c3 3 rfl rfl
set_option maxRecDepth 100000 in
theorem wd_486 : (.code y_Q_isPart prog_1_method_45_code 2 (some .boolean) : Cond) ∈ tbg := tbg_c3 6 rfl rfl
set_option maxRecDepth 100000 in
theorem wd_490 : (.code y_Realm_hasLaw prog_5_method_4_code 2 (some .boolean) : Cond) ∈ tbg := tbg_c3 10 rfl rfl
set_option maxRecDepth 100000 in
theorem wd_494 : (.code y_Realm_hasOne prog_5_method_5_code 2 (some .boolean) : Cond) ∈ tbg := tbg_c3 14 rfl rfl
set_option maxRecDepth 100000 in
theorem wd_498 : (.code y_Realm_copyFrom prog_5_method_3_code 2 none : Cond) ∈ tbg := tbg_c3 18 rfl rfl
set_option maxRecDepth 100000 in
theorem wd_505 : (.code y_Sightings_copyFrom prog_7_method_4_code 2 none : Cond) ∈ tbg := tbg_c3 25 rfl rfl
set_option maxRecDepth 100000 in
theorem wd_510 : (.code y_Q_fault prog_1_method_5_code 1 (some .int) : Cond) ∈ tbg := tbg_c3 30 rfl rfl
set_option maxRecDepth 100000 in
theorem wd_514 : (.code y_Q_rule prog_1_method_6_code 2 (some .int) : Cond) ∈ tbg := tbg_c3 34 rfl rfl
set_option maxRecDepth 100000 in
theorem wd_518 : (.code y_Q_law prog_1_method_7_code 3 (some .int) : Cond) ∈ tbg := tbg_c3 38 rfl rfl
set_option maxRecDepth 100000 in
theorem wd_523 : (.code y_Realm_needOf prog_5_method_10_code 4 (some .int) : Cond) ∈ tbg := tbg_c3 43 rfl rfl
set_option maxRecDepth 100000 in
theorem wd_528 : (.code y_Realm_brokenBy prog_5_method_7_code 3 (some .int) : Cond) ∈ tbg := tbg_c3 48 rfl rfl
set_option maxRecDepth 100000 in
theorem wd_531 : (.code Lib.Math.max.name Lib.Math.max.code 2 (some .int) : Cond) ∈ tbg := tbg_c3 51 rfl rfl
set_option maxRecDepth 100000 in
theorem wd_535 : (.code y_Realm_chainOf prog_5_method_13_code 5 (some .int) : Cond) ∈ tbg := tbg_c3 55 rfl rfl
set_option maxRecDepth 100000 in
theorem wd_540 : (.code y_Q_one prog_1_method_8_code 3 (some .int) : Cond) ∈ tbg := tbg_c3 60 rfl rfl
set_option maxRecDepth 100000 in
theorem wd_545 : (.code y_Realm_brokenByOne prog_5_method_8_code 4 (some .int) : Cond) ∈ tbg := tbg_c3 65 rfl rfl
set_option maxRecDepth 100000 in
theorem wd_549 : (.code y_Realm_breakable prog_5_method_18_code 4 (some .int) : Cond) ∈ tbg := tbg_c3 69 rfl rfl
set_option maxRecDepth 100000 in
theorem wd_553 : (.code y_Realm_ableAlone prog_5_method_16_code 3 (some .int) : Cond) ∈ tbg := tbg_c3 73 rfl rfl
set_option maxRecDepth 100000 in
theorem wd_557 : (.code y_Realm_roomOf prog_5_method_14_code 4 (some .int) : Cond) ∈ tbg := tbg_c3 77 rfl rfl
set_option maxRecDepth 100000 in
theorem wd_561 : (.code y_Realm_timeLeft prog_5_method_15_code 2 (some .int) : Cond) ∈ tbg := tbg_c3 81 rfl rfl
set_option maxRecDepth 100000 in
theorem wd_565 : (.code Lib.Math.min.name Lib.Math.min.code 2 (some .int) : Cond) ∈ tbg := tbg_c3 85 rfl rfl
set_option maxRecDepth 100000 in
theorem wd_569 : (.code y_Q_broken prog_1_method_9_code 3 (some .int) : Cond) ∈ tbg := tbg_c3 89 rfl rfl
set_option maxRecDepth 100000 in
theorem wd_573 : (.code y_Realm_hasBoth prog_5_method_6_code 3 (some .boolean) : Cond) ∈ tbg := tbg_c3 93 rfl rfl
set_option maxRecDepth 100000 in
theorem wd_579 : (.code y_Q_quota prog_1_method_10_code 4 (some .int) : Cond) ∈ tbg := tbg_c3 99 rfl rfl
set_option maxRecDepth 100000 in
theorem wd_583 : (.code y_Q_carry prog_1_method_11_code 4 (some .int) : Cond) ∈ tbg := tbg_c3 103 rfl rfl
set_option maxRecDepth 100000 in
theorem wd_587 : (.code y_Q_watch prog_1_method_12_code 4 (some .int) : Cond) ∈ tbg := tbg_c3 107 rfl rfl
set_option maxRecDepth 100000 in
theorem wd_590 : (.code y_Q_bitOf prog_1_method_43_code 2 (some .int) : Cond) ∈ tbg := tbg_c3 110 rfl rfl
set_option maxRecDepth 100000 in
theorem wd_593 : (.code y_Q_withBit prog_1_method_44_code 3 (some .int) : Cond) ∈ tbg := tbg_c3 113 rfl rfl
set_option maxRecDepth 100000 in
theorem wd_597 : (.code y_Q_time prog_1_method_13_code 4 (some .int) : Cond) ∈ tbg := tbg_c3 117 rfl rfl
set_option maxRecDepth 100000 in
theorem wd_601 : (.code y_Q_refuse prog_1_method_14_code 5 (some .int) : Cond) ∈ tbg := tbg_c3 121 rfl rfl
set_option maxRecDepth 100000 in
theorem wd_605 : (.code y_Q_want prog_1_method_15_code 5 (some .int) : Cond) ∈ tbg := tbg_c3 125 rfl rfl
set_option maxRecDepth 100000 in
theorem wd_609 : (.code y_Q_fund prog_1_method_16_code 4 (some .int) : Cond) ∈ tbg := tbg_c3 129 rfl rfl
set_option maxRecDepth 100000 in
theorem wd_613 : (.code y_Q_revive prog_1_method_17_code 2 (some .int) : Cond) ∈ tbg := tbg_c3 133 rfl rfl
set_option maxRecDepth 100000 in
theorem wd_617 : (.code y_Integer_bitCount prog_11_method_49_code 1 (some .int) : Cond) ∈ tbg := tbg_c3 137 rfl rfl
set_option maxRecDepth 100000 in
theorem wd_624 : (.code y_Q_breaks prog_1_method_18_code 3 (some .int) : Cond) ∈ tbg := tbg_c3 144 rfl rfl
set_option maxRecDepth 100000 in
theorem wd_628 : (.code y_Realm_breakOnce prog_5_method_19_code 4 (some .int) : Cond) ∈ tbg := tbg_c3 148 rfl rfl
set_option maxRecDepth 100000 in
theorem wd_633 : (.code y_Realm_mark prog_5_method_20_code 4 (some .int) : Cond) ∈ tbg := tbg_c3 153 rfl rfl
set_option maxRecDepth 100000 in
theorem wd_637 : (.code y_Q_year prog_1_method_19_code 1 (some .int) : Cond) ∈ tbg := tbg_c3 157 rfl rfl
set_option maxRecDepth 100000 in
theorem wd_641 : (.code y_Realm_endYear prog_5_method_22_code 2 (some .int) : Cond) ∈ tbg := tbg_c3 161 rfl rfl
set_option maxRecDepth 100000 in
theorem wd_645 : (.code y_Realm_lapsing prog_5_method_21_code 3 (some .int) : Cond) ∈ tbg := tbg_c3 165 rfl rfl
set_option maxRecDepth 100000 in
theorem wd_651 : (.code y_Q_falls prog_1_method_20_code 1 (some .int) : Cond) ∈ tbg := tbg_c3 171 rfl rfl
set_option maxRecDepth 100000 in
theorem wd_656 : (.code y_Q_most prog_1_method_21_code 6 (some .int) : Cond) ∈ tbg := tbg_c3 176 rfl rfl
set_option maxRecDepth 100000 in
theorem wd_660 : (.code y_Q_rota prog_1_method_22_code 5 (some .int) : Cond) ∈ tbg := tbg_c3 180 rfl rfl
set_option maxRecDepth 100000 in
theorem wd_664 : (.code y_Planner_load prog_3_method_2_code 4 none : Cond) ∈ tbg := tbg_c3 184 rfl rfl
set_option maxRecDepth 100000 in
theorem wd_673 : (.code y_Planner_leastHarm prog_3_method_7_code 4 (some .int) : Cond) ∈ tbg := tbg_c3 193 rfl rfl
set_option maxRecDepth 100000 in
theorem wd_678 : (.code y_Planner_leftToLast prog_3_method_9_code 4 (some .int) : Cond) ∈ tbg := tbg_c3 198 rfl rfl
set_option maxRecDepth 100000 in
theorem wd_681 : (.code y_Planner_stateOf prog_3_method_10_code 3 (some .int) : Cond) ∈ tbg := tbg_c3 201 rfl rfl
set_option maxRecDepth 100000 in
theorem wd_685 : (.code y_Planner_search prog_3_method_11_code 12 (some .int) : Cond) ∈ tbg := tbg_c3 205 rfl rfl
set_option maxRecDepth 100000 in
theorem wd_691 : (.code y_Planner_timesInFirst prog_3_method_8_code 6 (some .int) : Cond) ∈ tbg := tbg_c3 211 rfl rfl
set_option maxRecDepth 100000 in
theorem wd_695 : (.code y_Q_more prog_1_method_23_code 3 (some .int) : Cond) ∈ tbg := tbg_c3 215 rfl rfl
set_option maxRecDepth 100000 in
theorem wd_699 : (.code y_Planner_grant prog_3_method_3_code 3 none : Cond) ∈ tbg := tbg_c3 219 rfl rfl
set_option maxRecDepth 100000 in
theorem wd_704 : (.code y_Planner_canMeet prog_3_method_4_code 3 (some .boolean) : Cond) ∈ tbg := tbg_c3 224 rfl rfl
set_option maxRecDepth 100000 in
theorem wd_709 : (.code y_Planner_needOfAll prog_3_method_5_code 4 (some .int) : Cond) ∈ tbg := tbg_c3 229 rfl rfl
set_option maxRecDepth 100000 in
theorem wd_714 : (.code y_Planner_givenTo prog_3_method_6_code 6 (some .int) : Cond) ∈ tbg := tbg_c3 234 rfl rfl
set_option maxRecDepth 100000 in
theorem wd_718 : (.code y_Q_together prog_1_method_24_code 5 (some .int) : Cond) ∈ tbg := tbg_c3 238 rfl rfl
set_option maxRecDepth 100000 in
theorem wd_723 : (.code y_Q_kill prog_1_method_25_code 6 (some .int) : Cond) ∈ tbg := tbg_c4 3 rfl rfl
set_option maxRecDepth 100000 in
theorem wd_727 : (.code y_Realm_ableWithout prog_5_method_17_code 5 (some .int) : Cond) ∈ tbg := tbg_c4 7 rfl rfl
set_option maxRecDepth 100000 in
theorem wd_731 : (.code y_Q_selfish prog_1_method_26_code 3 (some .int) : Cond) ∈ tbg := tbg_c4 11 rfl rfl
set_option maxRecDepth 100000 in
theorem wd_735 : (.code y_Realm_eachForHimself prog_5_method_24_code 6 (some .int) : Cond) ∈ tbg := tbg_c4 15 rfl rfl
set_option maxRecDepth 100000 in
theorem wd_739 : (.code y_Realm_mostNeeded prog_5_method_25_code 6 (some .int) : Cond) ∈ tbg := tbg_c4 19 rfl rfl
set_option maxRecDepth 100000 in
theorem wd_744 : (.code y_Realm_met prog_5_method_23_code 3 (some .int) : Cond) ∈ tbg := tbg_c4 24 rfl rfl
set_option maxRecDepth 100000 in
theorem wd_748 : (.code y_Q_luck prog_1_method_27_code 3 (some .long) : Cond) ∈ tbg := tbg_c4 28 rfl rfl
set_option maxRecDepth 100000 in
theorem wd_753 : (.code y_Odds_weigh prog_2_method_2_code 6 none : Cond) ∈ tbg := tbg_c4 33 rfl rfl
set_option maxRecDepth 100000 in
theorem wd_756 : (.code y_Arrays_fillJ prog_17_method_101_code 5 none : Cond) ∈ tbg := tbg_c4 36 rfl rfl
set_option maxRecDepth 100000 in
theorem wd_761 : (.code y_Odds_addTry prog_2_method_3_code 3 none : Cond) ∈ tbg := tbg_c4 41 rfl rfl
set_option maxRecDepth 100000 in
theorem wd_767 : (.code y_Odds_reduce prog_2_method_4_code 8 none : Cond) ∈ tbg := tbg_c4 47 rfl rfl
set_option maxRecDepth 100000 in
theorem wd_771 : (.code y_Q_see prog_1_method_28_code 5 (some .int) : Cond) ∈ tbg := tbg_c4 51 rfl rfl
set_option maxRecDepth 100000 in
theorem wd_775 : (.code y_Sightings_append prog_7_method_2_code 4 (some .boolean) : Cond) ∈ tbg := tbg_c4 55 rfl rfl
set_option maxRecDepth 100000 in
theorem wd_779 : (.code y_Q_forget prog_1_method_29_code 3 (some .int) : Cond) ∈ tbg := tbg_c4 59 rfl rfl
set_option maxRecDepth 100000 in
theorem wd_783 : (.code y_Q_books prog_1_method_30_code 1 (some .long) : Cond) ∈ tbg := tbg_c4 63 rfl rfl
set_option maxRecDepth 100000 in
theorem wd_787 : (.code y_Tables_load prog_8_method_2_code 6 none : Cond) ∈ tbg := tbg_c4 67 rfl rfl
set_option maxRecDepth 100000 in
theorem wd_792 : (.code y_Sightings_sumDue prog_7_method_3_code 5 (some .int) : Cond) ∈ tbg := tbg_c4 72 rfl rfl
set_option maxRecDepth 100000 in
theorem wd_798 : (.code y_Tables_fitting prog_8_method_4_code 3 (some .long) : Cond) ∈ tbg := tbg_c4 78 rfl rfl
set_option maxRecDepth 100000 in
theorem wd_803 : (.code y_Tables_spendAlone prog_8_method_5_code 9 none : Cond) ∈ tbg := tbg_c4 83 rfl rfl
set_option maxRecDepth 100000 in
theorem wd_807 : (.code y_Tables_joinAll prog_8_method_6_code 4 none : Cond) ∈ tbg := tbg_c4 87 rfl rfl
set_option maxRecDepth 100000 in
theorem wd_810 : (.code y_Tables_stateOf prog_8_method_11_code 3 (some .int) : Cond) ∈ tbg := tbg_c4 90 rfl rfl
set_option maxRecDepth 100000 in
theorem wd_814 : (.code y_Tables_spendTogether prog_8_method_7_code 5 none : Cond) ∈ tbg := tbg_c4 94 rfl rfl
set_option maxRecDepth 100000 in
theorem wd_818 : (.code y_Tables_waysTo prog_8_method_8_code 13 (some .long) : Cond) ∈ tbg := tbg_c4 98 rfl rfl
set_option maxRecDepth 100000 in
theorem wd_824 : (.code y_Tables_sumOfDue prog_8_method_9_code 6 (some .long) : Cond) ∈ tbg := tbg_c4 104 rfl rfl
set_option maxRecDepth 100000 in
theorem wd_828 : (.code y_Tables_isDueOf prog_8_method_10_code 3 (some .boolean) : Cond) ∈ tbg := tbg_c4 108 rfl rfl
set_option maxRecDepth 100000 in
theorem wd_832 : (.code y_Q_entry prog_1_method_31_code 4 (some .int) : Cond) ∈ tbg := tbg_c4 112 rfl rfl
set_option maxRecDepth 100000 in
theorem wd_836 : (.code y_Tables_firstThatFits prog_8_method_3_code 8 (some .int) : Cond) ∈ tbg := tbg_c4 116 rfl rfl
set_option maxRecDepth 100000 in
theorem wd_841 : (.code y_Q_wild prog_1_method_32_code 5 (some .int) : Cond) ∈ tbg := tbg_c4 121 rfl rfl
set_option maxRecDepth 100000 in
theorem wd_845 : (.code y_Realm_breakBySeed prog_5_method_26_code 8 (some .int) : Cond) ∈ tbg := tbg_c4 125 rfl rfl
set_option maxRecDepth 100000 in
theorem wd_848 : (.code y_Realm_nextSeed prog_5_method_27_code 1 (some .int) : Cond) ∈ tbg := tbg_c4 128 rfl rfl
set_option maxRecDepth 100000 in
theorem wd_852 : (.code y_Realm_drawn prog_5_method_28_code 1 (some .int) : Cond) ∈ tbg := tbg_c4 132 rfl rfl
set_option maxRecDepth 100000 in
theorem wd_857 : (.code y_Q_keep prog_1_method_33_code 3 (some .int) : Cond) ∈ tbg := tbg_c4 137 rfl rfl
set_option maxRecDepth 100000 in
theorem wd_861 : (.code y_Q_back prog_1_method_34_code 2 (some .int) : Cond) ∈ tbg := tbg_c4 141 rfl rfl
set_option maxRecDepth 100000 in
theorem wd_865 : (.code y_Q_sheet prog_1_method_35_code 4 (some .int) : Cond) ∈ tbg := tbg_c4 145 rfl rfl
set_option maxRecDepth 100000 in
theorem wd_869 : (.code y_Sheet_renew prog_6_method_2_code 3 none : Cond) ∈ tbg := tbg_c4 149 rfl rfl
set_option maxRecDepth 100000 in
theorem wd_874 : (.code y_Q_lay prog_1_method_36_code 5 (some .int) : Cond) ∈ tbg := tbg_c4 154 rfl rfl
set_option maxRecDepth 100000 in
theorem wd_878 : (.code y_Sheet_faultAt prog_6_method_5_code 3 (some .int) : Cond) ∈ tbg := tbg_c4 158 rfl rfl
set_option maxRecDepth 100000 in
theorem wd_882 : (.code y_Sheet_put prog_6_method_3_code 3 none : Cond) ∈ tbg := tbg_c4 162 rfl rfl
set_option maxRecDepth 100000 in
theorem wd_886 : (.code y_Q_read prog_1_method_37_code 11 (some .int) : Cond) ∈ tbg := tbg_c4 166 rfl rfl
set_option maxRecDepth 100000 in
theorem wd_890 : (.code y_Sheet_faultAs prog_6_method_7_code 2 (some .int) : Cond) ∈ tbg := tbg_c4 170 rfl rfl
set_option maxRecDepth 100000 in
theorem wd_894 : (.code y_Sheet_faultOfPair prog_6_method_6_code 4 (some .int) : Cond) ∈ tbg := tbg_c4 174 rfl rfl
set_option maxRecDepth 100000 in
theorem wd_899 : (.code y_Sheet_cellAt prog_6_method_4_code 3 (some .int) : Cond) ∈ tbg := tbg_c4 179 rfl rfl
set_option maxRecDepth 100000 in
theorem wd_903 : (.code y_Q_torn prog_1_method_38_code 1 (some .int) : Cond) ∈ tbg := tbg_c4 183 rfl rfl
set_option maxRecDepth 100000 in
theorem wd_907 : (.code y_Q_count prog_1_method_39_code 2 (some .int) : Cond) ∈ tbg := tbg_c4 187 rfl rfl
set_option maxRecDepth 100000 in
theorem wd_911 : (.code y_Realm_brokenInAll prog_5_method_9_code 3 (some .int) : Cond) ∈ tbg := tbg_c4 191 rfl rfl
set_option maxRecDepth 100000 in
theorem wd_915 : (.code y_Q_countKept prog_1_method_40_code 3 (some .int) : Cond) ∈ tbg := tbg_c4 195 rfl rfl
set_option maxRecDepth 100000 in
theorem wd_919 : (.code y_Realm_allPurses prog_5_method_12_code 3 (some .int) : Cond) ∈ tbg := tbg_c4 199 rfl rfl
set_option maxRecDepth 100000 in
theorem wd_923 : (.code y_Realm_allNeed prog_5_method_11_code 3 (some .int) : Cond) ∈ tbg := tbg_c4 203 rfl rfl
set_option maxRecDepth 100000 in
theorem wd_928 : (.code y_M_new prog_10_method_1_code 2 none : Cond) ∈ tbg := tbg_c4 208 rfl rfl
set_option maxRecDepth 100000 in
theorem wd_933 : (.code y_M_firstDraft prog_10_method_5_code 2 none : Cond) ∈ tbg := tbg_c4 213 rfl rfl
set_option maxRecDepth 100000 in
theorem wd_937 : (.code y_M_keepDraft prog_10_method_6_code 2 none : Cond) ∈ tbg := tbg_c4 217 rfl rfl
set_option maxRecDepth 100000 in
theorem wd_1059 : (.code y_M_feed prog_10_method_7_code 2 (some .int) : Cond) ∈ tbg := tbg_c5 99 rfl rfl
set_option maxRecDepth 100000 in
theorem wd_1063 : (.code y_M_in prog_10_method_3_code 6 (some .boolean) : Cond) ∈ tbg := tbg_c5 103 rfl rfl
set_option maxRecDepth 100000 in
theorem wd_1067 : (.code y_M_end prog_10_method_8_code 3 (some .int) : Cond) ∈ tbg := tbg_c5 107 rfl rfl
set_option maxRecDepth 100000 in
theorem wd_1071 : (.code y_M_text prog_10_method_21_code 2 (some .int) : Cond) ∈ tbg := tbg_c5 111 rfl rfl
set_option maxRecDepth 100000 in
theorem wd_1075 : (.code y_M_next prog_10_method_13_code 2 none : Cond) ∈ tbg := tbg_c5 115 rfl rfl
set_option maxRecDepth 100000 in
theorem wd_1079 : (.code y_M_look prog_10_method_10_code 2 (some .int) : Cond) ∈ tbg := tbg_c5 119 rfl rfl
set_option maxRecDepth 100000 in
theorem wd_1087 : (.code y_M_needs prog_10_method_9_code 3 none : Cond) ∈ tbg := tbg_c5 127 rfl rfl
set_option maxRecDepth 100000 in
theorem wd_1091 : (.code y_M_readLine prog_10_method_20_code 2 none : Cond) ∈ tbg := tbg_c5 131 rfl rfl
set_option maxRecDepth 100000 in
theorem wd_1095 : (.code y_M_lineNow prog_10_method_12_code 1 (some .int) : Cond) ∈ tbg := tbg_c5 135 rfl rfl
set_option maxRecDepth 100000 in
theorem wd_1099 : (.code y_M_is prog_10_method_11_code 5 (some .boolean) : Cond) ∈ tbg := tbg_c5 139 rfl rfl
set_option maxRecDepth 100000 in
theorem wd_1103 : (.code y_M_readLineOf prog_10_method_19_code 3 none : Cond) ∈ tbg := tbg_c5 143 rfl rfl
set_option maxRecDepth 100000 in
theorem wd_1107 : (.code y_M_readLaw prog_10_method_17_code 4 none : Cond) ∈ tbg := tbg_c5 147 rfl rfl
set_option maxRecDepth 100000 in
theorem wd_1111 : (.code y_M_readNumber prog_10_method_15_code 4 (some .int) : Cond) ∈ tbg := tbg_c5 151 rfl rfl
set_option maxRecDepth 100000 in
theorem wd_1115 : (.code y_M_looked prog_10_method_14_code 3 (some .int) : Cond) ∈ tbg := tbg_c5 155 rfl rfl
set_option maxRecDepth 100000 in
theorem wd_1119 : (.code y_M_readLawOf prog_10_method_16_code 3 (some .int) : Cond) ∈ tbg := tbg_c5 159 rfl rfl
set_option maxRecDepth 100000 in
theorem wd_1123 : (.code y_M_readOne prog_10_method_18_code 2 none : Cond) ∈ tbg := tbg_c5 163 rfl rfl
set_option maxRecDepth 100000 in
theorem wd_1127 : (.code y_M_fault prog_10_method_22_code 1 (some .int) : Cond) ∈ tbg := tbg_c5 167 rfl rfl
set_option maxRecDepth 100000 in
theorem wd_1131 : (.code y_M_rule prog_10_method_35_code 2 (some .int) : Cond) ∈ tbg := tbg_c5 171 rfl rfl
set_option maxRecDepth 100000 in
theorem wd_1135 : (.code y_M_law prog_10_method_36_code 3 (some .int) : Cond) ∈ tbg := tbg_c5 175 rfl rfl
set_option maxRecDepth 100000 in
theorem wd_1139 : (.code y_M_isLaw prog_10_method_23_code 2 (some .boolean) : Cond) ∈ tbg := tbg_c5 179 rfl rfl
set_option maxRecDepth 100000 in
theorem wd_1143 : (.code y_M_needOf prog_10_method_29_code 4 (some .int) : Cond) ∈ tbg := tbg_c5 183 rfl rfl
set_option maxRecDepth 100000 in
theorem wd_1147 : (.code y_M_doesStand prog_10_method_26_code 2 (some .boolean) : Cond) ∈ tbg := tbg_c5 187 rfl rfl
set_option maxRecDepth 100000 in
theorem wd_1151 : (.code y_M_brokenBy prog_10_method_27_code 3 (some .int) : Cond) ∈ tbg := tbg_c5 191 rfl rfl
set_option maxRecDepth 100000 in
theorem wd_1155 : (.code y_M_chainOf prog_10_method_30_code 4 (some .int) : Cond) ∈ tbg := tbg_c5 195 rfl rfl
set_option maxRecDepth 100000 in
theorem wd_1159 : (.code y_M_one prog_10_method_37_code 5 (some .int) : Cond) ∈ tbg := tbg_c5 199 rfl rfl
set_option maxRecDepth 100000 in
theorem wd_1163 : (.code y_M_isOne prog_10_method_24_code 2 (some .boolean) : Cond) ∈ tbg := tbg_c5 203 rfl rfl
set_option maxRecDepth 100000 in
theorem wd_1167 : (.code y_M_canBreak prog_10_method_33_code 3 (some .boolean) : Cond) ∈ tbg := tbg_c5 207 rfl rfl
set_option maxRecDepth 100000 in
theorem wd_1171 : (.code y_M_roomOf prog_10_method_31_code 5 (some .int) : Cond) ∈ tbg := tbg_c5 211 rfl rfl
set_option maxRecDepth 100000 in
theorem wd_1175 : (.code y_M_timeLeft prog_10_method_32_code 3 (some .int) : Cond) ∈ tbg := tbg_c5 215 rfl rfl
set_option maxRecDepth 100000 in
theorem wd_1179 : (.code y_M_allBy prog_10_method_28_code 4 (some .int) : Cond) ∈ tbg := tbg_c5 219 rfl rfl
set_option maxRecDepth 100000 in
theorem wd_1182 : (.code y_M_flag prog_10_method_4_code 1 (some .int) : Cond) ∈ tbg := tbg_c5 222 rfl rfl
set_option maxRecDepth 100000 in
theorem wd_1186 : (.code y_M_broken prog_10_method_38_code 3 (some .int) : Cond) ∈ tbg := tbg_c5 226 rfl rfl
set_option maxRecDepth 100000 in
theorem wd_1190 : (.code y_M_quota prog_10_method_41_code 3 (some .int) : Cond) ∈ tbg := tbg_c5 230 rfl rfl
set_option maxRecDepth 100000 in
theorem wd_1195 : (.code y_M_becomes prog_10_method_39_code 4 (some .int) : Cond) ∈ tbg := tbg_c5 235 rfl rfl
set_option maxRecDepth 100000 in
theorem wd_1199 : (.code y_M_carry prog_10_method_42_code 3 (some .int) : Cond) ∈ tbg := tbg_c5 239 rfl rfl
set_option maxRecDepth 100000 in
theorem wd_1203 : (.code y_M_watch prog_10_method_43_code 3 (some .int) : Cond) ∈ tbg := tbg_c6 3 rfl rfl
set_option maxRecDepth 100000 in
theorem wd_1207 : (.code y_M_becomesBit prog_10_method_40_code 5 (some .int) : Cond) ∈ tbg := tbg_c6 7 rfl rfl
set_option maxRecDepth 100000 in
theorem wd_1211 : (.code y_M_time prog_10_method_44_code 3 (some .int) : Cond) ∈ tbg := tbg_c6 11 rfl rfl
set_option maxRecDepth 100000 in
theorem wd_1216 : (.code y_M_refuse prog_10_method_45_code 4 (some .int) : Cond) ∈ tbg := tbg_c6 16 rfl rfl
set_option maxRecDepth 100000 in
theorem wd_1220 : (.code y_M_want prog_10_method_46_code 4 (some .int) : Cond) ∈ tbg := tbg_c6 20 rfl rfl
set_option maxRecDepth 100000 in
theorem wd_1224 : (.code y_M_fund prog_10_method_47_code 3 (some .int) : Cond) ∈ tbg := tbg_c6 24 rfl rfl
set_option maxRecDepth 100000 in
theorem wd_1229 : (.code y_M_revive prog_10_method_48_code 2 (some .int) : Cond) ∈ tbg := tbg_c6 29 rfl rfl
set_option maxRecDepth 100000 in
theorem wd_1232 : (.code y_M_bitsOf prog_10_method_25_code 3 (some .int) : Cond) ∈ tbg := tbg_c6 32 rfl rfl
set_option maxRecDepth 100000 in
theorem wd_1236 : (.code y_M_breaks prog_10_method_49_code 5 (some .int) : Cond) ∈ tbg := tbg_c6 36 rfl rfl
set_option maxRecDepth 100000 in
theorem wd_1240 : (.code y_M_year prog_10_method_50_code 3 (some .int) : Cond) ∈ tbg := tbg_c6 40 rfl rfl
set_option maxRecDepth 100000 in
theorem wd_1244 : (.code y_M_fallsNow prog_10_method_34_code 3 (some .int) : Cond) ∈ tbg := tbg_c6 44 rfl rfl
set_option maxRecDepth 100000 in
theorem wd_1248 : (.code y_M_falls prog_10_method_51_code 1 (some .int) : Cond) ∈ tbg := tbg_c6 48 rfl rfl
set_option maxRecDepth 100000 in
theorem wd_1252 : (.code y_M_most prog_10_method_52_code 6 (some .int) : Cond) ∈ tbg := tbg_c6 52 rfl rfl
set_option maxRecDepth 100000 in
theorem wd_1256 : (.code y_M_rota prog_10_method_60_code 7 (some .int) : Cond) ∈ tbg := tbg_c6 56 rfl rfl
set_option maxRecDepth 100000 in
theorem wd_1260 : (.code y_M_startsRota prog_10_method_58_code 3 none : Cond) ∈ tbg := tbg_c6 60 rfl rfl
set_option maxRecDepth 100000 in
theorem wd_1264 : (.code y_M_findRota prog_10_method_57_code 5 (some .int) : Cond) ∈ tbg := tbg_c6 64 rfl rfl
set_option maxRecDepth 100000 in
theorem wd_1267 : (.code y_M_at prog_10_method_53_code 4 (some .int) : Cond) ∈ tbg := tbg_c6 67 rfl rfl
set_option maxRecDepth 100000 in
theorem wd_1271 : (.code y_M_leastOf prog_10_method_56_code 10 (some .int) : Cond) ∈ tbg := tbg_c6 71 rfl rfl
set_option maxRecDepth 100000 in
theorem wd_1277 : (.code y_M_harmBy prog_10_method_55_code 10 (some .int) : Cond) ∈ tbg := tbg_c6 77 rfl rfl
set_option maxRecDepth 100000 in
theorem wd_1281 : (.code y_M_roomAt prog_10_method_54_code 3 (some .int) : Cond) ∈ tbg := tbg_c6 81 rfl rfl
set_option maxRecDepth 100000 in
theorem wd_1285 : (.code y_M_sharesOf prog_10_method_59_code 10 none : Cond) ∈ tbg := tbg_c6 85 rfl rfl
set_option maxRecDepth 100000 in
theorem wd_1289 : (.code y_M_more prog_10_method_61_code 5 (some .int) : Cond) ∈ tbg := tbg_c6 89 rfl rfl
set_option maxRecDepth 100000 in
theorem wd_1293 : (.code y_M_together prog_10_method_62_code 6 (some .int) : Cond) ∈ tbg := tbg_c6 93 rfl rfl
set_option maxRecDepth 100000 in
theorem wd_1297 : (.code y_M_kill prog_10_method_64_code 8 (some .int) : Cond) ∈ tbg := tbg_c6 97 rfl rfl
set_option maxRecDepth 100000 in
theorem wd_1301 : (.code y_M_triesOf prog_10_method_63_code 4 (some .int) : Cond) ∈ tbg := tbg_c6 101 rfl rfl
set_option maxRecDepth 100000 in
theorem wd_1305 : (.code y_M_selfish prog_10_method_68_code 7 (some .int) : Cond) ∈ tbg := tbg_c6 105 rfl rfl
set_option maxRecDepth 100000 in
theorem wd_1310 : (.code y_M_saves prog_10_method_65_code 2 none : Cond) ∈ tbg := tbg_c6 110 rfl rfl
set_option maxRecDepth 100000 in
theorem wd_1314 : (.code y_M_wantedBy prog_10_method_67_code 5 (some .int) : Cond) ∈ tbg := tbg_c6 114 rfl rfl
set_option maxRecDepth 100000 in
theorem wd_1318 : (.code y_M_returns prog_10_method_66_code 2 none : Cond) ∈ tbg := tbg_c6 118 rfl rfl
set_option maxRecDepth 100000 in
theorem wd_1322 : (.code y_M_luck prog_10_method_70_code 10 (some .long) : Cond) ∈ tbg := tbg_c6 122 rfl rfl
set_option maxRecDepth 100000 in
theorem wd_1327 : (.code y_M_common prog_10_method_69_code 10 (some .long) : Cond) ∈ tbg := tbg_c6 127 rfl rfl
set_option maxRecDepth 100000 in
theorem wd_1331 : (.code y_M_see prog_10_method_71_code 6 (some .int) : Cond) ∈ tbg := tbg_c6 131 rfl rfl
set_option maxRecDepth 100000 in
theorem wd_1336 : (.code y_M_forget prog_10_method_72_code 2 (some .int) : Cond) ∈ tbg := tbg_c6 136 rfl rfl
set_option maxRecDepth 100000 in
theorem wd_1340 : (.code y_M_books prog_10_method_80_code 1 (some .long) : Cond) ∈ tbg := tbg_c6 140 rfl rfl
set_option maxRecDepth 100000 in
theorem wd_1344 : (.code y_M_tablesBy prog_10_method_79_code 7 (some .long) : Cond) ∈ tbg := tbg_c6 144 rfl rfl
set_option maxRecDepth 100000 in
theorem wd_1348 : (.code y_M_addsLaw prog_10_method_76_code 9 none : Cond) ∈ tbg := tbg_c6 148 rfl rfl
set_option maxRecDepth 100000 in
theorem wd_1352 : (.code y_M_mostOf prog_10_method_74_code 3 (some .int) : Cond) ∈ tbg := tbg_c6 152 rfl rfl
set_option maxRecDepth 100000 in
theorem wd_1356 : (.code y_M_isSo prog_10_method_73_code 7 (some .boolean) : Cond) ∈ tbg := tbg_c6 156 rfl rfl
set_option maxRecDepth 100000 in
theorem wd_1360 : (.code y_M_isAsked prog_10_method_75_code 7 (some .boolean) : Cond) ∈ tbg := tbg_c6 160 rfl rfl
set_option maxRecDepth 100000 in
theorem wd_1364 : (.code y_M_addsTables prog_10_method_77_code 8 none : Cond) ∈ tbg := tbg_c6 164 rfl rfl
set_option maxRecDepth 100000 in
theorem wd_1368 : (.code y_M_isTime prog_10_method_78_code 3 (some .boolean) : Cond) ∈ tbg := tbg_c6 168 rfl rfl
set_option maxRecDepth 100000 in
theorem wd_1372 : (.code y_M_entry prog_10_method_81_code 8 (some .int) : Cond) ∈ tbg := tbg_c6 172 rfl rfl
set_option maxRecDepth 100000 in
theorem wd_1376 : (.code y_M_wild prog_10_method_82_code 8 (some .int) : Cond) ∈ tbg := tbg_c6 176 rfl rfl
set_option maxRecDepth 100000 in
theorem wd_1383 : (.code y_M_keep prog_10_method_84_code 3 (some .int) : Cond) ∈ tbg := tbg_c6 183 rfl rfl
set_option maxRecDepth 100000 in
theorem wd_1387 : (.code y_M_copies prog_10_method_83_code 4 none : Cond) ∈ tbg := tbg_c6 187 rfl rfl
set_option maxRecDepth 100000 in
theorem wd_1391 : (.code y_M_back prog_10_method_85_code 2 (some .int) : Cond) ∈ tbg := tbg_c6 191 rfl rfl
set_option maxRecDepth 100000 in
theorem wd_1395 : (.code y_M_sheet prog_10_method_87_code 5 (some .int) : Cond) ∈ tbg := tbg_c6 195 rfl rfl
set_option maxRecDepth 100000 in
theorem wd_1398 : (.code y_M_isSheet prog_10_method_86_code 2 (some .boolean) : Cond) ∈ tbg := tbg_c6 198 rfl rfl
set_option maxRecDepth 100000 in
theorem wd_1402 : (.code y_M_lay prog_10_method_88_code 4 (some .int) : Cond) ∈ tbg := tbg_c6 202 rfl rfl
set_option maxRecDepth 100000 in
theorem wd_1406 : (.code y_M_read prog_10_method_89_code 11 (some .int) : Cond) ∈ tbg := tbg_c6 206 rfl rfl
set_option maxRecDepth 100000 in
theorem wd_1410 : (.code y_M_torn prog_10_method_90_code 1 (some .int) : Cond) ∈ tbg := tbg_c6 210 rfl rfl
set_option maxRecDepth 100000 in
theorem wd_1414 : (.code y_M_count prog_10_method_91_code 6 (some .int) : Cond) ∈ tbg := tbg_c6 214 rfl rfl
end
/-! 05c.sites -/
section
theorem si_pn_Reader : plainName "QuotaLaws$Reader" = true := by decide +kernel
theorem si_pn_Sightings : plainName "QuotaLaws$Sightings" = true := by decide +kernel
theorem si_pn_Realm : plainName "QuotaLaws$Realm" = true := by decide +kernel
theorem si_pn_Planner : plainName "QuotaLaws$Planner" = true := by decide +kernel
theorem si_pn_Tables : plainName "QuotaLaws$Tables" = true := by decide +kernel
theorem si_pn_Odds : plainName "QuotaLaws$Odds" = true := by decide +kernel
theorem si_pn_Sheet : plainName "QuotaLaws$Sheet" = true := by decide +kernel
theorem si_pn_Q : plainName "QuotaLaws" = true := by decide +kernel
theorem si_pn_Arrays : plainName "java/util/Arrays" = true := by decide +kernel
theorem si_pn_Integer : plainName "java/lang/Integer" = true := by decide +kernel
theorem si_pn_M : plainName "QuotaLawsModel" = true := by decide +kernel
theorem si_pn_QuotaLawsLaw : plainName "QuotaLawsLaw" = true := by decide +kernel
theorem si_nh0 : "QuotaLaws$Sightings" ≠ "java/lang/invoke/MethodHandle" ∧ "QuotaLaws$Sightings" ≠ "java/lang/invoke/VarHandle" := ⟨by decide +kernel, by decide +kernel⟩
theorem si_ds0 : (parseMethodDescriptor "()V").map (fun d => d.parameters.length) = some 0 := by decide +kernel
theorem si_Sightings_new : site0 y_Sightings_new prog_7_method_1_code 1 none 0 := ⟨wd_75, wd_4, si_nh0, si_ds0⟩
theorem si_nh1 : "QuotaLaws$Reader" ≠ "java/lang/invoke/MethodHandle" ∧ "QuotaLaws$Reader" ≠ "java/lang/invoke/VarHandle" := ⟨by decide +kernel, by decide +kernel⟩
theorem si_Reader_new : site0 y_Reader_new prog_4_method_1_code 1 none 0 := ⟨wd_30, wd_2, si_nh1, si_ds0⟩
theorem si_nh2 : "QuotaLaws$Realm" ≠ "java/lang/invoke/MethodHandle" ∧ "QuotaLaws$Realm" ≠ "java/lang/invoke/VarHandle" := ⟨by decide +kernel, by decide +kernel⟩
theorem si_Realm_new : site0 y_Realm_new prog_5_method_1_code 1 none 0 := ⟨wd_69, wd_3, si_nh2, si_ds0⟩
theorem si_nh3 : "QuotaLaws$Planner" ≠ "java/lang/invoke/MethodHandle" ∧ "QuotaLaws$Planner" ≠ "java/lang/invoke/VarHandle" := ⟨by decide +kernel, by decide +kernel⟩
theorem si_Planner_new : site0 y_Planner_new prog_3_method_1_code 1 none 0 := ⟨wd_202, wd_5, si_nh3, si_ds0⟩
theorem si_nh4 : "QuotaLaws$Tables" ≠ "java/lang/invoke/MethodHandle" ∧ "QuotaLaws$Tables" ≠ "java/lang/invoke/VarHandle" := ⟨by decide +kernel, by decide +kernel⟩
theorem si_Tables_new : site0 y_Tables_new prog_8_method_1_code 1 none 0 := ⟨wd_234, wd_6, si_nh4, si_ds0⟩
theorem si_nh5 : "QuotaLaws$Odds" ≠ "java/lang/invoke/MethodHandle" ∧ "QuotaLaws$Odds" ≠ "java/lang/invoke/VarHandle" := ⟨by decide +kernel, by decide +kernel⟩
theorem si_Odds_new : site0 y_Odds_new prog_2_method_1_code 1 none 0 := ⟨wd_266, wd_7, si_nh5, si_ds0⟩
theorem si_nh6 : "QuotaLaws$Sheet" ≠ "java/lang/invoke/MethodHandle" ∧ "QuotaLaws$Sheet" ≠ "java/lang/invoke/VarHandle" := ⟨by decide +kernel, by decide +kernel⟩
theorem si_Sheet_new : site0 y_Sheet_new prog_6_method_1_code 1 none 0 := ⟨wd_283, wd_8, si_nh6, si_ds0⟩
theorem si_nh7 : "QuotaLaws" ≠ "java/lang/invoke/MethodHandle" ∧ "QuotaLaws" ≠ "java/lang/invoke/VarHandle" := ⟨by decide +kernel, by decide +kernel⟩
theorem si_ds1 : (parseMethodDescriptor "(III)Z").map (fun d => d.parameters.length) = some 3 := by decide +kernel
theorem si_na_Q_isWithin : ¬ al y_Q_isWithin = true := by decide +kernel
theorem si_Q_isWithin : site0 y_Q_isWithin prog_1_method_41_code 3 (some .boolean) 3 := ⟨wd_333, wd_1, si_nh7, si_ds1⟩
theorem si_ds2 : (parseMethodDescriptor "(I)Z").map (fun d => d.parameters.length) = some 1 := by decide +kernel
theorem si_na_Reader_append : ¬ al y_Reader_append = true := by decide +kernel
theorem si_Reader_append : site0 y_Reader_append prog_4_method_2_code 2 (some .boolean) 1 := ⟨wd_337, wd_2, si_nh1, si_ds2⟩
theorem si_nh8 : "java/util/Arrays" ≠ "java/lang/invoke/MethodHandle" ∧ "java/util/Arrays" ≠ "java/lang/invoke/VarHandle" := ⟨by decide +kernel, by decide +kernel⟩
theorem si_ds3 : (parseMethodDescriptor "([II)V").map (fun d => d.parameters.length) = some 2 := by decide +kernel
theorem si_na_Arrays_fillI : ¬ al y_Arrays_fillI = true := by decide +kernel
theorem si_Arrays_fillI : site0 y_Arrays_fillI prog_17_method_103_code 4 none 2 := ⟨wd_356, wd_10, si_nh8, si_ds3⟩
theorem si_ds4 : (parseMethodDescriptor "(II)V").map (fun d => d.parameters.length) = some 2 := by decide +kernel
theorem si_na_Reader_passRun : ¬ al y_Reader_passRun = true := by decide +kernel
theorem si_Reader_passRun : site0 y_Reader_passRun prog_4_method_19_code 3 none 2 := ⟨wd_364, wd_2, si_nh1, si_ds4⟩
theorem si_ds5 : (parseMethodDescriptor "()I").map (fun d => d.parameters.length) = some 0 := by decide +kernel
theorem si_na_Reader_kindHere : ¬ al y_Reader_kindHere = true := by decide +kernel
theorem si_Reader_kindHere : site0 y_Reader_kindHere prog_4_method_18_code 2 (some .int) 0 := ⟨wd_368, wd_2, si_nh1, si_ds5⟩
theorem si_na_Reader_valueOfRun : ¬ al y_Reader_valueOfRun = true := by decide +kernel
theorem si_Reader_valueOfRun : site0 y_Reader_valueOfRun prog_4_method_20_code 3 (some .int) 0 := ⟨wd_372, wd_2, si_nh1, si_ds5⟩
theorem si_ds6 : (parseMethodDescriptor "(II)Z").map (fun d => d.parameters.length) = some 2 := by decide +kernel
theorem si_na_Reader_fail : ¬ al y_Reader_fail = true := by decide +kernel
theorem si_Reader_fail : site0 y_Reader_fail prog_4_method_21_code 3 (some .boolean) 2 := ⟨wd_376, wd_2, si_nh1, si_ds6⟩
theorem si_nh9 : "java/lang/String" ≠ "java/lang/invoke/MethodHandle" ∧ "java/lang/String" ≠ "java/lang/invoke/VarHandle" := ⟨by decide +kernel, by decide +kernel⟩
theorem si_na_String_length : ¬ al y_String_length = true := by decide +kernel
theorem si_String_length : site0 y_String_length prog_13_method_54_code 1 (some .int) 0 := ⟨wd_389, wd_11, si_nh9, si_ds5⟩
theorem si_ds7 : (parseMethodDescriptor "(I)C").map (fun d => d.parameters.length) = some 1 := by decide +kernel
theorem si_na_String_charAt : ¬ al y_String_charAt = true := by decide +kernel
theorem si_String_charAt : site0 y_String_charAt prog_13_method_56_code 2 (some .char) 1 := ⟨wd_399, wd_11, si_nh9, si_ds7⟩
theorem si_ds8 : (parseMethodDescriptor "()Z").map (fun d => d.parameters.length) = some 0 := by decide +kernel
theorem si_na_Reader_takeToken : ¬ al y_Reader_takeToken = true := by decide +kernel
theorem si_Reader_takeToken : site0 y_Reader_takeToken prog_4_method_17_code 1 (some .boolean) 0 := ⟨wd_360, wd_2, si_nh1, si_ds8⟩
theorem si_na_Reader_isBounded : ¬ al y_Reader_isBounded = true := by decide +kernel
theorem si_Reader_isBounded : site0 y_Reader_isBounded prog_4_method_14_code 3 (some .boolean) 2 := ⟨wd_445, wd_2, si_nh1, si_ds6⟩
theorem si_na_Reader_takeNumber : ¬ al y_Reader_takeNumber = true := by decide +kernel
theorem si_Reader_takeNumber : site0 y_Reader_takeNumber prog_4_method_13_code 3 (some .boolean) 2 := ⟨wd_441, wd_2, si_nh1, si_ds6⟩
theorem si_ds9 : (parseMethodDescriptor "([II)Z").map (fun d => d.parameters.length) = some 2 := by decide +kernel
theorem si_na_Reader_putInto : ¬ al y_Reader_putInto = true := by decide +kernel
theorem si_Reader_putInto : site0 y_Reader_putInto prog_4_method_12_code 3 (some .boolean) 2 := ⟨wd_450, wd_2, si_nh1, si_ds9⟩
theorem si_ds10 : (parseMethodDescriptor "(LQuotaLaws$Realm;I)Z").map (fun d => d.parameters.length) = some 2 := by decide +kernel
theorem si_na_Reader_takeCarried : ¬ al y_Reader_takeCarried = true := by decide +kernel
theorem si_Reader_takeCarried : site0 y_Reader_takeCarried prog_4_method_6_code 3 (some .boolean) 2 := ⟨wd_454, wd_2, si_nh1, si_ds10⟩
theorem si_na_Reader_isStop : ¬ al y_Reader_isStop = true := by decide +kernel
theorem si_Reader_isStop : site0 y_Reader_isStop prog_4_method_15_code 1 (some .boolean) 0 := ⟨wd_458, wd_2, si_nh1, si_ds8⟩
theorem si_na_Q_hasBit : ¬ al y_Q_hasBit = true := by decide +kernel
theorem si_Q_hasBit : site0 y_Q_hasBit prog_1_method_42_code 2 (some .boolean) 2 := ⟨wd_470, wd_1, si_nh7, si_ds6⟩
theorem si_na_Reader_addLaw : ¬ al y_Reader_addLaw = true := by decide +kernel
theorem si_Reader_addLaw : site0 y_Reader_addLaw prog_4_method_10_code 3 (some .boolean) 2 := ⟨wd_467, wd_2, si_nh1, si_ds9⟩
theorem si_ds11 : (parseMethodDescriptor "(Ljava/lang/String;)Z").map (fun d => d.parameters.length) = some 1 := by decide +kernel
theorem si_na_Reader_isWord : ¬ al y_Reader_isWord = true := by decide +kernel
theorem si_Reader_isWord : site0 y_Reader_isWord prog_4_method_16_code 3 (some .boolean) 1 := ⟨wd_385, wd_2, si_nh1, si_ds11⟩
theorem si_ds12 : (parseMethodDescriptor "(LQuotaLaws$Realm;)Z").map (fun d => d.parameters.length) = some 1 := by decide +kernel
theorem si_na_Reader_takeWatch : ¬ al y_Reader_takeWatch = true := by decide +kernel
theorem si_Reader_takeWatch : site0 y_Reader_takeWatch prog_4_method_9_code 2 (some .boolean) 1 := ⟨wd_480, wd_2, si_nh1, si_ds12⟩
theorem si_na_Reader_takeWant : ¬ al y_Reader_takeWant = true := by decide +kernel
theorem si_Reader_takeWant : site0 y_Reader_takeWant prog_4_method_8_code 3 (some .boolean) 1 := ⟨wd_475, wd_2, si_nh1, si_ds12⟩
theorem si_na_Reader_takeOne : ¬ al y_Reader_takeOne = true := by decide +kernel
theorem si_Reader_takeOne : site0 y_Reader_takeOne prog_4_method_7_code 5 (some .boolean) 2 := ⟨wd_463, wd_2, si_nh1, si_ds10⟩
theorem si_na_Reader_takeLaw : ¬ al y_Reader_takeLaw = true := by decide +kernel
theorem si_Reader_takeLaw : site0 y_Reader_takeLaw prog_4_method_5_code 3 (some .boolean) 2 := ⟨wd_437, wd_2, si_nh1, si_ds10⟩
theorem si_na_Q_isPart : ¬ al y_Q_isPart = true := by decide +kernel
theorem si_Q_isPart : site0 y_Q_isPart prog_1_method_45_code 2 (some .boolean) 2 := ⟨wd_486, wd_1, si_nh7, si_ds6⟩
theorem si_na_Realm_hasLaw : ¬ al y_Realm_hasLaw = true := by decide +kernel
theorem si_Realm_hasLaw : site0 y_Realm_hasLaw prog_5_method_4_code 2 (some .boolean) 1 := ⟨wd_490, wd_3, si_nh2, si_ds2⟩
theorem si_na_Realm_hasOne : ¬ al y_Realm_hasOne = true := by decide +kernel
theorem si_Realm_hasOne : site0 y_Realm_hasOne prog_5_method_5_code 2 (some .boolean) 1 := ⟨wd_494, wd_3, si_nh2, si_ds2⟩
theorem si_na_Realm_empty : ¬ al y_Realm_empty = true := by decide +kernel
theorem si_Realm_empty : site0 y_Realm_empty prog_5_method_2_code 1 none 0 := ⟨wd_353, wd_3, si_nh2, si_ds0⟩
theorem si_na_Reader_takeLine : ¬ al y_Reader_takeLine = true := by decide +kernel
theorem si_Reader_takeLine : site0 y_Reader_takeLine prog_4_method_4_code 2 (some .boolean) 1 := ⟨wd_380, wd_2, si_nh1, si_ds12⟩
theorem si_na_Reader_allThere : ¬ al y_Reader_allThere = true := by decide +kernel
theorem si_Reader_allThere : site0 y_Reader_allThere prog_4_method_11_code 4 (some .boolean) 1 := ⟨wd_483, wd_2, si_nh1, si_ds12⟩
theorem si_ds13 : (parseMethodDescriptor "(LQuotaLaws$Sightings;)V").map (fun d => d.parameters.length) = some 1 := by decide +kernel
theorem si_na_Sightings_copyFrom : ¬ al y_Sightings_copyFrom = true := by decide +kernel
theorem si_Sightings_copyFrom : site0 y_Sightings_copyFrom prog_7_method_4_code 2 none 1 := ⟨wd_505, wd_4, si_nh0, si_ds13⟩
theorem si_na_Reader_readInto : ¬ al y_Reader_readInto = true := by decide +kernel
theorem si_Reader_readInto : site0 y_Reader_readInto prog_4_method_3_code 4 (some .boolean) 1 := ⟨wd_349, wd_2, si_nh1, si_ds12⟩
theorem si_ds14 : (parseMethodDescriptor "(LQuotaLaws$Realm;)V").map (fun d => d.parameters.length) = some 1 := by decide +kernel
theorem si_na_Realm_copyFrom : ¬ al y_Realm_copyFrom = true := by decide +kernel
theorem si_Realm_copyFrom : site0 y_Realm_copyFrom prog_5_method_3_code 2 none 1 := ⟨wd_498, wd_3, si_nh2, si_ds14⟩
theorem si_ds15 : (parseMethodDescriptor "(II)I").map (fun d => d.parameters.length) = some 2 := by decide +kernel
theorem si_na_Realm_brokenBy : ¬ al y_Realm_brokenBy = true := by decide +kernel
theorem si_Realm_brokenBy : site0 y_Realm_brokenBy prog_5_method_7_code 3 (some .int) 2 := ⟨wd_528, wd_3, si_nh2, si_ds15⟩
theorem si_ds16 : (parseMethodDescriptor "(I)I").map (fun d => d.parameters.length) = some 1 := by decide +kernel
theorem si_na_Realm_needOf : ¬ al y_Realm_needOf = true := by decide +kernel
theorem si_Realm_needOf : site0 y_Realm_needOf prog_5_method_10_code 4 (some .int) 1 := ⟨wd_523, wd_3, si_nh2, si_ds16⟩
theorem si_na_Realm_chainOf : ¬ al y_Realm_chainOf = true := by decide +kernel
theorem si_Realm_chainOf : site0 y_Realm_chainOf prog_5_method_13_code 5 (some .int) 1 := ⟨wd_535, wd_3, si_nh2, si_ds16⟩
theorem si_na_Realm_brokenByOne : ¬ al y_Realm_brokenByOne = true := by decide +kernel
theorem si_Realm_brokenByOne : site0 y_Realm_brokenByOne prog_5_method_8_code 4 (some .int) 1 := ⟨wd_545, wd_3, si_nh2, si_ds16⟩
theorem si_na_Realm_roomOf : ¬ al y_Realm_roomOf = true := by decide +kernel
theorem si_Realm_roomOf : site0 y_Realm_roomOf prog_5_method_14_code 4 (some .int) 2 := ⟨wd_557, wd_3, si_nh2, si_ds15⟩
theorem si_na_Realm_timeLeft : ¬ al y_Realm_timeLeft = true := by decide +kernel
theorem si_Realm_timeLeft : site0 y_Realm_timeLeft prog_5_method_15_code 2 (some .int) 1 := ⟨wd_561, wd_3, si_nh2, si_ds16⟩
theorem si_na_Realm_ableAlone : ¬ al y_Realm_ableAlone = true := by decide +kernel
theorem si_Realm_ableAlone : site0 y_Realm_ableAlone prog_5_method_16_code 3 (some .int) 2 := ⟨wd_553, wd_3, si_nh2, si_ds15⟩
theorem si_na_Realm_breakable : ¬ al y_Realm_breakable = true := by decide +kernel
theorem si_Realm_breakable : site0 y_Realm_breakable prog_5_method_18_code 4 (some .int) 1 := ⟨wd_549, wd_3, si_nh2, si_ds16⟩
theorem si_na_Realm_hasBoth : ¬ al y_Realm_hasBoth = true := by decide +kernel
theorem si_Realm_hasBoth : site0 y_Realm_hasBoth prog_5_method_6_code 3 (some .boolean) 2 := ⟨wd_573, wd_3, si_nh2, si_ds6⟩
theorem si_na_Q_bitOf : ¬ al y_Q_bitOf = true := by decide +kernel
theorem si_Q_bitOf : site0 y_Q_bitOf prog_1_method_43_code 2 (some .int) 2 := ⟨wd_590, wd_1, si_nh7, si_ds15⟩
theorem si_ds17 : (parseMethodDescriptor "(IIZ)I").map (fun d => d.parameters.length) = some 3 := by decide +kernel
theorem si_na_Q_withBit : ¬ al y_Q_withBit = true := by decide +kernel
theorem si_Q_withBit : site0 y_Q_withBit prog_1_method_44_code 3 (some .int) 3 := ⟨wd_593, wd_1, si_nh7, si_ds17⟩
theorem si_nh10 : "java/lang/Integer" ≠ "java/lang/invoke/MethodHandle" ∧ "java/lang/Integer" ≠ "java/lang/invoke/VarHandle" := ⟨by decide +kernel, by decide +kernel⟩
theorem si_na_Integer_bitCount : ¬ al y_Integer_bitCount = true := by decide +kernel
theorem si_Integer_bitCount : site0 y_Integer_bitCount prog_11_method_49_code 1 (some .int) 1 := ⟨wd_617, wd_17, si_nh10, si_ds16⟩
theorem si_na_Realm_mark : ¬ al y_Realm_mark = true := by decide +kernel
theorem si_Realm_mark : site0 y_Realm_mark prog_5_method_20_code 4 (some .int) 2 := ⟨wd_633, wd_3, si_nh2, si_ds15⟩
theorem si_na_Realm_breakOnce : ¬ al y_Realm_breakOnce = true := by decide +kernel
theorem si_Realm_breakOnce : site0 y_Realm_breakOnce prog_5_method_19_code 4 (some .int) 2 := ⟨wd_628, wd_3, si_nh2, si_ds15⟩
theorem si_na_Realm_lapsing : ¬ al y_Realm_lapsing = true := by decide +kernel
theorem si_Realm_lapsing : site0 y_Realm_lapsing prog_5_method_21_code 3 (some .int) 0 := ⟨wd_645, wd_3, si_nh2, si_ds5⟩
theorem si_na_Realm_endYear : ¬ al y_Realm_endYear = true := by decide +kernel
theorem si_Realm_endYear : site0 y_Realm_endYear prog_5_method_22_code 2 (some .int) 0 := ⟨wd_641, wd_3, si_nh2, si_ds5⟩
theorem si_ds18 : (parseMethodDescriptor "(III)I").map (fun d => d.parameters.length) = some 3 := by decide +kernel
theorem si_na_Planner_leftToLast : ¬ al y_Planner_leftToLast = true := by decide +kernel
theorem si_Planner_leftToLast : site0 y_Planner_leftToLast prog_3_method_9_code 4 (some .int) 3 := ⟨wd_678, wd_5, si_nh3, si_ds18⟩
theorem si_na_Planner_stateOf : ¬ al y_Planner_stateOf = true := by decide +kernel
theorem si_Planner_stateOf : site0 y_Planner_stateOf prog_3_method_10_code 3 (some .int) 3 := ⟨wd_681, wd_5, si_nh3, si_ds18⟩
theorem si_na_Planner_search : ¬ al y_Planner_search = true := by decide +kernel
theorem si_Planner_search : site0 y_Planner_search prog_3_method_11_code 12 (some .int) 3 := ⟨wd_685, wd_5, si_nh3, si_ds18⟩
theorem si_na_Planner_load : ¬ al y_Planner_load = true := by decide +kernel
theorem si_Planner_load : site0 y_Planner_load prog_3_method_2_code 4 none 1 := ⟨wd_664, wd_5, si_nh3, si_ds14⟩
theorem si_na_Planner_leastHarm : ¬ al y_Planner_leastHarm = true := by decide +kernel
theorem si_Planner_leastHarm : site0 y_Planner_leastHarm prog_3_method_7_code 4 (some .int) 0 := ⟨wd_673, wd_5, si_nh3, si_ds5⟩
theorem si_na_Planner_timesInFirst : ¬ al y_Planner_timesInFirst = true := by decide +kernel
theorem si_Planner_timesInFirst : site0 y_Planner_timesInFirst prog_3_method_8_code 6 (some .int) 2 := ⟨wd_691, wd_5, si_nh3, si_ds15⟩
theorem si_na_Planner_needOfAll : ¬ al y_Planner_needOfAll = true := by decide +kernel
theorem si_Planner_needOfAll : site0 y_Planner_needOfAll prog_3_method_5_code 4 (some .int) 1 := ⟨wd_709, wd_5, si_nh3, si_ds16⟩
theorem si_na_Planner_givenTo : ¬ al y_Planner_givenTo = true := by decide +kernel
theorem si_Planner_givenTo : site0 y_Planner_givenTo prog_3_method_6_code 6 (some .int) 1 := ⟨wd_714, wd_5, si_nh3, si_ds16⟩
theorem si_na_Planner_grant : ¬ al y_Planner_grant = true := by decide +kernel
theorem si_Planner_grant : site0 y_Planner_grant prog_3_method_3_code 3 none 2 := ⟨wd_699, wd_5, si_nh3, si_ds4⟩
theorem si_na_Planner_canMeet : ¬ al y_Planner_canMeet = true := by decide +kernel
theorem si_Planner_canMeet : site0 y_Planner_canMeet prog_3_method_4_code 3 (some .boolean) 1 := ⟨wd_704, wd_5, si_nh3, si_ds2⟩
theorem si_na_Realm_ableWithout : ¬ al y_Realm_ableWithout = true := by decide +kernel
theorem si_Realm_ableWithout : site0 y_Realm_ableWithout prog_5_method_17_code 5 (some .int) 2 := ⟨wd_727, wd_3, si_nh2, si_ds15⟩
theorem si_na_Realm_mostNeeded : ¬ al y_Realm_mostNeeded = true := by decide +kernel
theorem si_Realm_mostNeeded : site0 y_Realm_mostNeeded prog_5_method_25_code 6 (some .int) 1 := ⟨wd_739, wd_3, si_nh2, si_ds16⟩
theorem si_na_Realm_eachForHimself : ¬ al y_Realm_eachForHimself = true := by decide +kernel
theorem si_Realm_eachForHimself : site0 y_Realm_eachForHimself prog_5_method_24_code 6 (some .int) 0 := ⟨wd_735, wd_3, si_nh2, si_ds5⟩
theorem si_na_Realm_met : ¬ al y_Realm_met = true := by decide +kernel
theorem si_Realm_met : site0 y_Realm_met prog_5_method_23_code 3 (some .int) 0 := ⟨wd_744, wd_3, si_nh2, si_ds5⟩
theorem si_ds19 : (parseMethodDescriptor "([JJ)V").map (fun d => d.parameters.length) = some 2 := by decide +kernel
theorem si_na_Arrays_fillJ : ¬ al y_Arrays_fillJ = true := by decide +kernel
theorem si_Arrays_fillJ : site0 y_Arrays_fillJ prog_17_method_101_code 5 none 2 := ⟨wd_756, wd_10, si_nh8, si_ds19⟩
theorem si_ds20 : (parseMethodDescriptor "(I)V").map (fun d => d.parameters.length) = some 1 := by decide +kernel
theorem si_na_Odds_addTry : ¬ al y_Odds_addTry = true := by decide +kernel
theorem si_Odds_addTry : site0 y_Odds_addTry prog_2_method_3_code 3 none 1 := ⟨wd_761, wd_7, si_nh5, si_ds20⟩
theorem si_na_Odds_reduce : ¬ al y_Odds_reduce = true := by decide +kernel
theorem si_Odds_reduce : site0 y_Odds_reduce prog_2_method_4_code 8 none 0 := ⟨wd_767, wd_7, si_nh5, si_ds0⟩
theorem si_ds21 : (parseMethodDescriptor "(LQuotaLaws$Realm;I)V").map (fun d => d.parameters.length) = some 2 := by decide +kernel
theorem si_na_Odds_weigh : ¬ al y_Odds_weigh = true := by decide +kernel
theorem si_Odds_weigh : site0 y_Odds_weigh prog_2_method_2_code 6 none 2 := ⟨wd_753, wd_7, si_nh5, si_ds21⟩
theorem si_na_Sightings_append : ¬ al y_Sightings_append = true := by decide +kernel
theorem si_Sightings_append : site0 y_Sightings_append prog_7_method_2_code 4 (some .boolean) 3 := ⟨wd_775, wd_4, si_nh0, si_ds1⟩
theorem si_na_Sightings_sumDue : ¬ al y_Sightings_sumDue = true := by decide +kernel
theorem si_Sightings_sumDue : site0 y_Sightings_sumDue prog_7_method_3_code 5 (some .int) 2 := ⟨wd_792, wd_4, si_nh0, si_ds15⟩
theorem si_na_Tables_stateOf : ¬ al y_Tables_stateOf = true := by decide +kernel
theorem si_Tables_stateOf : site0 y_Tables_stateOf prog_8_method_11_code 3 (some .int) 3 := ⟨wd_810, wd_6, si_nh4, si_ds18⟩
theorem si_ds22 : (parseMethodDescriptor "(IIII)J").map (fun d => d.parameters.length) = some 4 := by decide +kernel
theorem si_na_Tables_waysTo : ¬ al y_Tables_waysTo = true := by decide +kernel
theorem si_Tables_waysTo : site0 y_Tables_waysTo prog_8_method_8_code 13 (some .long) 4 := ⟨wd_818, wd_6, si_nh4, si_ds22⟩
theorem si_na_Tables_isDueOf : ¬ al y_Tables_isDueOf = true := by decide +kernel
theorem si_Tables_isDueOf : site0 y_Tables_isDueOf prog_8_method_10_code 3 (some .boolean) 2 := ⟨wd_828, wd_6, si_nh4, si_ds6⟩
theorem si_na_Tables_joinAll : ¬ al y_Tables_joinAll = true := by decide +kernel
theorem si_Tables_joinAll : site0 y_Tables_joinAll prog_8_method_6_code 4 none 0 := ⟨wd_807, wd_6, si_nh4, si_ds0⟩
theorem si_na_Tables_spendAlone : ¬ al y_Tables_spendAlone = true := by decide +kernel
theorem si_Tables_spendAlone : site0 y_Tables_spendAlone prog_8_method_5_code 9 none 2 := ⟨wd_803, wd_6, si_nh4, si_ds4⟩
theorem si_ds23 : (parseMethodDescriptor "()J").map (fun d => d.parameters.length) = some 0 := by decide +kernel
theorem si_na_Tables_sumOfDue : ¬ al y_Tables_sumOfDue = true := by decide +kernel
theorem si_Tables_sumOfDue : site0 y_Tables_sumOfDue prog_8_method_9_code 6 (some .long) 0 := ⟨wd_824, wd_6, si_nh4, si_ds23⟩
theorem si_na_Tables_spendTogether : ¬ al y_Tables_spendTogether = true := by decide +kernel
theorem si_Tables_spendTogether : site0 y_Tables_spendTogether prog_8_method_7_code 5 none 1 := ⟨wd_814, wd_6, si_nh4, si_ds20⟩
theorem si_na_Tables_load : ¬ al y_Tables_load = true := by decide +kernel
theorem si_Tables_load : site0 y_Tables_load prog_8_method_2_code 6 none 1 := ⟨wd_787, wd_6, si_nh4, si_ds14⟩
theorem si_na_Tables_fitting : ¬ al y_Tables_fitting = true := by decide +kernel
theorem si_Tables_fitting : site0 y_Tables_fitting prog_8_method_4_code 3 (some .long) 0 := ⟨wd_798, wd_6, si_nh4, si_ds23⟩
theorem si_na_Tables_firstThatFits : ¬ al y_Tables_firstThatFits = true := by decide +kernel
theorem si_Tables_firstThatFits : site0 y_Tables_firstThatFits prog_8_method_3_code 8 (some .int) 3 := ⟨wd_836, wd_6, si_nh4, si_ds17⟩
theorem si_na_Realm_nextSeed : ¬ al y_Realm_nextSeed = true := by decide +kernel
theorem si_Realm_nextSeed : site0 y_Realm_nextSeed prog_5_method_27_code 1 (some .int) 1 := ⟨wd_848, wd_3, si_nh2, si_ds16⟩
theorem si_na_Realm_drawn : ¬ al y_Realm_drawn = true := by decide +kernel
theorem si_Realm_drawn : site0 y_Realm_drawn prog_5_method_28_code 1 (some .int) 1 := ⟨wd_852, wd_3, si_nh2, si_ds16⟩
theorem si_na_Realm_breakBySeed : ¬ al y_Realm_breakBySeed = true := by decide +kernel
theorem si_Realm_breakBySeed : site0 y_Realm_breakBySeed prog_5_method_26_code 8 (some .int) 2 := ⟨wd_845, wd_3, si_nh2, si_ds15⟩
theorem si_na_Sheet_renew : ¬ al y_Sheet_renew = true := by decide +kernel
theorem si_Sheet_renew : site0 y_Sheet_renew prog_6_method_2_code 3 none 2 := ⟨wd_869, wd_8, si_nh6, si_ds4⟩
theorem si_ds24 : (parseMethodDescriptor "(J)I").map (fun d => d.parameters.length) = some 1 := by decide +kernel
theorem si_na_Sheet_faultAt : ¬ al y_Sheet_faultAt = true := by decide +kernel
theorem si_Sheet_faultAt : site0 y_Sheet_faultAt prog_6_method_5_code 3 (some .int) 1 := ⟨wd_878, wd_8, si_nh6, si_ds24⟩
theorem si_na_Sheet_put : ¬ al y_Sheet_put = true := by decide +kernel
theorem si_Sheet_put : site0 y_Sheet_put prog_6_method_3_code 3 none 2 := ⟨wd_882, wd_8, si_nh6, si_ds4⟩
theorem si_na_Sheet_faultAs : ¬ al y_Sheet_faultAs = true := by decide +kernel
theorem si_Sheet_faultAs : site0 y_Sheet_faultAs prog_6_method_7_code 2 (some .int) 1 := ⟨wd_890, wd_8, si_nh6, si_ds16⟩
theorem si_na_Sheet_faultOfPair : ¬ al y_Sheet_faultOfPair = true := by decide +kernel
theorem si_Sheet_faultOfPair : site0 y_Sheet_faultOfPair prog_6_method_6_code 4 (some .int) 1 := ⟨wd_894, wd_8, si_nh6, si_ds24⟩
theorem si_na_Sheet_cellAt : ¬ al y_Sheet_cellAt = true := by decide +kernel
theorem si_Sheet_cellAt : site0 y_Sheet_cellAt prog_6_method_4_code 3 (some .int) 1 := ⟨wd_899, wd_8, si_nh6, si_ds24⟩
theorem si_na_Realm_brokenInAll : ¬ al y_Realm_brokenInAll = true := by decide +kernel
theorem si_Realm_brokenInAll : site0 y_Realm_brokenInAll prog_5_method_9_code 3 (some .int) 0 := ⟨wd_911, wd_3, si_nh2, si_ds5⟩
theorem si_na_Q_countKept : ¬ al y_Q_countKept = true := by decide +kernel
theorem si_Q_countKept : site0 y_Q_countKept prog_1_method_40_code 3 (some .int) 0 := ⟨wd_915, wd_1, si_nh7, si_ds5⟩
theorem si_na_Realm_allPurses : ¬ al y_Realm_allPurses = true := by decide +kernel
theorem si_Realm_allPurses : site0 y_Realm_allPurses prog_5_method_12_code 3 (some .int) 0 := ⟨wd_919, wd_3, si_nh2, si_ds5⟩
theorem si_na_Realm_allNeed : ¬ al y_Realm_allNeed = true := by decide +kernel
theorem si_Realm_allNeed : site0 y_Realm_allNeed prog_5_method_11_code 3 (some .int) 0 := ⟨wd_923, wd_3, si_nh2, si_ds5⟩
theorem si_nh11 : "QuotaLawsModel" ≠ "java/lang/invoke/MethodHandle" ∧ "QuotaLawsModel" ≠ "java/lang/invoke/VarHandle" := ⟨by decide +kernel, by decide +kernel⟩
theorem si_na_M_firstDraft : ¬ al y_M_firstDraft = true := by decide +kernel
theorem si_M_firstDraft : site0 y_M_firstDraft prog_10_method_5_code 2 none 0 := ⟨wd_933, wd_9, si_nh11, si_ds0⟩
theorem si_na_M_keepDraft : ¬ al y_M_keepDraft = true := by decide +kernel
theorem si_M_keepDraft : site0 y_M_keepDraft prog_10_method_6_code 2 none 0 := ⟨wd_937, wd_9, si_nh11, si_ds0⟩
theorem si_ds25 : (parseMethodDescriptor "(JJJ)Z").map (fun d => d.parameters.length) = some 3 := by decide +kernel
theorem si_na_M_in : ¬ al y_M_in = true := by decide +kernel
theorem si_M_in : site0 y_M_in prog_10_method_3_code 6 (some .boolean) 3 := ⟨wd_1063, wd_9, si_nh11, si_ds25⟩
theorem si_na_M_look : ¬ al y_M_look = true := by decide +kernel
theorem si_M_look : site0 y_M_look prog_10_method_10_code 2 (some .int) 1 := ⟨wd_1079, wd_9, si_nh11, si_ds16⟩
theorem si_ds26 : (parseMethodDescriptor "(ZI)V").map (fun d => d.parameters.length) = some 2 := by decide +kernel
theorem si_na_M_needs : ¬ al y_M_needs = true := by decide +kernel
theorem si_M_needs : site0 y_M_needs prog_10_method_9_code 3 none 2 := ⟨wd_1087, wd_9, si_nh11, si_ds26⟩
theorem si_ds27 : (parseMethodDescriptor "(IIII)Z").map (fun d => d.parameters.length) = some 4 := by decide +kernel
theorem si_na_M_is : ¬ al y_M_is = true := by decide +kernel
theorem si_M_is : site0 y_M_is prog_10_method_11_code 5 (some .boolean) 4 := ⟨wd_1099, wd_9, si_nh11, si_ds27⟩
theorem si_na_M_looked : ¬ al y_M_looked = true := by decide +kernel
theorem si_M_looked : site0 y_M_looked prog_10_method_14_code 3 (some .int) 2 := ⟨wd_1115, wd_9, si_nh11, si_ds15⟩
theorem si_na_M_next : ¬ al y_M_next = true := by decide +kernel
theorem si_M_next : site0 y_M_next prog_10_method_13_code 2 none 0 := ⟨wd_1075, wd_9, si_nh11, si_ds0⟩
theorem si_na_M_readNumber : ¬ al y_M_readNumber = true := by decide +kernel
theorem si_M_readNumber : site0 y_M_readNumber prog_10_method_15_code 4 (some .int) 2 := ⟨wd_1111, wd_9, si_nh11, si_ds15⟩
theorem si_na_M_readLawOf : ¬ al y_M_readLawOf = true := by decide +kernel
theorem si_M_readLawOf : site0 y_M_readLawOf prog_10_method_16_code 3 (some .int) 1 := ⟨wd_1119, wd_9, si_nh11, si_ds16⟩
theorem si_na_M_readLaw : ¬ al y_M_readLaw = true := by decide +kernel
theorem si_M_readLaw : site0 y_M_readLaw prog_10_method_17_code 4 none 0 := ⟨wd_1107, wd_9, si_nh11, si_ds0⟩
theorem si_na_M_readOne : ¬ al y_M_readOne = true := by decide +kernel
theorem si_M_readOne : site0 y_M_readOne prog_10_method_18_code 2 none 0 := ⟨wd_1123, wd_9, si_nh11, si_ds0⟩
theorem si_na_M_lineNow : ¬ al y_M_lineNow = true := by decide +kernel
theorem si_M_lineNow : site0 y_M_lineNow prog_10_method_12_code 1 (some .int) 0 := ⟨wd_1095, wd_9, si_nh11, si_ds5⟩
theorem si_na_M_readLineOf : ¬ al y_M_readLineOf = true := by decide +kernel
theorem si_M_readLineOf : site0 y_M_readLineOf prog_10_method_19_code 3 none 1 := ⟨wd_1103, wd_9, si_nh11, si_ds20⟩
theorem si_na_M_readLine : ¬ al y_M_readLine = true := by decide +kernel
theorem si_M_readLine : site0 y_M_readLine prog_10_method_20_code 2 none 0 := ⟨wd_1091, wd_9, si_nh11, si_ds0⟩
theorem si_na_M_doesStand : ¬ al y_M_doesStand = true := by decide +kernel
theorem si_M_doesStand : site0 y_M_doesStand prog_10_method_26_code 2 (some .boolean) 1 := ⟨wd_1147, wd_9, si_nh11, si_ds2⟩
theorem si_na_M_brokenBy : ¬ al y_M_brokenBy = true := by decide +kernel
theorem si_M_brokenBy : site0 y_M_brokenBy prog_10_method_27_code 3 (some .int) 2 := ⟨wd_1151, wd_9, si_nh11, si_ds15⟩
theorem si_na_M_isLaw : ¬ al y_M_isLaw = true := by decide +kernel
theorem si_M_isLaw : site0 y_M_isLaw prog_10_method_23_code 2 (some .boolean) 1 := ⟨wd_1139, wd_9, si_nh11, si_ds2⟩
theorem si_na_M_needOf : ¬ al y_M_needOf = true := by decide +kernel
theorem si_M_needOf : site0 y_M_needOf prog_10_method_29_code 4 (some .int) 1 := ⟨wd_1143, wd_9, si_nh11, si_ds16⟩
theorem si_na_M_chainOf : ¬ al y_M_chainOf = true := by decide +kernel
theorem si_M_chainOf : site0 y_M_chainOf prog_10_method_30_code 4 (some .int) 1 := ⟨wd_1155, wd_9, si_nh11, si_ds16⟩
theorem si_na_M_allBy : ¬ al y_M_allBy = true := by decide +kernel
theorem si_M_allBy : site0 y_M_allBy prog_10_method_28_code 4 (some .int) 1 := ⟨wd_1179, wd_9, si_nh11, si_ds16⟩
theorem si_na_M_roomOf : ¬ al y_M_roomOf = true := by decide +kernel
theorem si_M_roomOf : site0 y_M_roomOf prog_10_method_31_code 5 (some .int) 2 := ⟨wd_1171, wd_9, si_nh11, si_ds15⟩
theorem si_na_M_timeLeft : ¬ al y_M_timeLeft = true := by decide +kernel
theorem si_M_timeLeft : site0 y_M_timeLeft prog_10_method_32_code 3 (some .int) 1 := ⟨wd_1175, wd_9, si_nh11, si_ds16⟩
theorem si_na_M_isOne : ¬ al y_M_isOne = true := by decide +kernel
theorem si_M_isOne : site0 y_M_isOne prog_10_method_24_code 2 (some .boolean) 1 := ⟨wd_1163, wd_9, si_nh11, si_ds2⟩
theorem si_na_M_canBreak : ¬ al y_M_canBreak = true := by decide +kernel
theorem si_M_canBreak : site0 y_M_canBreak prog_10_method_33_code 3 (some .boolean) 2 := ⟨wd_1167, wd_9, si_nh11, si_ds6⟩
theorem si_ds28 : (parseMethodDescriptor "(Z)I").map (fun d => d.parameters.length) = some 1 := by decide +kernel
theorem si_na_M_flag : ¬ al y_M_flag = true := by decide +kernel
theorem si_M_flag : site0 y_M_flag prog_10_method_4_code 1 (some .int) 1 := ⟨wd_1182, wd_9, si_nh11, si_ds28⟩
theorem si_na_M_becomes : ¬ al y_M_becomes = true := by decide +kernel
theorem si_M_becomes : site0 y_M_becomes prog_10_method_39_code 4 (some .int) 2 := ⟨wd_1195, wd_9, si_nh11, si_ds15⟩
theorem si_na_M_becomesBit : ¬ al y_M_becomesBit = true := by decide +kernel
theorem si_M_becomesBit : site0 y_M_becomesBit prog_10_method_40_code 5 (some .int) 3 := ⟨wd_1207, wd_9, si_nh11, si_ds17⟩
theorem si_na_M_bitsOf : ¬ al y_M_bitsOf = true := by decide +kernel
theorem si_M_bitsOf : site0 y_M_bitsOf prog_10_method_25_code 3 (some .int) 1 := ⟨wd_1232, wd_9, si_nh11, si_ds16⟩
theorem si_na_M_fallsNow : ¬ al y_M_fallsNow = true := by decide +kernel
theorem si_M_fallsNow : site0 y_M_fallsNow prog_10_method_34_code 3 (some .int) 0 := ⟨wd_1244, wd_9, si_nh11, si_ds5⟩
theorem si_na_M_roomAt : ¬ al y_M_roomAt = true := by decide +kernel
theorem si_M_roomAt : site0 y_M_roomAt prog_10_method_54_code 3 (some .int) 2 := ⟨wd_1281, wd_9, si_nh11, si_ds15⟩
theorem si_ds29 : (parseMethodDescriptor "(IIII)I").map (fun d => d.parameters.length) = some 4 := by decide +kernel
theorem si_na_M_at : ¬ al y_M_at = true := by decide +kernel
theorem si_M_at : site0 y_M_at prog_10_method_53_code 4 (some .int) 4 := ⟨wd_1267, wd_9, si_nh11, si_ds29⟩
theorem si_ds30 : (parseMethodDescriptor "(IIIIIII)I").map (fun d => d.parameters.length) = some 7 := by decide +kernel
theorem si_na_M_harmBy : ¬ al y_M_harmBy = true := by decide +kernel
theorem si_M_harmBy : site0 y_M_harmBy prog_10_method_55_code 10 (some .int) 7 := ⟨wd_1277, wd_9, si_nh11, si_ds30⟩
theorem si_na_M_leastOf : ¬ al y_M_leastOf = true := by decide +kernel
theorem si_M_leastOf : site0 y_M_leastOf prog_10_method_56_code 10 (some .int) 4 := ⟨wd_1271, wd_9, si_nh11, si_ds29⟩
theorem si_na_M_startsRota : ¬ al y_M_startsRota = true := by decide +kernel
theorem si_M_startsRota : site0 y_M_startsRota prog_10_method_58_code 3 none 1 := ⟨wd_1260, wd_9, si_nh11, si_ds20⟩
theorem si_na_M_findRota : ¬ al y_M_findRota = true := by decide +kernel
theorem si_M_findRota : site0 y_M_findRota prog_10_method_57_code 5 (some .int) 0 := ⟨wd_1264, wd_9, si_nh11, si_ds5⟩
theorem si_ds31 : (parseMethodDescriptor "(IIII)V").map (fun d => d.parameters.length) = some 4 := by decide +kernel
theorem si_na_M_sharesOf : ¬ al y_M_sharesOf = true := by decide +kernel
theorem si_M_sharesOf : site0 y_M_sharesOf prog_10_method_59_code 10 none 4 := ⟨wd_1285, wd_9, si_nh11, si_ds31⟩
theorem si_na_M_triesOf : ¬ al y_M_triesOf = true := by decide +kernel
theorem si_M_triesOf : site0 y_M_triesOf prog_10_method_63_code 4 (some .int) 2 := ⟨wd_1301, wd_9, si_nh11, si_ds15⟩
theorem si_na_M_saves : ¬ al y_M_saves = true := by decide +kernel
theorem si_M_saves : site0 y_M_saves prog_10_method_65_code 2 none 0 := ⟨wd_1310, wd_9, si_nh11, si_ds0⟩
theorem si_na_M_wantedBy : ¬ al y_M_wantedBy = true := by decide +kernel
theorem si_M_wantedBy : site0 y_M_wantedBy prog_10_method_67_code 5 (some .int) 1 := ⟨wd_1314, wd_9, si_nh11, si_ds16⟩
theorem si_na_M_returns : ¬ al y_M_returns = true := by decide +kernel
theorem si_M_returns : site0 y_M_returns prog_10_method_66_code 2 none 0 := ⟨wd_1318, wd_9, si_nh11, si_ds0⟩
theorem si_ds32 : (parseMethodDescriptor "(JJ)J").map (fun d => d.parameters.length) = some 2 := by decide +kernel
theorem si_na_M_common : ¬ al y_M_common = true := by decide +kernel
theorem si_M_common : site0 y_M_common prog_10_method_69_code 10 (some .long) 2 := ⟨wd_1327, wd_9, si_nh11, si_ds32⟩
theorem si_na_M_mostOf : ¬ al y_M_mostOf = true := by decide +kernel
theorem si_M_mostOf : site0 y_M_mostOf prog_10_method_74_code 3 (some .int) 2 := ⟨wd_1352, wd_9, si_nh11, si_ds15⟩
theorem si_na_M_isSo : ¬ al y_M_isSo = true := by decide +kernel
theorem si_M_isSo : site0 y_M_isSo prog_10_method_73_code 7 (some .boolean) 3 := ⟨wd_1356, wd_9, si_nh11, si_ds1⟩
theorem si_ds33 : (parseMethodDescriptor "(IIIIII)Z").map (fun d => d.parameters.length) = some 6 := by decide +kernel
theorem si_na_M_isAsked : ¬ al y_M_isAsked = true := by decide +kernel
theorem si_M_isAsked : site0 y_M_isAsked prog_10_method_75_code 7 (some .boolean) 6 := ⟨wd_1360, wd_9, si_nh11, si_ds33⟩
theorem si_ds34 : (parseMethodDescriptor "(III)V").map (fun d => d.parameters.length) = some 3 := by decide +kernel
theorem si_na_M_addsTables : ¬ al y_M_addsTables = true := by decide +kernel
theorem si_M_addsTables : site0 y_M_addsTables prog_10_method_77_code 8 none 3 := ⟨wd_1364, wd_9, si_nh11, si_ds34⟩
theorem si_na_M_addsLaw : ¬ al y_M_addsLaw = true := by decide +kernel
theorem si_M_addsLaw : site0 y_M_addsLaw prog_10_method_76_code 9 none 4 := ⟨wd_1348, wd_9, si_nh11, si_ds31⟩
theorem si_na_M_isTime : ¬ al y_M_isTime = true := by decide +kernel
theorem si_M_isTime : site0 y_M_isTime prog_10_method_78_code 3 (some .boolean) 2 := ⟨wd_1368, wd_9, si_nh11, si_ds6⟩
theorem si_ds35 : (parseMethodDescriptor "(III)J").map (fun d => d.parameters.length) = some 3 := by decide +kernel
theorem si_na_M_tablesBy : ¬ al y_M_tablesBy = true := by decide +kernel
theorem si_M_tablesBy : site0 y_M_tablesBy prog_10_method_79_code 7 (some .long) 3 := ⟨wd_1344, wd_9, si_nh11, si_ds35⟩
theorem si_na_M_breaks : ¬ al y_M_breaks = true := by decide +kernel
theorem si_M_breaks : site0 y_M_breaks prog_10_method_49_code 5 (some .int) 2 := ⟨wd_1236, wd_9, si_nh11, si_ds15⟩
theorem si_na_M_copies : ¬ al y_M_copies = true := by decide +kernel
theorem si_M_copies : site0 y_M_copies prog_10_method_83_code 4 none 2 := ⟨wd_1387, wd_9, si_nh11, si_ds4⟩
theorem si_na_M_isSheet : ¬ al y_M_isSheet = true := by decide +kernel
theorem si_M_isSheet : site0 y_M_isSheet prog_10_method_86_code 2 (some .boolean) 2 := ⟨wd_1398, wd_9, si_nh11, si_ds6⟩
theorem si_Q_new : site0 y_Q_new prog_1_method_1_code 2 none 0 := ⟨wd_22, wd_1, si_nh7, si_ds0⟩
theorem si_M_new : site0 y_M_new prog_10_method_1_code 2 none 0 := ⟨wd_928, wd_9, si_nh11, si_ds0⟩
theorem si_na_Q_feed : ¬ al y_Q_feed = true := by decide +kernel
theorem si_Q_feed : site0 y_Q_feed prog_1_method_2_code 2 (some .int) 1 := ⟨wd_330, wd_1, si_nh7, si_ds16⟩
theorem si_na_M_feed : ¬ al y_M_feed = true := by decide +kernel
theorem si_M_feed : site0 y_M_feed prog_10_method_7_code 2 (some .int) 1 := ⟨wd_1059, wd_9, si_nh11, si_ds16⟩
theorem si_na_Q_end : ¬ al y_Q_end = true := by decide +kernel
theorem si_Q_end : site0 y_Q_end prog_1_method_3_code 3 (some .int) 1 := ⟨wd_341, wd_1, si_nh7, si_ds16⟩
theorem si_na_M_end : ¬ al y_M_end = true := by decide +kernel
theorem si_M_end : site0 y_M_end prog_10_method_8_code 3 (some .int) 1 := ⟨wd_1067, wd_9, si_nh11, si_ds16⟩
theorem si_na_Q_text : ¬ al y_Q_text = true := by decide +kernel
theorem si_Q_text : site0 y_Q_text prog_1_method_4_code 3 (some .int) 0 := ⟨wd_345, wd_1, si_nh7, si_ds5⟩
theorem si_na_M_text : ¬ al y_M_text = true := by decide +kernel
theorem si_M_text : site0 y_M_text prog_10_method_21_code 2 (some .int) 0 := ⟨wd_1071, wd_9, si_nh11, si_ds5⟩
theorem si_na_Q_fault : ¬ al y_Q_fault = true := by decide +kernel
theorem si_Q_fault : site0 y_Q_fault prog_1_method_5_code 1 (some .int) 0 := ⟨wd_510, wd_1, si_nh7, si_ds5⟩
theorem si_na_M_fault : ¬ al y_M_fault = true := by decide +kernel
theorem si_M_fault : site0 y_M_fault prog_10_method_22_code 1 (some .int) 0 := ⟨wd_1127, wd_9, si_nh11, si_ds5⟩
theorem si_na_Q_rule : ¬ al y_Q_rule = true := by decide +kernel
theorem si_Q_rule : site0 y_Q_rule prog_1_method_6_code 2 (some .int) 1 := ⟨wd_514, wd_1, si_nh7, si_ds16⟩
theorem si_na_M_rule : ¬ al y_M_rule = true := by decide +kernel
theorem si_M_rule : site0 y_M_rule prog_10_method_35_code 2 (some .int) 1 := ⟨wd_1131, wd_9, si_nh11, si_ds16⟩
theorem si_na_Q_law : ¬ al y_Q_law = true := by decide +kernel
theorem si_Q_law : site0 y_Q_law prog_1_method_7_code 3 (some .int) 2 := ⟨wd_518, wd_1, si_nh7, si_ds15⟩
theorem si_na_M_law : ¬ al y_M_law = true := by decide +kernel
theorem si_M_law : site0 y_M_law prog_10_method_36_code 3 (some .int) 2 := ⟨wd_1135, wd_9, si_nh11, si_ds15⟩
theorem si_na_Q_one : ¬ al y_Q_one = true := by decide +kernel
theorem si_Q_one : site0 y_Q_one prog_1_method_8_code 3 (some .int) 2 := ⟨wd_540, wd_1, si_nh7, si_ds15⟩
theorem si_na_M_one : ¬ al y_M_one = true := by decide +kernel
theorem si_M_one : site0 y_M_one prog_10_method_37_code 5 (some .int) 2 := ⟨wd_1159, wd_9, si_nh11, si_ds15⟩
theorem si_na_Q_broken : ¬ al y_Q_broken = true := by decide +kernel
theorem si_Q_broken : site0 y_Q_broken prog_1_method_9_code 3 (some .int) 2 := ⟨wd_569, wd_1, si_nh7, si_ds15⟩
theorem si_na_M_broken : ¬ al y_M_broken = true := by decide +kernel
theorem si_M_broken : site0 y_M_broken prog_10_method_38_code 3 (some .int) 2 := ⟨wd_1186, wd_9, si_nh11, si_ds15⟩
theorem si_na_Q_quota : ¬ al y_Q_quota = true := by decide +kernel
theorem si_Q_quota : site0 y_Q_quota prog_1_method_10_code 4 (some .int) 2 := ⟨wd_579, wd_1, si_nh7, si_ds15⟩
theorem si_na_M_quota : ¬ al y_M_quota = true := by decide +kernel
theorem si_M_quota : site0 y_M_quota prog_10_method_41_code 3 (some .int) 2 := ⟨wd_1190, wd_9, si_nh11, si_ds15⟩
theorem si_na_Q_carry : ¬ al y_Q_carry = true := by decide +kernel
theorem si_Q_carry : site0 y_Q_carry prog_1_method_11_code 4 (some .int) 2 := ⟨wd_583, wd_1, si_nh7, si_ds15⟩
theorem si_na_M_carry : ¬ al y_M_carry = true := by decide +kernel
theorem si_M_carry : site0 y_M_carry prog_10_method_42_code 3 (some .int) 2 := ⟨wd_1199, wd_9, si_nh11, si_ds15⟩
theorem si_na_Q_time : ¬ al y_Q_time = true := by decide +kernel
theorem si_Q_time : site0 y_Q_time prog_1_method_13_code 4 (some .int) 2 := ⟨wd_597, wd_1, si_nh7, si_ds15⟩
theorem si_na_M_time : ¬ al y_M_time = true := by decide +kernel
theorem si_M_time : site0 y_M_time prog_10_method_44_code 3 (some .int) 2 := ⟨wd_1211, wd_9, si_nh11, si_ds15⟩
theorem si_na_Q_fund : ¬ al y_Q_fund = true := by decide +kernel
theorem si_Q_fund : site0 y_Q_fund prog_1_method_16_code 4 (some .int) 2 := ⟨wd_609, wd_1, si_nh7, si_ds15⟩
theorem si_na_M_fund : ¬ al y_M_fund = true := by decide +kernel
theorem si_M_fund : site0 y_M_fund prog_10_method_47_code 3 (some .int) 2 := ⟨wd_1224, wd_9, si_nh11, si_ds15⟩
theorem si_na_Q_revive : ¬ al y_Q_revive = true := by decide +kernel
theorem si_Q_revive : site0 y_Q_revive prog_1_method_17_code 2 (some .int) 1 := ⟨wd_613, wd_1, si_nh7, si_ds16⟩
theorem si_na_M_revive : ¬ al y_M_revive = true := by decide +kernel
theorem si_M_revive : site0 y_M_revive prog_10_method_48_code 2 (some .int) 1 := ⟨wd_1229, wd_9, si_nh11, si_ds16⟩
theorem si_na_Q_breaks : ¬ al y_Q_breaks = true := by decide +kernel
theorem si_Q_breaks : site0 y_Q_breaks prog_1_method_18_code 3 (some .int) 2 := ⟨wd_624, wd_1, si_nh7, si_ds15⟩
theorem si_na_Q_year : ¬ al y_Q_year = true := by decide +kernel
theorem si_Q_year : site0 y_Q_year prog_1_method_19_code 1 (some .int) 0 := ⟨wd_637, wd_1, si_nh7, si_ds5⟩
theorem si_na_M_year : ¬ al y_M_year = true := by decide +kernel
theorem si_M_year : site0 y_M_year prog_10_method_50_code 3 (some .int) 0 := ⟨wd_1240, wd_9, si_nh11, si_ds5⟩
theorem si_na_Q_falls : ¬ al y_Q_falls = true := by decide +kernel
theorem si_Q_falls : site0 y_Q_falls prog_1_method_20_code 1 (some .int) 0 := ⟨wd_651, wd_1, si_nh7, si_ds5⟩
theorem si_na_M_falls : ¬ al y_M_falls = true := by decide +kernel
theorem si_M_falls : site0 y_M_falls prog_10_method_51_code 1 (some .int) 0 := ⟨wd_1248, wd_9, si_nh11, si_ds5⟩
theorem si_na_Q_most : ¬ al y_Q_most = true := by decide +kernel
theorem si_Q_most : site0 y_Q_most prog_1_method_21_code 6 (some .int) 1 := ⟨wd_656, wd_1, si_nh7, si_ds16⟩
theorem si_na_M_most : ¬ al y_M_most = true := by decide +kernel
theorem si_M_most : site0 y_M_most prog_10_method_52_code 6 (some .int) 1 := ⟨wd_1252, wd_9, si_nh11, si_ds16⟩
theorem si_na_Q_rota : ¬ al y_Q_rota = true := by decide +kernel
theorem si_Q_rota : site0 y_Q_rota prog_1_method_22_code 5 (some .int) 1 := ⟨wd_660, wd_1, si_nh7, si_ds16⟩
theorem si_na_M_rota : ¬ al y_M_rota = true := by decide +kernel
theorem si_M_rota : site0 y_M_rota prog_10_method_60_code 7 (some .int) 1 := ⟨wd_1256, wd_9, si_nh11, si_ds16⟩
theorem si_na_Q_more : ¬ al y_Q_more = true := by decide +kernel
theorem si_Q_more : site0 y_Q_more prog_1_method_23_code 3 (some .int) 1 := ⟨wd_695, wd_1, si_nh7, si_ds16⟩
theorem si_na_M_more : ¬ al y_M_more = true := by decide +kernel
theorem si_M_more : site0 y_M_more prog_10_method_61_code 5 (some .int) 1 := ⟨wd_1289, wd_9, si_nh11, si_ds16⟩
theorem si_na_Q_together : ¬ al y_Q_together = true := by decide +kernel
theorem si_Q_together : site0 y_Q_together prog_1_method_24_code 5 (some .int) 1 := ⟨wd_718, wd_1, si_nh7, si_ds16⟩
theorem si_na_M_together : ¬ al y_M_together = true := by decide +kernel
theorem si_M_together : site0 y_M_together prog_10_method_62_code 6 (some .int) 1 := ⟨wd_1293, wd_9, si_nh11, si_ds16⟩
theorem si_na_Q_kill : ¬ al y_Q_kill = true := by decide +kernel
theorem si_Q_kill : site0 y_Q_kill prog_1_method_25_code 6 (some .int) 2 := ⟨wd_723, wd_1, si_nh7, si_ds15⟩
theorem si_na_M_kill : ¬ al y_M_kill = true := by decide +kernel
theorem si_M_kill : site0 y_M_kill prog_10_method_64_code 8 (some .int) 2 := ⟨wd_1297, wd_9, si_nh11, si_ds15⟩
theorem si_na_Q_selfish : ¬ al y_Q_selfish = true := by decide +kernel
theorem si_Q_selfish : site0 y_Q_selfish prog_1_method_26_code 3 (some .int) 1 := ⟨wd_731, wd_1, si_nh7, si_ds16⟩
theorem si_na_M_selfish : ¬ al y_M_selfish = true := by decide +kernel
theorem si_M_selfish : site0 y_M_selfish prog_10_method_68_code 7 (some .int) 1 := ⟨wd_1305, wd_9, si_nh11, si_ds16⟩
theorem si_ds36 : (parseMethodDescriptor "(II)J").map (fun d => d.parameters.length) = some 2 := by decide +kernel
theorem si_na_Q_luck : ¬ al y_Q_luck = true := by decide +kernel
theorem si_Q_luck : site0 y_Q_luck prog_1_method_27_code 3 (some .long) 2 := ⟨wd_748, wd_1, si_nh7, si_ds36⟩
theorem si_na_M_luck : ¬ al y_M_luck = true := by decide +kernel
theorem si_M_luck : site0 y_M_luck prog_10_method_70_code 10 (some .long) 2 := ⟨wd_1322, wd_9, si_nh11, si_ds36⟩
theorem si_na_Q_see : ¬ al y_Q_see = true := by decide +kernel
theorem si_Q_see : site0 y_Q_see prog_1_method_28_code 5 (some .int) 3 := ⟨wd_771, wd_1, si_nh7, si_ds18⟩
theorem si_na_M_see : ¬ al y_M_see = true := by decide +kernel
theorem si_M_see : site0 y_M_see prog_10_method_71_code 6 (some .int) 3 := ⟨wd_1331, wd_9, si_nh11, si_ds18⟩
theorem si_na_Q_forget : ¬ al y_Q_forget = true := by decide +kernel
theorem si_Q_forget : site0 y_Q_forget prog_1_method_29_code 3 (some .int) 1 := ⟨wd_779, wd_1, si_nh7, si_ds16⟩
theorem si_na_M_forget : ¬ al y_M_forget = true := by decide +kernel
theorem si_M_forget : site0 y_M_forget prog_10_method_72_code 2 (some .int) 1 := ⟨wd_1336, wd_9, si_nh11, si_ds16⟩
theorem si_na_Q_books : ¬ al y_Q_books = true := by decide +kernel
theorem si_Q_books : site0 y_Q_books prog_1_method_30_code 1 (some .long) 0 := ⟨wd_783, wd_1, si_nh7, si_ds23⟩
theorem si_na_M_books : ¬ al y_M_books = true := by decide +kernel
theorem si_M_books : site0 y_M_books prog_10_method_80_code 1 (some .long) 0 := ⟨wd_1340, wd_9, si_nh11, si_ds23⟩
theorem si_na_Q_entry : ¬ al y_Q_entry = true := by decide +kernel
theorem si_Q_entry : site0 y_Q_entry prog_1_method_31_code 4 (some .int) 3 := ⟨wd_832, wd_1, si_nh7, si_ds18⟩
theorem si_na_M_entry : ¬ al y_M_entry = true := by decide +kernel
theorem si_M_entry : site0 y_M_entry prog_10_method_81_code 8 (some .int) 3 := ⟨wd_1372, wd_9, si_nh11, si_ds18⟩
theorem si_na_Q_wild : ¬ al y_Q_wild = true := by decide +kernel
theorem si_Q_wild : site0 y_Q_wild prog_1_method_32_code 5 (some .int) 3 := ⟨wd_841, wd_1, si_nh7, si_ds18⟩
theorem si_na_M_wild : ¬ al y_M_wild = true := by decide +kernel
theorem si_M_wild : site0 y_M_wild prog_10_method_82_code 8 (some .int) 3 := ⟨wd_1376, wd_9, si_nh11, si_ds18⟩
theorem si_na_Q_keep : ¬ al y_Q_keep = true := by decide +kernel
theorem si_Q_keep : site0 y_Q_keep prog_1_method_33_code 3 (some .int) 1 := ⟨wd_857, wd_1, si_nh7, si_ds16⟩
theorem si_na_M_keep : ¬ al y_M_keep = true := by decide +kernel
theorem si_M_keep : site0 y_M_keep prog_10_method_84_code 3 (some .int) 1 := ⟨wd_1383, wd_9, si_nh11, si_ds16⟩
theorem si_na_Q_back : ¬ al y_Q_back = true := by decide +kernel
theorem si_Q_back : site0 y_Q_back prog_1_method_34_code 2 (some .int) 1 := ⟨wd_861, wd_1, si_nh7, si_ds16⟩
theorem si_na_M_back : ¬ al y_M_back = true := by decide +kernel
theorem si_M_back : site0 y_M_back prog_10_method_85_code 2 (some .int) 1 := ⟨wd_1391, wd_9, si_nh11, si_ds16⟩
theorem si_na_Q_sheet : ¬ al y_Q_sheet = true := by decide +kernel
theorem si_Q_sheet : site0 y_Q_sheet prog_1_method_35_code 4 (some .int) 3 := ⟨wd_865, wd_1, si_nh7, si_ds18⟩
theorem si_na_M_sheet : ¬ al y_M_sheet = true := by decide +kernel
theorem si_M_sheet : site0 y_M_sheet prog_10_method_87_code 5 (some .int) 3 := ⟨wd_1395, wd_9, si_nh11, si_ds18⟩
theorem si_na_Q_lay : ¬ al y_Q_lay = true := by decide +kernel
theorem si_Q_lay : site0 y_Q_lay prog_1_method_36_code 5 (some .int) 3 := ⟨wd_874, wd_1, si_nh7, si_ds18⟩
theorem si_na_M_lay : ¬ al y_M_lay = true := by decide +kernel
theorem si_M_lay : site0 y_M_lay prog_10_method_88_code 4 (some .int) 3 := ⟨wd_1402, wd_9, si_nh11, si_ds18⟩
theorem si_na_Q_read : ¬ al y_Q_read = true := by decide +kernel
theorem si_Q_read : site0 y_Q_read prog_1_method_37_code 11 (some .int) 4 := ⟨wd_886, wd_1, si_nh7, si_ds29⟩
theorem si_na_M_read : ¬ al y_M_read = true := by decide +kernel
theorem si_M_read : site0 y_M_read prog_10_method_89_code 11 (some .int) 4 := ⟨wd_1406, wd_9, si_nh11, si_ds29⟩
theorem si_na_Q_torn : ¬ al y_Q_torn = true := by decide +kernel
theorem si_Q_torn : site0 y_Q_torn prog_1_method_38_code 1 (some .int) 0 := ⟨wd_903, wd_1, si_nh7, si_ds5⟩
theorem si_na_M_torn : ¬ al y_M_torn = true := by decide +kernel
theorem si_M_torn : site0 y_M_torn prog_10_method_90_code 1 (some .int) 0 := ⟨wd_1410, wd_9, si_nh11, si_ds5⟩
theorem si_na_Q_count : ¬ al y_Q_count = true := by decide +kernel
theorem si_Q_count : site0 y_Q_count prog_1_method_39_code 2 (some .int) 1 := ⟨wd_907, wd_1, si_nh7, si_ds16⟩
theorem si_na_M_count : ¬ al y_M_count = true := by decide +kernel
theorem si_M_count : site0 y_M_count prog_10_method_91_code 6 (some .int) 1 := ⟨wd_1414, wd_9, si_nh11, si_ds16⟩
theorem si_na_Q_want : ¬ al y_Q_want = true := by decide +kernel
theorem si_Q_want : site0 y_Q_want prog_1_method_15_code 5 (some .int) 3 := ⟨wd_605, wd_1, si_nh7, si_ds17⟩
theorem si_na_M_want : ¬ al y_M_want = true := by decide +kernel
theorem si_M_want : site0 y_M_want prog_10_method_46_code 4 (some .int) 3 := ⟨wd_1220, wd_9, si_nh11, si_ds17⟩
theorem si_na_Q_refuse : ¬ al y_Q_refuse = true := by decide +kernel
theorem si_Q_refuse : site0 y_Q_refuse prog_1_method_14_code 5 (some .int) 3 := ⟨wd_601, wd_1, si_nh7, si_ds17⟩
theorem si_na_M_refuse : ¬ al y_M_refuse = true := by decide +kernel
theorem si_M_refuse : site0 y_M_refuse prog_10_method_45_code 4 (some .int) 3 := ⟨wd_1216, wd_9, si_nh11, si_ds17⟩
theorem si_ds37 : (parseMethodDescriptor "(IZ)I").map (fun d => d.parameters.length) = some 2 := by decide +kernel
theorem si_na_Q_watch : ¬ al y_Q_watch = true := by decide +kernel
theorem si_Q_watch : site0 y_Q_watch prog_1_method_12_code 4 (some .int) 2 := ⟨wd_587, wd_1, si_nh7, si_ds37⟩
theorem si_na_M_watch : ¬ al y_M_watch = true := by decide +kernel
theorem si_M_watch : site0 y_M_watch prog_10_method_43_code 3 (some .int) 2 := ⟨wd_1203, wd_9, si_nh11, si_ds37⟩
theorem si_ds38 : (parseMethodDescriptor "()B").map (fun d => d.parameters.length) = some 0 := by decide +kernel
theorem si_na_String_coder : ¬ al y_String_coder = true := by decide +kernel
theorem si_String_coder : site0 y_String_coder prog_13_method_152_code 1 (some .byte) 0 := ⟨wd_393, wd_11, si_nh9, si_ds38⟩
theorem si_na_String_isLatin1 : ¬ al y_String_isLatin1 = true := by decide +kernel
theorem si_String_isLatin1 : site0 y_String_isLatin1 prog_13_method_154_code 1 (some .boolean) 0 := ⟨wd_403, wd_11, si_nh9, si_ds8⟩
theorem si_na_String_checkIndex : ¬ al y_String_checkIndex = true := by decide +kernel
theorem si_String_checkIndex : site0 y_String_checkIndex prog_13_method_155_code 2 none 2 := ⟨wd_409, wd_11, si_nh9, si_ds4⟩
theorem si_nh12 : "java/lang/StringLatin1" ≠ "java/lang/invoke/MethodHandle" ∧ "java/lang/StringLatin1" ≠ "java/lang/invoke/VarHandle" := ⟨by decide +kernel, by decide +kernel⟩
theorem si_ds39 : (parseMethodDescriptor "([BI)C").map (fun d => d.parameters.length) = some 2 := by decide +kernel
theorem si_na_StringLatin1_charAt : ¬ al y_StringLatin1_charAt = true := by decide +kernel
theorem si_StringLatin1_charAt : site0 y_StringLatin1_charAt prog_14_method_2_code 2 (some .char) 2 := ⟨wd_406, wd_12, si_nh12, si_ds39⟩
theorem si_nh13 : "jdk/internal/util/Preconditions" ≠ "java/lang/invoke/MethodHandle" ∧ "jdk/internal/util/Preconditions" ≠ "java/lang/invoke/VarHandle" := ⟨by decide +kernel, by decide +kernel⟩
theorem si_ds40 : (parseMethodDescriptor "(IILjava/util/function/BiFunction;)I").map (fun d => d.parameters.length) = some 3 := by decide +kernel
theorem si_na_Preconditions_checkIndex : ¬ al y_Preconditions_checkIndex = true := by decide +kernel
theorem si_Preconditions_checkIndex : site0 y_Preconditions_checkIndex prog_18_method_11_code 3 (some .int) 3 := ⟨wd_414, wd_13, si_nh13, si_ds40⟩
end
/-! 06.string -/
section
/-! String constants: length() and charAt(), over the model -/
def strLen (o : Nat) : Option Int32 := if 1000 ≤ o ∧ o < 1000 + strK.length then some (Int32.ofNat (strL.getD (o - 1000) 0)) else none
def strAt (o : Nat) (i : Int32) : Option Int32 := if (1000 ≤ o ∧ o < 1000 + strK.length) ∧ ¬ (i < 0 ∨ strL.getD (o - 1000) 0 ≤ i.toNatClampNeg) then some ((strB.getD (o - 1000) []).getD i.toNatClampNeg 0) else none
def f_String_length (o : Nat) (h : mH) : Option (Int32 × mH) := bd1 (strLen o) fun n => some (n >>> ((0 : Int32) &&& 31), h)
def f_String_charAt (o : Nat) (i : Int32) (h : mH) : Option (Int32 × mH) := bd1 (strAt o i) fun b => some (((b &&& 255).toUInt32 % 65536).toInt32, h)
section
variable {sc : Nat × (Nat → Int32)} {y : MethodName} {cc : ByteArray} {mL : Nat} {ret : Option FieldType} {fr lo pc : Nat} {lv lv' : List (Nat × Value)} {stk rest : List Value} {h h1 h' : mH} {r r1 : Option Value}
theorem Sr.out {dC : Nat → ClassId} {dI : Nat → Nat → Nat} {dA : Nat → ClassId} {ad0 : Nat → Nat} {n0 s0 : Nat} {A : Nat → Prop} {s : State} {ad : Nat → Nat} {H : Heap} {locs : List Loc} {ls : Array Slot} (S : Sr mL dC dI dA ad0 n0 s0 A s h lv ad H locs ls) {k : Nat} (hk : 1000 ≤ k) : ad k = ad0 k := S.2.2.2.2.1 k (Or.inr (Nat.le_trans S.2.2.2.2.2.2.2.1 hk))
theorem g_strV {index i : Nat} (hi : i < strK.length) (hd : decode cc pc = .ok (.getfield index, 3)) (hlink : Cond.fieldLink y.cls index "java/lang/String" "value" "[B" ∈ tbg) (k : G sc y cc mL ret fr lo (pc + 3) lv (.ref (1100 + i) :: stk) h r h') : G sc y cc mL ret fr lo pc lv (.ref (1000 + i) :: stk) h r h' :=
  ⟨k.1, k.2.1, fun l p e R s m args below meth c dC dI dA ad0 n0 s0 A Qc C q f1 f2 f3 f4 ad H locs ls S => by
    have key := k.2.2 l p e R s m args below meth c dC dI dA ad0 n0 s0 A Qc C q f1 f2 f3 f4 ad H locs ls S
    have hz := (C.2.2.2.2.2.2.2.2.2.1.2.2.1.1 i hi).2.2.1
    dsimp only at hz
    rw [← S.out (k := 1000 + i) (by omega), ← S.out (k := 1100 + i) (by omega)] at hz
    exact vk_getf C.1 C.2.1 hz S.2.2.1 C.2.2.2.2.2.1 (C.2.2.2.2.2.2.2.1 _ hlink) (fun _ z => z) hd key⟩
theorem g_strC {index i : Nat} (hi : i < strK.length) (hd : decode cc pc = .ok (.getfield index, 3)) (hlink : Cond.fieldLink y.cls index "java/lang/String" "coder" "B" ∈ tbg) (k : G sc y cc mL ret fr lo (pc + 3) lv (.int 0 :: stk) h r h') : G sc y cc mL ret fr lo pc lv (.ref (1000 + i) :: stk) h r h' :=
  ⟨k.1, k.2.1, fun l p e R s m args below meth c dC dI dA ad0 n0 s0 A Qc C q f1 f2 f3 f4 ad H locs ls S => by
    have key := k.2.2 l p e R s m args below meth c dC dI dA ad0 n0 s0 A Qc C q f1 f2 f3 f4 ad H locs ls S
    have hz := (C.2.2.2.2.2.2.2.2.2.1.2.2.1.1 i hi).2.1
    dsimp only at hz
    rw [← S.out (k := 1000 + i) (by omega)] at hz
    exact vk_getf C.1 C.2.1 hz S.2.2.1 C.2.2.2.2.2.1 (C.2.2.2.2.2.2.2.1 _ hlink) (fun _ z => z) hd key⟩
theorem g_strN {i : Nat} (hi : i < strK.length) (hd : decode cc pc = .ok (.arraylength, 1)) (k : G sc y cc mL ret fr lo (pc + 1) lv (.int (Int32.ofNat (strL.getD i 0)) :: stk) h r h') : G sc y cc mL ret fr lo pc lv (.ref (1100 + i) :: stk) h r h' :=
  ⟨k.1, k.2.1, fun l p e R s m args below meth c dC dI dA ad0 n0 s0 A Qc C q f1 f2 f3 f4 ad H locs ls S => by
    have key := k.2.2 l p e R s m args below meth c dC dI dA ad0 n0 s0 A Qc C q f1 f2 f3 f4 ad H locs ls S
    have hz := (C.2.2.2.2.2.2.2.2.2.1.2.2.1.1 i hi).2.2.2
    dsimp only at hz
    rw [← S.out (k := 1100 + i) (by omega)] at hz
    exact va_tlen C.1 C.2.1 hz S.2.2.1 rfl hd key⟩
theorem g_strB {i : Nat} {j : Int32} (hi : i < strK.length) (hj : vp_in j (strL.getD i 0)) (hd : decode cc pc = .ok (.baload, 1)) (k : G sc y cc mL ret fr lo (pc + 1) lv (.int ((strB.getD i []).getD j.toNatClampNeg 0) :: stk) h r h') : G sc y cc mL ret fr lo pc lv (.int j :: .ref (1100 + i) :: stk) h r h' :=
  ⟨k.1, k.2.1, fun l p e R s m args below meth c dC dI dA ad0 n0 s0 A Qc C q f1 f2 f3 f4 ad H locs ls S => by
    have key := k.2.2 l p e R s m args below meth c dC dI dA ad0 n0 s0 A Qc C q f1 f2 f3 f4 ad H locs ls S
    have hz := (C.2.2.2.2.2.2.2.2.2.1.2.2.1.1 i hi).2.2.2
    dsimp only at hz
    rw [← S.out (k := 1100 + i) (by omega)] at hz
    exact va_tb C.1 C.2.1 hz S.2.2.1 hj rfl hd key⟩
theorem g_getsC {index : Nat} (hd : decode cc pc = .ok (.getstatic index, 3)) (hlink : Cond.fieldLink y.cls index "java/lang/String" "COMPACT_STRINGS" "Z" ∈ tbg) (k : G sc y cc mL ret fr lo (pc + 3) lv (.int 1 :: stk) h r h') : G sc y cc mL ret fr lo pc lv stk h r h' :=
  ⟨k.1, k.2.1, fun l p e R s m args below meth c dC dI dA ad0 n0 s0 A Qc C q f1 f2 f3 f4 ad H locs ls S =>
    va_gets C.1 C.2.1 C.2.2.2.2.2.2.2.2.2.1.2.2.2.1 S.2.2.1 C.2.2.2.2.2.1 (C.2.2.2.2.2.2.2.1 _ hlink) (fun _ z => z) hd (k.2.2 l p e R s m args below meth c dC dI dA ad0 n0 s0 A Qc C q f1 f2 f3 f4 ad H locs ls S)⟩
theorem g_getsF {index : Nat} (hd : decode cc pc = .ok (.getstatic index, 3)) (hlink : Cond.fieldLink y.cls index "jdk/internal/util/Preconditions" "SIOOBE_FORMATTER" "Ljava/util/function/BiFunction;" ∈ tbg) (k : ∀ v : Value, v = .null ∨ v = .ref 1200 → G sc y cc mL ret fr lo (pc + 3) lv (v :: stk) h r h') : G sc y cc mL ret fr lo pc lv stk h r h' :=
  ⟨(k .null (Or.inl rfl)).1, (k .null (Or.inl rfl)).2.1, fun l p e R s m args below meth c dC dI dA ad0 n0 s0 A Qc C q f1 f2 f3 f4 ad H locs ls S => by
    rcases C.2.2.2.2.2.2.2.2.2.1.2.2.2.2.1 with hz | hz
    · exact va_gets C.1 C.2.1 hz S.2.2.1 C.2.2.2.2.2.1 (C.2.2.2.2.2.2.2.1 _ hlink) (fun _ z => z) hd ((k .null (Or.inl rfl)).2.2 l p e R s m args below meth c dC dI dA ad0 n0 s0 A Qc C q f1 f2 f3 f4 ad H locs ls S)
    · rw [← S.out (k := 1200) (by omega)] at hz
      exact va_gets C.1 C.2.1 hz S.2.2.1 C.2.2.2.2.2.1 (C.2.2.2.2.2.2.2.1 _ hlink) (fun _ z => z) hd ((k (.ref 1200) (Or.inr rfl)).2.2 l p e R s m args below meth c dC dI dA ad0 n0 s0 A Qc C q f1 f2 f3 f4 ad H locs ls S)⟩
theorem g_i2c {a : Int32} (hd : decode cc pc = .ok (.i2c, 1)) (k : G sc y cc mL ret fr lo (pc + 1) lv (.int (a.toUInt32 % 65536).toInt32 :: stk) h r h') : G sc y cc mL ret fr lo pc lv (.int a :: stk) h r h' :=
  g_pure (fun hx hb _ _ _ k => lv_i2c hx hb hd rfl k) k
theorem g_callT {y2 : MethodName} {cc2 : ByteArray} {mL2 : Nat} {ret2 : Option FieldType} {fr2 lo2 index i : Nat} (As : List Value) (hi : i < strK.length) (hs : site y y2 cc2 mL2 ret2 fr lo fr2 lo2 As.length) (hlink : Cond.methodLink y.cls index y2 ∈ tbg) (hin : Cond.instanceMethod y2 ∈ tbg) (hsel : Cond.selects "java/lang/String" y2 y2 ∈ tbg) (hd : decode cc pc = .ok (.invokevirtual index, 3)) (hcat : (rest.map fun v => v.category).sum ≤ 8) (hal : al y2 = true → al y = true) (hlv : al y2 = true → ∀ q ∈ lv, okv h.1 h1.1 q.2) (hst : al y2 = true → ∀ v ∈ rest, okv h.1 h1.1 v) (M : MM sc y2 cc2 mL2 ret2 fr2 lo2 (.ref (1000 + i) :: As) h r1 h1) (hk : stk = As.reverse ++ .ref (1000 + i) :: rest)
    (k : G sc y cc mL ret fr lo (pc + 3) lv (r1.toList ++ rest) h1 r h') : G sc y cc mL ret fr lo pc lv stk h r h' := by
  obtain ⟨s1, s2, s3, s4, s5, s6⟩ := hs
  subst hk
  refine g_run ⟨M.1, M.2.1⟩ hal hlv hst (fun l p e R s m args below meth c dC dI dA ad0 n0 s0 A C f1 f2 f3 f4 ad H locs ls S hpm => ?_) k
  have hts := C.2.2.2.2.2.2.2.1
  have z1 := M.1.1
  have z2 := M.2.1.1
  have z3 := S.2.2.2.2.2.1
  have z4 := S.2.2.2.2.2.2.1
  have hrc := vk_recv C.2.2.2.2.2.2.2.2.2.1.2.2.1 hi S.2.2.1
  try dsimp only at hrc
  rw [← S.out (k := 1000 + i) (by omega)] at hrc
  exact ⟨_, va_runV (C := "java/lang/String") (b := ad (1000 + i)) (As := As.map (cv ad)) (rest := rest.map (cv ad)) (Ts := tbg) (own := y.cls) (nL := mL) ⟨C.1, C.2.1, C.2.2.2.1, C.2.2.2.2.2.1, hts⟩ (M.2.2 l dC dI dA ad H.size)
    ⟨⟨rfl, rfl, by show fr2 + 1 ≤ _; omega, by show 8 + (mL2 + 11) + lo2 ≤ _; omega, pay_in hts (ws_good s1), List.mem_cons_self, hts _ s1, hts _ s2, s3, len_of s4, hts _ hlink⟩, hts _ hin, hts _ hsel⟩
    ⟨PM_blind, hrc, fun U hU hW => ⟨rfl, hpm U hU hW⟩⟩ rfl (by rw [List.length_map]) S.2.2.2.1.1 (by simp [cv]) (lv_room (by rw [cat_cv]; exact hcat)) hd ⟨by omega, by omega⟩⟩
theorem g_callTo {y2 : MethodName} {cc2 : ByteArray} {mL2 : Nat} {ret2 : Option FieldType} {fr2 lo2 index o : Nat} (As : List Value) (ho : ∃ i, i < strK.length ∧ o = 1000 + i) (hs : site y y2 cc2 mL2 ret2 fr lo fr2 lo2 As.length) (hlink : Cond.methodLink y.cls index y2 ∈ tbg) (hin : Cond.instanceMethod y2 ∈ tbg) (hsel : Cond.selects "java/lang/String" y2 y2 ∈ tbg) (hd : decode cc pc = .ok (.invokevirtual index, 3)) (hcat : (rest.map fun v => v.category).sum ≤ 8) (hal : al y2 = true → al y = true) (hlv : al y2 = true → ∀ q ∈ lv, okv h.1 h1.1 q.2) (hst : al y2 = true → ∀ v ∈ rest, okv h.1 h1.1 v) (M : MM sc y2 cc2 mL2 ret2 fr2 lo2 (.ref o :: As) h r1 h1) (hk : stk = As.reverse ++ .ref o :: rest)
    (k : G sc y cc mL ret fr lo (pc + 3) lv (r1.toList ++ rest) h1 r h') : G sc y cc mL ret fr lo pc lv stk h r h' := by
  obtain ⟨i, hi, rfl⟩ := ho
  exact g_callT As hi hs hlink hin hsel hd hcat hal hlv hst M hk k
end
theorem d_String_length_0 : decode prog_13_method_54_code 0 = .ok (.aload_n 0, 1) := by decide +kernel
theorem d_String_length_1 : decode prog_13_method_54_code 1 = .ok (.getfield 9, 3) := by decide +kernel
theorem d_String_length_4 : decode prog_13_method_54_code 4 = .ok (.arraylength, 1) := by decide +kernel
theorem d_String_length_5 : decode prog_13_method_54_code 5 = .ok (.aload_n 0, 1) := by decide +kernel
theorem d_String_length_6 : decode prog_13_method_54_code 6 = .ok (.invokevirtual 335, 3) := by decide +kernel
theorem d_String_length_9 : decode prog_13_method_54_code 9 = .ok (.ishr, 1) := by decide +kernel
theorem d_String_length_10 : decode prog_13_method_54_code 10 = .ok (.ireturn, 1) := by decide +kernel
theorem d_String_coder_0 : decode prog_13_method_152_code 0 = .ok (.getstatic 38, 3) := by decide +kernel
theorem d_String_coder_3 : decode prog_13_method_152_code 3 = .ok (.ifCond .eq 10, 3) := by decide +kernel
theorem d_String_coder_6 : decode prog_13_method_152_code 6 = .ok (.aload_n 0, 1) := by decide +kernel
theorem d_String_coder_7 : decode prog_13_method_152_code 7 = .ok (.getfield 15, 3) := by decide +kernel
theorem d_String_coder_10 : decode prog_13_method_152_code 10 = .ok (.goto 4, 3) := by decide +kernel
theorem d_String_coder_13 : decode prog_13_method_152_code 13 = .ok (.iconst 1, 1) := by decide +kernel
theorem d_String_coder_14 : decode prog_13_method_152_code 14 = .ok (.ireturn, 1) := by decide +kernel
theorem d_String_charAt_0 : decode prog_13_method_56_code 0 = .ok (.aload_n 0, 1) := by decide +kernel
theorem d_String_charAt_1 : decode prog_13_method_56_code 1 = .ok (.invokevirtual 492, 3) := by decide +kernel
theorem d_String_charAt_4 : decode prog_13_method_56_code 4 = .ok (.ifCond .eq 12, 3) := by decide +kernel
theorem d_String_charAt_7 : decode prog_13_method_56_code 7 = .ok (.aload_n 0, 1) := by decide +kernel
theorem d_String_charAt_8 : decode prog_13_method_56_code 8 = .ok (.getfield 9, 3) := by decide +kernel
theorem d_String_charAt_11 : decode prog_13_method_56_code 11 = .ok (.iload_n 1, 1) := by decide +kernel
theorem d_String_charAt_12 : decode prog_13_method_56_code 12 = .ok (.invokestatic 495, 3) := by decide +kernel
theorem d_String_charAt_15 : decode prog_13_method_56_code 15 = .ok (.ireturn, 1) := by decide +kernel
theorem d_String_charAt_16 : decode prog_13_method_56_code 16 = .ok (.aload_n 0, 1) := by decide +kernel
theorem d_String_charAt_17 : decode prog_13_method_56_code 17 = .ok (.getfield 9, 3) := by decide +kernel
theorem d_String_charAt_20 : decode prog_13_method_56_code 20 = .ok (.iload_n 1, 1) := by decide +kernel
theorem d_String_charAt_21 : decode prog_13_method_56_code 21 = .ok (.invokestatic 498, 3) := by decide +kernel
theorem d_String_charAt_24 : decode prog_13_method_56_code 24 = .ok (.ireturn, 1) := by decide +kernel
theorem d_String_isLatin1_0 : decode prog_13_method_154_code 0 = .ok (.getstatic 38, 3) := by decide +kernel
theorem d_String_isLatin1_3 : decode prog_13_method_154_code 3 = .ok (.ifCond .eq 14, 3) := by decide +kernel
theorem d_String_isLatin1_6 : decode prog_13_method_154_code 6 = .ok (.aload_n 0, 1) := by decide +kernel
theorem d_String_isLatin1_7 : decode prog_13_method_154_code 7 = .ok (.getfield 15, 3) := by decide +kernel
theorem d_String_isLatin1_10 : decode prog_13_method_154_code 10 = .ok (.ifCond .ne 7, 3) := by decide +kernel
theorem d_String_isLatin1_13 : decode prog_13_method_154_code 13 = .ok (.iconst 1, 1) := by decide +kernel
theorem d_String_isLatin1_14 : decode prog_13_method_154_code 14 = .ok (.goto 4, 3) := by decide +kernel
theorem d_String_isLatin1_17 : decode prog_13_method_154_code 17 = .ok (.iconst 0, 1) := by decide +kernel
theorem d_String_isLatin1_18 : decode prog_13_method_154_code 18 = .ok (.ireturn, 1) := by decide +kernel
theorem d_String_checkIndex_0 : decode prog_13_method_155_code 0 = .ok (.iload_n 0, 1) := by decide +kernel
theorem d_String_checkIndex_1 : decode prog_13_method_155_code 1 = .ok (.iload_n 1, 1) := by decide +kernel
theorem d_String_checkIndex_2 : decode prog_13_method_155_code 2 = .ok (.getstatic 1053, 3) := by decide +kernel
theorem d_String_checkIndex_5 : decode prog_13_method_155_code 5 = .ok (.invokestatic 1059, 3) := by decide +kernel
theorem d_String_checkIndex_8 : decode prog_13_method_155_code 8 = .ok (.pop, 1) := by decide +kernel
theorem d_String_checkIndex_9 : decode prog_13_method_155_code 9 = .ok (.return_, 1) := by decide +kernel
theorem d_StringLatin1_charAt_0 : decode prog_14_method_2_code 0 = .ok (.iload_n 1, 1) := by decide +kernel
theorem d_StringLatin1_charAt_1 : decode prog_14_method_2_code 1 = .ok (.aload_n 0, 1) := by decide +kernel
theorem d_StringLatin1_charAt_2 : decode prog_14_method_2_code 2 = .ok (.arraylength, 1) := by decide +kernel
theorem d_StringLatin1_charAt_3 : decode prog_14_method_2_code 3 = .ok (.invokestatic 9, 3) := by decide +kernel
theorem d_StringLatin1_charAt_6 : decode prog_14_method_2_code 6 = .ok (.aload_n 0, 1) := by decide +kernel
theorem d_StringLatin1_charAt_7 : decode prog_14_method_2_code 7 = .ok (.iload_n 1, 1) := by decide +kernel
theorem d_StringLatin1_charAt_8 : decode prog_14_method_2_code 8 = .ok (.baload, 1) := by decide +kernel
theorem d_StringLatin1_charAt_9 : decode prog_14_method_2_code 9 = .ok (.sipush 255, 3) := by decide +kernel
theorem d_StringLatin1_charAt_12 : decode prog_14_method_2_code 12 = .ok (.iand, 1) := by decide +kernel
theorem d_StringLatin1_charAt_13 : decode prog_14_method_2_code 13 = .ok (.i2c, 1) := by decide +kernel
theorem d_StringLatin1_charAt_14 : decode prog_14_method_2_code 14 = .ok (.ireturn, 1) := by decide +kernel
theorem d_Preconditions_checkIndex_0 : decode prog_18_method_11_code 0 = .ok (.iload_n 0, 1) := by decide +kernel
theorem d_Preconditions_checkIndex_1 : decode prog_18_method_11_code 1 = .ok (.ifCond .lt 8, 3) := by decide +kernel
theorem d_Preconditions_checkIndex_4 : decode prog_18_method_11_code 4 = .ok (.iload_n 0, 1) := by decide +kernel
theorem d_Preconditions_checkIndex_5 : decode prog_18_method_11_code 5 = .ok (.iload_n 1, 1) := by decide +kernel
theorem d_Preconditions_checkIndex_6 : decode prog_18_method_11_code 6 = .ok (.if_icmp .lt 10, 3) := by decide +kernel
theorem d_Preconditions_checkIndex_9 : decode prog_18_method_11_code 9 = .ok (.aload_n 2, 1) := by decide +kernel
theorem d_Preconditions_checkIndex_10 : decode prog_18_method_11_code 10 = .ok (.iload_n 0, 1) := by decide +kernel
theorem d_Preconditions_checkIndex_11 : decode prog_18_method_11_code 11 = .ok (.iload_n 1, 1) := by decide +kernel
theorem d_Preconditions_checkIndex_12 : decode prog_18_method_11_code 12 = .ok (.invokestatic 95, 3) := by decide +kernel
theorem d_Preconditions_checkIndex_15 : decode prog_18_method_11_code 15 = .ok (.athrow, 1) := by decide +kernel
theorem d_Preconditions_checkIndex_16 : decode prog_18_method_11_code 16 = .ok (.iload_n 0, 1) := by decide +kernel
theorem d_Preconditions_checkIndex_17 : decode prog_18_method_11_code 17 = .ok (.ireturn, 1) := by decide +kernel
theorem c_String_coder {sc : Nat × (Nat → Int32)} {i : Nat} {h : mH} (hi : i < strK.length) : MM sc y_String_coder prog_13_method_152_code 1 (some .byte) 0 0 [.ref (1000 + i)] h (some (.int 0)) h := by
  refine mm_of_G (by decide) (Nat.le_of_ble_eq_true rfl) ?_
  refine g_getsC (pc := 0) d_String_coder_0 wd_394 ?_
  refine g_ifeq (pc := 3) 13 d_String_coder_3 (by decide) (fun c => absurd c (by decide)) (fun _ => ?_)
  refine g_aload_n (pc := 6) 0 d_String_coder_6 rfl rfl ?_
  refine g_strC (pc := 7) hi d_String_coder_7 wd_1416 ?_
  refine g_goto (pc := 10) 14 d_String_coder_10 (by decide) ?_
  exact g_zret (pc := 14) rfl rfl d_String_coder_14
theorem c_String_isLatin1 {sc : Nat × (Nat → Int32)} {i : Nat} {h : mH} (hi : i < strK.length) : MM sc y_String_isLatin1 prog_13_method_154_code 1 (some .boolean) 0 0 [.ref (1000 + i)] h (some (.int 1)) h := by
  refine mm_of_G (by decide) (Nat.le_of_ble_eq_true rfl) ?_
  refine g_getsC (pc := 0) d_String_isLatin1_0 wd_394 ?_
  refine g_ifeq (pc := 3) 17 d_String_isLatin1_3 (by decide) (fun c => absurd c (by decide)) (fun _ => ?_)
  refine g_aload_n (pc := 6) 0 d_String_isLatin1_6 rfl rfl ?_
  refine g_strC (pc := 7) hi d_String_isLatin1_7 wd_1416 ?_
  refine g_ifne (pc := 10) 17 d_String_isLatin1_10 (by decide) (fun c => absurd rfl c) (fun _ => ?_)
  refine g_iconst (pc := 13) 1 d_String_isLatin1_13 (by decide) ?_
  refine g_goto (pc := 14) 18 d_String_isLatin1_14 (by decide) ?_
  exact g_zret (pc := 18) rfl rfl d_String_isLatin1_18
theorem c_String_length {sc : Nat × (Nat → Int32)} {o : Nat} {h : mH} {r : Int32} {h' : mH} (hf : f_String_length o h = some (r, h')) : MM sc y_String_length prog_13_method_54_code 1 (some .int) 1 20 [.ref o] h (some (.int r)) h' := by
  obtain ⟨n, e, hf⟩ := bd1_e hf
  unfold strLen at e
  split at e
  · next q =>
    obtain ⟨i, rfl⟩ : ∃ i, o = 1000 + i := ⟨o - 1000, by omega⟩
    have hi : i < strK.length := by omega
    rw [show 1000 + i - 1000 = i by omega] at e
    obtain rfl := ret1 e
    obtain ⟨rfl, rfl⟩ := ret2 hf
    refine mm_of_G (by decide) (Nat.le_of_ble_eq_true rfl) ?_
    refine g_aload_n (pc := 0) 0 d_String_length_0 rfl rfl ?_
    refine g_strV (pc := 1) hi d_String_length_1 wd_1415 ?_
    refine g_strN (pc := 4) hi d_String_length_4 ?_
    refine g_aload_n (pc := 5) 0 d_String_length_5 rfl rfl ?_
    refine g_callT (pc := 6) [] hi (site_of si_String_coder (by decide) (by decide)) wd_390 wd_391 wd_392 d_String_length_6 (Nat.le_of_ble_eq_true rfl) (fun z => absurd z (by decide)) (fun z => absurd z (by decide)) (fun z => absurd z (by decide)) (c_String_coder hi) rfl ?_
    refine g_st [.int 0, .int (Int32.ofNat (strL.getD i 0))] rfl ?_
    refine g_ishr (pc := 9) d_String_length_9 ?_
    exact g_iret (pc := 10) rfl d_String_length_10
  · cases e
theorem c_Preconditions_checkIndex {sc : Nat × (Nat → Int32)} {i n : Int32} {v : Value} {h : mH} (h0 : ¬ i < 0) (h1 : i < n) (hv : v = .null ∨ v = .ref 1200) : MM sc y_Preconditions_checkIndex prog_18_method_11_code 3 (some .int) 0 0 [.int i, .int n, v] h (some (.int i)) h := by
  rcases hv with rfl | rfl <;>
  · refine mm_of_G (by decide) (Nat.le_of_ble_eq_true rfl) ?_
    refine g_iload_n (pc := 0) 0 d_Preconditions_checkIndex_0 rfl rfl ?_
    refine g_iflt (pc := 1) 9 d_Preconditions_checkIndex_1 (by decide) (fun c => absurd c h0) (fun _ => ?_)
    refine g_iload_n (pc := 4) 0 d_Preconditions_checkIndex_4 rfl rfl ?_
    refine g_iload_n (pc := 5) 1 d_Preconditions_checkIndex_5 rfl rfl ?_
    refine g_icmplt (pc := 6) 16 d_Preconditions_checkIndex_6 (by decide) (fun _ => ?_) (fun c => absurd h1 c)
    refine g_iload_n (pc := 16) 0 d_Preconditions_checkIndex_16 rfl rfl ?_
    exact g_iret (pc := 17) rfl d_Preconditions_checkIndex_17
theorem c_String_checkIndex {sc : Nat × (Nat → Int32)} {i n : Int32} {h : mH} (h0 : ¬ i < 0) (h1 : i < n) : MM sc y_String_checkIndex prog_13_method_155_code 2 none 1 22 [.int i, .int n] h none h := by
  refine mm_of_G (by decide) (Nat.le_of_ble_eq_true rfl) ?_
  refine g_iload_n (pc := 0) 0 d_String_checkIndex_0 rfl rfl ?_
  refine g_iload_n (pc := 1) 1 d_String_checkIndex_1 rfl rfl ?_
  refine g_getsF (pc := 2) d_String_checkIndex_2 wd_410 (fun v hv => ?_)
  refine g_callS (pc := 5) (rest := []) [.int i, .int n, v] (site_of si_Preconditions_checkIndex (by decide) (by decide)) wd_412 wd_413 d_String_checkIndex_5 (Nat.le_of_ble_eq_true rfl) (fun z => absurd z (by decide)) (fun z => absurd z (by decide)) (fun z => absurd z (by decide)) (c_Preconditions_checkIndex h0 h1 hv) rfl ?_
  refine g_st [.int i] rfl ?_
  refine g_pop (pc := 8) d_String_checkIndex_8 rfl ?_
  exact g_vret (pc := 9) rfl d_String_checkIndex_9
theorem c_StringLatin1_charAt {sc : Nat × (Nat → Int32)} {i : Nat} {j : Int32} {h : mH} (hi : i < strK.length) (hj : vp_in j (strL.getD i 0)) (hn : strL.getD i 0 < 2 ^ 31) : MM sc y_StringLatin1_charAt prog_14_method_2_code 2 (some .char) 2 43 [.ref (1100 + i), .int j] h (some (.int ((((strB.getD i []).getD j.toNatClampNeg 0) &&& 255).toUInt32 % 65536).toInt32)) h := by
  obtain ⟨q, hq, hjq⟩ := vp_in_of hj hn
  have h0 : ¬ j < 0 := fun z => hj (Or.inl z)
  have h1 : j < Int32.ofNat (strL.getD i 0) := by rw [hjq]; exact nI_lt hq hn
  refine mm_of_G (by decide) (Nat.le_of_ble_eq_true rfl) ?_
  refine g_iload_n (pc := 0) 1 d_StringLatin1_charAt_0 rfl rfl ?_
  refine g_aload_n (pc := 1) 0 d_StringLatin1_charAt_1 rfl rfl ?_
  refine g_strN (pc := 2) hi d_StringLatin1_charAt_2 ?_
  refine g_callS (pc := 3) (rest := []) [.int j, .int (Int32.ofNat (strL.getD i 0))] (site_of si_String_checkIndex (by decide) (by decide)) wd_407 wd_408 d_StringLatin1_charAt_3 (Nat.le_of_ble_eq_true rfl) (fun z => absurd z (by decide)) (fun z => absurd z (by decide)) (fun z => absurd z (by decide)) (c_String_checkIndex h0 h1) rfl ?_
  refine g_st [] rfl ?_
  refine g_aload_n (pc := 6) 0 d_StringLatin1_charAt_6 rfl rfl ?_
  refine g_iload_n (pc := 7) 1 d_StringLatin1_charAt_7 rfl rfl ?_
  refine g_strB (pc := 8) hi hj d_StringLatin1_charAt_8 ?_
  refine g_sipush (pc := 9) 255 d_StringLatin1_charAt_9 (by decide) ?_
  refine g_iand (pc := 12) d_StringLatin1_charAt_12 ?_
  refine g_i2c (pc := 13) d_StringLatin1_charAt_13 ?_
  exact g_zret (pc := 14) rfl (pk_nc _) d_StringLatin1_charAt_14
theorem strL_small : ∀ i, strL.getD i 0 < 2 ^ 31 := by
  intro i
  by_cases h : i < strL.length
  · have hd : ∀ n ∈ strL, n < 2 ^ 31 := by decide
    rw [List.getD_eq_getElem?_getD, List.getElem?_eq_getElem h]
    exact hd _ (List.getElem_mem h)
  · rw [List.getD_eq_getElem?_getD, List.getElem?_eq_none (by omega)]
    decide
theorem c_String_charAt {sc : Nat × (Nat → Int32)} {o : Nat} {j : Int32} {h : mH} {r : Int32} {h' : mH} (hf : f_String_charAt o j h = some (r, h')) : MM sc y_String_charAt prog_13_method_56_code 2 (some .char) 3 64 [.ref o, .int j] h (some (.int r)) h' := by
  obtain ⟨n, e, hf⟩ := bd1_e hf
  unfold strAt at e
  split at e
  · next q =>
    obtain ⟨i, rfl⟩ : ∃ i, o = 1000 + i := ⟨o - 1000, by omega⟩
    have hi : i < strK.length := by omega
    rw [show 1000 + i - 1000 = i by omega] at e q
    obtain rfl := ret1 e
    obtain ⟨rfl, rfl⟩ := ret2 hf
    refine mm_of_G (by decide) (Nat.le_of_ble_eq_true rfl) ?_
    refine g_aload_n (pc := 0) 0 d_String_charAt_0 rfl rfl ?_
    refine g_callT (pc := 1) [] hi (site_of si_String_isLatin1 (by decide) (by decide)) wd_400 wd_401 wd_402 d_String_charAt_1 (Nat.le_of_ble_eq_true rfl) (fun z => absurd z (by decide)) (fun z => absurd z (by decide)) (fun z => absurd z (by decide)) (c_String_isLatin1 hi) rfl ?_
    refine g_st [.int 1] rfl ?_
    refine g_ifeq (pc := 4) 16 d_String_charAt_4 (by decide) (fun c => absurd c (by decide)) (fun _ => ?_)
    refine g_aload_n (pc := 7) 0 d_String_charAt_7 rfl rfl ?_
    refine g_strV (pc := 8) hi d_String_charAt_8 wd_1415 ?_
    refine g_iload_n (pc := 11) 1 d_String_charAt_11 rfl rfl ?_
    refine g_callS (pc := 12) (rest := []) [.ref (1100 + i), .int j] (site_of si_StringLatin1_charAt (by decide) (by decide)) wd_404 wd_405 d_String_charAt_12 (Nat.le_of_ble_eq_true rfl) (fun z => absurd z (by decide)) (fun z => absurd z (by decide)) (fun z => absurd z (by decide)) (c_StringLatin1_charAt hi q.2 (strL_small i)) rfl ?_
    refine g_st [.int ((((strB.getD i []).getD j.toNatClampNeg 0) &&& 255).toUInt32 % 65536).toInt32] rfl ?_
    exact g_zret (pc := 15) rfl (pk_nc _) d_String_charAt_15
  · cases e
theorem str_of_len {o : Nat} {h : mH} {r : Int32} {h' : mH} (hf : f_String_length o h = some (r, h')) : ∃ i, i < strK.length ∧ o = 1000 + i := by
  obtain ⟨n, e, hf⟩ := bd1_e hf
  unfold strLen at e
  split at e
  · next q => exact ⟨o - 1000, by omega, by omega⟩
  · cases e
theorem str_of_at {o : Nat} {j : Int32} {h : mH} {r : Int32} {h' : mH} (hf : f_String_charAt o j h = some (r, h')) : ∃ i, i < strK.length ∧ o = 1000 + i := by
  obtain ⟨n, e, hf⟩ := bd1_e hf
  unfold strAt at e
  split at e
  · next q => exact ⟨o - 1000, by omega, by omega⟩
  · cases e
/-! the script -/
def sX (sc : Nat × (Nat → Int32)) (i : Int32) : Option Int32 := if ¬ (i < 0 ∨ sc.1 ≤ i.toNatClampNeg) then some (sc.2 i.toNatClampNeg) else none
theorem sX_spec {sc : Nat × (Nat → Int32)} {i x : Int32} (e : sX sc i = some x) : vp_in i sc.1 ∧ x = sc.2 i.toNatClampNeg := by
  unfold sX at e
  split at e
  · next q => exact ⟨q, (Option.some.inj e).symm⟩
  · cases e
section
variable {sc : Nat × (Nat → Int32)} {y : MethodName} {cc : ByteArray} {mL : Nat} {ret : Option FieldType} {fr lo pc : Nat} {lv lv' : List (Nat × Value)} {stk rest : List Value} {h h1 h' : mH} {r r1 : Option Value}
theorem g_slen (hd : decode cc pc = .ok (.arraylength, 1)) (k : G sc y cc mL ret fr lo (pc + 1) lv (.int (Int32.ofNat sc.1) :: stk) h r h') : G sc y cc mL ret fr lo pc lv (.ref 1300 :: stk) h r h' :=
  ⟨k.1, k.2.1, fun l p e R s m args below meth c dC dI dA ad0 n0 s0 A Qc C q f1 f2 f3 f4 ad H locs ls S => by
    have key := k.2.2 l p e R s m args below meth c dC dI dA ad0 n0 s0 A Qc C q f1 f2 f3 f4 ad H locs ls S
    have hz := C.2.2.2.2.2.2.2.2.2.1.2.2.2.2.2.2
    rw [← S.out (k := 1300) (by omega)] at hz
    have hb : ad 1300 < s.heap.size := by
      obtain ⟨scr, z, -⟩ := hz.1
      exact (Array.getElem?_eq_some_iff.mp z).1
    exact va_slen C.1 C.2.1 hz.1 hb hz.2 S.2.2.1 hd key⟩
theorem g_sld {i x : Int32} (hd : decode cc pc = .ok (.iaload, 1)) (hv : sX sc i = some x) (k : G sc y cc mL ret fr lo (pc + 1) lv (.int x :: stk) h r h') : G sc y cc mL ret fr lo pc lv (.int i :: .ref 1300 :: stk) h r h' := by
  obtain ⟨e1, rfl⟩ := sX_spec hv
  exact ⟨k.1, k.2.1, fun l p e R s m args below meth c dC dI dA ad0 n0 s0 A Qc C q f1 f2 f3 f4 ad H locs ls S => by
    have key := k.2.2 l p e R s m args below meth c dC dI dA ad0 n0 s0 A Qc C q f1 f2 f3 f4 ad H locs ls S
    have hz := C.2.2.2.2.2.2.2.2.2.1.2.2.2.2.2.2
    rw [← S.out (k := 1300) (by omega)] at hz
    have hb : ad 1300 < s.heap.size := by
      obtain ⟨scr, z, -⟩ := hz.1
      exact (Array.getElem?_eq_some_iff.mp z).1
    exact va_sld C.1 C.2.1 hz.1 hb hz.2 S.2.2.1 e1 hd key⟩
end
end
/-! 07.make -/
section
/-! what the constructors' functions are made of -/
def grd {α : Type} (p : Prop) [Decidable p] (x : Option α) : Option α := if p then x else none
theorem grd_e {α : Type} {p : Prop} [Decidable p] {x : Option α} {b : α} (h : grd p x = some b) : p ∧ x = some b := by
  unfold grd at h
  split at h
  · next q => exact ⟨q, h⟩
  · cases h
def mkn (h : mH) (sl : Nat) (c : mCell) : Option mH := if h.1 < 1000 then some (mnew h sl c) else none
theorem mkn_e {h h2 : mH} {sl : Nat} {c : mCell} (e : mkn h sl c = some h2) : h.1 < 1000 ∧ h2 = mnew h sl c := by
  unfold mkn at e
  split at e
  · next q => exact ⟨q, (Option.some.inj e).symm⟩
  · cases e
theorem okv_r {n n1 k : Nat} (h : k < n ∨ n1 ≤ k) : okv n n1 (.ref k) := fun j z => by cases z; exact h
theorem okl_nil {n n1 : Nat} : ∀ q ∈ ([] : List (Nat × Value)), okv n n1 q.2 := fun _ h => by cases h
theorem okl_cons {n n1 k : Nat} {v : Value} {l : List (Nat × Value)} (hv : okv n n1 v) (hl : ∀ q ∈ l, okv n n1 q.2) : ∀ q ∈ (k, v) :: l, okv n n1 q.2 := by
  intro q hq
  rcases List.mem_cons.mp hq with rfl | hq
  · exact hv
  · exact hl q hq
theorem oks_nil {n n1 : Nat} : ∀ v ∈ ([] : List Value), okv n n1 v := fun _ h => by cases h
theorem oks_cons {n n1 : Nat} {v : Value} {l : List Value} (hv : okv n n1 v) (hl : ∀ q ∈ l, okv n n1 q) : ∀ q ∈ v :: l, okv n n1 q := by
  intro q hq
  rcases List.mem_cons.mp hq with rfl | hq
  · exact hv
  · exact hl q hq
end
/-! 10.jdk -/
section
/-! Arrays fill ([II)V -/
set_option maxRecDepth 100000 in
theorem dd_Arrays_fillI_0 : (decode prog_17_method_103_code 0 = .ok (.iconst 0, 1)) ∧ (decode prog_17_method_103_code 1 = .ok (.istore_n 2, 1)) ∧ (decode prog_17_method_103_code 2 = .ok (.aload_n 0, 1)) ∧ (decode prog_17_method_103_code 3 = .ok (.arraylength, 1)) ∧ (decode prog_17_method_103_code 4 = .ok (.istore_n 3, 1)) ∧ (decode prog_17_method_103_code 5 = .ok (.iload_n 2, 1)) ∧ (decode prog_17_method_103_code 6 = .ok (.iload_n 3, 1)) ∧ (decode prog_17_method_103_code 7 = .ok (.if_icmp .ge 13, 3)) ∧ (decode prog_17_method_103_code 10 = .ok (.aload_n 0, 1)) ∧ (decode prog_17_method_103_code 11 = .ok (.iload_n 2, 1)) ∧ (decode prog_17_method_103_code 12 = .ok (.iload_n 1, 1)) ∧ (decode prog_17_method_103_code 13 = .ok (.iastore, 1)) ∧ (decode prog_17_method_103_code 14 = .ok (.iinc 2 1, 3)) ∧ (decode prog_17_method_103_code 17 = .ok (.goto (-12), 3)) ∧ (decode prog_17_method_103_code 20 = .ok (.return_, 1)) := by
  have h : List.drop 0 prog_17_method_103_code.data.toList = 0x03 :: _ := rfl
  refine ⟨zq_k_n 3 h rfl (zq_o_3 _), ?_⟩
  replace h := zq_nx1 (q := 1) h rfl
  refine ⟨zq_k_n 61 h rfl (zq_o_61 _), ?_⟩
  replace h := zq_nx1 (q := 2) h rfl
  refine ⟨zq_k_n 42 h rfl (zq_o_42 _), ?_⟩
  replace h := zq_nx1 (q := 3) h rfl
  refine ⟨zq_k_n 190 h rfl (zq_o_190 _), ?_⟩
  replace h := zq_nx1 (q := 4) h rfl
  refine ⟨zq_k_n 62 h rfl (zq_o_62 _), ?_⟩
  replace h := zq_nx1 (q := 5) h rfl
  refine ⟨zq_k_n 28 h rfl (zq_o_28 _), ?_⟩
  replace h := zq_nx1 (q := 6) h rfl
  refine ⟨zq_k_n 29 h rfl (zq_o_29 _), ?_⟩
  replace h := zq_nx1 (q := 7) h rfl
  refine ⟨zq_k_s2 162 (fun z => .if_icmp .ge z) 13 h rfl (zq_o_162 _) (by decide +kernel), ?_⟩
  replace h := zq_nx3 (q := 10) h rfl
  refine ⟨zq_k_n 42 h rfl (zq_o_42 _), ?_⟩
  replace h := zq_nx1 (q := 11) h rfl
  refine ⟨zq_k_n 28 h rfl (zq_o_28 _), ?_⟩
  replace h := zq_nx1 (q := 12) h rfl
  refine ⟨zq_k_n 27 h rfl (zq_o_27 _), ?_⟩
  replace h := zq_nx1 (q := 13) h rfl
  refine ⟨zq_k_n 79 h rfl (zq_o_79 _), ?_⟩
  replace h := zq_nx1 (q := 14) h rfl
  refine ⟨zq_k_iinc 2 1 h rfl (zq_o_132 _) (by decide +kernel) (by decide +kernel), ?_⟩
  replace h := zq_nx3 (q := 17) h rfl
  refine ⟨zq_k_s2 167 (fun z => .goto z) (-12) h rfl (zq_o_167 _) (by decide +kernel), ?_⟩
  replace h := zq_nx3 (q := 20) h rfl
  exact zq_k_n 177 h rfl (zq_o_177 _)
def f_Arrays_fillI_5b (rec5 : Nat → Int32 → Int32 → Int32 → mH → Option mH) (b0 : Nat) (b1 : Int32) (b2 : Int32) (b3 : Int32) (h : mH) : Option mH :=
  if b3 ≤ b2 then
    some h
  else
    bd1 (sI h 0 b0 b2 b1) fun h3 =>
    rec5 b0 b1 (b2 + (1 : Int32)) b3 h3
set_option maxRecDepth 20000 in
theorem t_Arrays_fillI_5b {sc : Nat × (Nat → Int32)} (rec5 : Nat → Int32 → Int32 → Int32 → mH → Option mH) (hrec5 : ∀ (b0 : Nat) (b1 : Int32) (b2 : Int32) (b3 : Int32) (h : mH) (h' : mH), rec5 b0 b1 b2 b3 h = some h' → G sc y_Arrays_fillI prog_17_method_103_code 4 none 0 0 5 [(0, .ref b0), (1, .int b1), (2, .int b2), (3, .int b3)] [] h none h') (b0 : Nat) (b1 : Int32) (b2 : Int32) (b3 : Int32) (h : mH) (h' : mH) (hf : f_Arrays_fillI_5b rec5 b0 b1 b2 b3 h = some h') : G sc y_Arrays_fillI prog_17_method_103_code 4 none 0 0 5 [(0, .ref b0), (1, .int b1), (2, .int b2), (3, .int b3)] [] h none h' := by
  unfold f_Arrays_fillI_5b at hf
  refine g_iload_n (pc := 5) 2 dd_Arrays_fillI_0.2.2.2.2.2.1 rfl rfl ?_
  refine g_iload_n (pc := 6) 3 dd_Arrays_fillI_0.2.2.2.2.2.2.1 rfl rfl ?_
  refine g_icmpge (pc := 7) 20 dd_Arrays_fillI_0.2.2.2.2.2.2.2.1 (by decide) (fun c5 => ?_) (fun c5 => ?_)
  · replace hf := (if_pos c5).symm.trans hf
    obtain rfl := ret1 hf
    exact g_vret (pc := 20) rfl dd_Arrays_fillI_0.2.2.2.2.2.2.2.2.2.2.2.2.2.2
  · replace hf := (if_neg c5).symm.trans hf
    refine g_aload_n (pc := 10) 0 dd_Arrays_fillI_0.2.2.2.2.2.2.2.2.1 rfl rfl ?_
    refine g_iload_n (pc := 11) 2 dd_Arrays_fillI_0.2.2.2.2.2.2.2.2.2.1 rfl rfl ?_
    refine g_iload_n (pc := 12) 1 dd_Arrays_fillI_0.2.2.2.2.2.2.2.2.2.2.1 rfl rfl ?_
    obtain ⟨h3, e4, hf⟩ := bd1_e hf
    refine g_iast (pc := 13) dd_Arrays_fillI_0.2.2.2.2.2.2.2.2.2.2.2.1 e4 ?_
    refine g_iinc (pc := 14) 2 (b2 + (1 : Int32)) [(2, .int (b2 + (1 : Int32))), (0, .ref b0), (1, .int b1), (3, .int b3)] dd_Arrays_fillI_0.2.2.2.2.2.2.2.2.2.2.2.2.1 rfl rfl (Nat.le_of_ble_eq_true rfl) rfl ?_
    refine g_goto (pc := 17) 5 dd_Arrays_fillI_0.2.2.2.2.2.2.2.2.2.2.2.2.2.1 (by decide) ?_
    refine g_lv [1, 2, 0, 3] rfl ?_
    exact hrec5 _ _ _ _ _ _  hf
def f_Arrays_fillI_5  : Nat → Nat → Int32 → Int32 → Int32 → mH → Option mH
  | 0 => fun _ _ _ _ _ => none
  | n + 1 => f_Arrays_fillI_5b  (f_Arrays_fillI_5  n)
theorem t_Arrays_fillI_5 {sc : Nat × (Nat → Int32)}  : ∀ (n : Nat) (b0 : Nat) (b1 : Int32) (b2 : Int32) (b3 : Int32) (h : mH) (h' : mH) (hf : f_Arrays_fillI_5  n b0 b1 b2 b3 h = some h'), G sc y_Arrays_fillI prog_17_method_103_code 4 none 0 0 5 [(0, .ref b0), (1, .int b1), (2, .int b2), (3, .int b3)] [] h none h'
  | 0, _, _, _, _, _, _, hf => by cases hf
  | n + 1, _, _, _, _, _, _, hf => t_Arrays_fillI_5b  (f_Arrays_fillI_5  n) (t_Arrays_fillI_5  n) _ _ _ _ _ _ hf
def f_Arrays_fillI_0  (a0 : Nat) (a1 : Int32) (h : mH) : Option mH :=
  bd1 (aN h 0 a0) fun x1 =>
  f_Arrays_fillI_5  FU a0 a1 (0 : Int32) x1 h
set_option maxRecDepth 20000 in
theorem t_Arrays_fillI_0 {sc : Nat × (Nat → Int32)}  (a0 : Nat) (a1 : Int32) (h : mH) (h' : mH) (hf : f_Arrays_fillI_0  a0 a1 h = some h') : G sc y_Arrays_fillI prog_17_method_103_code 4 none 0 0 0 [(0, .ref a0), (1, .int a1)] [] h none h' := by
  unfold f_Arrays_fillI_0 at hf
  refine g_iconst (pc := 0) (0 : Int32) dd_Arrays_fillI_0.1 (by decide) ?_
  refine g_istore_n (pc := 1) [(2, .int (0 : Int32)), (0, .ref a0), (1, .int a1)] dd_Arrays_fillI_0.2.1 rfl (Nat.le_of_ble_eq_true rfl) rfl ?_
  refine g_aload_n (pc := 2) 1 dd_Arrays_fillI_0.2.2.1 rfl rfl ?_
  obtain ⟨x1, e2, hf⟩ := bd1_e hf
  refine g_alen (pc := 3) (.int) dd_Arrays_fillI_0.2.2.2.1 (fun _ => rfl) e2 ?_
  refine g_istore_n (pc := 4) [(3, .int x1), (2, .int (0 : Int32)), (0, .ref a0), (1, .int a1)] dd_Arrays_fillI_0.2.2.2.2.1 rfl (Nat.le_of_ble_eq_true rfl) rfl ?_
  refine g_lv [2, 3, 1, 0] rfl ?_
  exact t_Arrays_fillI_5  FU _ _ _ _ _ _  hf
def f_Arrays_fillI (a0 : Nat) (a1 : Int32) (h : mH) : Option mH := f_Arrays_fillI_0 a0 a1 h
theorem c_Arrays_fillI {sc : Nat × (Nat → Int32)} {a0 : Nat} {a1 : Int32} {h : mH} {h' : mH} (hf : f_Arrays_fillI a0 a1 h = some h') : MM sc y_Arrays_fillI prog_17_method_103_code 4 none 0 0 [.ref a0, .int a1] h none h' :=
  mm_of_G si_pn_Arrays (Nat.le_of_ble_eq_true rfl) (t_Arrays_fillI_0 _ _ _ _ hf)
/-! Integer bitCount (I)I -/
set_option maxRecDepth 100000 in
theorem dd_Integer_bitCount_0 : (decode prog_11_method_49_code 0 = .ok (.iload_n 0, 1)) ∧ (decode prog_11_method_49_code 1 = .ok (.iload_n 0, 1)) ∧ (decode prog_11_method_49_code 2 = .ok (.iconst 1, 1)) ∧ (decode prog_11_method_49_code 3 = .ok (.iushr, 1)) ∧ (decode prog_11_method_49_code 4 = .ok (.ldc_w 265, 3)) ∧ (decode prog_11_method_49_code 7 = .ok (.iand, 1)) ∧ (decode prog_11_method_49_code 8 = .ok (.isub, 1)) ∧ (decode prog_11_method_49_code 9 = .ok (.istore_n 0, 1)) ∧ (decode prog_11_method_49_code 10 = .ok (.iload_n 0, 1)) ∧ (decode prog_11_method_49_code 11 = .ok (.ldc_w 266, 3)) ∧ (decode prog_11_method_49_code 14 = .ok (.iand, 1)) ∧ (decode prog_11_method_49_code 15 = .ok (.iload_n 0, 1)) ∧ (decode prog_11_method_49_code 16 = .ok (.iconst 2, 1)) ∧ (decode prog_11_method_49_code 17 = .ok (.iushr, 1)) ∧ (decode prog_11_method_49_code 18 = .ok (.ldc_w 266, 3)) ∧ (decode prog_11_method_49_code 21 = .ok (.iand, 1)) ∧ (decode prog_11_method_49_code 22 = .ok (.iadd, 1)) ∧ (decode prog_11_method_49_code 23 = .ok (.istore_n 0, 1)) ∧ (decode prog_11_method_49_code 24 = .ok (.iload_n 0, 1)) ∧ (decode prog_11_method_49_code 25 = .ok (.iload_n 0, 1)) ∧ (decode prog_11_method_49_code 26 = .ok (.iconst 4, 1)) ∧ (decode prog_11_method_49_code 27 = .ok (.iushr, 1)) ∧ (decode prog_11_method_49_code 28 = .ok (.iadd, 1)) ∧ (decode prog_11_method_49_code 29 = .ok (.ldc_w 267, 3)) := by
  have h : List.drop 0 prog_11_method_49_code.data.toList = 0x1a :: _ := rfl
  refine ⟨zq_k_n 26 h rfl (zq_o_26 _), ?_⟩
  replace h := zq_nx1 (q := 1) h rfl
  refine ⟨zq_k_n 26 h rfl (zq_o_26 _), ?_⟩
  replace h := zq_nx1 (q := 2) h rfl
  refine ⟨zq_k_n 4 h rfl (zq_o_4 _), ?_⟩
  replace h := zq_nx1 (q := 3) h rfl
  refine ⟨zq_k_n 124 h rfl (zq_o_124 _), ?_⟩
  replace h := zq_nx1 (q := 4) h rfl
  refine ⟨zq_k_u2 19 (fun z => .ldc_w z) 265 h rfl (zq_o_19 _) (by decide +kernel), ?_⟩
  replace h := zq_nx3 (q := 7) h rfl
  refine ⟨zq_k_n 126 h rfl (zq_o_126 _), ?_⟩
  replace h := zq_nx1 (q := 8) h rfl
  refine ⟨zq_k_n 100 h rfl (zq_o_100 _), ?_⟩
  replace h := zq_nx1 (q := 9) h rfl
  refine ⟨zq_k_n 59 h rfl (zq_o_59 _), ?_⟩
  replace h := zq_nx1 (q := 10) h rfl
  refine ⟨zq_k_n 26 h rfl (zq_o_26 _), ?_⟩
  replace h := zq_nx1 (q := 11) h rfl
  refine ⟨zq_k_u2 19 (fun z => .ldc_w z) 266 h rfl (zq_o_19 _) (by decide +kernel), ?_⟩
  replace h := zq_nx3 (q := 14) h rfl
  refine ⟨zq_k_n 126 h rfl (zq_o_126 _), ?_⟩
  replace h := zq_nx1 (q := 15) h rfl
  refine ⟨zq_k_n 26 h rfl (zq_o_26 _), ?_⟩
  replace h := zq_nx1 (q := 16) h rfl
  refine ⟨zq_k_n 5 h rfl (zq_o_5 _), ?_⟩
  replace h := zq_nx1 (q := 17) h rfl
  refine ⟨zq_k_n 124 h rfl (zq_o_124 _), ?_⟩
  replace h := zq_nx1 (q := 18) h rfl
  refine ⟨zq_k_u2 19 (fun z => .ldc_w z) 266 h rfl (zq_o_19 _) (by decide +kernel), ?_⟩
  replace h := zq_nx3 (q := 21) h rfl
  refine ⟨zq_k_n 126 h rfl (zq_o_126 _), ?_⟩
  replace h := zq_nx1 (q := 22) h rfl
  refine ⟨zq_k_n 96 h rfl (zq_o_96 _), ?_⟩
  replace h := zq_nx1 (q := 23) h rfl
  refine ⟨zq_k_n 59 h rfl (zq_o_59 _), ?_⟩
  replace h := zq_nx1 (q := 24) h rfl
  refine ⟨zq_k_n 26 h rfl (zq_o_26 _), ?_⟩
  replace h := zq_nx1 (q := 25) h rfl
  refine ⟨zq_k_n 26 h rfl (zq_o_26 _), ?_⟩
  replace h := zq_nx1 (q := 26) h rfl
  refine ⟨zq_k_n 7 h rfl (zq_o_7 _), ?_⟩
  replace h := zq_nx1 (q := 27) h rfl
  refine ⟨zq_k_n 124 h rfl (zq_o_124 _), ?_⟩
  replace h := zq_nx1 (q := 28) h rfl
  refine ⟨zq_k_n 96 h rfl (zq_o_96 _), ?_⟩
  replace h := zq_nx1 (q := 29) h rfl
  exact zq_k_u2 19 (fun z => .ldc_w z) 267 h rfl (zq_o_19 _) (by decide +kernel)
set_option maxRecDepth 100000 in
theorem dd_Integer_bitCount_32 : (decode prog_11_method_49_code 32 = .ok (.iand, 1)) ∧ (decode prog_11_method_49_code 33 = .ok (.istore_n 0, 1)) ∧ (decode prog_11_method_49_code 34 = .ok (.iload_n 0, 1)) ∧ (decode prog_11_method_49_code 35 = .ok (.iload_n 0, 1)) ∧ (decode prog_11_method_49_code 36 = .ok (.bipush 8, 2)) ∧ (decode prog_11_method_49_code 38 = .ok (.iushr, 1)) ∧ (decode prog_11_method_49_code 39 = .ok (.iadd, 1)) ∧ (decode prog_11_method_49_code 40 = .ok (.istore_n 0, 1)) ∧ (decode prog_11_method_49_code 41 = .ok (.iload_n 0, 1)) ∧ (decode prog_11_method_49_code 42 = .ok (.iload_n 0, 1)) ∧ (decode prog_11_method_49_code 43 = .ok (.bipush 16, 2)) ∧ (decode prog_11_method_49_code 45 = .ok (.iushr, 1)) ∧ (decode prog_11_method_49_code 46 = .ok (.iadd, 1)) ∧ (decode prog_11_method_49_code 47 = .ok (.istore_n 0, 1)) ∧ (decode prog_11_method_49_code 48 = .ok (.iload_n 0, 1)) ∧ (decode prog_11_method_49_code 49 = .ok (.bipush 63, 2)) ∧ (decode prog_11_method_49_code 51 = .ok (.iand, 1)) ∧ (decode prog_11_method_49_code 52 = .ok (.ireturn, 1)) := by
  have h : List.drop 32 prog_11_method_49_code.data.toList = 0x7e :: _ := rfl
  refine ⟨zq_k_n 126 h rfl (zq_o_126 _), ?_⟩
  replace h := zq_nx1 (q := 33) h rfl
  refine ⟨zq_k_n 59 h rfl (zq_o_59 _), ?_⟩
  replace h := zq_nx1 (q := 34) h rfl
  refine ⟨zq_k_n 26 h rfl (zq_o_26 _), ?_⟩
  replace h := zq_nx1 (q := 35) h rfl
  refine ⟨zq_k_n 26 h rfl (zq_o_26 _), ?_⟩
  replace h := zq_nx1 (q := 36) h rfl
  refine ⟨zq_k_s1 16 (fun z => .bipush z) 8 h rfl (zq_o_16 _) (by decide +kernel), ?_⟩
  replace h := zq_nx2 (q := 38) h rfl
  refine ⟨zq_k_n 124 h rfl (zq_o_124 _), ?_⟩
  replace h := zq_nx1 (q := 39) h rfl
  refine ⟨zq_k_n 96 h rfl (zq_o_96 _), ?_⟩
  replace h := zq_nx1 (q := 40) h rfl
  refine ⟨zq_k_n 59 h rfl (zq_o_59 _), ?_⟩
  replace h := zq_nx1 (q := 41) h rfl
  refine ⟨zq_k_n 26 h rfl (zq_o_26 _), ?_⟩
  replace h := zq_nx1 (q := 42) h rfl
  refine ⟨zq_k_n 26 h rfl (zq_o_26 _), ?_⟩
  replace h := zq_nx1 (q := 43) h rfl
  refine ⟨zq_k_s1 16 (fun z => .bipush z) 16 h rfl (zq_o_16 _) (by decide +kernel), ?_⟩
  replace h := zq_nx2 (q := 45) h rfl
  refine ⟨zq_k_n 124 h rfl (zq_o_124 _), ?_⟩
  replace h := zq_nx1 (q := 46) h rfl
  refine ⟨zq_k_n 96 h rfl (zq_o_96 _), ?_⟩
  replace h := zq_nx1 (q := 47) h rfl
  refine ⟨zq_k_n 59 h rfl (zq_o_59 _), ?_⟩
  replace h := zq_nx1 (q := 48) h rfl
  refine ⟨zq_k_n 26 h rfl (zq_o_26 _), ?_⟩
  replace h := zq_nx1 (q := 49) h rfl
  refine ⟨zq_k_s1 16 (fun z => .bipush z) 63 h rfl (zq_o_16 _) (by decide +kernel), ?_⟩
  replace h := zq_nx2 (q := 51) h rfl
  refine ⟨zq_k_n 126 h rfl (zq_o_126 _), ?_⟩
  replace h := zq_nx1 (q := 52) h rfl
  exact zq_k_n 172 h rfl (zq_o_172 _)
def f_Integer_bitCount_0  (a0 : Int32) (h : mH) : Option (Int32 × mH) :=
  some ((((((((a0 - (((a0.toUInt32 >>> ((1 : Int32).toUInt32 &&& Int32.toUInt32 31)).toInt32) &&& (1431655765 : Int32))) &&& (858993459 : Int32)) + ((((a0 - (((a0.toUInt32 >>> ((1 : Int32).toUInt32 &&& Int32.toUInt32 31)).toInt32) &&& (1431655765 : Int32))).toUInt32 >>> ((2 : Int32).toUInt32 &&& Int32.toUInt32 31)).toInt32) &&& (858993459 : Int32))) + (((((a0 - (((a0.toUInt32 >>> ((1 : Int32).toUInt32 &&& Int32.toUInt32 31)).toInt32) &&& (1431655765 : Int32))) &&& (858993459 : Int32)) + ((((a0 - (((a0.toUInt32 >>> ((1 : Int32).toUInt32 &&& Int32.toUInt32 31)).toInt32) &&& (1431655765 : Int32))).toUInt32 >>> ((2 : Int32).toUInt32 &&& Int32.toUInt32 31)).toInt32) &&& (858993459 : Int32))).toUInt32 >>> ((4 : Int32).toUInt32 &&& Int32.toUInt32 31)).toInt32)) &&& (252645135 : Int32)) + (((((((a0 - (((a0.toUInt32 >>> ((1 : Int32).toUInt32 &&& Int32.toUInt32 31)).toInt32) &&& (1431655765 : Int32))) &&& (858993459 : Int32)) + ((((a0 - (((a0.toUInt32 >>> ((1 : Int32).toUInt32 &&& Int32.toUInt32 31)).toInt32) &&& (1431655765 : Int32))).toUInt32 >>> ((2 : Int32).toUInt32 &&& Int32.toUInt32 31)).toInt32) &&& (858993459 : Int32))) + (((((a0 - (((a0.toUInt32 >>> ((1 : Int32).toUInt32 &&& Int32.toUInt32 31)).toInt32) &&& (1431655765 : Int32))) &&& (858993459 : Int32)) + ((((a0 - (((a0.toUInt32 >>> ((1 : Int32).toUInt32 &&& Int32.toUInt32 31)).toInt32) &&& (1431655765 : Int32))).toUInt32 >>> ((2 : Int32).toUInt32 &&& Int32.toUInt32 31)).toInt32) &&& (858993459 : Int32))).toUInt32 >>> ((4 : Int32).toUInt32 &&& Int32.toUInt32 31)).toInt32)) &&& (252645135 : Int32)).toUInt32 >>> ((8 : Int32).toUInt32 &&& Int32.toUInt32 31)).toInt32)) + ((((((((a0 - (((a0.toUInt32 >>> ((1 : Int32).toUInt32 &&& Int32.toUInt32 31)).toInt32) &&& (1431655765 : Int32))) &&& (858993459 : Int32)) + ((((a0 - (((a0.toUInt32 >>> ((1 : Int32).toUInt32 &&& Int32.toUInt32 31)).toInt32) &&& (1431655765 : Int32))).toUInt32 >>> ((2 : Int32).toUInt32 &&& Int32.toUInt32 31)).toInt32) &&& (858993459 : Int32))) + (((((a0 - (((a0.toUInt32 >>> ((1 : Int32).toUInt32 &&& Int32.toUInt32 31)).toInt32) &&& (1431655765 : Int32))) &&& (858993459 : Int32)) + ((((a0 - (((a0.toUInt32 >>> ((1 : Int32).toUInt32 &&& Int32.toUInt32 31)).toInt32) &&& (1431655765 : Int32))).toUInt32 >>> ((2 : Int32).toUInt32 &&& Int32.toUInt32 31)).toInt32) &&& (858993459 : Int32))).toUInt32 >>> ((4 : Int32).toUInt32 &&& Int32.toUInt32 31)).toInt32)) &&& (252645135 : Int32)) + (((((((a0 - (((a0.toUInt32 >>> ((1 : Int32).toUInt32 &&& Int32.toUInt32 31)).toInt32) &&& (1431655765 : Int32))) &&& (858993459 : Int32)) + ((((a0 - (((a0.toUInt32 >>> ((1 : Int32).toUInt32 &&& Int32.toUInt32 31)).toInt32) &&& (1431655765 : Int32))).toUInt32 >>> ((2 : Int32).toUInt32 &&& Int32.toUInt32 31)).toInt32) &&& (858993459 : Int32))) + (((((a0 - (((a0.toUInt32 >>> ((1 : Int32).toUInt32 &&& Int32.toUInt32 31)).toInt32) &&& (1431655765 : Int32))) &&& (858993459 : Int32)) + ((((a0 - (((a0.toUInt32 >>> ((1 : Int32).toUInt32 &&& Int32.toUInt32 31)).toInt32) &&& (1431655765 : Int32))).toUInt32 >>> ((2 : Int32).toUInt32 &&& Int32.toUInt32 31)).toInt32) &&& (858993459 : Int32))).toUInt32 >>> ((4 : Int32).toUInt32 &&& Int32.toUInt32 31)).toInt32)) &&& (252645135 : Int32)).toUInt32 >>> ((8 : Int32).toUInt32 &&& Int32.toUInt32 31)).toInt32)).toUInt32 >>> ((16 : Int32).toUInt32 &&& Int32.toUInt32 31)).toInt32)) &&& (63 : Int32), h)
set_option maxRecDepth 20000 in
theorem t_Integer_bitCount_0 {sc : Nat × (Nat → Int32)}  (a0 : Int32) (h : mH) (r : Int32) (h' : mH) (hf : f_Integer_bitCount_0  a0 h = some (r, h')) : G sc y_Integer_bitCount prog_11_method_49_code 1 (some .int) 0 0 0 [(0, .int a0)] [] h (some (.int r)) h' := by
  unfold f_Integer_bitCount_0 at hf
  refine g_iload_n (pc := 0) 0 dd_Integer_bitCount_0.1 rfl rfl ?_
  refine g_iload_n (pc := 1) 0 dd_Integer_bitCount_0.2.1 rfl rfl ?_
  refine g_iconst (pc := 2) (1 : Int32) dd_Integer_bitCount_0.2.2.1 (by decide) ?_
  refine g_iushr (pc := 3) dd_Integer_bitCount_0.2.2.2.1 ?_
  refine g_ldcw (pc := 4) (1431655765 : Int32) dd_Integer_bitCount_0.2.2.2.2.1 wd_618 ?_
  refine g_iand (pc := 7) dd_Integer_bitCount_0.2.2.2.2.2.1 ?_
  refine g_isub (pc := 8) dd_Integer_bitCount_0.2.2.2.2.2.2.1 ?_
  refine g_istore_n (pc := 9) [(0, .int (a0 - (((a0.toUInt32 >>> ((1 : Int32).toUInt32 &&& Int32.toUInt32 31)).toInt32) &&& (1431655765 : Int32))))] dd_Integer_bitCount_0.2.2.2.2.2.2.2.1 rfl (Nat.le_of_ble_eq_true rfl) rfl ?_
  refine g_iload_n (pc := 10) 0 dd_Integer_bitCount_0.2.2.2.2.2.2.2.2.1 rfl rfl ?_
  refine g_ldcw (pc := 11) (858993459 : Int32) dd_Integer_bitCount_0.2.2.2.2.2.2.2.2.2.1 wd_619 ?_
  refine g_iand (pc := 14) dd_Integer_bitCount_0.2.2.2.2.2.2.2.2.2.2.1 ?_
  refine g_iload_n (pc := 15) 0 dd_Integer_bitCount_0.2.2.2.2.2.2.2.2.2.2.2.1 rfl rfl ?_
  refine g_iconst (pc := 16) (2 : Int32) dd_Integer_bitCount_0.2.2.2.2.2.2.2.2.2.2.2.2.1 (by decide) ?_
  refine g_iushr (pc := 17) dd_Integer_bitCount_0.2.2.2.2.2.2.2.2.2.2.2.2.2.1 ?_
  refine g_ldcw (pc := 18) (858993459 : Int32) dd_Integer_bitCount_0.2.2.2.2.2.2.2.2.2.2.2.2.2.2.1 wd_619 ?_
  refine g_iand (pc := 21) dd_Integer_bitCount_0.2.2.2.2.2.2.2.2.2.2.2.2.2.2.2.1 ?_
  refine g_iadd (pc := 22) dd_Integer_bitCount_0.2.2.2.2.2.2.2.2.2.2.2.2.2.2.2.2.1 ?_
  refine g_istore_n (pc := 23) [(0, .int (((a0 - (((a0.toUInt32 >>> ((1 : Int32).toUInt32 &&& Int32.toUInt32 31)).toInt32) &&& (1431655765 : Int32))) &&& (858993459 : Int32)) + ((((a0 - (((a0.toUInt32 >>> ((1 : Int32).toUInt32 &&& Int32.toUInt32 31)).toInt32) &&& (1431655765 : Int32))).toUInt32 >>> ((2 : Int32).toUInt32 &&& Int32.toUInt32 31)).toInt32) &&& (858993459 : Int32))))] dd_Integer_bitCount_0.2.2.2.2.2.2.2.2.2.2.2.2.2.2.2.2.2.1 rfl (Nat.le_of_ble_eq_true rfl) rfl ?_
  refine g_iload_n (pc := 24) 0 dd_Integer_bitCount_0.2.2.2.2.2.2.2.2.2.2.2.2.2.2.2.2.2.2.1 rfl rfl ?_
  refine g_iload_n (pc := 25) 0 dd_Integer_bitCount_0.2.2.2.2.2.2.2.2.2.2.2.2.2.2.2.2.2.2.2.1 rfl rfl ?_
  refine g_iconst (pc := 26) (4 : Int32) dd_Integer_bitCount_0.2.2.2.2.2.2.2.2.2.2.2.2.2.2.2.2.2.2.2.2.1 (by decide) ?_
  refine g_iushr (pc := 27) dd_Integer_bitCount_0.2.2.2.2.2.2.2.2.2.2.2.2.2.2.2.2.2.2.2.2.2.1 ?_
  refine g_iadd (pc := 28) dd_Integer_bitCount_0.2.2.2.2.2.2.2.2.2.2.2.2.2.2.2.2.2.2.2.2.2.2.1 ?_
  refine g_ldcw (pc := 29) (252645135 : Int32) dd_Integer_bitCount_0.2.2.2.2.2.2.2.2.2.2.2.2.2.2.2.2.2.2.2.2.2.2.2 wd_620 ?_
  refine g_iand (pc := 32) dd_Integer_bitCount_32.1 ?_
  refine g_istore_n (pc := 33) [(0, .int (((((a0 - (((a0.toUInt32 >>> ((1 : Int32).toUInt32 &&& Int32.toUInt32 31)).toInt32) &&& (1431655765 : Int32))) &&& (858993459 : Int32)) + ((((a0 - (((a0.toUInt32 >>> ((1 : Int32).toUInt32 &&& Int32.toUInt32 31)).toInt32) &&& (1431655765 : Int32))).toUInt32 >>> ((2 : Int32).toUInt32 &&& Int32.toUInt32 31)).toInt32) &&& (858993459 : Int32))) + (((((a0 - (((a0.toUInt32 >>> ((1 : Int32).toUInt32 &&& Int32.toUInt32 31)).toInt32) &&& (1431655765 : Int32))) &&& (858993459 : Int32)) + ((((a0 - (((a0.toUInt32 >>> ((1 : Int32).toUInt32 &&& Int32.toUInt32 31)).toInt32) &&& (1431655765 : Int32))).toUInt32 >>> ((2 : Int32).toUInt32 &&& Int32.toUInt32 31)).toInt32) &&& (858993459 : Int32))).toUInt32 >>> ((4 : Int32).toUInt32 &&& Int32.toUInt32 31)).toInt32)) &&& (252645135 : Int32)))] dd_Integer_bitCount_32.2.1 rfl (Nat.le_of_ble_eq_true rfl) rfl ?_
  refine g_iload_n (pc := 34) 0 dd_Integer_bitCount_32.2.2.1 rfl rfl ?_
  refine g_iload_n (pc := 35) 0 dd_Integer_bitCount_32.2.2.2.1 rfl rfl ?_
  refine g_bipush (pc := 36) (8 : Int32) dd_Integer_bitCount_32.2.2.2.2.1 (by decide) ?_
  refine g_iushr (pc := 38) dd_Integer_bitCount_32.2.2.2.2.2.1 ?_
  refine g_iadd (pc := 39) dd_Integer_bitCount_32.2.2.2.2.2.2.1 ?_
  refine g_istore_n (pc := 40) [(0, .int ((((((a0 - (((a0.toUInt32 >>> ((1 : Int32).toUInt32 &&& Int32.toUInt32 31)).toInt32) &&& (1431655765 : Int32))) &&& (858993459 : Int32)) + ((((a0 - (((a0.toUInt32 >>> ((1 : Int32).toUInt32 &&& Int32.toUInt32 31)).toInt32) &&& (1431655765 : Int32))).toUInt32 >>> ((2 : Int32).toUInt32 &&& Int32.toUInt32 31)).toInt32) &&& (858993459 : Int32))) + (((((a0 - (((a0.toUInt32 >>> ((1 : Int32).toUInt32 &&& Int32.toUInt32 31)).toInt32) &&& (1431655765 : Int32))) &&& (858993459 : Int32)) + ((((a0 - (((a0.toUInt32 >>> ((1 : Int32).toUInt32 &&& Int32.toUInt32 31)).toInt32) &&& (1431655765 : Int32))).toUInt32 >>> ((2 : Int32).toUInt32 &&& Int32.toUInt32 31)).toInt32) &&& (858993459 : Int32))).toUInt32 >>> ((4 : Int32).toUInt32 &&& Int32.toUInt32 31)).toInt32)) &&& (252645135 : Int32)) + (((((((a0 - (((a0.toUInt32 >>> ((1 : Int32).toUInt32 &&& Int32.toUInt32 31)).toInt32) &&& (1431655765 : Int32))) &&& (858993459 : Int32)) + ((((a0 - (((a0.toUInt32 >>> ((1 : Int32).toUInt32 &&& Int32.toUInt32 31)).toInt32) &&& (1431655765 : Int32))).toUInt32 >>> ((2 : Int32).toUInt32 &&& Int32.toUInt32 31)).toInt32) &&& (858993459 : Int32))) + (((((a0 - (((a0.toUInt32 >>> ((1 : Int32).toUInt32 &&& Int32.toUInt32 31)).toInt32) &&& (1431655765 : Int32))) &&& (858993459 : Int32)) + ((((a0 - (((a0.toUInt32 >>> ((1 : Int32).toUInt32 &&& Int32.toUInt32 31)).toInt32) &&& (1431655765 : Int32))).toUInt32 >>> ((2 : Int32).toUInt32 &&& Int32.toUInt32 31)).toInt32) &&& (858993459 : Int32))).toUInt32 >>> ((4 : Int32).toUInt32 &&& Int32.toUInt32 31)).toInt32)) &&& (252645135 : Int32)).toUInt32 >>> ((8 : Int32).toUInt32 &&& Int32.toUInt32 31)).toInt32)))] dd_Integer_bitCount_32.2.2.2.2.2.2.2.1 rfl (Nat.le_of_ble_eq_true rfl) rfl ?_
  refine g_iload_n (pc := 41) 0 dd_Integer_bitCount_32.2.2.2.2.2.2.2.2.1 rfl rfl ?_
  refine g_iload_n (pc := 42) 0 dd_Integer_bitCount_32.2.2.2.2.2.2.2.2.2.1 rfl rfl ?_
  refine g_bipush (pc := 43) (16 : Int32) dd_Integer_bitCount_32.2.2.2.2.2.2.2.2.2.2.1 (by decide) ?_
  refine g_iushr (pc := 45) dd_Integer_bitCount_32.2.2.2.2.2.2.2.2.2.2.2.1 ?_
  refine g_iadd (pc := 46) dd_Integer_bitCount_32.2.2.2.2.2.2.2.2.2.2.2.2.1 ?_
  refine g_istore_n (pc := 47) [(0, .int (((((((a0 - (((a0.toUInt32 >>> ((1 : Int32).toUInt32 &&& Int32.toUInt32 31)).toInt32) &&& (1431655765 : Int32))) &&& (858993459 : Int32)) + ((((a0 - (((a0.toUInt32 >>> ((1 : Int32).toUInt32 &&& Int32.toUInt32 31)).toInt32) &&& (1431655765 : Int32))).toUInt32 >>> ((2 : Int32).toUInt32 &&& Int32.toUInt32 31)).toInt32) &&& (858993459 : Int32))) + (((((a0 - (((a0.toUInt32 >>> ((1 : Int32).toUInt32 &&& Int32.toUInt32 31)).toInt32) &&& (1431655765 : Int32))) &&& (858993459 : Int32)) + ((((a0 - (((a0.toUInt32 >>> ((1 : Int32).toUInt32 &&& Int32.toUInt32 31)).toInt32) &&& (1431655765 : Int32))).toUInt32 >>> ((2 : Int32).toUInt32 &&& Int32.toUInt32 31)).toInt32) &&& (858993459 : Int32))).toUInt32 >>> ((4 : Int32).toUInt32 &&& Int32.toUInt32 31)).toInt32)) &&& (252645135 : Int32)) + (((((((a0 - (((a0.toUInt32 >>> ((1 : Int32).toUInt32 &&& Int32.toUInt32 31)).toInt32) &&& (1431655765 : Int32))) &&& (858993459 : Int32)) + ((((a0 - (((a0.toUInt32 >>> ((1 : Int32).toUInt32 &&& Int32.toUInt32 31)).toInt32) &&& (1431655765 : Int32))).toUInt32 >>> ((2 : Int32).toUInt32 &&& Int32.toUInt32 31)).toInt32) &&& (858993459 : Int32))) + (((((a0 - (((a0.toUInt32 >>> ((1 : Int32).toUInt32 &&& Int32.toUInt32 31)).toInt32) &&& (1431655765 : Int32))) &&& (858993459 : Int32)) + ((((a0 - (((a0.toUInt32 >>> ((1 : Int32).toUInt32 &&& Int32.toUInt32 31)).toInt32) &&& (1431655765 : Int32))).toUInt32 >>> ((2 : Int32).toUInt32 &&& Int32.toUInt32 31)).toInt32) &&& (858993459 : Int32))).toUInt32 >>> ((4 : Int32).toUInt32 &&& Int32.toUInt32 31)).toInt32)) &&& (252645135 : Int32)).toUInt32 >>> ((8 : Int32).toUInt32 &&& Int32.toUInt32 31)).toInt32)) + ((((((((a0 - (((a0.toUInt32 >>> ((1 : Int32).toUInt32 &&& Int32.toUInt32 31)).toInt32) &&& (1431655765 : Int32))) &&& (858993459 : Int32)) + ((((a0 - (((a0.toUInt32 >>> ((1 : Int32).toUInt32 &&& Int32.toUInt32 31)).toInt32) &&& (1431655765 : Int32))).toUInt32 >>> ((2 : Int32).toUInt32 &&& Int32.toUInt32 31)).toInt32) &&& (858993459 : Int32))) + (((((a0 - (((a0.toUInt32 >>> ((1 : Int32).toUInt32 &&& Int32.toUInt32 31)).toInt32) &&& (1431655765 : Int32))) &&& (858993459 : Int32)) + ((((a0 - (((a0.toUInt32 >>> ((1 : Int32).toUInt32 &&& Int32.toUInt32 31)).toInt32) &&& (1431655765 : Int32))).toUInt32 >>> ((2 : Int32).toUInt32 &&& Int32.toUInt32 31)).toInt32) &&& (858993459 : Int32))).toUInt32 >>> ((4 : Int32).toUInt32 &&& Int32.toUInt32 31)).toInt32)) &&& (252645135 : Int32)) + (((((((a0 - (((a0.toUInt32 >>> ((1 : Int32).toUInt32 &&& Int32.toUInt32 31)).toInt32) &&& (1431655765 : Int32))) &&& (858993459 : Int32)) + ((((a0 - (((a0.toUInt32 >>> ((1 : Int32).toUInt32 &&& Int32.toUInt32 31)).toInt32) &&& (1431655765 : Int32))).toUInt32 >>> ((2 : Int32).toUInt32 &&& Int32.toUInt32 31)).toInt32) &&& (858993459 : Int32))) + (((((a0 - (((a0.toUInt32 >>> ((1 : Int32).toUInt32 &&& Int32.toUInt32 31)).toInt32) &&& (1431655765 : Int32))) &&& (858993459 : Int32)) + ((((a0 - (((a0.toUInt32 >>> ((1 : Int32).toUInt32 &&& Int32.toUInt32 31)).toInt32) &&& (1431655765 : Int32))).toUInt32 >>> ((2 : Int32).toUInt32 &&& Int32.toUInt32 31)).toInt32) &&& (858993459 : Int32))).toUInt32 >>> ((4 : Int32).toUInt32 &&& Int32.toUInt32 31)).toInt32)) &&& (252645135 : Int32)).toUInt32 >>> ((8 : Int32).toUInt32 &&& Int32.toUInt32 31)).toInt32)).toUInt32 >>> ((16 : Int32).toUInt32 &&& Int32.toUInt32 31)).toInt32)))] dd_Integer_bitCount_32.2.2.2.2.2.2.2.2.2.2.2.2.2.1 rfl (Nat.le_of_ble_eq_true rfl) rfl ?_
  refine g_iload_n (pc := 48) 0 dd_Integer_bitCount_32.2.2.2.2.2.2.2.2.2.2.2.2.2.2.1 rfl rfl ?_
  refine g_bipush (pc := 49) (63 : Int32) dd_Integer_bitCount_32.2.2.2.2.2.2.2.2.2.2.2.2.2.2.2.1 (by decide) ?_
  refine g_iand (pc := 51) dd_Integer_bitCount_32.2.2.2.2.2.2.2.2.2.2.2.2.2.2.2.2.1 ?_
  obtain ⟨rfl, rfl⟩ := ret2 hf
  exact g_iret (pc := 52) rfl dd_Integer_bitCount_32.2.2.2.2.2.2.2.2.2.2.2.2.2.2.2.2.2
def f_Integer_bitCount (a0 : Int32) (h : mH) : Option (Int32 × mH) := f_Integer_bitCount_0 a0 h
theorem c_Integer_bitCount {sc : Nat × (Nat → Int32)} {a0 : Int32} {h : mH} {r : Int32} {h' : mH} (hf : f_Integer_bitCount a0 h = some (r, h')) : MM sc y_Integer_bitCount prog_11_method_49_code 1 (some .int) 0 0 [.int a0] h (some (.int r)) h' :=
  mm_of_G si_pn_Integer (Nat.le_of_ble_eq_true rfl) (t_Integer_bitCount_0 _ _ _ _ hf)
/-! Arrays fill ([JJ)V -/
set_option maxRecDepth 100000 in
theorem dd_Arrays_fillJ_0 : (decode prog_17_method_101_code 0 = .ok (.iconst 0, 1)) ∧ (decode prog_17_method_101_code 1 = .ok (.istore_n 3, 1)) ∧ (decode prog_17_method_101_code 2 = .ok (.aload_n 0, 1)) ∧ (decode prog_17_method_101_code 3 = .ok (.arraylength, 1)) ∧ (decode prog_17_method_101_code 4 = .ok (.istore 4, 2)) ∧ (decode prog_17_method_101_code 6 = .ok (.iload_n 3, 1)) ∧ (decode prog_17_method_101_code 7 = .ok (.iload 4, 2)) ∧ (decode prog_17_method_101_code 9 = .ok (.if_icmp .ge 13, 3)) ∧ (decode prog_17_method_101_code 12 = .ok (.aload_n 0, 1)) ∧ (decode prog_17_method_101_code 13 = .ok (.iload_n 3, 1)) ∧ (decode prog_17_method_101_code 14 = .ok (.lload_n 1, 1)) ∧ (decode prog_17_method_101_code 15 = .ok (.lastore, 1)) ∧ (decode prog_17_method_101_code 16 = .ok (.iinc 3 1, 3)) ∧ (decode prog_17_method_101_code 19 = .ok (.goto (-13), 3)) ∧ (decode prog_17_method_101_code 22 = .ok (.return_, 1)) := by
  have h : List.drop 0 prog_17_method_101_code.data.toList = 0x03 :: _ := rfl
  refine ⟨zq_k_n 3 h rfl (zq_o_3 _), ?_⟩
  replace h := zq_nx1 (q := 1) h rfl
  refine ⟨zq_k_n 62 h rfl (zq_o_62 _), ?_⟩
  replace h := zq_nx1 (q := 2) h rfl
  refine ⟨zq_k_n 42 h rfl (zq_o_42 _), ?_⟩
  replace h := zq_nx1 (q := 3) h rfl
  refine ⟨zq_k_n 190 h rfl (zq_o_190 _), ?_⟩
  replace h := zq_nx1 (q := 4) h rfl
  refine ⟨zq_k_u1 54 (fun z => .istore z) 4 h rfl (zq_o_54 _) (by decide +kernel), ?_⟩
  replace h := zq_nx2 (q := 6) h rfl
  refine ⟨zq_k_n 29 h rfl (zq_o_29 _), ?_⟩
  replace h := zq_nx1 (q := 7) h rfl
  refine ⟨zq_k_u1 21 (fun z => .iload z) 4 h rfl (zq_o_21 _) (by decide +kernel), ?_⟩
  replace h := zq_nx2 (q := 9) h rfl
  refine ⟨zq_k_s2 162 (fun z => .if_icmp .ge z) 13 h rfl (zq_o_162 _) (by decide +kernel), ?_⟩
  replace h := zq_nx3 (q := 12) h rfl
  refine ⟨zq_k_n 42 h rfl (zq_o_42 _), ?_⟩
  replace h := zq_nx1 (q := 13) h rfl
  refine ⟨zq_k_n 29 h rfl (zq_o_29 _), ?_⟩
  replace h := zq_nx1 (q := 14) h rfl
  refine ⟨zq_k_n 31 h rfl (zq_o_31 _), ?_⟩
  replace h := zq_nx1 (q := 15) h rfl
  refine ⟨zq_k_n 80 h rfl (zq_o_80 _), ?_⟩
  replace h := zq_nx1 (q := 16) h rfl
  refine ⟨zq_k_iinc 3 1 h rfl (zq_o_132 _) (by decide +kernel) (by decide +kernel), ?_⟩
  replace h := zq_nx3 (q := 19) h rfl
  refine ⟨zq_k_s2 167 (fun z => .goto z) (-13) h rfl (zq_o_167 _) (by decide +kernel), ?_⟩
  replace h := zq_nx3 (q := 22) h rfl
  exact zq_k_n 177 h rfl (zq_o_177 _)
def f_Arrays_fillJ_6b (rec6 : Nat → Int64 → Int32 → Int32 → mH → Option mH) (b0 : Nat) (b1 : Int64) (b3 : Int32) (b4 : Int32) (h : mH) : Option mH :=
  if b4 ≤ b3 then
    some h
  else
    bd1 (sL h b0 b3 b1) fun h3 =>
    rec6 b0 b1 (b3 + (1 : Int32)) b4 h3
set_option maxRecDepth 20000 in
theorem t_Arrays_fillJ_6b {sc : Nat × (Nat → Int32)} (rec6 : Nat → Int64 → Int32 → Int32 → mH → Option mH) (hrec6 : ∀ (b0 : Nat) (b1 : Int64) (b3 : Int32) (b4 : Int32) (h : mH) (h' : mH), rec6 b0 b1 b3 b4 h = some h' → G sc y_Arrays_fillJ prog_17_method_101_code 5 none 0 0 6 [(0, .ref b0), (1, .long b1), (3, .int b3), (4, .int b4)] [] h none h') (b0 : Nat) (b1 : Int64) (b3 : Int32) (b4 : Int32) (h : mH) (h' : mH) (hf : f_Arrays_fillJ_6b rec6 b0 b1 b3 b4 h = some h') : G sc y_Arrays_fillJ prog_17_method_101_code 5 none 0 0 6 [(0, .ref b0), (1, .long b1), (3, .int b3), (4, .int b4)] [] h none h' := by
  unfold f_Arrays_fillJ_6b at hf
  refine g_iload_n (pc := 6) 2 dd_Arrays_fillJ_0.2.2.2.2.2.1 rfl rfl ?_
  refine g_iload (pc := 7) 3 dd_Arrays_fillJ_0.2.2.2.2.2.2.1 rfl ?_
  refine g_icmpge (pc := 9) 22 dd_Arrays_fillJ_0.2.2.2.2.2.2.2.1 (by decide) (fun c5 => ?_) (fun c5 => ?_)
  · replace hf := (if_pos c5).symm.trans hf
    obtain rfl := ret1 hf
    exact g_vret (pc := 22) rfl dd_Arrays_fillJ_0.2.2.2.2.2.2.2.2.2.2.2.2.2.2
  · replace hf := (if_neg c5).symm.trans hf
    refine g_aload_n (pc := 12) 0 dd_Arrays_fillJ_0.2.2.2.2.2.2.2.2.1 rfl rfl ?_
    refine g_iload_n (pc := 13) 2 dd_Arrays_fillJ_0.2.2.2.2.2.2.2.2.2.1 rfl rfl ?_
    refine g_lload_n (pc := 14) 1 dd_Arrays_fillJ_0.2.2.2.2.2.2.2.2.2.2.1 rfl rfl ?_
    obtain ⟨h3, e4, hf⟩ := bd1_e hf
    refine g_last (pc := 15) dd_Arrays_fillJ_0.2.2.2.2.2.2.2.2.2.2.2.1 e4 ?_
    refine g_iinc (pc := 16) 2 (b3 + (1 : Int32)) [(3, .int (b3 + (1 : Int32))), (0, .ref b0), (1, .long b1), (4, .int b4)] dd_Arrays_fillJ_0.2.2.2.2.2.2.2.2.2.2.2.2.1 rfl rfl (Nat.le_of_ble_eq_true rfl) rfl ?_
    refine g_goto (pc := 19) 6 dd_Arrays_fillJ_0.2.2.2.2.2.2.2.2.2.2.2.2.2.1 (by decide) ?_
    refine g_lv [1, 2, 0, 3] rfl ?_
    exact hrec6 _ _ _ _ _ _  hf
def f_Arrays_fillJ_6  : Nat → Nat → Int64 → Int32 → Int32 → mH → Option mH
  | 0 => fun _ _ _ _ _ => none
  | n + 1 => f_Arrays_fillJ_6b  (f_Arrays_fillJ_6  n)
theorem t_Arrays_fillJ_6 {sc : Nat × (Nat → Int32)}  : ∀ (n : Nat) (b0 : Nat) (b1 : Int64) (b3 : Int32) (b4 : Int32) (h : mH) (h' : mH) (hf : f_Arrays_fillJ_6  n b0 b1 b3 b4 h = some h'), G sc y_Arrays_fillJ prog_17_method_101_code 5 none 0 0 6 [(0, .ref b0), (1, .long b1), (3, .int b3), (4, .int b4)] [] h none h'
  | 0, _, _, _, _, _, _, hf => by cases hf
  | n + 1, _, _, _, _, _, _, hf => t_Arrays_fillJ_6b  (f_Arrays_fillJ_6  n) (t_Arrays_fillJ_6  n) _ _ _ _ _ _ hf
def f_Arrays_fillJ_0  (a0 : Nat) (a1 : Int64) (h : mH) : Option mH :=
  bd1 (aN h 3 a0) fun x1 =>
  f_Arrays_fillJ_6  FU a0 a1 (0 : Int32) x1 h
set_option maxRecDepth 20000 in
theorem t_Arrays_fillJ_0 {sc : Nat × (Nat → Int32)}  (a0 : Nat) (a1 : Int64) (h : mH) (h' : mH) (hf : f_Arrays_fillJ_0  a0 a1 h = some h') : G sc y_Arrays_fillJ prog_17_method_101_code 5 none 0 0 0 [(0, .ref a0), (1, .long a1)] [] h none h' := by
  unfold f_Arrays_fillJ_0 at hf
  refine g_iconst (pc := 0) (0 : Int32) dd_Arrays_fillJ_0.1 (by decide) ?_
  refine g_istore_n (pc := 1) [(3, .int (0 : Int32)), (0, .ref a0), (1, .long a1)] dd_Arrays_fillJ_0.2.1 rfl (Nat.le_of_ble_eq_true rfl) rfl ?_
  refine g_aload_n (pc := 2) 1 dd_Arrays_fillJ_0.2.2.1 rfl rfl ?_
  obtain ⟨x1, e2, hf⟩ := bd1_e hf
  refine g_alen (pc := 3) (.long) dd_Arrays_fillJ_0.2.2.2.1 (fun _ => rfl) e2 ?_
  refine g_istore (pc := 4) [(4, .int x1), (3, .int (0 : Int32)), (0, .ref a0), (1, .long a1)] dd_Arrays_fillJ_0.2.2.2.2.1 (Nat.le_of_ble_eq_true rfl) rfl ?_
  refine g_lv [2, 3, 1, 0] rfl ?_
  exact t_Arrays_fillJ_6  FU _ _ _ _ _ _  hf
def f_Arrays_fillJ (a0 : Nat) (a1 : Int64) (h : mH) : Option mH := f_Arrays_fillJ_0 a0 a1 h
theorem c_Arrays_fillJ {sc : Nat × (Nat → Int32)} {a0 : Nat} {a1 : Int64} {h : mH} {h' : mH} (hf : f_Arrays_fillJ a0 a1 h = some h') : MM sc y_Arrays_fillJ prog_17_method_101_code 5 none 0 0 [.ref a0, .long a1] h none h' :=
  mm_of_G si_pn_Arrays (Nat.le_of_ble_eq_true rfl) (t_Arrays_fillJ_0 _ _ _ _ hf)
end
