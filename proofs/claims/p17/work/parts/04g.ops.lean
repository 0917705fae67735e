/-! what an instruction is, by the bytes at its place -/
theorem zq_nx1 {l : List UInt8} {p q : Nat} {b : UInt8} {t : List UInt8} (h : List.drop p l = b :: t) (e : p + 1 = q) : List.drop q l = t := by
  subst e
  rw [← List.drop_drop, h]
  rfl
theorem zq_nx2 {l : List UInt8} {p q : Nat} {a b : UInt8} {t : List UInt8} (h : List.drop p l = a :: b :: t) (e : p + 2 = q) : List.drop q l = t := by
  subst e
  rw [← List.drop_drop, h]
  rfl
theorem zq_nx3 {l : List UInt8} {p q : Nat} {a b c : UInt8} {t : List UInt8} (h : List.drop p l = a :: b :: c :: t) (e : p + 3 = q) : List.drop q l = t := by
  subst e
  rw [← List.drop_drop, h]
  rfl
theorem zq_u1_at {cc : ByteArray} {p : Nat} {b : UInt8} {t : List UInt8} (h : List.drop p cc.data.toList = b :: t) : (Jvm.ClassFile.Reader.u1 : Jvm.ClassFile.Decoder Nat) cc p = .ok (b.toNat, p + 1) := by
  have hl : cc.data.toList[p]? = some b := by
    have z := congrArg (fun l => l[0]?) h
    simpa [List.getElem?_drop] using z
  obtain ⟨hp, e⟩ := List.getElem?_eq_some_iff.mp hl
  have hp2 : p < cc.size := hp
  have e2 : cc[p] = b := e
  show (dite (p < cc.size) (fun _ => _) (fun _ => _) : Jvm.ClassFile.Decoder Nat) cc p = _
  rw [dif_pos hp2]
  show Except.ok (cc[p].toNat, p + 1) = _
  rw [e2]
theorem zq_u2_at {cc : ByteArray} {p : Nat} {a b : UInt8} {t : List UInt8} (h : List.drop p cc.data.toList = a :: b :: t) : (Jvm.ClassFile.Reader.u2 : Jvm.ClassFile.Decoder Nat) cc p = .ok (a.toNat * 256 + b.toNat, p + 2) := by
  show Except.bind ((Jvm.ClassFile.Reader.u1 : Jvm.ClassFile.Decoder Nat) cc p) (fun r => Except.bind ((Jvm.ClassFile.Reader.u1 : Jvm.ClassFile.Decoder Nat) cc r.2) (fun s => Except.ok (r.1 * 256 + s.1, s.2))) = _
  rw [zq_u1_at h]
  show Except.bind ((Jvm.ClassFile.Reader.u1 : Jvm.ClassFile.Decoder Nat) cc (p + 1)) (fun s => Except.ok (a.toNat * 256 + s.1, s.2)) = _
  rw [zq_u1_at (zq_nx1 h rfl)]
  rfl
theorem zq_s1_at {cc : ByteArray} {p : Nat} {a : UInt8} {t : List UInt8} (h : List.drop p cc.data.toList = a :: t) : (Jvm.ClassFile.Reader.s1 : Jvm.ClassFile.Decoder Int) cc p = .ok (Jvm.ClassFile.Reader.signed 8 a.toNat, p + 1) := by
  show Except.bind ((Jvm.ClassFile.Reader.u1 : Jvm.ClassFile.Decoder Nat) cc p) (fun r => Except.ok (Jvm.ClassFile.Reader.signed 8 r.1, r.2)) = _
  rw [zq_u1_at h]
  rfl
theorem zq_s2_at {cc : ByteArray} {p : Nat} {a b : UInt8} {t : List UInt8} (h : List.drop p cc.data.toList = a :: b :: t) : (Jvm.ClassFile.Reader.s2 : Jvm.ClassFile.Decoder Int) cc p = .ok (Jvm.ClassFile.Reader.signed 16 (a.toNat * 256 + b.toNat), p + 2) := by
  show Except.bind ((Jvm.ClassFile.Reader.u2 : Jvm.ClassFile.Decoder Nat) cc p) (fun r => Except.ok (Jvm.ClassFile.Reader.signed 16 r.1, r.2)) = _
  rw [zq_u2_at h]
  rfl
noncomputable def zq_instrK (pc : Nat) : { K : Nat → Jvm.ClassFile.Decoder Jvm.ClassFile.Instr // Jvm.ClassFile.Decoder.instr pc = (Jvm.ClassFile.Reader.u1 >>= K) } := ⟨_, rfl⟩
theorem zq_instr_at {cc : ByteArray} {p : Nat} {b : UInt8} {t : List UInt8} (h : List.drop p cc.data.toList = b :: t) : Jvm.ClassFile.Decoder.instr p cc p = (zq_instrK p).1 b.toNat cc (p + 1) := by
  refine Eq.trans (congrArg (fun z : Jvm.ClassFile.Decoder Jvm.ClassFile.Instr => z cc p) (zq_instrK p).2) ?_
  show Except.bind ((Jvm.ClassFile.Reader.u1 : Jvm.ClassFile.Decoder Nat) cc p) (fun r => (zq_instrK p).1 r.1 cc r.2) = _
  rw [zq_u1_at h]
  rfl
theorem zq_dec_of {cc : ByteArray} {p n m : Nat} {i : Jvm.ClassFile.Instr} (h : Jvm.ClassFile.Decoder.instr p cc p = .ok (i, n)) (e : n = p + m) : decode cc p = .ok (i, m) := by
  have z : decode cc p = Except.bind (Jvm.ClassFile.Decoder.instr p cc p) (fun r => Except.ok (r.1, r.2 - p)) := rfl
  rw [z, h, e]
  show Except.ok (i, p + m - p) = _
  rw [Nat.add_sub_cancel_left]
theorem zq_k_n {cc : ByteArray} {p : Nat} {b : UInt8} {t : List UInt8} {i : Jvm.ClassFile.Instr} (op : Nat) (h : List.drop p cc.data.toList = b :: t) (hb : b.toNat = op) (hk : (zq_instrK p).1 op = Pure.pure i) : decode cc p = .ok (i, 1) := by
  refine zq_dec_of (n := p + 1) ?_ rfl
  rw [zq_instr_at h, hb, hk]
  rfl
theorem zq_k_u1 {cc : ByteArray} {p : Nat} {b x : UInt8} {t : List UInt8} (op : Nat) (f : Nat → Jvm.ClassFile.Instr) (n : Nat) (h : List.drop p cc.data.toList = b :: x :: t) (hb : b.toNat = op) (hk : (zq_instrK p).1 op = (Jvm.ClassFile.Reader.u1 >>= fun z => Pure.pure (f z))) (hn : x.toNat = n) : decode cc p = .ok (f n, 2) := by
  refine zq_dec_of (n := p + 1 + 1) ?_ rfl
  rw [zq_instr_at h, hb, hk]
  show Except.bind ((Jvm.ClassFile.Reader.u1 : Jvm.ClassFile.Decoder Nat) cc (p + 1)) (fun r => Except.ok (f r.1, r.2)) = _
  rw [zq_u1_at (zq_nx1 h rfl), hn]
  rfl
theorem zq_k_s1 {cc : ByteArray} {p : Nat} {b x : UInt8} {t : List UInt8} (op : Nat) (f : Int → Jvm.ClassFile.Instr) (n : Int) (h : List.drop p cc.data.toList = b :: x :: t) (hb : b.toNat = op) (hk : (zq_instrK p).1 op = (Jvm.ClassFile.Reader.s1 >>= fun z => Pure.pure (f z))) (hn : Jvm.ClassFile.Reader.signed 8 x.toNat = n) : decode cc p = .ok (f n, 2) := by
  refine zq_dec_of (n := p + 1 + 1) ?_ rfl
  rw [zq_instr_at h, hb, hk]
  show Except.bind ((Jvm.ClassFile.Reader.s1 : Jvm.ClassFile.Decoder Int) cc (p + 1)) (fun r => Except.ok (f r.1, r.2)) = _
  rw [zq_s1_at (zq_nx1 h rfl), hn]
  rfl
theorem zq_k_u2 {cc : ByteArray} {p : Nat} {b x y : UInt8} {t : List UInt8} (op : Nat) (f : Nat → Jvm.ClassFile.Instr) (n : Nat) (h : List.drop p cc.data.toList = b :: x :: y :: t) (hb : b.toNat = op) (hk : (zq_instrK p).1 op = (Jvm.ClassFile.Reader.u2 >>= fun z => Pure.pure (f z))) (hn : x.toNat * 256 + y.toNat = n) : decode cc p = .ok (f n, 3) := by
  refine zq_dec_of (n := p + 1 + 2) ?_ rfl
  rw [zq_instr_at h, hb, hk]
  show Except.bind ((Jvm.ClassFile.Reader.u2 : Jvm.ClassFile.Decoder Nat) cc (p + 1)) (fun r => Except.ok (f r.1, r.2)) = _
  rw [zq_u2_at (zq_nx1 h rfl), hn]
  rfl
theorem zq_k_s2 {cc : ByteArray} {p : Nat} {b x y : UInt8} {t : List UInt8} (op : Nat) (f : Int → Jvm.ClassFile.Instr) (n : Int) (h : List.drop p cc.data.toList = b :: x :: y :: t) (hb : b.toNat = op) (hk : (zq_instrK p).1 op = (Jvm.ClassFile.Reader.s2 >>= fun z => Pure.pure (f z))) (hn : Jvm.ClassFile.Reader.signed 16 (x.toNat * 256 + y.toNat) = n) : decode cc p = .ok (f n, 3) := by
  refine zq_dec_of (n := p + 1 + 2) ?_ rfl
  rw [zq_instr_at h, hb, hk]
  show Except.bind ((Jvm.ClassFile.Reader.s2 : Jvm.ClassFile.Decoder Int) cc (p + 1)) (fun r => Except.ok (f r.1, r.2)) = _
  rw [zq_s2_at (zq_nx1 h rfl), hn]
  rfl
theorem zq_k_iinc {cc : ByteArray} {p : Nat} {b x y : UInt8} {t : List UInt8} (n : Nat) (m : Int) (h : List.drop p cc.data.toList = b :: x :: y :: t) (hb : b.toNat = 132) (hk : (zq_instrK p).1 132 = (Jvm.ClassFile.Reader.u1 >>= fun z => Jvm.ClassFile.Reader.s1 >>= fun w => Pure.pure (Jvm.ClassFile.Instr.iinc z w))) (hn : x.toNat = n) (hm : Jvm.ClassFile.Reader.signed 8 y.toNat = m) : decode cc p = .ok (.iinc n m, 3) := by
  refine zq_dec_of (n := p + 1 + 1 + 1) ?_ rfl
  rw [zq_instr_at h, hb, hk]
  show Except.bind ((Jvm.ClassFile.Reader.u1 : Jvm.ClassFile.Decoder Nat) cc (p + 1)) (fun r => Except.bind ((Jvm.ClassFile.Reader.s1 : Jvm.ClassFile.Decoder Int) cc r.2) (fun s => Except.ok (Jvm.ClassFile.Instr.iinc r.1 s.1, s.2))) = _
  rw [zq_u1_at (zq_nx1 h rfl), hn]
  show Except.bind ((Jvm.ClassFile.Reader.s1 : Jvm.ClassFile.Decoder Int) cc (p + 1 + 1)) (fun s => Except.ok (Jvm.ClassFile.Instr.iinc n s.1, s.2)) = _
  rw [zq_s1_at (zq_nx2 h rfl), hm]
  rfl
theorem zq_o_2 (p : Nat) : (zq_instrK p).1 2 = Pure.pure (Jvm.ClassFile.Instr.iconst (-1)) := rfl
theorem zq_o_3 (p : Nat) : (zq_instrK p).1 3 = Pure.pure (Jvm.ClassFile.Instr.iconst 0) := rfl
theorem zq_o_4 (p : Nat) : (zq_instrK p).1 4 = Pure.pure (Jvm.ClassFile.Instr.iconst 1) := rfl
theorem zq_o_5 (p : Nat) : (zq_instrK p).1 5 = Pure.pure (Jvm.ClassFile.Instr.iconst 2) := rfl
theorem zq_o_6 (p : Nat) : (zq_instrK p).1 6 = Pure.pure (Jvm.ClassFile.Instr.iconst 3) := rfl
theorem zq_o_7 (p : Nat) : (zq_instrK p).1 7 = Pure.pure (Jvm.ClassFile.Instr.iconst 4) := rfl
theorem zq_o_8 (p : Nat) : (zq_instrK p).1 8 = Pure.pure (Jvm.ClassFile.Instr.iconst 5) := rfl
theorem zq_o_9 (p : Nat) : (zq_instrK p).1 9 = Pure.pure (Jvm.ClassFile.Instr.lconst 0) := rfl
theorem zq_o_10 (p : Nat) : (zq_instrK p).1 10 = Pure.pure (Jvm.ClassFile.Instr.lconst 1) := rfl
theorem zq_o_26 (p : Nat) : (zq_instrK p).1 26 = Pure.pure (Jvm.ClassFile.Instr.iload_n 0) := rfl
theorem zq_o_27 (p : Nat) : (zq_instrK p).1 27 = Pure.pure (Jvm.ClassFile.Instr.iload_n 1) := rfl
theorem zq_o_28 (p : Nat) : (zq_instrK p).1 28 = Pure.pure (Jvm.ClassFile.Instr.iload_n 2) := rfl
theorem zq_o_29 (p : Nat) : (zq_instrK p).1 29 = Pure.pure (Jvm.ClassFile.Instr.iload_n 3) := rfl
theorem zq_o_30 (p : Nat) : (zq_instrK p).1 30 = Pure.pure (Jvm.ClassFile.Instr.lload_n 0) := rfl
theorem zq_o_31 (p : Nat) : (zq_instrK p).1 31 = Pure.pure (Jvm.ClassFile.Instr.lload_n 1) := rfl
theorem zq_o_32 (p : Nat) : (zq_instrK p).1 32 = Pure.pure (Jvm.ClassFile.Instr.lload_n 2) := rfl
theorem zq_o_33 (p : Nat) : (zq_instrK p).1 33 = Pure.pure (Jvm.ClassFile.Instr.lload_n 3) := rfl
theorem zq_o_42 (p : Nat) : (zq_instrK p).1 42 = Pure.pure (Jvm.ClassFile.Instr.aload_n 0) := rfl
theorem zq_o_43 (p : Nat) : (zq_instrK p).1 43 = Pure.pure (Jvm.ClassFile.Instr.aload_n 1) := rfl
theorem zq_o_44 (p : Nat) : (zq_instrK p).1 44 = Pure.pure (Jvm.ClassFile.Instr.aload_n 2) := rfl
theorem zq_o_45 (p : Nat) : (zq_instrK p).1 45 = Pure.pure (Jvm.ClassFile.Instr.aload_n 3) := rfl
theorem zq_o_46 (p : Nat) : (zq_instrK p).1 46 = Pure.pure (Jvm.ClassFile.Instr.iaload) := rfl
theorem zq_o_47 (p : Nat) : (zq_instrK p).1 47 = Pure.pure (Jvm.ClassFile.Instr.laload) := rfl
theorem zq_o_50 (p : Nat) : (zq_instrK p).1 50 = Pure.pure (Jvm.ClassFile.Instr.aaload) := rfl
theorem zq_o_51 (p : Nat) : (zq_instrK p).1 51 = Pure.pure (Jvm.ClassFile.Instr.baload) := rfl
theorem zq_o_59 (p : Nat) : (zq_instrK p).1 59 = Pure.pure (Jvm.ClassFile.Instr.istore_n 0) := rfl
theorem zq_o_60 (p : Nat) : (zq_instrK p).1 60 = Pure.pure (Jvm.ClassFile.Instr.istore_n 1) := rfl
theorem zq_o_61 (p : Nat) : (zq_instrK p).1 61 = Pure.pure (Jvm.ClassFile.Instr.istore_n 2) := rfl
theorem zq_o_62 (p : Nat) : (zq_instrK p).1 62 = Pure.pure (Jvm.ClassFile.Instr.istore_n 3) := rfl
theorem zq_o_63 (p : Nat) : (zq_instrK p).1 63 = Pure.pure (Jvm.ClassFile.Instr.lstore_n 0) := rfl
theorem zq_o_64 (p : Nat) : (zq_instrK p).1 64 = Pure.pure (Jvm.ClassFile.Instr.lstore_n 1) := rfl
theorem zq_o_65 (p : Nat) : (zq_instrK p).1 65 = Pure.pure (Jvm.ClassFile.Instr.lstore_n 2) := rfl
theorem zq_o_66 (p : Nat) : (zq_instrK p).1 66 = Pure.pure (Jvm.ClassFile.Instr.lstore_n 3) := rfl
theorem zq_o_75 (p : Nat) : (zq_instrK p).1 75 = Pure.pure (Jvm.ClassFile.Instr.astore_n 0) := rfl
theorem zq_o_76 (p : Nat) : (zq_instrK p).1 76 = Pure.pure (Jvm.ClassFile.Instr.astore_n 1) := rfl
theorem zq_o_77 (p : Nat) : (zq_instrK p).1 77 = Pure.pure (Jvm.ClassFile.Instr.astore_n 2) := rfl
theorem zq_o_78 (p : Nat) : (zq_instrK p).1 78 = Pure.pure (Jvm.ClassFile.Instr.astore_n 3) := rfl
theorem zq_o_79 (p : Nat) : (zq_instrK p).1 79 = Pure.pure (Jvm.ClassFile.Instr.iastore) := rfl
theorem zq_o_80 (p : Nat) : (zq_instrK p).1 80 = Pure.pure (Jvm.ClassFile.Instr.lastore) := rfl
theorem zq_o_83 (p : Nat) : (zq_instrK p).1 83 = Pure.pure (Jvm.ClassFile.Instr.aastore) := rfl
theorem zq_o_84 (p : Nat) : (zq_instrK p).1 84 = Pure.pure (Jvm.ClassFile.Instr.bastore) := rfl
theorem zq_o_87 (p : Nat) : (zq_instrK p).1 87 = Pure.pure (Jvm.ClassFile.Instr.pop) := rfl
theorem zq_o_88 (p : Nat) : (zq_instrK p).1 88 = Pure.pure (Jvm.ClassFile.Instr.pop2) := rfl
theorem zq_o_89 (p : Nat) : (zq_instrK p).1 89 = Pure.pure (Jvm.ClassFile.Instr.dup) := rfl
theorem zq_o_92 (p : Nat) : (zq_instrK p).1 92 = Pure.pure (Jvm.ClassFile.Instr.dup2) := rfl
theorem zq_o_96 (p : Nat) : (zq_instrK p).1 96 = Pure.pure (Jvm.ClassFile.Instr.iadd) := rfl
theorem zq_o_97 (p : Nat) : (zq_instrK p).1 97 = Pure.pure (Jvm.ClassFile.Instr.ladd) := rfl
theorem zq_o_100 (p : Nat) : (zq_instrK p).1 100 = Pure.pure (Jvm.ClassFile.Instr.isub) := rfl
theorem zq_o_104 (p : Nat) : (zq_instrK p).1 104 = Pure.pure (Jvm.ClassFile.Instr.imul) := rfl
theorem zq_o_105 (p : Nat) : (zq_instrK p).1 105 = Pure.pure (Jvm.ClassFile.Instr.lmul) := rfl
theorem zq_o_108 (p : Nat) : (zq_instrK p).1 108 = Pure.pure (Jvm.ClassFile.Instr.idiv) := rfl
theorem zq_o_109 (p : Nat) : (zq_instrK p).1 109 = Pure.pure (Jvm.ClassFile.Instr.ldiv) := rfl
theorem zq_o_112 (p : Nat) : (zq_instrK p).1 112 = Pure.pure (Jvm.ClassFile.Instr.irem) := rfl
theorem zq_o_113 (p : Nat) : (zq_instrK p).1 113 = Pure.pure (Jvm.ClassFile.Instr.lrem) := rfl
theorem zq_o_120 (p : Nat) : (zq_instrK p).1 120 = Pure.pure (Jvm.ClassFile.Instr.ishl) := rfl
theorem zq_o_122 (p : Nat) : (zq_instrK p).1 122 = Pure.pure (Jvm.ClassFile.Instr.ishr) := rfl
theorem zq_o_124 (p : Nat) : (zq_instrK p).1 124 = Pure.pure (Jvm.ClassFile.Instr.iushr) := rfl
theorem zq_o_126 (p : Nat) : (zq_instrK p).1 126 = Pure.pure (Jvm.ClassFile.Instr.iand) := rfl
theorem zq_o_128 (p : Nat) : (zq_instrK p).1 128 = Pure.pure (Jvm.ClassFile.Instr.ior) := rfl
theorem zq_o_130 (p : Nat) : (zq_instrK p).1 130 = Pure.pure (Jvm.ClassFile.Instr.ixor) := rfl
theorem zq_o_133 (p : Nat) : (zq_instrK p).1 133 = Pure.pure (Jvm.ClassFile.Instr.i2l) := rfl
theorem zq_o_136 (p : Nat) : (zq_instrK p).1 136 = Pure.pure (Jvm.ClassFile.Instr.l2i) := rfl
theorem zq_o_145 (p : Nat) : (zq_instrK p).1 145 = Pure.pure (Jvm.ClassFile.Instr.i2b) := rfl
theorem zq_o_146 (p : Nat) : (zq_instrK p).1 146 = Pure.pure (Jvm.ClassFile.Instr.i2c) := rfl
theorem zq_o_147 (p : Nat) : (zq_instrK p).1 147 = Pure.pure (Jvm.ClassFile.Instr.i2s) := rfl
theorem zq_o_148 (p : Nat) : (zq_instrK p).1 148 = Pure.pure (Jvm.ClassFile.Instr.lcmp) := rfl
theorem zq_o_172 (p : Nat) : (zq_instrK p).1 172 = Pure.pure (Jvm.ClassFile.Instr.ireturn) := rfl
theorem zq_o_173 (p : Nat) : (zq_instrK p).1 173 = Pure.pure (Jvm.ClassFile.Instr.lreturn) := rfl
theorem zq_o_177 (p : Nat) : (zq_instrK p).1 177 = Pure.pure (Jvm.ClassFile.Instr.return_) := rfl
theorem zq_o_190 (p : Nat) : (zq_instrK p).1 190 = Pure.pure (Jvm.ClassFile.Instr.arraylength) := rfl
theorem zq_o_191 (p : Nat) : (zq_instrK p).1 191 = Pure.pure (Jvm.ClassFile.Instr.athrow) := rfl
theorem zq_o_16 (p : Nat) : (zq_instrK p).1 16 = (Jvm.ClassFile.Reader.s1 >>= fun z => Pure.pure (Jvm.ClassFile.Instr.bipush z)) := rfl
theorem zq_o_17 (p : Nat) : (zq_instrK p).1 17 = (Jvm.ClassFile.Reader.s2 >>= fun z => Pure.pure (Jvm.ClassFile.Instr.sipush z)) := rfl
theorem zq_o_18 (p : Nat) : (zq_instrK p).1 18 = (Jvm.ClassFile.Reader.u1 >>= fun z => Pure.pure (Jvm.ClassFile.Instr.ldc z)) := rfl
theorem zq_o_19 (p : Nat) : (zq_instrK p).1 19 = (Jvm.ClassFile.Reader.u2 >>= fun z => Pure.pure (Jvm.ClassFile.Instr.ldc_w z)) := rfl
theorem zq_o_20 (p : Nat) : (zq_instrK p).1 20 = (Jvm.ClassFile.Reader.u2 >>= fun z => Pure.pure (Jvm.ClassFile.Instr.ldc2_w z)) := rfl
theorem zq_o_21 (p : Nat) : (zq_instrK p).1 21 = (Jvm.ClassFile.Reader.u1 >>= fun z => Pure.pure (Jvm.ClassFile.Instr.iload z)) := rfl
theorem zq_o_22 (p : Nat) : (zq_instrK p).1 22 = (Jvm.ClassFile.Reader.u1 >>= fun z => Pure.pure (Jvm.ClassFile.Instr.lload z)) := rfl
theorem zq_o_25 (p : Nat) : (zq_instrK p).1 25 = (Jvm.ClassFile.Reader.u1 >>= fun z => Pure.pure (Jvm.ClassFile.Instr.aload z)) := rfl
theorem zq_o_54 (p : Nat) : (zq_instrK p).1 54 = (Jvm.ClassFile.Reader.u1 >>= fun z => Pure.pure (Jvm.ClassFile.Instr.istore z)) := rfl
theorem zq_o_55 (p : Nat) : (zq_instrK p).1 55 = (Jvm.ClassFile.Reader.u1 >>= fun z => Pure.pure (Jvm.ClassFile.Instr.lstore z)) := rfl
theorem zq_o_58 (p : Nat) : (zq_instrK p).1 58 = (Jvm.ClassFile.Reader.u1 >>= fun z => Pure.pure (Jvm.ClassFile.Instr.astore z)) := rfl
theorem zq_o_153 (p : Nat) : (zq_instrK p).1 153 = (Jvm.ClassFile.Reader.s2 >>= fun z => Pure.pure (Jvm.ClassFile.Instr.ifCond .eq z)) := rfl
theorem zq_o_154 (p : Nat) : (zq_instrK p).1 154 = (Jvm.ClassFile.Reader.s2 >>= fun z => Pure.pure (Jvm.ClassFile.Instr.ifCond .ne z)) := rfl
theorem zq_o_155 (p : Nat) : (zq_instrK p).1 155 = (Jvm.ClassFile.Reader.s2 >>= fun z => Pure.pure (Jvm.ClassFile.Instr.ifCond .lt z)) := rfl
theorem zq_o_156 (p : Nat) : (zq_instrK p).1 156 = (Jvm.ClassFile.Reader.s2 >>= fun z => Pure.pure (Jvm.ClassFile.Instr.ifCond .ge z)) := rfl
theorem zq_o_157 (p : Nat) : (zq_instrK p).1 157 = (Jvm.ClassFile.Reader.s2 >>= fun z => Pure.pure (Jvm.ClassFile.Instr.ifCond .gt z)) := rfl
theorem zq_o_158 (p : Nat) : (zq_instrK p).1 158 = (Jvm.ClassFile.Reader.s2 >>= fun z => Pure.pure (Jvm.ClassFile.Instr.ifCond .le z)) := rfl
theorem zq_o_159 (p : Nat) : (zq_instrK p).1 159 = (Jvm.ClassFile.Reader.s2 >>= fun z => Pure.pure (Jvm.ClassFile.Instr.if_icmp .eq z)) := rfl
theorem zq_o_160 (p : Nat) : (zq_instrK p).1 160 = (Jvm.ClassFile.Reader.s2 >>= fun z => Pure.pure (Jvm.ClassFile.Instr.if_icmp .ne z)) := rfl
theorem zq_o_161 (p : Nat) : (zq_instrK p).1 161 = (Jvm.ClassFile.Reader.s2 >>= fun z => Pure.pure (Jvm.ClassFile.Instr.if_icmp .lt z)) := rfl
theorem zq_o_162 (p : Nat) : (zq_instrK p).1 162 = (Jvm.ClassFile.Reader.s2 >>= fun z => Pure.pure (Jvm.ClassFile.Instr.if_icmp .ge z)) := rfl
theorem zq_o_163 (p : Nat) : (zq_instrK p).1 163 = (Jvm.ClassFile.Reader.s2 >>= fun z => Pure.pure (Jvm.ClassFile.Instr.if_icmp .gt z)) := rfl
theorem zq_o_164 (p : Nat) : (zq_instrK p).1 164 = (Jvm.ClassFile.Reader.s2 >>= fun z => Pure.pure (Jvm.ClassFile.Instr.if_icmp .le z)) := rfl
theorem zq_o_167 (p : Nat) : (zq_instrK p).1 167 = (Jvm.ClassFile.Reader.s2 >>= fun z => Pure.pure (Jvm.ClassFile.Instr.goto z)) := rfl
theorem zq_o_178 (p : Nat) : (zq_instrK p).1 178 = (Jvm.ClassFile.Reader.u2 >>= fun z => Pure.pure (Jvm.ClassFile.Instr.getstatic z)) := rfl
theorem zq_o_179 (p : Nat) : (zq_instrK p).1 179 = (Jvm.ClassFile.Reader.u2 >>= fun z => Pure.pure (Jvm.ClassFile.Instr.putstatic z)) := rfl
theorem zq_o_180 (p : Nat) : (zq_instrK p).1 180 = (Jvm.ClassFile.Reader.u2 >>= fun z => Pure.pure (Jvm.ClassFile.Instr.getfield z)) := rfl
theorem zq_o_181 (p : Nat) : (zq_instrK p).1 181 = (Jvm.ClassFile.Reader.u2 >>= fun z => Pure.pure (Jvm.ClassFile.Instr.putfield z)) := rfl
theorem zq_o_182 (p : Nat) : (zq_instrK p).1 182 = (Jvm.ClassFile.Reader.u2 >>= fun z => Pure.pure (Jvm.ClassFile.Instr.invokevirtual z)) := rfl
theorem zq_o_183 (p : Nat) : (zq_instrK p).1 183 = (Jvm.ClassFile.Reader.u2 >>= fun z => Pure.pure (Jvm.ClassFile.Instr.invokespecial z)) := rfl
theorem zq_o_184 (p : Nat) : (zq_instrK p).1 184 = (Jvm.ClassFile.Reader.u2 >>= fun z => Pure.pure (Jvm.ClassFile.Instr.invokestatic z)) := rfl
theorem zq_o_187 (p : Nat) : (zq_instrK p).1 187 = (Jvm.ClassFile.Reader.u2 >>= fun z => Pure.pure (Jvm.ClassFile.Instr.new z)) := rfl
theorem zq_o_189 (p : Nat) : (zq_instrK p).1 189 = (Jvm.ClassFile.Reader.u2 >>= fun z => Pure.pure (Jvm.ClassFile.Instr.anewarray z)) := rfl
theorem zq_o_192 (p : Nat) : (zq_instrK p).1 192 = (Jvm.ClassFile.Reader.u2 >>= fun z => Pure.pure (Jvm.ClassFile.Instr.checkcast z)) := rfl
theorem zq_o_193 (p : Nat) : (zq_instrK p).1 193 = (Jvm.ClassFile.Reader.u2 >>= fun z => Pure.pure (Jvm.ClassFile.Instr.instanceof z)) := rfl
theorem zq_o_132 (p : Nat) : (zq_instrK p).1 132 = (Jvm.ClassFile.Reader.u1 >>= fun z => Jvm.ClassFile.Reader.s1 >>= fun w => Pure.pure (Jvm.ClassFile.Instr.iinc z w)) := rfl
