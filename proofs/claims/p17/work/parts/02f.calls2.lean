/-- the cell is an object of that class -/
def kC (h : mH) (b ci : Nat) : Option Unit := match h.2.2 b with
  | .inr (c, _ :: _) => if c = ci then some () else none
  | _ => none
theorem kC_spec {h : mH} {b ci : Nat} {u : Unit} (e : kC h b ci = some u) : ∃ fs, h.2.2 b = .inr (ci, fs) ∧ fs ≠ [] := by
  unfold kC at e
  split at e
  · next c x xs e1 =>
    split at e
    · next e2 => subst e2; exact ⟨x :: xs, e1, by simp⟩
    · cases e
  · cases e
def cpI (h : mH) (t src : Nat) (sp : Int32) (dst : Nat) (dp n : Int32) : Option mH := match h.2.2 src, h.2.2 dst with
  | .inl (t1, n0, .inl f), .inl (t2, n1, .inl g) => if (t1 = t ∧ t2 = t) ∧ ¬ sp < 0 ∧ ¬ dp < 0 ∧ ¬ n < 0 ∧ sp.toNatClampNeg + n.toNatClampNeg ≤ n0 ∧ dp.toNatClampNeg + n.toNatClampNeg ≤ n1 then some (mset h dst (.inl (t, n1, .inl (va_cpy f g sp.toNatClampNeg dp.toNatClampNeg n.toNatClampNeg)))) else none
  | _, _ => none
theorem cpI_spec {h h2 : mH} {t src dst : Nat} {sp dp n : Int32} (e : cpI h t src sp dst dp n = some h2) : ∃ n0 n1 f g, h.2.2 src = .inl (t, n0, .inl f) ∧ h.2.2 dst = .inl (t, n1, .inl g) ∧ (¬ sp < 0 ∧ ¬ dp < 0 ∧ ¬ n < 0 ∧ sp.toNatClampNeg + n.toNatClampNeg ≤ n0 ∧ dp.toNatClampNeg + n.toNatClampNeg ≤ n1) ∧ h2 = mset h dst (.inl (t, n1, .inl (va_cpy f g sp.toNatClampNeg dp.toNatClampNeg n.toNatClampNeg))) := by
  unfold cpI at e
  split at e
  · next t1 n0 f t2 n1 g e1 e2 =>
    split at e
    · next e3 => obtain ⟨⟨rfl, rfl⟩, e4⟩ := e3; exact ⟨n0, n1, f, g, e1, e2, e4, (Option.some.inj e).symm⟩
    · cases e
  · cases e
theorem ws_good {y2 : MethodName} {cc2 : ByteArray} {mL2 : Nat} {ret2 : Option FieldType} (hcode : Cond.code y2 cc2 mL2 ret2 ∈ tbg) : GoodIn tbg (.code y2 cc2 mL2 ret2 :: tbg) := by
  intro w hw
  rcases List.mem_cons.mp hw with rfl | hw
  · exact tbg_good (fun _ z => z) _ hcode
  · exact tbg_good (fun _ z => z) w hw
theorem PM_blind {sc : Nat × (Nat → Int32)} {dC : Nat → ClassId} {dI : Nat → Nat → Nat} {dA : Nat → ClassId} {ad : Nat → Nat} {sz : Nat} {h : mH} {av : List Value} : FrameBlind (va_Pc av (PM sc dC dI dA ad sz h)) := by
  intro a U g mk q
  obtain ⟨q0, q1, qP, qD, qK, qE, qw⟩ := q
  exact ⟨q0, q1, qP, qD, va_K.moved (u := U) (U := U.calling g mk a) (Vm.Alike.refl U.vm) qK, qE.blind, qw⟩
theorem cat_cv (ad : Nat → Nat) (l : List Value) : ((l.map (cv ad)).map fun v => v.category) = l.map fun v => v.category := by
  rw [List.map_map]
  exact List.map_congr_left (fun v _ => cv_cat ad v)
section
variable {sc : Nat × (Nat → Int32)} {y : MethodName} {cc : ByteArray} {mL : Nat} {ret : Option FieldType} {fr lo pc : Nat} {lv lv' : List (Nat × Value)} {stk rest : List Value} {h h1 h' : mH} {r r1 : Option Value}
variable {y2 : MethodName} {cc2 : ByteArray} {mL2 : Nat} {ret2 : Option FieldType} {fr2 lo2 : Nat}
theorem len_of {n : Nat} (hn : (parseMethodDescriptor y2.desc).map (fun d => d.parameters.length) = some n) : ∀ sig, parseMethodDescriptor y2.desc = some sig → n = sig.parameters.length := by
  intro sig hs
  rw [hs] at hn
  exact (Option.some.inj hn).symm
/-- what a call's site must have: the callee's words, and room -/
def site (y y2 : MethodName) (cc2 : ByteArray) (mL2 : Nat) (ret2 : Option FieldType) (fr lo fr2 lo2 n : Nat) : Prop :=
  Cond.code y2 cc2 mL2 ret2 ∈ tbg ∧ Cond.initialized y2.cls ∈ tbg ∧ (y2.cls ≠ "java/lang/invoke/MethodHandle" ∧ y2.cls ≠ "java/lang/invoke/VarHandle") ∧ (parseMethodDescriptor y2.desc).map (fun d => d.parameters.length) = some n ∧ fr2 + 1 ≤ fr ∧ 8 + (mL2 + 11) + lo2 ≤ lo
theorem g_callV {index b ci : Nat} {T : u_T} {N : Nat} (As : List Value) (hs : site y y2 cc2 mL2 ret2 fr lo fr2 lo2 As.length) (hlink : Cond.methodLink y.cls index y2 ∈ tbg) (hin : Cond.instanceMethod y2 ∈ tbg) (hsel : Cond.selects y2.cls y2 y2 ∈ tbg) (hd : decode cc pc = .ok (.invokevirtual index, 3)) (hc : mcls[ci]? = some (y2.cls, T, N)) {u : Unit} (hb : kC h b ci = some u) (hcat : (rest.map fun v => v.category).sum ≤ 8) (hal : al y2 = true → al y = true) (hlv : al y2 = true → ∀ q ∈ lv, okv h.1 h1.1 q.2) (hst : al y2 = true → ∀ v ∈ rest, okv h.1 h1.1 v) (M : MM sc y2 cc2 mL2 ret2 fr2 lo2 (.ref b :: As) h r1 h1) (hk : stk = As.reverse ++ .ref b :: rest)
    (k : G sc y cc mL ret fr lo (pc + 3) lv (r1.toList ++ rest) h1 r h') : G sc y cc mL ret fr lo pc lv stk h r h' := by
  obtain ⟨s1, s2, s3, s4, s5, s6⟩ := hs
  subst hk
  refine g_run ⟨M.1, M.2.1⟩ hal hlv hst (fun l p e R s m args below meth c dC dI dA ad0 n0 s0 A C f1 f2 f3 f4 ad H locs ls S hpm => ?_) k
  obtain ⟨fs, e1, e2⟩ := kC_spec hb
  have hts := C.2.2.2.2.2.2.2.1
  have z1 := M.1.1
  have z2 := M.2.1.1
  have z3 := S.2.2.2.2.2.1
  have z4 := S.2.2.2.2.2.2.1
  exact ⟨_, va_runV (C := y2.cls) (b := ad b) (As := As.map (cv ad)) (rest := rest.map (cv ad)) (Ts := tbg) (own := y.cls) (nL := mL) ⟨C.1, C.2.1, C.2.2.2.1, C.2.2.2.2.2.1, hts⟩ (M.2.2 l dC dI dA ad H.size)
    ⟨⟨rfl, rfl, by show fr2 + 1 ≤ _; omega, by show 8 + (mL2 + 11) + lo2 ≤ _; omega, pay_in hts (ws_good s1), List.mem_cons_self, hts _ s1, hts _ s2, s3, len_of s4, hts _ hlink⟩, hts _ hin, hts _ hsel⟩
    ⟨PM_blind, va_recv C.2.2.2.2.2.2.2.2.1 S.1 hc (S.obj e1 e2), fun U hU hW => ⟨rfl, hpm U hU hW⟩⟩ rfl (by rw [List.length_map]) S.2.2.2.1.1 (by simp [cv]) (lv_room (by rw [cat_cv]; exact hcat)) hd ⟨by omega, by omega⟩⟩
theorem g_callS {index : Nat} (As : List Value) (hs : site y y2 cc2 mL2 ret2 fr lo fr2 lo2 As.length) (hlink : Cond.methodLink y.cls index y2 ∈ tbg) (hstat : Cond.static y2 ∈ tbg) (hd : decode cc pc = .ok (.invokestatic index, 3)) (hcat : (rest.map fun v => v.category).sum ≤ 8) (hal : al y2 = true → al y = true) (hlv : al y2 = true → ∀ q ∈ lv, okv h.1 h1.1 q.2) (hst : al y2 = true → ∀ v ∈ rest, okv h.1 h1.1 v) (M : MM sc y2 cc2 mL2 ret2 fr2 lo2 As h r1 h1) (hk : stk = As.reverse ++ rest)
    (k : G sc y cc mL ret fr lo (pc + 3) lv (r1.toList ++ rest) h1 r h') : G sc y cc mL ret fr lo pc lv stk h r h' := by
  obtain ⟨s1, s2, s3, s4, s5, s6⟩ := hs
  subst hk
  refine g_run ⟨M.1, M.2.1⟩ hal hlv hst (fun l p e R s m args below meth c dC dI dA ad0 n0 s0 A C f1 f2 f3 f4 ad H locs ls S hpm => ?_) k
  have hts := C.2.2.2.2.2.2.2.1
  have z1 := M.1.1
  have z2 := M.2.1.1
  have z3 := S.2.2.2.2.2.1
  have z4 := S.2.2.2.2.2.2.1
  exact ⟨_, va_runS (As := As.map (cv ad)) (rest := rest.map (cv ad)) (Ts := tbg) (own := y.cls) (nL := mL) ⟨C.1, C.2.1, C.2.2.2.1, C.2.2.2.2.2.1, hts⟩ (M.2.2 l dC dI dA ad H.size)
    ⟨⟨rfl, rfl, by show fr2 + 1 ≤ _; omega, by show 8 + (mL2 + 11) + lo2 ≤ _; omega, pay_in hts (ws_good s1), List.mem_cons_self, hts _ s1, hts _ s2, s3, len_of s4, hts _ hlink⟩, hts _ hstat⟩
    ⟨PM_blind, fun U hU hW => ⟨rfl, hpm U hU hW⟩⟩ rfl (by rw [List.length_map]) S.2.2.2.1.1 (by simp) (lv_room (by rw [cat_cv]; exact hcat)) hd ⟨by omega, by omega⟩⟩
theorem g_callSN {index : Nat} (host : String) (As : List Value) (hs : site y y2 cc2 mL2 ret2 fr lo fr2 lo2 As.length) (hlink : Cond.methodLinkNest y.cls index y2 host ∈ nests) (hstat : Cond.static y2 ∈ tbg) (hd : decode cc pc = .ok (.invokestatic index, 3)) (hcat : (rest.map fun v => v.category).sum ≤ 8) (hal : al y2 = true → al y = true) (hlv : al y2 = true → ∀ q ∈ lv, okv h.1 h1.1 q.2) (hst : al y2 = true → ∀ v ∈ rest, okv h.1 h1.1 v) (M : MM sc y2 cc2 mL2 ret2 fr2 lo2 As h r1 h1) (hk : stk = As.reverse ++ rest)
    (k : G sc y cc mL ret fr lo (pc + 3) lv (r1.toList ++ rest) h1 r h') : G sc y cc mL ret fr lo pc lv stk h r h' := by
  obtain ⟨s1, s2, s3, s4, s5, s6⟩ := hs
  subst hk
  refine g_run ⟨M.1, M.2.1⟩ hal hlv hst (fun l p e R s m args below meth c dC dI dA ad0 n0 s0 A C f1 f2 f3 f4 ad H locs ls S hpm => ?_) k
  have hts := C.2.2.2.2.2.2.2.1
  have z1 := M.1.1
  have z2 := M.2.1.1
  have z3 := S.2.2.2.2.2.1
  have z4 := S.2.2.2.2.2.2.1
  exact ⟨_, va_runSN (host := host) (As := As.map (cv ad)) (rest := rest.map (cv ad)) (Ts := tbg) (own := y.cls) (nL := mL) ⟨C.1, C.2.1, C.2.2.2.1, C.2.2.2.2.2.1, hts⟩ (M.2.2 l dC dI dA ad H.size)
    ⟨⟨⟨rfl, rfl, by show fr2 + 1 ≤ _; omega, by show 8 + (mL2 + 11) + lo2 ≤ _; omega, pay_in hts (ws_good s1), List.mem_cons_self⟩, hts _ s1, hts _ s2, s3, len_of s4, va_Nw.use rfl (C.2.2.2.2.2.2.2.2.2.1.1 _ hlink)⟩, hts _ hstat, trivial⟩
    ⟨PM_blind, fun U hU hW => ⟨rfl, hpm U hU hW⟩⟩ rfl (by rw [List.length_map]) S.2.2.2.1.1 (by simp) (lv_room (by rw [cat_cv]; exact hcat)) hd ⟨by omega, by omega⟩⟩
theorem g_callI {index b : Nat} (As : List Value) (hs : site y y2 cc2 mL2 none fr lo fr2 lo2 As.length) (hy2 : y2.name = "<init>") (hlink : Cond.methodLink y.cls index y2 ∈ tbg) (hin : Cond.instanceMethod y2 ∈ tbg) (hd : decode cc pc = .ok (.invokespecial index, 3)) (hcat : (rest.map fun v => v.category).sum ≤ 8) (hal : al y2 = true → al y = true) (hlv : al y2 = true → ∀ q ∈ lv, okv h.1 h1.1 q.2) (hst : al y2 = true → ∀ v ∈ rest, okv h.1 h1.1 v) (M : MM sc y2 cc2 mL2 none fr2 lo2 (.ref b :: As) h r1 h1) (hk : stk = As.reverse ++ .ref b :: rest)
    (k : G sc y cc mL ret fr lo (pc + 3) lv (r1.toList ++ rest) h1 r h') : G sc y cc mL ret fr lo pc lv stk h r h' := by
  obtain ⟨s1, s2, s3, s4, s5, s6⟩ := hs
  subst hk
  refine g_run ⟨M.1, M.2.1⟩ hal hlv hst (fun l p e R s m args below meth c dC dI dA ad0 n0 s0 A C f1 f2 f3 f4 ad H locs ls S hpm => ?_) k
  have hts := C.2.2.2.2.2.2.2.1
  have z1 := M.1.1
  have z2 := M.2.1.1
  have z3 := S.2.2.2.2.2.1
  have z4 := S.2.2.2.2.2.2.1
  exact ⟨_, va_runI (b := ad b) (As := As.map (cv ad)) (rest := rest.map (cv ad)) (Ts := tbg) (own := y.cls) (nL := mL) ⟨C.1, C.2.1, C.2.2.2.1, C.2.2.2.2.2.1, hts⟩ (M.2.2 l dC dI dA ad H.size)
    ⟨⟨rfl, rfl, by show fr2 + 1 ≤ _; omega, by show 8 + (mL2 + 11) + lo2 ≤ _; omega, pay_in hts (ws_good s1), List.mem_cons_self, hts _ s1, hts _ s2, s3, len_of s4, hts _ hlink⟩, hy2, hts _ hin⟩
    ⟨PM_blind, fun U hU hW => ⟨rfl, hpm U hU hW⟩⟩ rfl (by rw [List.length_map]) S.2.2.2.1.1 (by simp [cv]) (lv_room (by rw [cat_cv]; exact hcat)) hd ⟨by omega, by omega⟩⟩
theorem g_callIN {index b : Nat} (host : String) (As : List Value) (hs : site y y2 cc2 mL2 none fr lo fr2 lo2 As.length) (hy2 : y2.name = "<init>") (hlink : Cond.methodLinkNest y.cls index y2 host ∈ nests) (hin : Cond.instanceMethod y2 ∈ tbg) (hd : decode cc pc = .ok (.invokespecial index, 3)) (hcat : (rest.map fun v => v.category).sum ≤ 8) (hal : al y2 = true → al y = true) (hlv : al y2 = true → ∀ q ∈ lv, okv h.1 h1.1 q.2) (hst : al y2 = true → ∀ v ∈ rest, okv h.1 h1.1 v) (M : MM sc y2 cc2 mL2 none fr2 lo2 (.ref b :: As) h r1 h1) (hk : stk = As.reverse ++ .ref b :: rest)
    (k : G sc y cc mL ret fr lo (pc + 3) lv (r1.toList ++ rest) h1 r h') : G sc y cc mL ret fr lo pc lv stk h r h' := by
  obtain ⟨s1, s2, s3, s4, s5, s6⟩ := hs
  subst hk
  refine g_run ⟨M.1, M.2.1⟩ hal hlv hst (fun l p e R s m args below meth c dC dI dA ad0 n0 s0 A C f1 f2 f3 f4 ad H locs ls S hpm => ?_) k
  have hts := C.2.2.2.2.2.2.2.1
  have z1 := M.1.1
  have z2 := M.2.1.1
  have z3 := S.2.2.2.2.2.1
  have z4 := S.2.2.2.2.2.2.1
  exact ⟨_, va_runIN (host := host) (b := ad b) (As := As.map (cv ad)) (rest := rest.map (cv ad)) (Ts := tbg) (own := y.cls) (nL := mL) ⟨C.1, C.2.1, C.2.2.2.1, C.2.2.2.2.2.1, hts⟩ (M.2.2 l dC dI dA ad H.size)
    ⟨⟨⟨rfl, rfl, by show fr2 + 1 ≤ _; omega, by show 8 + (mL2 + 11) + lo2 ≤ _; omega, pay_in hts (ws_good s1), List.mem_cons_self⟩, hts _ s1, hts _ s2, s3, len_of s4, va_Nw.use rfl (C.2.2.2.2.2.2.2.2.2.1.1 _ hlink)⟩, hy2, hts _ hin⟩
    ⟨PM_blind, fun U hU hW => ⟨rfl, hpm U hU hW⟩⟩ rfl (by rw [List.length_map]) S.2.2.2.1.1 (by simp [cv]) (lv_room (by rw [cat_cv]; exact hcat)) hd ⟨by omega, by omega⟩⟩
theorem g_mmax {index : Nat} {a b : Int32} (hd : decode cc pc = .ok (.invokestatic index, 3)) (hlink : Cond.methodLink y.cls index Lib.Math.max.name ∈ tbg) (hstat : Cond.static Lib.Math.max.name ∈ tbg) (hini : Cond.initialized "java/lang/Math" ∈ tbg) (hcode : Cond.code Lib.Math.max.name Lib.Math.max.code 2 (some .int) ∈ tbg) (hfr : 1 ≤ fr) (hlo : (stk.map fun v => v.category).sum + 13 ≤ lo)
    (k : G sc y cc mL ret fr lo (pc + 3) lv (.int (if a < b then b else a) :: stk) h r h') : G sc y cc mL ret fr lo pc lv (.int b :: .int a :: stk) h r h' :=
  ⟨k.1, k.2.1, fun l p e R s m args below meth c dC dI dA ad0 n0 s0 A Qc C q f1 f2 f3 f4 ad H locs ls S => by
    have hts := C.2.2.2.2.2.2.2.1
    have z1 := k.1.1
    have z2 := k.2.1.1
    exact va_mmax C.1 C.2.1 (C.2.2.2.1.trans S.2.2.2.1.1.symm) C.2.2.2.2.2.1 (hts _ hlink) (hts _ hstat) (hts _ hini) (hts _ hcode) (by omega) (by rw [cat_cv]; omega) (by omega) (by omega) hd (k.2.2 l p e R s m args below meth c dC dI dA ad0 n0 s0 A Qc C q f1 f2 f3 f4 ad H locs ls S)⟩
theorem g_mmin {index : Nat} {a b : Int32} (hd : decode cc pc = .ok (.invokestatic index, 3)) (hlink : Cond.methodLink y.cls index Lib.Math.min.name ∈ tbg) (hstat : Cond.static Lib.Math.min.name ∈ tbg) (hini : Cond.initialized "java/lang/Math" ∈ tbg) (hcode : Cond.code Lib.Math.min.name Lib.Math.min.code 2 (some .int) ∈ tbg) (hfr : 1 ≤ fr) (hlo : (stk.map fun v => v.category).sum + 13 ≤ lo)
    (k : G sc y cc mL ret fr lo (pc + 3) lv (.int (if b < a then b else a) :: stk) h r h') : G sc y cc mL ret fr lo pc lv (.int b :: .int a :: stk) h r h' :=
  ⟨k.1, k.2.1, fun l p e R s m args below meth c dC dI dA ad0 n0 s0 A Qc C q f1 f2 f3 f4 ad H locs ls S => by
    have hts := C.2.2.2.2.2.2.2.1
    have z1 := k.1.1
    have z2 := k.2.1.1
    exact va_mmin C.1 C.2.1 (C.2.2.2.1.trans S.2.2.2.1.1.symm) C.2.2.2.2.2.1 (hts _ hlink) (hts _ hstat) (hts _ hini) (hts _ hcode) (by omega) (by rw [cat_cv]; omega) (by omega) (by omega) hd (k.2.2 l p e R s m args below meth c dC dI dA ad0 n0 s0 A Qc C q f1 f2 f3 f4 ad H locs ls S)⟩
theorem g_objInit {index b : Nat} (hd : decode cc pc = .ok (.invokespecial index, 3)) (hlink : Cond.methodLink y.cls index Lib.objectInit ∈ tbg) (hin : Cond.instanceMethod Lib.objectInit ∈ tbg) (hcode : Cond.code Lib.objectInit ⟨#[0xb1]⟩ 1 none ∈ tbg) (hfr : 1 ≤ fr) (hlo : (stk.map fun v => v.category).sum + 12 ≤ lo)
    (k : G sc y cc mL ret fr lo (pc + 3) lv stk h r h') : G sc y cc mL ret fr lo pc lv (.ref b :: stk) h r h' :=
  ⟨k.1, k.2.1, fun l p e R s m args below meth c dC dI dA ad0 n0 s0 A Qc C q f1 f2 f3 f4 ad H locs ls S => by
    have hts := C.2.2.2.2.2.2.2.1
    exact W.objInit C.1 C.2.1 C.2.2.2.2.2.1 (hts _ hlink) (hts _ hin) (hts _ hcode) rfl (S.2.2.2.1.1.trans C.2.2.2.1.symm) rfl hd (by omega) (by show 2 * 0 + ((stk.map (cv ad)).map fun v => v.category).sum + 12 ≤ _; rw [cat_cv]; omega) (k.2.2 l p e R s m args below meth c dC dI dA ad0 n0 s0 A Qc C q f1 f2 f3 f4 ad H locs ls S)⟩
theorem g_copyi {index src dst : Nat} {sp dp n : Int32} {h2 : mH} (hd : decode cc pc = .ok (.invokestatic index, 3)) (hlink : Cond.methodLink y.cls index arraycopyName ∈ tbg) (hnat : Cond.native arraycopyName ∈ tbg) (hstat : Cond.static arraycopyName ∈ tbg) (hini : Cond.initialized "java/lang/System" ∈ tbg) (hfr : 1 ≤ fr) (hlo : (stk.map fun v => v.category).sum + (nativeFrameWords "java/lang/System" "arraycopy" 5 + 11) ≤ lo) (hv : cpI h 0 src sp dst dp n = some h2)
    (k : G sc y cc mL ret fr lo (pc + 3) lv stk h2 r h') : G sc y cc mL ret fr lo pc lv (.int n :: .int dp :: .ref dst :: .int sp :: .ref src :: stk) h r h' := by
  obtain ⟨n0, n1, f, g, e1, e2, ⟨b1, b2, b3, b4, b5⟩, rfl⟩ := cpI_spec hv
  refine ⟨k.1, k.2.1, fun l p e R s m args below meth c dC dI dA ad0 n0 s0 A Qc C q f1 f2 f3 f4 ad H locs ls S => ?_⟩
  have hts := C.2.2.2.2.2.2.2.1
  refine va_copyi (D := (dC, dI)) (ty := .int) C.1 C.2.1 (C.2.2.2.1.trans S.2.2.2.1.1.symm) C.2.2.2.2.2.1 (hts _ hlink) (hts _ hnat) (hts _ hstat) (hts _ hini) C.2.2.2.2.2.2.2.2.1 S.1 S.2.1 S.2.2.1 src dst 0 0 (S.arr e1) (S.arr e2) rfl rfl rfl b1 b2 b3 b4 b5 (fun _ _ => rfl) (by omega) (by rw [cat_cv]; omega) hd (fun H1 locs1 hP hD hS => ?_)
  have ew := wl_set (dA := dA) (ad := ad) (h := h) (o := dst) (c := .inl (0, n1, .inl (va_cpy f g sp.toNatClampNeg dp.toNatClampNeg n.toNatClampNeg)))
  exact k.2.2 l p e R s m args below meth c dC dI dA ad0 _ s0 A Qc C q f1 f2 f3 f4 ad H1 locs1 ls (S.set (S.live (by rw [e2]; intro q; cases q)) (fun j z => absurd z id) (ew ▸ hP) (ew ▸ hD) hS)
end
