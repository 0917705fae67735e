/-- what lies outside the model's cells: nest mates' links, the String constants (places 1000 ..; their bytes 1100 ..), two statics -/
def EX (sc : Nat × (Nat → Int32)) (ad : Nat → Nat) (A : Nat → Prop) (U : State) : Prop :=
  (∀ w ∈ nests, va_Nw w U) ∧ (∀ (i : Nat) (q : String × Nat × String), strK[i]? = some q → vk_R q.1 q.2.1 q.2.2 (ad (1000 + i)) U) ∧ vk_S strK.length strL strB (fun i => ad (1000 + i)) (fun i => ad (1100 + i)) A U U.heap ∧ va_Z "java/lang/String" "COMPACT_STRINGS" "Z" (.int 1) A U U.heap ∧ (va_Z "jdk/internal/util/Preconditions" "SIOOBE_FORMATTER" "Ljava/util/function/BiFunction;" .null A U U.heap ∨ va_Z "jdk/internal/util/Preconditions" "SIOOBE_FORMATTER" "Ljava/util/function/BiFunction;" (.ref (ad 1200)) A U U.heap) ∧ (∀ C ∈ overs, va_AO C U) ∧ va_X (ad 1300) sc.1 sc.2 U U.heap ∧ ¬ A (ad 1300)
theorem EX.go {sc : Nat × (Nat → Int32)} {ad ad' : Nat → Nat} {A A' : Nat → Prop} {s U : State} {H0 : Heap} {locs : List Loc} (h : EX sc ad A s) (hW : s.WarmedH U.vm) (hS : va_S A s.heap H0 locs) (hU : U.heap = H0) (hA : ∀ q, A' q → A q) (hd : ∀ k, 1000 ≤ k → ad' k = ad k) : EX sc ad' A' U := by
  obtain ⟨h1, h2, h3, h4, h5, h6, h7, h8⟩ := h
  have hal := hW.alike
  have hb : ad (1300) < s.heap.size := by
    obtain ⟨scr, z, -⟩ := h7
    exact (Array.getElem?_eq_some_iff.mp z).1
  have e1 : (fun i => ad' (1000 + i)) = (fun i => ad (1000 + i)) := funext fun i => hd _ (by omega)
  have e2 : (fun i => ad' (1100 + i)) = (fun i => ad (1100 + i)) := funext fun i => hd _ (by omega)
  subst hU
  refine ⟨fun w hw => nest_warm (List.mem_filter.mp hw).2 hW (h1 w hw), fun i q hq => ?_, ?_, ?_, ?_, fun C hC => (h6 C hC).moved hal, ?_, ?_⟩
  · rw [hd _ (by omega)]
    exact (h2 i q hq).warm hW
  · rw [e1, e2]
    exact ((h3.kept hS.2.1).moved hal).narrow hA
  · exact ((h4.kept hS.2.1).moved hal).narrow hA
  · rw [hd 1200 (by omega)]
    rcases h5 with z | z
    · exact Or.inl (((z.kept hS.2.1).moved hal).narrow hA)
    · exact Or.inr (((z.kept hS.2.1).moved hal).narrow hA)
  · rw [hd 1300 (by omega)]
    exact (h7.kept (hS.2.1 _ hb h8)).moved hal
  · rw [hd 1300 (by omega)]
    exact fun z => h8 (hA _ z)
theorem EX.blind {sc : Nat × (Nat → Int32)} {ad : Nat → Nat} {A : Nat → Prop} {U : State} {g : JFrame} {mk : MethodId} {a : Array Value} (h : EX sc ad A U) : EX sc ad A (U.calling g mk a) := by
  obtain ⟨h1, h2, h3, h4, h5, h6, h7, h8⟩ := h
  have hal : U.vm.Alike (U.calling g mk a).vm := Vm.Alike.refl U.vm
  exact ⟨fun w hw => va_Nw.same (u := U) (U := U.calling g mk a) (nest_on (List.mem_filter.mp hw).2) rfl (h1 w hw), fun i q hq => vk_R.same (u := U) (U := U.calling g mk a) rfl (h2 i q hq), h3.moved hal, h4.moved hal, h5.imp (fun z => z.moved hal) (fun z => z.moved hal), fun C hC => (h6 C hC).moved hal, h7.moved hal, h8⟩
/-- the machine's side of a method's body -/
def Cx (sc : Nat × (Nat → Int32)) (y : MethodName) (cc : ByteArray) (mL : Nat) (ret : Option FieldType) (dC : Nat → ClassId) (dI : Nat → Nat → Nat) (dA : Nat → ClassId) (ad0 : Nat → Nat) (A : Nat → Prop) (p : Program) (s : State) (m : MethodId) (args : Array Value) (meth : Method) (c : Code) : Prop :=
  p.tables.exec = Jvm.exec ∧ c.code = cc ∧ meth.sig.returnType = ret ∧ c.maxLocals = mL ∧ meth.locks = false ∧ s.vm.findClass y.cls = some m.cls ∧ meth.name = y.name ∧ (∀ w ∈ tbg, w.before args s = true) ∧ va_K (dC, dI) mcls (mtys dA) s ∧ EX sc ad0 A s ∧ (∀ q, s.heap.size ≤ q → A q)
def hasRef (c : mCell) (j : Nat) : Prop := match c with
  | .inr (_, fs) => Value.ref j ∈ fs
  | .inl (_, _, .inr (.inr (.inr (.inr f)))) => ∃ i, f i = some j
  | _ => False
/-- the cells: few enough, none beyond the last, and all that they name is there -/
def HW (h : mH) : Prop := h.1 ≤ 1000 ∧ (∀ k, h.1 ≤ k → h.2.2 k = dead) ∧ ∀ k j, hasRef (h.2.2 k) j → j < h.1
/-- the model's state beside the machine's -/
def Sr (mL : Nat) (dC : Nat → ClassId) (dI : Nat → Nat → Nat) (dA : Nat → ClassId) (ad0 : Nat → Nat) (n0 s0 : Nat) (A : Nat → Prop) (s : State) (h : mH) (lv : List (Nat × Value)) (ad : Nat → Nat) (H : Heap) (locs : List Loc) (ls : Array Slot) : Prop :=
  va_P (dC, dI) mcls (wl dA ad h) H ∧ va_D A (wl dA ad h) ∧ va_S A s.heap H locs ∧ lv_has ls mL (lv.map (cq ad)) ∧ (∀ k, k < n0 ∨ h.1 ≤ k → ad k = ad0 k) ∧ n0 ≤ h.1 ∧ s0 ≤ h.2.1 ∧ HW h
def Qk (dC : Nat → ClassId) (dI : Nat → Nat → Nat) (dA : Nat → ClassId) (ad0 : Nat → Nat) (n0 : Nat) (A : Nat → Prop) (s : State) (args : Array Value) (r : Option Value) (h' : mH) (Qc : Array Value → State → Outcome → State → Prop) : Prop :=
  ∀ (ad : Nat → Nat) (H : Heap) (locs : List Loc) (t : State), va_P (dC, dI) mcls (wl dA ad h') H → va_D A (wl dA ad h') → va_S A s.heap H locs → (∀ k, k < n0 ∨ h'.1 ≤ k → ad k = ad0 k) → HW h' → t.heap = H → s.WarmedH t.vm → Qc args s (.returned (r.map (cv ad))) t
/-- the methods that make cells: constructors, and the law -/
def al (y : MethodName) : Bool := y.name == "<init>" || y.cls == "QuotaLawsLaw"
def nle (y : MethodName) (a b : Nat) : Prop := a ≤ b ∧ (al y = false → a = b)
theorem nle_rf {y : MethodName} {a : Nat} : nle y a a := ⟨Nat.le_refl a, fun _ => rfl⟩
theorem nle_tr {y y2 : MethodName} {a b c : Nat} (h1 : nle y2 a b) (hal : al y2 = true → al y = true) (h2 : nle y b c) : nle y a c := by
  refine ⟨Nat.le_trans h1.1 h2.1, fun z => ?_⟩
  have z2 : al y2 = false := by
    cases q : al y2 with
    | false => rfl
    | true => rw [hal q] at z; cases z
  rw [h1.2 z2]
  exact h2.2 z
/-- from this state of the model the method comes to its end: with r, and the cells h' -/
def G (sc : Nat × (Nat → Int32)) (y : MethodName) (cc : ByteArray) (mL : Nat) (ret : Option FieldType) (fr lo : Nat) (pc : Nat) (lv : List (Nat × Value)) (stk : List Value) (h : mH) (r : Option Value) (h' : mH) : Prop :=
  nle y h.1 h'.1 ∧ nle y h.2.1 h'.2.1 ∧ ∀ (l : Launch) (p : Program) (e : Env) (R : Room) (s : State) (m : MethodId) (args : Array Value) (below : List Frame) (meth : Method) (c : Code) (dC : Nat → ClassId) (dI : Nat → Nat → Nat) (dA : Nat → ClassId) (ad0 : Nat → Nat) (n0 s0 : Nat) (A : Nat → Prop) (Qc : Array Value → State → Outcome → State → Prop),
    Cx sc y cc mL ret dC dI dA ad0 A p s m args meth c → Qk dC dI dA ad0 n0 A s args r h' Qc → fr ≤ R.frames → lo ≤ R.locals → h'.1 - n0 ≤ R.cells → h'.2.1 - s0 ≤ R.slots →
    ∀ (ad : Nat → Nat) (H : Heap) (locs : List Loc) (ls : Array Slot), Sr mL dC dI dA ad0 n0 s0 A s h lv ad H locs ls →
      W p l e R s m args below meth c H locs (h.1 - n0) (h.2.1 - s0) (MQ below Qc args s (h'.1 - n0) (h'.2.1 - s0) A) (F0 m pc ls (stk.map (cv ad)))
section
variable {sc : Nat × (Nat → Int32)} {y : MethodName} {cc : ByteArray} {mL : Nat} {ret : Option FieldType} {fr lo pc : Nat} {lv : List (Nat × Value)} {stk : List Value} {h h' : mH} {r : Option Value}
/-- a row that touches neither cells nor locals -/
theorem g_pure {pc2 : Nat} {stk2 : List Value} (f : ∀ {p : Program} {l : Launch} {e : Env} {R : Room} {s : State} {m : MethodId} {args : Array Value} {below : List Frame} {meth : Method} {c : Code} {H : Heap} {locs : List Loc} {cells slots : Nat} {Q : State → Prop} {ls : Array Slot} {ad : Nat → Nat}, p.tables.exec = Jvm.exec → c.code = cc → s.vm.findClass y.cls = some m.cls → (∀ w ∈ tbg, w.before args s = true) → lv_has ls mL (lv.map (cq ad)) → W p l e R s m args below meth c H locs cells slots Q (F0 m pc2 ls (stk2.map (cv ad))) → W p l e R s m args below meth c H locs cells slots Q (F0 m pc ls (stk.map (cv ad))))
    (k : G sc y cc mL ret fr lo pc2 lv stk2 h r h') : G sc y cc mL ret fr lo pc lv stk h r h' :=
  ⟨k.1, k.2.1, fun l p e R s m args below meth c dC dI dA ad0 n0 s0 A Qc C q f1 f2 f3 f4 ad H locs ls S => f C.1 C.2.1 C.2.2.2.2.2.1 C.2.2.2.2.2.2.2.1 S.2.2.2.1 (k.2.2 l p e R s m args below meth c dC dI dA ad0 n0 s0 A Qc C q f1 f2 f3 f4 ad H locs ls S)⟩
theorem g_iconst {n : Int} (v : Int32) (hd : decode cc pc = .ok (.iconst n, 1)) (hv : Int32.ofInt n = v) (k : G sc y cc mL ret fr lo (pc + 1) lv (.int v :: stk) h r h') : G sc y cc mL ret fr lo pc lv stk h r h' :=
  g_pure (fun hx hb _ _ _ k => lv_iconst hx hb hd hv k) k
theorem g_iadd {a b : Int32} (hd : decode cc pc = .ok (.iadd, 1)) (k : G sc y cc mL ret fr lo (pc + 1) lv (.int (a + b) :: stk) h r h') : G sc y cc mL ret fr lo pc lv (.int b :: .int a :: stk) h r h' :=
  g_pure (fun hx hb _ _ _ k => lv_iadd hx hb hd k) k
theorem g_iload {i : Nat} {x : Int32} (j : Nat) (hd : decode cc pc = .ok (.iload i, 2)) (hj : lv[j]? = some (i, .int x)) (k : G sc y cc mL ret fr lo (pc + 2) lv (.int x :: stk) h r h') : G sc y cc mL ret fr lo pc lv stk h r h' :=
  g_pure (fun {_ _ _ _ _ _ _ _ _ _ _ _ _ _ _ _ ad} hx hb _ _ hl k => lv_iload hx hb hd (lv_at hl j (by rw [List.getElem?_map, hj]; rfl)) k) k
end
