/-! small words of the printed functions and proofs -/
def FU : Nat := 600
def bd1 {α β : Type} (x : Option α) (f : α → Option β) : Option β := match x with
  | some a => f a
  | none => none
def bd2 {α β γ : Type} (x : Option (α × γ)) (f : α → γ → Option β) : Option β := match x with
  | some a => f a.1 a.2
  | none => none
theorem bd1_s {α β : Type} (a : α) (f : α → Option β) : bd1 (some a) f = f a := rfl
theorem bd2_s {α β γ : Type} (a : α) (c : γ) (f : α → γ → Option β) : bd2 (some (a, c)) f = f a c := rfl
theorem bd1_e {α β : Type} {x : Option α} {f : α → Option β} {b : β} (h : bd1 x f = some b) : ∃ a, x = some a ∧ f a = some b := by
  cases x with
  | none => cases h
  | some a => exact ⟨a, rfl, h⟩
theorem bd2_e {α β γ : Type} {x : Option (α × γ)} {f : α → γ → Option β} {b : β} (h : bd2 x f = some b) : ∃ a c, x = some (a, c) ∧ f a c = some b := by
  cases x with
  | none => cases h
  | some a => exact ⟨a.1, a.2, rfl, h⟩
theorem ret1 {α : Type} {a b : α} (h : some a = some b) : b = a := (Option.some.inj h).symm
theorem ret2 {α β : Type} {a c : α} {b d : β} (h : some (a, b) = some (c, d)) : c = a ∧ d = b := by
  have := Option.some.inj h
  exact ⟨(congrArg Prod.fst this).symm, (congrArg Prod.snd this).symm⟩
theorem nar_z {x : Int32} (h : x = 0 ∨ x = 1) : narrow .boolean (.int x) = .int x := by
  rcases h with rfl | rfl <;> rfl
def site0 (y2 : MethodName) (cc2 : ByteArray) (mL2 : Nat) (ret2 : Option FieldType) (n : Nat) : Prop :=
  Cond.code y2 cc2 mL2 ret2 ∈ tbg ∧ Cond.initialized y2.cls ∈ tbg ∧ (y2.cls ≠ "java/lang/invoke/MethodHandle" ∧ y2.cls ≠ "java/lang/invoke/VarHandle") ∧ (parseMethodDescriptor y2.desc).map (fun d => d.parameters.length) = some n
theorem site_of {y y2 : MethodName} {cc2 : ByteArray} {mL2 : Nat} {ret2 : Option FieldType} {fr lo fr2 lo2 n : Nat} (h : site0 y2 cc2 mL2 ret2 n) (h1 : fr2 + 1 ≤ fr) (h2 : 8 + (mL2 + 11) + lo2 ≤ lo) : site y y2 cc2 mL2 ret2 fr lo fr2 lo2 n := ⟨h.1, h.2.1, h.2.2.1, h.2.2.2, h1, h2⟩
