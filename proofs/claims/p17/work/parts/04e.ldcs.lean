section
variable {sc : Nat × (Nat → Int32)} {y : MethodName} {cc : ByteArray} {mL : Nat} {ret : Option FieldType} {fr lo pc : Nat} {lv lv' : List (Nat × Value)} {stk stk2 : List Value} {h h' : mH} {r : Option Value}
theorem ldcs_e {dC : Nat → ClassId} {dI : Nat → Nat → Nat} {dA : Nat → ClassId} {ad0 : Nat → Nat} {n0 s0 : Nat} {A : Nat → Prop} {s : State} {ad : Nat → Nat} {H : Heap} {locs : List Loc} {ls : Array Slot} (S : Sr mL dC dI dA ad0 n0 s0 A s h lv ad H locs ls) (i : Nat) : ad (1000 + i) = ad0 (1000 + i) := S.2.2.2.2.1 _ (Or.inr (Nat.le_trans S.2.2.2.2.2.2.2.1 (Nat.le_add_right 1000 i)))
theorem ldcs_x {dC : Nat → ClassId} {dI : Nat → Nat → Nat} {dA : Nat → ClassId} {ad0 : Nat → Nat} {A : Nat → Prop} {p : Program} {s : State} {m : MethodId} {args : Array Value} {meth : Method} {c : Code} (C : Cx sc y cc mL ret dC dI dA ad0 A p s m args meth c) {i index : Nat} {tx : String} (hi : strK[i]? = some (y.cls, index, tx)) : vk_R y.cls index tx (ad0 (1000 + i)) s := by
  obtain ⟨-, -, -, -, -, -, -, -, -, z, -⟩ := C
  exact z.2.1 i (y.cls, index, tx) hi
end
