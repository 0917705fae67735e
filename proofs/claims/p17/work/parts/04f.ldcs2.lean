section
variable {sc : Nat × (Nat → Int32)} {y : MethodName} {cc : ByteArray} {mL : Nat} {ret : Option FieldType} {fr lo pc : Nat} {lv lv' : List (Nat × Value)} {stk stk2 : List Value} {h h' : mH} {r : Option Value}
theorem g_ldcS {index : Nat} {tx : String} (i : Nat) (hd : decode cc pc = .ok (.ldc index, 2)) (hi : strK[i]? = some (y.cls, index, tx)) (k : G sc y cc mL ret fr lo (pc + 2) lv (.ref (1000 + i) :: stk) h r h') : G sc y cc mL ret fr lo pc lv stk h r h' := by
  refine ⟨k.1, k.2.1, fun l p e R s m args below meth c dC dI dA ad0 n0 s0 A Qc C q f1 f2 f3 f4 ad H locs ls S => ?_⟩
  have k2 := k.2.2 l p e R s m args below meth c dC dI dA ad0 n0 s0 A Qc C q f1 f2 f3 f4 ad H locs ls S
  have x := ldcs_x C hi
  rw [← ldcs_e S i] at x
  obtain ⟨c1, c2, -, -, -, c6, -⟩ := C
  exact va_ldcS c1 c2 c6 x hd k2
end
