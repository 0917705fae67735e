section
variable {sc : Nat × (Nat → Int32)} {y : MethodName} {cc : ByteArray} {mL : Nat} {ret : Option FieldType} {fr lo pc : Nat} {lv lv' : List (Nat × Value)} {stk stk2 : List Value} {h h' : mH} {r : Option Value}
theorem g_ldcS {index : Nat} {tx : String} (i : Nat) (hd : decode cc pc = .ok (.ldc index, 2)) (hi : strK[i]? = some (y.cls, index, tx)) (k : G sc y cc mL ret fr lo (pc + 2) lv (.ref (1000 + i) :: stk) h r h') : G sc y cc mL ret fr lo pc lv stk h r h' :=
  ⟨k.1, k.2.1, fun l p e R s m args below meth c dC dI dA ad0 n0 s0 A Qc C q f1 f2 f3 f4 ad H locs ls S => by
    have e1 : ad (1000 + i) = ad0 (1000 + i) := S.2.2.2.2.1 _ (Or.inr (Nat.le_trans S.2.2.2.2.2.2.2.1 (by omega)))
    exact va_ldcS C.1 C.2.1 C.2.2.2.2.2.1 (by rw [e1]; exact C.2.2.2.2.2.2.2.2.2.1.2.1 i _ hi) hd (k.2.2 l p e R s m args below meth c dC dI dA ad0 n0 s0 A Qc C q f1 f2 f3 f4 ad H locs ls S)⟩
end
