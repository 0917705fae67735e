/-! a long that nobody asks for -/
section
variable {sc : Nat × (Nat → Int32)} {y : MethodName} {cc : ByteArray} {mL : Nat} {ret : Option FieldType} {fr lo pc : Nat} {lv lv' : List (Nat × Value)} {stk : List Value} {h h' : mH} {r : Option Value}
theorem g_pop2 {v : Value} (hd : decode cc pc = .ok (.pop2, 1)) (hc : v.category = 2) (k : G sc y cc mL ret fr lo (pc + 1) lv stk h r h') : G sc y cc mL ret fr lo pc lv (v :: stk) h r h' :=
  g_pure (fun hx hb hown hts hl k => lv_pop2_2 hx hb hd (by rw [cv_cat]; exact hc) k) k
end
