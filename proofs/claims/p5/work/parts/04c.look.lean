section
variable {sc : Nat × (Nat → Int32)} {y : MethodName} {cc : ByteArray} {mL : Nat} {ret : Option FieldType} {fr lo pc : Nat} {lv lv' : List (Nat × Value)} {stk stk2 : List Value} {h h' : mH} {r : Option Value}
theorem g_st (stk2 : List Value) (e : stk = stk2) (k : G sc y cc mL ret fr lo pc lv stk2 h r h') : G sc y cc mL ret fr lo pc lv stk h r h' := e ▸ k
theorem g_lookIn {dflt : Int} {ps : Array (Int × Int)} {len : Nat} {a : Int32} (tgt : Nat) (v : Int32) (hd : decode cc pc = .ok (.lookupswitch dflt ps, len)) (hv : a = v) (hp : (ps.toList.zip (ps.toList.drop 1)).all (fun (a, next) => a.1 < next.1) = true) (ho : (pc : Int) + Op.lookupswitch.offset ps.toList dflt v.toInt = (tgt : Int)) (k : G sc y cc mL ret fr lo tgt lv stk h r h') : G sc y cc mL ret fr lo pc lv (.int a :: stk) h r h' :=
  g_pure (fun hx hb _ _ _ k => by subst hv; exact lv_lookup hx hb hd hp rfl ho k) k
theorem look_out (ps : List (Int × Int)) (dflt k : Int) (hall : ∀ q ∈ ps, k ≠ q.1) : Op.lookupswitch.offset ps dflt k = dflt := by
  induction ps with
  | nil => rfl
  | cons q ps ih =>
    rw [Op.lookupswitch.offset_cons, ih (fun z hz => hall z (List.mem_cons_of_mem _ hz))]
    have := hall q List.mem_cons_self
    simp
    intro e
    exact absurd e (by first | exact this | exact fun z => this z.symm)
theorem g_lookOut {dflt : Int} {ps : Array (Int × Int)} {len : Nat} {a : Int32} (tgt : Nat) (hd : decode cc pc = .ok (.lookupswitch dflt ps, len)) (hp : (ps.toList.zip (ps.toList.drop 1)).all (fun (a, next) => a.1 < next.1) = true) (hall : ∀ q ∈ ps.toList, ¬ a = Int32.ofInt q.1) (ht : (pc : Int) + dflt = (tgt : Int)) (k : G sc y cc mL ret fr lo tgt lv stk h r h') : G sc y cc mL ret fr lo pc lv (.int a :: stk) h r h' :=
  g_pure (fun hx hb _ _ _ k => lv_lookup hx hb hd hp (look_out _ _ _ (fun q hq e => hall q hq (by rw [← e]; exact (Int32.ofInt_toInt a).symm))) ht k) k
theorem g_ldcS {index : Nat} {tx : String} (i : Nat) (hd : decode cc pc = .ok (.ldc index, 2)) (hi : strK[i]? = some (y.cls, index, tx)) (k : G sc y cc mL ret fr lo (pc + 2) lv (.ref (1000 + i) :: stk) h r h') : G sc y cc mL ret fr lo pc lv stk h r h' :=
  ⟨k.1, k.2.1, fun l p e R s m args below meth c dC dI dA ad0 n0 s0 A Qc C q f1 f2 f3 f4 ad H locs ls S => by
    have e1 : ad (1000 + i) = ad0 (1000 + i) := S.2.2.2.2.1 _ (Or.inr (Nat.le_trans S.2.2.2.2.2.2.2.1 (by omega)))
    exact va_ldcS C.1 C.2.1 C.2.2.2.2.2.1 (by rw [e1]; exact C.2.2.2.2.2.2.2.2.2.1.2.1 i _ hi) hd (k.2.2 l p e R s m args below meth c dC dI dA ad0 n0 s0 A Qc C q f1 f2 f3 f4 ad H locs ls S)⟩
end
