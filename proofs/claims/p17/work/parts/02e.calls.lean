/-! a method's contract over the model, out of the judgement of its body -/
def PM (sc : Nat × (Nat → Int32)) (dC : Nat → ClassId) (dI : Nat → Nat → Nat) (dA : Nat → ClassId) (ad : Nat → Nat) (sz : Nat) (h : mH) : State → Prop := fun U =>
  U.heap.size = sz ∧ va_P (dC, dI) mcls (wl dA ad h) U.heap ∧ va_D (fun _ => True) (wl dA ad h) ∧ va_K (dC, dI) mcls (mtys dA) U ∧ EX sc ad (va_A (wl dA ad h) sz) U ∧ HW h
def QM (dC : Nat → ClassId) (dI : Nat → Nat → Nat) (dA : Nat → ClassId) (ad : Nat → Nat) (sz : Nat) (h : mH) (r : Option Value) (h' : mH) : Array Value → State → Outcome → State → Prop := fun _ st oc t =>
  (∃ ad' : Nat → Nat, (∀ k, k < h.1 ∨ h'.1 ≤ k → ad' k = ad k) ∧ oc = .returned (r.map (cv ad')) ∧ va_P (dC, dI) mcls (wl dA ad' h') t.heap ∧ va_D (va_A (wl dA ad h) sz) (wl dA ad' h') ∧ HW h') ∧ va_F (va_A (wl dA ad h) sz) st t
def MM (sc : Nat × (Nat → Int32)) (y : MethodName) (cc : ByteArray) (mL : Nat) (ret : Option FieldType) (fr lo : Nat) (args : List Value) (h : mH) (r : Option Value) (h' : mH) : Prop :=
  nle y h.1 h'.1 ∧ nle y h.2.1 h'.2.1 ∧ ∀ (l : Launch) (dC : Nat → ClassId) (dI : Nat → Nat → Nat) (dA : Nat → ClassId) (ad : Nat → Nat) (sz : Nat), Met l y (.code y cc mL ret :: tbg) { frames := fr, cells := h'.1 - h.1, slots := h'.2.1 - h.2.1, locals := lo } (va_Pc (args.map (cv ad)) (PM sc dC dI dA ad sz h)) (QM dC dI dA ad sz h r h') (h'.1 - h.1) (h'.2.1 - h.2.1) (va_A (wl dA ad h) sz)
theorem lv_args_cv (ad : Nat → Nat) (vs : List Value) : ∀ i, lv_args i (vs.map (cv ad)) = (lv_args i vs).map (cq ad) := by
  induction vs with
  | nil => intro i; rfl
  | cons v vs ih => intro i; simp [lv_args, cv_cat, ih, cq]
theorem lg_sl_cv (ad : Nat → Nat) (vs : List Value) : (lg_sl (vs.map (cv ad))).length = (lg_sl vs).length := by
  induction vs with
  | nil => rfl
  | cons v vs ih =>
    simp only [lg_sl, List.map_cons, List.flatMap_cons, List.length_append] at ih ⊢
    rw [ih, cv_cat]
    split <;> rfl
theorem mm_of_G {sc : Nat × (Nat → Int32)} {y : MethodName} {cc : ByteArray} {mL : Nat} {ret : Option FieldType} {fr lo : Nat} {args : List Value} {h h' : mH} {r : Option Value} (hy : plainName y.cls = true) (hlen : (lg_sl args).length ≤ mL) (hg : G sc y cc mL ret fr lo 0 (lv_args 0 args) [] h r h') : MM sc y cc mL ret fr lo args h r h' := by
  refine ⟨hg.1, hg.2.1, fun l dC dI dA ad sz => ?_⟩
  refine Met.ofW (cc := cc) (maxL := mL) (ret := ret) hy rfl ?_
  intro p e s m args' below meth c s₁ B hml hv
  obtain ⟨rfl, hsz, hP, hD0, hK, hE, hw⟩ := hv
  have hts := atoms_spec (ws := .code y cc mL ret :: tbg) B.pre
  subst hsz
  have hD := hD0.self (sz := s.heap.size)
  have hl := lv_entry (args.map (cv ad)) (n := mL) (by rw [lg_sl_cv]; exact hlen)
  rw [lg_entry_eq]
  generalize (lg_sl (args.map (cv ad)) ++ List.replicate (mL - (lg_sl (args.map (cv ad))).length) Slot.unset).toArray = ls at hl ⊢
  rw [lv_args_cv] at hl
  have key := hg.2.2 l p e { frames := fr, cells := h'.1 - h.1, slots := h'.2.1 - h.2.1, locals := lo } s m (args.map (cv ad)).toArray below meth c dC dI dA ad h.1 h.2.1 (va_A (wl dA ad h) s.heap.size) (QM dC dI dA ad s.heap.size h r h')
    ⟨B.exec, B.bytes, B.returns, hml, B.notSynchronized, findClass_of_methodNamed B.named, (name_of_methodNamed B.named B.method).1, fun w hw => hts w (List.mem_cons_of_mem _ hw), hK, hE, fun q hq => Or.inr hq⟩
    (fun ad' H locs t hP hD hS had hw ht hW => ⟨⟨ad', had, rfl, by rw [ht]; exact hP, hD, hw⟩, hS.F ht⟩)
    (Nat.le_refl _) (Nat.le_refl _) (Nat.le_refl _) (Nat.le_refl _) ad s.heap [] ls ⟨hP, hD, va_S.rf, hl, fun _ _ => rfl, Nat.le_refl _, Nat.le_refl _, hw⟩
  rw [Nat.sub_self, Nat.sub_self] at key
  exact key
section
variable {sc : Nat × (Nat → Int32)} {y : MethodName} {cc : ByteArray} {mL : Nat} {ret : Option FieldType} {fr lo pc : Nat} {lv lv' : List (Nat × Value)} {stk rest : List Value} {h h1 h' : mH} {r r1 : Option Value}
/-- a value's places lie below n, or are none of the cells -/
def okv (n n1 : Nat) (v : Value) : Prop := ∀ k, v = .ref k → k < n ∨ n1 ≤ k
theorem cv_ok {ad ad' : Nat → Nat} {n n1 : Nat} {v : Value} (hv : okv n n1 v) (had : ∀ k, k < n ∨ n1 ≤ k → ad' k = ad k) : cv ad' v = cv ad v := by
  cases v with
  | ref k => show Value.ref (ad' k) = Value.ref (ad k); rw [had k (hv k rfl)]
  | _ => rfl
theorem okv_same {n : Nat} (v : Value) : okv n n v := fun k _ => Nat.lt_or_ge k n
theorem g_run {y2 : MethodName} (ha : nle y2 h.1 h1.1 ∧ nle y2 h.2.1 h1.2.1) (hal : al y2 = true → al y = true) (hlv : al y2 = true → ∀ q ∈ lv, okv h.1 h1.1 q.2) (hst : al y2 = true → ∀ v ∈ rest, okv h.1 h1.1 v)
    (run : ∀ (l : Launch) (p : Program) (e : Env) (R : Room) (s : State) (m : MethodId) (args : Array Value) (below : List Frame) (meth : Method) (c : Code) (dC : Nat → ClassId) (dI : Nat → Nat → Nat) (dA : Nat → ClassId) (ad0 : Nat → Nat) (n0 s0 : Nat) (A : Nat → Prop), Cx sc y cc mL ret dC dI dA ad0 A p s m args meth c → fr ≤ R.frames → lo ≤ R.locals → h1.1 - n0 ≤ R.cells → h1.2.1 - s0 ≤ R.slots →
      ∀ (ad : Nat → Nat) (H : Heap) (locs : List Loc) (ls : Array Slot), Sr mL dC dI dA ad0 n0 s0 A s h lv ad H locs ls → (∀ U : State, U.heap = H → s.WarmedH U.vm → PM sc dC dI dA ad H.size h U) →
        ∃ a, va_Run p l e R s m args below meth c H locs (h.1 - n0) (h.2.1 - s0) (h1.1 - h.1) (h1.2.1 - h.2.1) (F0 m pc ls (stk.map (cv ad))) (rest.map (cv ad)) (QM dC dI dA ad H.size h r1 h1 a) (va_A (wl dA ad h) H.size))
    (k : G sc y cc mL ret fr lo (pc + 3) lv (r1.toList ++ rest) h1 r h') : G sc y cc mL ret fr lo pc lv stk h r h' := by
  have hlv : ∀ q ∈ lv, okv h.1 h1.1 q.2 := by
    cases z : al y2 with
    | true => exact hlv z
    | false => intro q _; rw [← ha.1.2 z]; exact okv_same _
  have hst : ∀ v ∈ rest, okv h.1 h1.1 v := by
    cases z : al y2 with
    | true => exact hst z
    | false => intro q _; rw [← ha.1.2 z]; exact okv_same _
  have u1 := ha.1.1
  have u2 := ha.2.1
  refine ⟨nle_tr ha.1 hal k.1, nle_tr ha.2 hal k.2.1, fun l p e R s m args below meth c dC dI dA ad0 n0 s0 A Qc C q f1 f2 f3 f4 ad H locs ls S => ?_⟩
  obtain ⟨hP, hD, hS, hl, had0, hn0, hs0, hw⟩ := id S
  have hF : ∀ q, va_A (wl dA ad h) H.size q → A q := by
    rintro q (⟨k2, e2, z⟩ | z)
    · exact hD.2 k2 _ z
    · exact C.2.2.2.2.2.2.2.2.2.2 q (Nat.le_trans hS.1 z)
  have hpm : ∀ U : State, U.heap = H → s.WarmedH U.vm → PM sc dC dI dA ad H.size h U := fun U hU hW =>
    ⟨by rw [hU], by rw [hU]; exact hP, hD.weaken (fun _ _ _ _ => trivial), va_K.moved hW.alike C.2.2.2.2.2.2.2.2.1, C.2.2.2.2.2.2.2.2.2.1.go hW hS hU hF (fun k hk => had0 k (Or.inr (Nat.le_trans hw.1 hk))), hw⟩
  have e1 := k.1.1
  have e2 := k.2.1.1
  obtain ⟨ar, hr⟩ := run l p e R s m args below meth c dC dI dA ad0 n0 s0 A C f1 f2 (by omega) (by omega) ad H locs ls S hpm
  intro T hT X
  obtain ⟨v, st₀, t, T', L, h0, X', hL, g1, g2, ⟨⟨ad', had, hv, hP1, hD1, hw1⟩, hz, hk⟩, st⟩ := hr T hT X
  cases hv
  rw [h0] at hz hk
  have ec : h.1 - n0 + (h1.1 - h.1) = h1.1 - n0 := by omega
  have es : h.2.1 - s0 + (h1.2.1 - h.2.1) = h1.2.1 - s0 := by omega
  rw [ec, es] at X'
  have hs2 : va_S A s.heap T'.heap (locs ++ L) := ⟨Nat.le_trans hS.1 (by rw [g1]; exact hz), fun q a1 a2 => by rw [g1, hk q (Nat.lt_of_lt_of_le a1 hS.1) (fun z => a2 (hF q z))]; exact hS.2.1 q a1 a2, fun q hq => by
      rcases List.mem_append.mp hq with z | z
      · exact hS.2.2 q z
      · exact hF _ (hL q z)⟩
  have hlv2 : lv.map (cq ad') = lv.map (cq ad) := List.map_congr_left (fun q hq => by unfold cq; rw [cv_ok (hlv q hq) had])
  have hst2 : rest.map (cv ad') = rest.map (cv ad) := List.map_congr_left (fun v hv => cv_ok (hst v hv) had)
  obtain ⟨t2, a1, b1⟩ := k.2.2 l p e R s m args below meth c dC dI dA ad0 n0 s0 A Qc C q f1 f2 f3 f4 ad' T'.heap (locs ++ L) ls
    ⟨by rw [g1]; exact hP1, hD1.weaken (fun _ q _ z => hF q.1 z), hs2, by rw [hlv2]; exact hl, fun k2 hk2 => by rw [had k2 (by omega)]; exact had0 k2 (by omega), by omega, by omega, hw1⟩ T' rfl X'
  have eg : ((r1.toList ++ rest).map (cv ad')) = (r1.map (cv ad')).toList ++ rest.map (cv ad) := by
    rw [List.map_append, hst2]
    cases r1 <;> rfl
  rw [eg] at a1
  exact ⟨t2, st t2 a1, b1⟩
end
