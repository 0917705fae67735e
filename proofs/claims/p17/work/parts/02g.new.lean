/-! making cells -/
def mnew (h : mH) (sl : Nat) (c : mCell) : mH := (h.1 + 1, h.2.1 + sl, va_up h.2.2 h.1 c)
theorem cE_ok {dA : Nat → ClassId} {ad ad' : Nat → Nat} {c : mCell} (hc : ∀ j, hasRef c j → ad' j = ad j) : cE dA ad' c = cE dA ad c := by
  cases c with
  | inr q =>
    obtain ⟨ci, fs⟩ := q
    show Sum.inr (ci, fs.map (cv ad')) = Sum.inr (ci, fs.map (cv ad))
    rw [List.map_congr_left (fun v hv => ?_)]
    cases v with
    | ref k => show Value.ref (ad' k) = Value.ref (ad k); rw [hc k hv]
    | _ => rfl
  | inl q =>
    obtain ⟨t, n, a⟩ := q
    rcases a with f | f | f | f | f
    · rfl
    · rfl
    · rfl
    · rfl
    · show Sum.inl (dA t, n, Sum.inr (Sum.inr (Sum.inr (Sum.inr (fun j => (f j).map ad'))))) = Sum.inl (dA t, n, Sum.inr (Sum.inr (Sum.inr (Sum.inr (fun j => (f j).map ad)))))
      have e : (fun j => (f j).map ad') = (fun j => (f j).map ad) := by
        funext j
        cases hj : f j with
        | none => rfl
        | some x => show some (ad' x) = some (ad x); rw [hc x ⟨j, hj⟩]
      rw [e]
theorem wl_new {dA : Nat → ClassId} {ad : Nat → Nat} {h : mH} {sl q : Nat} {c : mCell} (w : HW h) (hc : ∀ j, ¬ hasRef c j) : wl dA ad h ++ [(q, cE dA ad c)] = wl dA (va_up ad h.1 q) (mnew h sl c) := by
  have e0 : ∀ k, k < h.1 → va_up ad h.1 q k = ad k := fun k hk => by unfold va_up; rw [if_neg (by omega)]
  unfold wl mnew
  show _ = (List.range (h.1 + 1)).map _
  rw [List.range_succ, List.map_append]
  congr 1
  · refine List.map_congr_left (fun k hk => ?_)
    have hk2 := List.mem_range.mp hk
    have e1 : va_up h.2.2 h.1 c k = h.2.2 k := by unfold va_up; rw [if_neg (by omega)]
    show (ad k, cE dA ad (h.2.2 k)) = (va_up ad h.1 q k, cE dA (va_up ad h.1 q) (va_up h.2.2 h.1 c k))
    rw [e1, e0 k hk2, cE_ok (ad := ad) (fun j hj => e0 j (w.2.2 k j hj))]
  · show [(q, cE dA ad c)] = [(va_up ad h.1 q h.1, cE dA (va_up ad h.1 q) (va_up h.2.2 h.1 c h.1))]
    have e1 : va_up h.2.2 h.1 c h.1 = c := by unfold va_up; rw [if_pos rfl]
    have e2 : va_up ad h.1 q h.1 = q := by unfold va_up; rw [if_pos rfl]
    rw [e1, e2, cE_ok (ad := ad) (ad' := va_up ad h.1 q) (fun j hj => absurd hj (hc j))]
theorem HW.new {h : mH} {sl : Nat} {c : mCell} (w : HW h) (hlt : h.1 < 1000) (hc : ∀ j, ¬ hasRef c j) : HW (mnew h sl c) := by
  refine ⟨hlt, fun k hk => ?_, fun k j => ?_⟩
  · have hk2 : h.1 + 1 ≤ k := hk
    show va_up h.2.2 h.1 c k = dead
    unfold va_up
    rw [if_neg (by omega)]
    exact w.2.1 k (by omega)
  · show hasRef (va_up h.2.2 h.1 c k) j → j < h.1 + 1
    unfold va_up
    split
    · exact fun z => absurd z (hc j)
    · exact fun z => Nat.lt_succ_of_lt (w.2.2 k j z)
section
variable {mL : Nat} {dC : Nat → ClassId} {dI : Nat → Nat → Nat} {dA : Nat → ClassId} {ad0 : Nat → Nat} {n0 s0 : Nat} {A : Nat → Prop} {s : State} {h : mH} {lv : List (Nat × Value)} {ad : Nat → Nat} {H : Heap} {locs : List Loc} {ls : Array Slot}
theorem Sr.new (S : Sr mL dC dI dA ad0 n0 s0 A s h lv ad H locs ls) {sl q : Nat} {c : mCell} {H1 : Heap} {locs1 : List Loc} (hlt : h.1 < 1000) (hc : ∀ j, ¬ hasRef c j) (hlv : ∀ q ∈ lv, okv h.1 (h.1 + 1) q.2) (hP : va_P (dC, dI) mcls (wl dA ad h ++ [(q, cE dA ad c)]) H1) (hD : va_D A (wl dA ad h ++ [(q, cE dA ad c)])) (hS : va_S A s.heap H1 locs1) : Sr mL dC dI dA ad0 n0 s0 A s (mnew h sl c) lv (va_up ad h.1 q) H1 locs1 ls := by
  obtain ⟨-, -, -, h4, h5, h6, h7, w⟩ := S
  rw [wl_new (sl := sl) w hc] at hP hD
  have e0 : ∀ k, k < h.1 ∨ h.1 + 1 ≤ k → va_up ad h.1 q k = ad k := fun k hk => by unfold va_up; rw [if_neg (by omega)]
  have hlv2 : lv.map (cq (va_up ad h.1 q)) = lv.map (cq ad) := List.map_congr_left (fun z hz => by unfold cq; rw [cv_ok (hlv z hz) e0])
  refine ⟨hP, hD, hS, by rw [hlv2]; exact h4, fun k hk => ?_, Nat.le_succ_of_le h6, Nat.le_trans h7 (Nat.le_add_right _ _), w.new hlt hc⟩
  have hk2 : k < n0 ∨ h.1 + 1 ≤ k := hk
  rw [e0 k (by omega)]
  exact h5 k (by omega)
end
section
variable {sc : Nat × (Nat → Int32)} {y : MethodName} {cc : ByteArray} {mL : Nat} {ret : Option FieldType} {fr lo pc : Nat} {lv lv' : List (Nat × Value)} {stk rest : List Value} {h h1 h' : mH} {r r1 : Option Value}
theorem up_at {α : Type} (f : Nat → α) (k : Nat) (v : α) : va_up f k v k = v := by unfold va_up; rw [if_pos rfl]
theorem stk_new {ad : Nat → Nat} {n q : Nat} (hst : ∀ v ∈ stk, okv n (n + 1) v) : (Value.ref n :: stk).map (cv (va_up ad n q)) = .ref q :: stk.map (cv ad) := by
  have e0 : ∀ k, k < n ∨ n + 1 ≤ k → va_up ad n q k = ad k := fun k hk => by unfold va_up; rw [if_neg (by omega)]
  rw [List.map_cons, List.map_congr_left (fun v hv => cv_ok (hst v hv) e0)]
  show Value.ref (va_up ad n q n) :: _ = _
  rw [up_at]
theorem g_new (hyl : al y = true) {C : String} {T : u_T} {N index ci : Nat} (fs : List Value) (ty0 : Nat → FieldType) (hty : ∀ k, k < N → parseFieldDescriptor (T k).2.2.1 = some (ty0 k)) (hd : decode cc pc = .ok (.new index, 3)) (hc : mcls[ci]? = some (C, T, N)) (hin : ∀ w ∈ u_ws C T N, w ∈ tbg) (hcl : Cond.classLink y.cls index C ∈ tbg) (hinst : Cond.instantiable C N ∈ tbg) (hini : Cond.initialized C ∈ tbg) (hfs : ∀ j, j < N → defaultValue (ty0 j) = vp_V fs j) (hnr : ∀ v ∈ fs, ∀ k, v ≠ .ref k) (hlt : h.1 < 1000) (hlv : ∀ q ∈ lv, okv h.1 (h.1 + 1) q.2) (hst : ∀ v ∈ stk, okv h.1 (h.1 + 1) v)
    (k : G sc y cc mL ret fr lo (pc + 3) lv (.ref h.1 :: stk) (mnew h N (.inr (ci, fs))) r h') : G sc y cc mL ret fr lo pc lv stk h r h' := by
  have k1 : h.1 + 1 ≤ h'.1 := k.1.1
  have k2 : h.2.1 + N ≤ h'.2.1 := k.2.1.1
  refine ⟨⟨by omega, fun z => absurd (hyl.symm.trans z) (by decide)⟩, ⟨by omega, fun z => absurd (hyl.symm.trans z) (by decide)⟩, fun l p e R s m args below meth c dC dI dA ad0 n0 s0 A Qc C q f1 f2 f3 f4 ad H locs ls S => ?_⟩
  have hts := C.2.2.2.2.2.2.2.1
  have z3 := S.2.2.2.2.2.1
  have z4 := S.2.2.2.2.2.2.1
  have efs : fs.map (cv ad) = fs := by
    have e : fs.map (cv ad) = fs.map id := List.map_congr_left (fun v hv => by
      cases v with
      | ref k => exact absurd rfl (hnr _ hv k)
      | _ => rfl)
    rw [e, List.map_id]
  have hcr : ∀ j, ¬ hasRef (.inr (ci, fs)) j := fun j hj => hnr _ hj j rfl
  refine va_new (D := (dC, dI)) (tys := mtys dA) (fs := fs) C.1 C.2.1 hts hin ty0 hty C.2.2.2.2.2.1 (hts _ hcl) (hts _ hinst) (hts _ hini) C.2.2.2.2.2.2.2.2.1 S.1 S.2.1 S.2.2.1 C.2.2.2.2.2.2.2.2.2.2 hc hfs (by omega) (by omega) hd (fun qa H1 hP hD hS => ?_)
  have ec : cE dA ad (.inr (ci, fs)) = .inr (ci, fs) := by show Sum.inr (ci, fs.map (cv ad)) = _; rw [efs]
  have key := k.2.2 l p e R s m args below meth c dC dI dA ad0 n0 s0 A Qc C q f1 f2 f3 f4 (va_up ad h.1 qa) H1 locs ls (S.new hlt hcr hlv (by rw [ec]; exact hP) (by rw [ec]; exact hD) hS)
  rw [stk_new hst, show (mnew h N (.inr (ci, fs))).1 - n0 = h.1 - n0 + 1 by show h.1 + 1 - n0 = _; omega, show (mnew h N (.inr (ci, fs))).2.1 - s0 = h.2.1 - s0 + N by show h.2.1 + N - s0 = _; omega] at key
  exact key
theorem g_newa (hyl : al y = true) {atype : ArrayType} {n : Int32} (t N' : Nat) (ty : FieldType) (a0 : vp_A) (harr : Cond.arrayClass ty ∈ tbg) (hty : newarray.typeOf atype = ty) (ht : ∀ dA, (mtys dA)[t]? = some (dA t, ty)) (hra : ∀ (U : State) (c1 c2 : ClassId), va_RA U c1 ty → va_RA U c2 ty → c1 = c2) (ha : ∀ cA : ClassId, vp_cell cA a0 = arrV cA N' (fun _ => defaultValue ty)) (ha2 : ∀ ad, cA ad a0 = a0) (hnr : ∀ j, ¬ hasRef (.inl (t, a0)) j) (hn : ¬ n < 0) (hN : n.toNatClampNeg = N') (hbytes : N' * componentBytes ty ≤ 536870912) (hd : decode cc pc = .ok (.newarray atype, 2)) (hlt : h.1 < 1000) (hlv : ∀ q ∈ lv, okv h.1 (h.1 + 1) q.2) (hst : ∀ v ∈ stk, okv h.1 (h.1 + 1) v)
    (k : G sc y cc mL ret fr lo (pc + 2) lv (.ref h.1 :: stk) (mnew h N' (.inl (t, a0))) r h') : G sc y cc mL ret fr lo pc lv (.int n :: stk) h r h' := by
  have k1 : h.1 + 1 ≤ h'.1 := k.1.1
  have k2 : h.2.1 + N' ≤ h'.2.1 := k.2.1.1
  refine ⟨⟨by omega, fun z => absurd (hyl.symm.trans z) (by decide)⟩, ⟨by omega, fun z => absurd (hyl.symm.trans z) (by decide)⟩, fun l p e R s m args below meth c dC dI dA ad0 n0 s0 A Qc C q f1 f2 f3 f4 ad H locs ls S => ?_⟩
  have hts := C.2.2.2.2.2.2.2.1
  have hK := C.2.2.2.2.2.2.2.2.1
  have z3 := S.2.2.2.2.2.1
  have z4 := S.2.2.2.2.2.2.1
  refine va_newa (D := (dC, dI)) (tys := mtys dA) (a0 := a0) C.1 C.2.1 (by rw [hty]; exact hts _ harr) hty hK S.1 S.2.1 S.2.2.1 C.2.2.2.2.2.2.2.2.2.2 ha hn hN hbytes (by omega) (by omega) hd (fun qa cA1 H1 hK1 hP hD hS => ?_)
  have hcA : cA1 = dA t := hra s _ _ (hK1.2 (mtys dA).length (cA1, ty) (by simp)).2 (hK.2 t _ (ht dA)).2
  subst hcA
  have ec : cE dA ad (.inl (t, a0)) = .inl (dA t, a0) := by show Sum.inl (dA t, cA ad a0) = _; rw [ha2]
  have key := k.2.2 l p e R s m args below meth c dC dI dA ad0 n0 s0 A Qc C q f1 f2 f3 f4 (va_up ad h.1 qa) H1 locs ls (S.new hlt hnr hlv (by rw [ec]; exact hP) (by rw [ec]; exact hD) hS)
  rw [stk_new hst, show (mnew h N' (.inl (t, a0))).1 - n0 = h.1 - n0 + 1 by show h.1 + 1 - n0 = _; omega, show (mnew h N' (.inl (t, a0))).2.1 - s0 = h.2.1 - s0 + N' by show h.2.1 + N' - s0 = _; omega] at key
  exact key
theorem g_newq (hyl : al y = true) {index : Nat} {n : Int32} (t N' : Nat) (Cn : String) (hcl : Cond.classLink y.cls index Cn ∈ tbg) (hov : Cn ∈ overs) (ht : ∀ dA, (mtys dA)[t]? = some (dA t, .object Cn)) (hn : ¬ n < 0) (hN : n.toNatClampNeg = N') (hbytes : N' * 4 ≤ 536870912) (hd : decode cc pc = .ok (.anewarray index, 3)) (hlt : h.1 < 1000) (hlv : ∀ q ∈ lv, okv h.1 (h.1 + 1) q.2) (hst : ∀ v ∈ stk, okv h.1 (h.1 + 1) v)
    (k : G sc y cc mL ret fr lo (pc + 3) lv (.ref h.1 :: stk) (mnew h N' (.inl (t, N', .inr (.inr (.inr (.inr (fun _ => none))))))) r h') : G sc y cc mL ret fr lo pc lv (.int n :: stk) h r h' := by
  have k1 : h.1 + 1 ≤ h'.1 := k.1.1
  have k2 : h.2.1 + N' ≤ h'.2.1 := k.2.1.1
  refine ⟨⟨by omega, fun z => absurd (hyl.symm.trans z) (by decide)⟩, ⟨by omega, fun z => absurd (hyl.symm.trans z) (by decide)⟩, fun l p e R s m args below meth c dC dI dA ad0 n0 s0 A Qc C q f1 f2 f3 f4 ad H locs ls S => ?_⟩
  have hts := C.2.2.2.2.2.2.2.1
  have hK := C.2.2.2.2.2.2.2.2.1
  have z3 := S.2.2.2.2.2.1
  have z4 := S.2.2.2.2.2.2.1
  refine va_newq (D := (dC, dI)) (tys := mtys dA) C.1 C.2.1 C.2.2.2.2.2.1 (hts _ hcl) (C.2.2.2.2.2.2.2.2.2.1.2.2.2.2.2.1 _ hov) hK S.1 S.2.1 S.2.2.1 C.2.2.2.2.2.2.2.2.2.2 hn hN hbytes (by omega) (by omega) hd (fun qa cA1 H1 hK1 hP hD hS => ?_)
  have hcA : cA1 = dA t := by
    obtain ⟨_, _, _, _, _, g1⟩ := (hK1.2 (mtys dA).length (cA1, .object Cn) (by simp)).2
    obtain ⟨_, _, _, _, _, g2⟩ := (hK.2 t _ (ht dA)).2
    exact Option.some.inj (g1.symm.trans g2)
  subst hcA
  have hnr : ∀ j, ¬ hasRef (.inl (t, N', .inr (.inr (.inr (.inr (fun _ => none)))))) j := fun j hj => by obtain ⟨i, hi⟩ := hj; cases hi
  have ec : cE dA ad (.inl (t, N', .inr (.inr (.inr (.inr (fun _ => none)))))) = .inl (dA t, N', .inr (.inr (.inr (.inr (fun _ => none))))) := rfl
  have key := k.2.2 l p e R s m args below meth c dC dI dA ad0 n0 s0 A Qc C q f1 f2 f3 f4 (va_up ad h.1 qa) H1 locs ls (S.new hlt hnr hlv (by rw [ec]; exact hP) (by rw [ec]; exact hD) hS)
  rw [stk_new hst, show (mnew h N' (.inl (t, N', .inr (.inr (.inr (.inr (fun _ => none))))))).1 - n0 = h.1 - n0 + 1 by show h.1 + 1 - n0 = _; omega, show (mnew h N' (.inl (t, N', .inr (.inr (.inr (.inr (fun _ => none))))))).2.1 - s0 = h.2.1 - s0 + N' by show h.2.1 + N' - s0 = _; omega] at key
  exact key
theorem g_aast {t o v ci : Nat} {i : Int32} {h2 : mH} {q : vw_C} (hd : decode cc pc = .ok (.aastore, 1)) (hc : mcls[ci]? = some q) (ht : ∀ dA, (mtys dA)[t]? = some (dA t, .object q.1)) (hv : sR h t o ci i v = some h2) (k : G sc y cc mL ret fr lo (pc + 1) lv stk h2 r h') : G sc y cc mL ret fr lo pc lv (.ref v :: .int i :: .ref o :: stk) h r h' := by
  obtain ⟨n, f, fs, e1, e0, e5, e2, rfl⟩ := sR_spec hv
  refine ⟨k.1, k.2.1, fun l p e R s m args below meth c dC dI dA ad0 n0 s0 A Qc C q f1 f2 f3 f4 ad H locs ls S => ?_⟩
  have ho : o < h.1 := S.live (by rw [e1]; intro q; cases q)
  have hvl : v < h.1 := S.live e5
  have hov : (wl dA ad h)[v]? = some (ad v, .inr (ci, fs.map (cv ad))) := by rw [wl_at hvl, e0]; rfl
  refine va_astq (D := (dC, dI)) C.1 C.2.1 C.2.2.2.2.2.2.2.2.1 S.1 S.2.1 S.2.2.1 o t v ci (S.arr e1) (ht dA) hov hc e2 hd (fun H1 locs1 hP hD hS => ?_)
  have ef : va_up (fun j => (f j).map ad) i.toNatClampNeg (some (ad v)) = fun j => (va_up f i.toNatClampNeg (some v) j).map ad := by
    funext j
    unfold va_up
    split <;> rfl
  have ew := wl_set (dA := dA) (ad := ad) (h := h) (o := o) (c := .inl (t, n, .inr (.inr (.inr (.inr (va_up f i.toNatClampNeg (some v)))))))
  have ew2 : cE dA ad (.inl (t, n, .inr (.inr (.inr (.inr (va_up f i.toNatClampNeg (some v))))))) = .inl (dA t, n, .inr (.inr (.inr (.inr (va_up (fun j => (f j).map ad) i.toNatClampNeg (some (ad v))))))) := by rw [ef]; rfl
  rw [ew2] at ew
  refine k.2.2 l p e R s m args below meth c dC dI dA ad0 n0 s0 A Qc C q f1 f2 f3 f4 ad H1 locs1 ls (S.set ho (fun j hj => ?_) (ew ▸ hP) (ew ▸ hD) hS)
  obtain ⟨x, hx⟩ := hj
  unfold va_up at hx
  split at hx
  · cases hx; exact hvl
  · exact S.2.2.2.2.2.2.2.2.2 o j (by rw [e1]; exact ⟨x, hx⟩)
end
