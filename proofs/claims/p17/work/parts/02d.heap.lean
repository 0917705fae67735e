/-! reading and writing the model's cells -/
def gV (h : mH) (o ci k : Nat) : Option Value := match h.2.2 o with
  | .inr (c, fs) => if c = ci then fs[k]? else none
  | .inl _ => none
def gI (h : mH) (o ci k : Nat) : Option Int32 := match gV h o ci k with
  | some (.int x) => some x
  | _ => none
def gL (h : mH) (o ci k : Nat) : Option Int64 := match gV h o ci k with
  | some (.long x) => some x
  | _ => none
def gR (h : mH) (o ci k : Nat) : Option Nat := match gV h o ci k with
  | some (.ref x) => some x
  | _ => none
def pV (h : mH) (o ci k : Nat) (v : Value) : Option mH := match h.2.2 o with
  | .inr (c, fs) => if c = ci ∧ k < fs.length then some (mset h o (.inr (c, fs.set k v))) else none
  | .inl _ => none
/-- an array of ints, bytes, booleans (t says which): its cell i -/
def aI (h : mH) (t o : Nat) (i : Int32) : Option Int32 := match h.2.2 o with
  | .inl (t', n, .inl f) => if t' = t ∧ ¬ (i < 0 ∨ n ≤ i.toNatClampNeg) then some (f i.toNatClampNeg) else none
  | _ => none
def sI (h : mH) (t o : Nat) (i x : Int32) : Option mH := match h.2.2 o with
  | .inl (t', n, .inl f) => if t' = t ∧ ¬ (i < 0 ∨ n ≤ i.toNatClampNeg) then some (mset h o (.inl (t, n, .inl (upd f i.toNatClampNeg x)))) else none
  | _ => none
def aL (h : mH) (o : Nat) (i : Int32) : Option Int64 := match h.2.2 o with
  | .inl (t', n, .inr (.inl f)) => if t' = 3 ∧ ¬ (i < 0 ∨ n ≤ i.toNatClampNeg) then some (f i.toNatClampNeg) else none
  | _ => none
def sL (h : mH) (o : Nat) (i : Int32) (x : Int64) : Option mH := match h.2.2 o with
  | .inl (t', n, .inr (.inl f)) => if t' = 3 ∧ ¬ (i < 0 ∨ n ≤ i.toNatClampNeg) then some (mset h o (.inl (3, n, .inr (.inl (vp_updL f i.toNatClampNeg x))))) else none
  | _ => none
def aR (h : mH) (t o : Nat) (i : Int32) : Option Nat := match h.2.2 o with
  | .inl (t', n, .inr (.inr (.inr (.inr f)))) => if t' = t ∧ ¬ (i < 0 ∨ n ≤ i.toNatClampNeg) then f i.toNatClampNeg else none
  | _ => none
def sR (h : mH) (t o ci : Nat) (i : Int32) (v : Nat) : Option mH := match h.2.2 o, h.2.2 v with
  | .inl (t', n, .inr (.inr (.inr (.inr f)))), .inr (c, _ :: _) => if t' = t ∧ c = ci ∧ ¬ (i < 0 ∨ n ≤ i.toNatClampNeg) then some (mset h o (.inl (t, n, .inr (.inr (.inr (.inr (va_up f i.toNatClampNeg (some v)))))))) else none
  | _, _ => none
def aN (h : mH) (t o : Nat) : Option Int32 := match h.2.2 o with
  | .inl (t', n, _) => if t' = t then some (Int32.ofNat n) else none
  | _ => none
theorem gV_spec {h : mH} {o ci k : Nat} {v : Value} (e : gV h o ci k = some v) : ∃ fs, h.2.2 o = .inr (ci, fs) ∧ fs[k]? = some v := by
  unfold gV at e
  split at e
  · next c fs e1 =>
    split at e
    · next e2 => subst e2; exact ⟨fs, e1, e⟩
    · cases e
  · cases e
theorem gI_spec {h : mH} {o ci k : Nat} {x : Int32} (e : gI h o ci k = some x) : gV h o ci k = some (.int x) := by
  unfold gI at e
  split at e
  · next y e1 => rw [e1, Option.some.inj e]
  · cases e
theorem gL_spec {h : mH} {o ci k : Nat} {x : Int64} (e : gL h o ci k = some x) : gV h o ci k = some (.long x) := by
  unfold gL at e
  split at e
  · next y e1 => rw [e1, Option.some.inj e]
  · cases e
theorem gR_spec {h : mH} {o ci k : Nat} {x : Nat} (e : gR h o ci k = some x) : gV h o ci k = some (.ref x) := by
  unfold gR at e
  split at e
  · next y e1 => rw [e1, Option.some.inj e]
  · cases e
theorem pV_spec {h h2 : mH} {o ci k : Nat} {v : Value} (e : pV h o ci k v = some h2) : ∃ fs, h.2.2 o = .inr (ci, fs) ∧ k < fs.length ∧ h2 = mset h o (.inr (ci, fs.set k v)) := by
  unfold pV at e
  split at e
  · next c fs e1 =>
    split at e
    · next e2 => obtain ⟨rfl, e3⟩ := e2; exact ⟨fs, e1, e3, (Option.some.inj e).symm⟩
    · cases e
  · cases e
theorem aI_spec {h : mH} {t o : Nat} {i x : Int32} (e : aI h t o i = some x) : ∃ n f, h.2.2 o = .inl (t, n, .inl f) ∧ vp_in i n ∧ x = f i.toNatClampNeg := by
  unfold aI at e
  split at e
  · next t' n f e1 =>
    split at e
    · next e2 => obtain ⟨rfl, e3⟩ := e2; exact ⟨n, f, e1, e3, (Option.some.inj e).symm⟩
    · cases e
  · cases e
theorem sI_spec {h h2 : mH} {t o : Nat} {i x : Int32} (e : sI h t o i x = some h2) : ∃ n f, h.2.2 o = .inl (t, n, .inl f) ∧ vp_in i n ∧ h2 = mset h o (.inl (t, n, .inl (upd f i.toNatClampNeg x))) := by
  unfold sI at e
  split at e
  · next t' n f e1 =>
    split at e
    · next e2 => obtain ⟨rfl, e3⟩ := e2; exact ⟨n, f, e1, e3, (Option.some.inj e).symm⟩
    · cases e
  · cases e
theorem aL_spec {h : mH} {o : Nat} {i : Int32} {x : Int64} (e : aL h o i = some x) : ∃ n f, h.2.2 o = .inl (3, n, .inr (.inl f)) ∧ vp_in i n ∧ x = f i.toNatClampNeg := by
  unfold aL at e
  split at e
  · next t' n f e1 =>
    split at e
    · next e2 => obtain ⟨rfl, e3⟩ := e2; exact ⟨n, f, e1, e3, (Option.some.inj e).symm⟩
    · cases e
  · cases e
theorem sL_spec {h h2 : mH} {o : Nat} {i : Int32} {x : Int64} (e : sL h o i x = some h2) : ∃ n f, h.2.2 o = .inl (3, n, .inr (.inl f)) ∧ vp_in i n ∧ h2 = mset h o (.inl (3, n, .inr (.inl (vp_updL f i.toNatClampNeg x)))) := by
  unfold sL at e
  split at e
  · next t' n f e1 =>
    split at e
    · next e2 => obtain ⟨rfl, e3⟩ := e2; exact ⟨n, f, e1, e3, (Option.some.inj e).symm⟩
    · cases e
  · cases e
theorem aR_spec {h : mH} {t o : Nat} {i : Int32} {x : Nat} (e : aR h t o i = some x) : ∃ n f, h.2.2 o = .inl (t, n, .inr (.inr (.inr (.inr f)))) ∧ vp_in i n ∧ f i.toNatClampNeg = some x := by
  unfold aR at e
  split at e
  · next t' n f e1 =>
    split at e
    · next e2 => obtain ⟨rfl, e3⟩ := e2; exact ⟨n, f, e1, e3, e⟩
    · cases e
  · cases e
theorem sR_spec {h h2 : mH} {t o ci : Nat} {i : Int32} {v : Nat} (e : sR h t o ci i v = some h2) : ∃ n f fs, h.2.2 o = .inl (t, n, .inr (.inr (.inr (.inr f)))) ∧ h.2.2 v = .inr (ci, fs) ∧ h.2.2 v ≠ dead ∧ vp_in i n ∧ h2 = mset h o (.inl (t, n, .inr (.inr (.inr (.inr (va_up f i.toNatClampNeg (some v))))))) := by
  unfold sR at e
  split at e
  · next t' n f c x xs e1 e0 =>
    split at e
    · next e2 => obtain ⟨rfl, rfl, e3⟩ := e2; exact ⟨n, f, x :: xs, e1, e0, by rw [e0]; simp [dead], e3, (Option.some.inj e).symm⟩
    · cases e
  · cases e
theorem aN_spec {h : mH} {t o : Nat} {x : Int32} (e : aN h t o = some x) : ∃ a : vp_A, h.2.2 o = .inl (t, a) ∧ Int32.ofNat a.1 = x := by
  unfold aN at e
  split at e
  · next t' n b e1 =>
    split at e
    · next e2 => subst e2; exact ⟨(n, b), e1, Option.some.inj e⟩
    · cases e
  · cases e
section
variable {mL : Nat} {dC : Nat → ClassId} {dI : Nat → Nat → Nat} {dA : Nat → ClassId} {ad0 : Nat → Nat} {n0 s0 : Nat} {A : Nat → Prop} {s : State} {h : mH} {lv : List (Nat × Value)} {ad : Nat → Nat} {H : Heap} {locs : List Loc} {ls : Array Slot}
theorem Sr.live (S : Sr mL dC dI dA ad0 n0 s0 A s h lv ad H locs ls) {o : Nat} (ho : h.2.2 o ≠ dead) : o < h.1 := by
  rcases Nat.lt_or_ge o h.1 with q | q
  · exact q
  · exact absurd (S.2.2.2.2.2.2.2.2.1 o q) ho
theorem Sr.obj (S : Sr mL dC dI dA ad0 n0 s0 A s h lv ad H locs ls) {o ci : Nat} {fs : List Value} (e : h.2.2 o = .inr (ci, fs)) (hne : fs ≠ []) : (wl dA ad h)[o]? = some (ad o, .inr (ci, fs.map (cv ad))) := by
  rw [wl_at (S.live (by rw [e]; intro q; cases q; exact hne rfl)), e]
  rfl
theorem Sr.arr (S : Sr mL dC dI dA ad0 n0 s0 A s h lv ad H locs ls) {o t : Nat} {a : vp_A} (e : h.2.2 o = .inl (t, a)) : (wl dA ad h)[o]? = some (ad o, .inl (dA t, cA ad a)) := by
  rw [wl_at (S.live (by rw [e]; intro q; cases q)), e]
  rfl
theorem HW.set (w : HW h) {o : Nat} {c : mCell} (ho : o < h.1) (hc : ∀ j, hasRef c j → j < h.1) : HW (mset h o c) := by
  refine ⟨w.1, fun k hk => ?_, fun k j => ?_⟩
  · have hk2 : h.1 ≤ k := hk
    show va_up h.2.2 o c k = dead
    unfold va_up
    rw [if_neg (by omega)]
    exact w.2.1 k hk2
  · show hasRef (va_up h.2.2 o c k) j → j < h.1
    unfold va_up
    split
    · exact hc j
    · exact w.2.2 k j
theorem Sr.set (S : Sr mL dC dI dA ad0 n0 s0 A s h lv ad H locs ls) {o : Nat} {c : mCell} {H1 : Heap} {locs1 : List Loc} (ho : o < h.1) (hc : ∀ j, hasRef c j → j < h.1) (hP : va_P (dC, dI) mcls (wl dA ad (mset h o c)) H1) (hD : va_D A (wl dA ad (mset h o c))) (hS : va_S A s.heap H1 locs1) : Sr mL dC dI dA ad0 n0 s0 A s (mset h o c) lv ad H1 locs1 ls :=
  ⟨hP, hD, hS, S.2.2.2.1, S.2.2.2.2.1, S.2.2.2.2.2.1, S.2.2.2.2.2.2.1, S.2.2.2.2.2.2.2.set ho hc⟩
theorem hasRef_set (w : HW h) {o ci kk : Nat} {fs : List Value} {v : Value} (e : h.2.2 o = .inr (ci, fs)) (hv : ∀ j, v = .ref j → j < h.1) : ∀ j, hasRef (.inr (ci, fs.set kk v)) j → j < h.1 := by
  intro j hj
  rcases List.mem_or_eq_of_mem_set hj with q | q
  · exact w.2.2 o j (by rw [e]; exact q)
  · exact hv j q.symm
end
section
variable {sc : Nat × (Nat → Int32)} {y : MethodName} {cc : ByteArray} {mL : Nat} {ret : Option FieldType} {fr lo pc : Nat} {lv lv' : List (Nat × Value)} {stk : List Value} {h h' : mH} {r : Option Value}
theorem g_get {C : String} {T : u_T} {N index : Nat} {o kk ci : Nat} {v : Value} (hd : decode cc pc = .ok (.getfield index, 3)) (hc : mcls[ci]? = some (C, T, N)) (hin : ∀ w ∈ u_ws C T N, w ∈ tbg) (hk : kk < N) (hlink : Cond.fieldLink y.cls index (T kk).1 (T kk).2.1 (T kk).2.2.1 ∈ tbg) (hv : gV h o ci kk = some v)
    (k : G sc y cc mL ret fr lo (pc + 3) lv (v :: stk) h r h') : G sc y cc mL ret fr lo pc lv (.ref o :: stk) h r h' :=
  ⟨k.1, k.2.1, fun l p e R s m args below meth c dC dI dA ad0 n0 s0 A Qc C q f1 f2 f3 f4 ad H locs ls S => by
    obtain ⟨fs, e1, e2⟩ := gV_spec hv
    have he := S.obj e1 (by intro q; rw [q] at e2; cases e2)
    exact va_get (D := (dC, dI)) (tys := mtys dA) C.1 C.2.1 C.2.2.2.2.2.2.2.1 hin C.2.2.2.2.2.1 C.2.2.2.2.2.2.2.2.1 S.1 o he hc kk hk (C.2.2.2.2.2.2.2.1 _ hlink) (fun _ z => z) (v := cv ad v) (by rw [List.getElem?_map, e2]; rfl) hd (k.2.2 l p e R s m args below meth c dC dI dA ad0 n0 s0 A Qc C q f1 f2 f3 f4 ad H locs ls S)⟩
theorem map_set {α β : Type} (f : α → β) (l : List α) (k : Nat) (v : α) : (l.set k v).map f = (l.map f).set k (f v) := List.map_set
theorem g_put {C : String} {T : u_T} {N index : Nat} {o kk ci : Nat} {v : Value} {h2 : mH} (ty0 : Nat → FieldType) (hty : ∀ k, k < N → parseFieldDescriptor (T k).2.2.1 = some (ty0 k)) (hnm : ∀ a, a < N → ∀ b, b < N → a ≠ b → (T a).2.1 ≠ (T b).2.1) (hd : decode cc pc = .ok (.putfield index, 3)) (hc : mcls[ci]? = some (C, T, N)) (hin : ∀ w ∈ u_ws C T N, w ∈ tbg) (hk : kk < N) (hlink : Cond.fieldLink y.cls index (T kk).1 (T kk).2.1 (T kk).2.2.1 ∈ tbg) (hfin : (T kk).2.2.2 = false) (hn : ∀ ad, narrow (ty0 kk) (cv ad v) = cv ad v) (hf : ∀ ad, fits (ty0 kk) (cv ad v) = true) (hr : ∀ j, v = .ref j → j < h.1) (hv : pV h o ci kk v = some h2)
    (k : G sc y cc mL ret fr lo (pc + 3) lv stk h2 r h') : G sc y cc mL ret fr lo pc lv (v :: .ref o :: stk) h r h' := by
  obtain ⟨fs, e1, e2, rfl⟩ := pV_spec hv
  refine ⟨k.1, k.2.1, fun l p e R s m args below meth c dC dI dA ad0 n0 s0 A Qc C q f1 f2 f3 f4 ad H locs ls S => ?_⟩
  have hne : fs ≠ [] := by intro q; rw [q] at e2; simp at e2
  have he := S.obj e1 hne
  have ho : o < h.1 := S.live (by rw [e1]; intro q; cases q; exact hne rfl)
  refine va_put (D := (dC, dI)) (tys := mtys dA) C.1 C.2.1 C.2.2.2.2.2.2.2.1 hin ty0 hty hnm C.2.2.2.2.2.1 C.2.2.2.2.2.2.2.2.1 S.1 S.2.1 S.2.2.1 o he hc kk hk (C.2.2.2.2.2.2.2.1 _ hlink) (fun _ z => z) hfin (v := cv ad v) (hty kk hk) (hn ad) (hf ad) (by rw [List.length_map]; exact e2) hd (fun H1 locs1 hP hD hS => ?_)
  have ew : (wl dA ad h).set o (ad o, .inr (ci, (fs.map (cv ad)).set kk (cv ad v))) = wl dA ad (mset h o (.inr (ci, fs.set kk v))) := by
    rw [← map_set]
    exact wl_set (c := .inr (ci, fs.set kk v))
  rw [ew] at hP hD
  exact k.2.2 l p e R s m args below meth c dC dI dA ad0 n0 s0 A Qc C q f1 f2 f3 f4 ad H1 locs1 ls (S.set ho (hasRef_set S.2.2.2.2.2.2.2 e1 hr) hP hD hS)
theorem g_putF {C : String} {T : u_T} {N index : Nat} {o kk ci : Nat} {v : Value} {h2 : mH} (ty0 : Nat → FieldType) (hty : ∀ k, k < N → parseFieldDescriptor (T k).2.2.1 = some (ty0 k)) (hnm : ∀ a, a < N → ∀ b, b < N → a ≠ b → (T a).2.1 ≠ (T b).2.1) (hd : decode cc pc = .ok (.putfield index, 3)) (hc : mcls[ci]? = some (C, T, N)) (hin : ∀ w ∈ u_ws C T N, w ∈ tbg) (hk : kk < N) (hlink : Cond.fieldLink y.cls index (T kk).1 (T kk).2.1 (T kk).2.2.1 ∈ tbg) (hfin : (T kk).2.2.2 = true) (hy : y.name = "<init>") (hdecl : (T kk).1 = y.cls) (hn : ∀ ad, narrow (ty0 kk) (cv ad v) = cv ad v) (hf : ∀ ad, fits (ty0 kk) (cv ad v) = true) (hr : ∀ j, v = .ref j → j < h.1) (hv : pV h o ci kk v = some h2)
    (k : G sc y cc mL ret fr lo (pc + 3) lv stk h2 r h') : G sc y cc mL ret fr lo pc lv (v :: .ref o :: stk) h r h' := by
  obtain ⟨fs, e1, e2, rfl⟩ := pV_spec hv
  refine ⟨k.1, k.2.1, fun l p e R s m args below meth c dC dI dA ad0 n0 s0 A Qc C q f1 f2 f3 f4 ad H locs ls S => ?_⟩
  have hne : fs ≠ [] := by intro q; rw [q] at e2; simp at e2
  have he := S.obj e1 hne
  have ho : o < h.1 := S.live (by rw [e1]; intro q; cases q; exact hne rfl)
  refine va_putF (D := (dC, dI)) (tys := mtys dA) C.1 C.2.1 C.2.2.2.2.2.2.2.1 hin ty0 hty hnm C.2.2.2.2.2.1 C.2.2.2.2.2.2.2.2.1 S.1 S.2.1 S.2.2.1 o he hc kk hk (C.2.2.2.2.2.2.2.1 _ hlink) (fun _ z => z) hfin (C.2.2.2.2.2.2.1.trans hy) hdecl (v := cv ad v) (hty kk hk) (hn ad) (hf ad) (by rw [List.length_map]; exact e2) hd (fun H1 locs1 hP hD hS => ?_)
  have ew : (wl dA ad h).set o (ad o, .inr (ci, (fs.map (cv ad)).set kk (cv ad v))) = wl dA ad (mset h o (.inr (ci, fs.set kk v))) := by
    rw [← map_set]
    exact wl_set (c := .inr (ci, fs.set kk v))
  rw [ew] at hP hD
  exact k.2.2 l p e R s m args below meth c dC dI dA ad0 n0 s0 A Qc C q f1 f2 f3 f4 ad H1 locs1 ls (S.set ho (hasRef_set S.2.2.2.2.2.2.2 e1 hr) hP hD hS)
theorem g_iald {o : Nat} {i x : Int32} (hd : decode cc pc = .ok (.iaload, 1)) (hv : aI h 0 o i = some x) (k : G sc y cc mL ret fr lo (pc + 1) lv (.int x :: stk) h r h') : G sc y cc mL ret fr lo pc lv (.int i :: .ref o :: stk) h r h' := by
  obtain ⟨n, f, e1, e2, rfl⟩ := aI_spec hv
  exact ⟨k.1, k.2.1, fun l p e R s m args below meth c dC dI dA ad0 n0 s0 A Qc C q f1 f2 f3 f4 ad H locs ls S => va_iald (D := (dC, dI)) C.1 C.2.1 C.2.2.2.2.2.2.2.2.1 S.1 o 0 (S.arr e1) rfl e2 hd (k.2.2 l p e R s m args below meth c dC dI dA ad0 n0 s0 A Qc C q f1 f2 f3 f4 ad H locs ls S)⟩
theorem g_bald {o : Nat} {i x : Int32} (hd : decode cc pc = .ok (.baload, 1)) (hv : aI h 1 o i = some x) (k : G sc y cc mL ret fr lo (pc + 1) lv (.int x :: stk) h r h') : G sc y cc mL ret fr lo pc lv (.int i :: .ref o :: stk) h r h' := by
  obtain ⟨n, f, e1, e2, rfl⟩ := aI_spec hv
  exact ⟨k.1, k.2.1, fun l p e R s m args below meth c dC dI dA ad0 n0 s0 A Qc C q f1 f2 f3 f4 ad H locs ls S => va_bald (D := (dC, dI)) C.1 C.2.1 C.2.2.2.2.2.2.2.2.1 S.1 o 1 (S.arr e1) rfl e2 hd (k.2.2 l p e R s m args below meth c dC dI dA ad0 n0 s0 A Qc C q f1 f2 f3 f4 ad H locs ls S)⟩
theorem g_zald {o : Nat} {i x : Int32} (hd : decode cc pc = .ok (.baload, 1)) (hv : aI h 2 o i = some x) (k : G sc y cc mL ret fr lo (pc + 1) lv (.int x :: stk) h r h') : G sc y cc mL ret fr lo pc lv (.int i :: .ref o :: stk) h r h' := by
  obtain ⟨n, f, e1, e2, rfl⟩ := aI_spec hv
  exact ⟨k.1, k.2.1, fun l p e R s m args below meth c dC dI dA ad0 n0 s0 A Qc C q f1 f2 f3 f4 ad H locs ls S => va_zald (D := (dC, dI)) C.1 C.2.1 C.2.2.2.2.2.2.2.2.1 S.1 o 2 (S.arr e1) rfl e2 hd (k.2.2 l p e R s m args below meth c dC dI dA ad0 n0 s0 A Qc C q f1 f2 f3 f4 ad H locs ls S)⟩
theorem g_lald {o : Nat} {i : Int32} {x : Int64} (hd : decode cc pc = .ok (.laload, 1)) (hv : aL h o i = some x) (k : G sc y cc mL ret fr lo (pc + 1) lv (.long x :: stk) h r h') : G sc y cc mL ret fr lo pc lv (.int i :: .ref o :: stk) h r h' := by
  obtain ⟨n, f, e1, e2, rfl⟩ := aL_spec hv
  exact ⟨k.1, k.2.1, fun l p e R s m args below meth c dC dI dA ad0 n0 s0 A Qc C q f1 f2 f3 f4 ad H locs ls S => va_lald (D := (dC, dI)) C.1 C.2.1 C.2.2.2.2.2.2.2.2.1 S.1 o 3 (S.arr e1) rfl e2 hd (k.2.2 l p e R s m args below meth c dC dI dA ad0 n0 s0 A Qc C q f1 f2 f3 f4 ad H locs ls S)⟩
theorem g_aald {t o x : Nat} {i : Int32} (Cn : String) (hd : decode cc pc = .ok (.aaload, 1)) (ht : ∀ dA, (mtys dA)[t]? = some (dA t, .object Cn)) (hv : aR h t o i = some x) (k : G sc y cc mL ret fr lo (pc + 1) lv (.ref x :: stk) h r h') : G sc y cc mL ret fr lo pc lv (.int i :: .ref o :: stk) h r h' := by
  obtain ⟨n, f, e1, e2, e3⟩ := aR_spec hv
  exact ⟨k.1, k.2.1, fun l p e R s m args below meth c dC dI dA ad0 n0 s0 A Qc C q f1 f2 f3 f4 ad H locs ls S => va_aldq (D := (dC, dI)) C.1 C.2.1 C.2.2.2.2.2.2.2.2.1 S.1 o t (S.arr e1) (ht dA) e2 hd (by rw [e3]; exact k.2.2 l p e R s m args below meth c dC dI dA ad0 n0 s0 A Qc C q f1 f2 f3 f4 ad H locs ls S)⟩
theorem g_iast {o : Nat} {i x : Int32} {h2 : mH} (hd : decode cc pc = .ok (.iastore, 1)) (hv : sI h 0 o i x = some h2) (k : G sc y cc mL ret fr lo (pc + 1) lv stk h2 r h') : G sc y cc mL ret fr lo pc lv (.int x :: .int i :: .ref o :: stk) h r h' := by
  obtain ⟨n, f, e1, e2, rfl⟩ := sI_spec hv
  refine ⟨k.1, k.2.1, fun l p e R s m args below meth c dC dI dA ad0 n0 s0 A Qc C q f1 f2 f3 f4 ad H locs ls S => ?_⟩
  refine va_iast (D := (dC, dI)) C.1 C.2.1 C.2.2.2.2.2.2.2.2.1 S.1 S.2.1 S.2.2.1 o 0 (S.arr e1) rfl e2 hd (fun H1 locs1 hP hD hS => ?_)
  have ew := wl_set (dA := dA) (ad := ad) (h := h) (o := o) (c := .inl (0, n, .inl (upd f i.toNatClampNeg x)))
  exact k.2.2 l p e R s m args below meth c dC dI dA ad0 n0 s0 A Qc C q f1 f2 f3 f4 ad H1 locs1 ls (S.set (S.live (by rw [e1]; intro q; cases q)) (fun j z => absurd z id) (ew ▸ hP) (ew ▸ hD) hS)
theorem g_bast {o : Nat} {i x : Int32} {h2 : mH} (hd : decode cc pc = .ok (.bastore, 1)) (hv : sI h 1 o i (vp_nar .byte x) = some h2) (k : G sc y cc mL ret fr lo (pc + 1) lv stk h2 r h') : G sc y cc mL ret fr lo pc lv (.int x :: .int i :: .ref o :: stk) h r h' := by
  obtain ⟨n, f, e1, e2, rfl⟩ := sI_spec hv
  refine ⟨k.1, k.2.1, fun l p e R s m args below meth c dC dI dA ad0 n0 s0 A Qc C q f1 f2 f3 f4 ad H locs ls S => ?_⟩
  refine va_bast (D := (dC, dI)) C.1 C.2.1 C.2.2.2.2.2.2.2.2.1 S.1 S.2.1 S.2.2.1 o 1 (S.arr e1) rfl e2 hd (fun H1 locs1 hP hD hS => ?_)
  have ew := wl_set (dA := dA) (ad := ad) (h := h) (o := o) (c := .inl (1, n, .inl (upd f i.toNatClampNeg (vp_nar .byte x))))
  exact k.2.2 l p e R s m args below meth c dC dI dA ad0 n0 s0 A Qc C q f1 f2 f3 f4 ad H1 locs1 ls (S.set (S.live (by rw [e1]; intro q; cases q)) (fun j z => absurd z id) (ew ▸ hP) (ew ▸ hD) hS)
theorem g_zast {o : Nat} {i x : Int32} {h2 : mH} (hd : decode cc pc = .ok (.bastore, 1)) (hv : sI h 2 o i (vp_nar .boolean x) = some h2) (k : G sc y cc mL ret fr lo (pc + 1) lv stk h2 r h') : G sc y cc mL ret fr lo pc lv (.int x :: .int i :: .ref o :: stk) h r h' := by
  obtain ⟨n, f, e1, e2, rfl⟩ := sI_spec hv
  refine ⟨k.1, k.2.1, fun l p e R s m args below meth c dC dI dA ad0 n0 s0 A Qc C q f1 f2 f3 f4 ad H locs ls S => ?_⟩
  refine va_zast (D := (dC, dI)) C.1 C.2.1 C.2.2.2.2.2.2.2.2.1 S.1 S.2.1 S.2.2.1 o 2 (S.arr e1) rfl e2 hd (fun H1 locs1 hP hD hS => ?_)
  have ew := wl_set (dA := dA) (ad := ad) (h := h) (o := o) (c := .inl (2, n, .inl (upd f i.toNatClampNeg (vp_nar .boolean x))))
  exact k.2.2 l p e R s m args below meth c dC dI dA ad0 n0 s0 A Qc C q f1 f2 f3 f4 ad H1 locs1 ls (S.set (S.live (by rw [e1]; intro q; cases q)) (fun j z => absurd z id) (ew ▸ hP) (ew ▸ hD) hS)
theorem g_last {o : Nat} {i : Int32} {x : Int64} {h2 : mH} (hd : decode cc pc = .ok (.lastore, 1)) (hv : sL h o i x = some h2) (k : G sc y cc mL ret fr lo (pc + 1) lv stk h2 r h') : G sc y cc mL ret fr lo pc lv (.long x :: .int i :: .ref o :: stk) h r h' := by
  obtain ⟨n, f, e1, e2, rfl⟩ := sL_spec hv
  refine ⟨k.1, k.2.1, fun l p e R s m args below meth c dC dI dA ad0 n0 s0 A Qc C q f1 f2 f3 f4 ad H locs ls S => ?_⟩
  refine va_last (D := (dC, dI)) C.1 C.2.1 C.2.2.2.2.2.2.2.2.1 S.1 S.2.1 S.2.2.1 o 3 (S.arr e1) rfl e2 hd (fun H1 locs1 hP hD hS => ?_)
  have ew := wl_set (dA := dA) (ad := ad) (h := h) (o := o) (c := .inl (3, n, .inr (.inl (vp_updL f i.toNatClampNeg x))))
  exact k.2.2 l p e R s m args below meth c dC dI dA ad0 n0 s0 A Qc C q f1 f2 f3 f4 ad H1 locs1 ls (S.set (S.live (by rw [e1]; intro q; cases q)) (fun j z => absurd z id) (ew ▸ hP) (ew ▸ hD) hS)
theorem g_alen {t o : Nat} {x : Int32} (ty : FieldType) (hd : decode cc pc = .ok (.arraylength, 1)) (ht : ∀ dA, (mtys dA)[t]? = some (dA t, ty)) (hv : aN h t o = some x) (k : G sc y cc mL ret fr lo (pc + 1) lv (.int x :: stk) h r h') : G sc y cc mL ret fr lo pc lv (.ref o :: stk) h r h' := by
  obtain ⟨a, e1, e2⟩ := aN_spec hv
  have e3 : ∀ ad, (cA ad a).1 = a.1 := by intro ad; unfold cA; split <;> rfl
  exact ⟨k.1, k.2.1, fun l p e R s m args below meth c dC dI dA ad0 n0 s0 A Qc C q f1 f2 f3 f4 ad H locs ls S => va_alen (D := (dC, dI)) C.1 C.2.1 C.2.2.2.2.2.2.2.2.1 S.1 o t (S.arr e1) (ht dA) (by rw [e3, e2]) hd (k.2.2 l p e R s m args below meth c dC dI dA ad0 n0 s0 A Qc C q f1 f2 f3 f4 ad H locs ls S)⟩
theorem g_iret {x : Int32} (hr : ret = some .int) (hd : decode cc pc = .ok (.ireturn, 1)) : G sc y cc mL ret fr lo pc lv [.int x] h (some (.int x)) h :=
  ⟨nle_rf, nle_rf, fun l p e R s m args below meth c dC dI dA ad0 n0 s0 A Qc C q f1 f2 f3 f4 ad H locs ls S => W.iret C.1 C.2.1 (C.2.2.1.trans hr) (fun t ht hW => q ad H locs t S.1 S.2.1 S.2.2.1 S.2.2.2.2.1 S.2.2.2.2.2.2.2 ht hW) S.2.2.1.2.2 hd C.2.2.2.2.1⟩
theorem g_zret {x : Int32} {ty : FieldType} (hr : ret = some ty) (hn : narrow ty (.int x) = .int x) (hd : decode cc pc = .ok (.ireturn, 1)) : G sc y cc mL ret fr lo pc lv [.int x] h (some (.int x)) h :=
  ⟨nle_rf, nle_rf, fun l p e R s m args below meth c dC dI dA ad0 n0 s0 A Qc C q f1 f2 f3 f4 ad H locs ls S => W.zret C.1 C.2.1 (C.2.2.1.trans hr) hn (fun t ht hW => q ad H locs t S.1 S.2.1 S.2.2.1 S.2.2.2.2.1 S.2.2.2.2.2.2.2 ht hW) S.2.2.1.2.2 hd C.2.2.2.2.1⟩
theorem g_lret {x : Int64} (hr : ret = some .long) (hd : decode cc pc = .ok (.lreturn, 1)) : G sc y cc mL ret fr lo pc lv [.long x] h (some (.long x)) h :=
  ⟨nle_rf, nle_rf, fun l p e R s m args below meth c dC dI dA ad0 n0 s0 A Qc C q f1 f2 f3 f4 ad H locs ls S => W.lret C.1 C.2.1 (C.2.2.1.trans hr) (fun t ht hW => q ad H locs t S.1 S.2.1 S.2.2.1 S.2.2.2.2.1 S.2.2.2.2.2.2.2 ht hW) S.2.2.1.2.2 hd C.2.2.2.2.1⟩
theorem g_vret (hr : ret = none) (hd : decode cc pc = .ok (.return_, 1)) : G sc y cc mL ret fr lo pc lv [] h none h :=
  ⟨nle_rf, nle_rf, fun l p e R s m args below meth c dC dI dA ad0 n0 s0 A Qc C q f1 f2 f3 f4 ad H locs ls S => W.vret C.1 C.2.1 (C.2.2.1.trans hr) (fun t ht hW => q ad H locs t S.1 S.2.1 S.2.2.1 S.2.2.2.2.1 S.2.2.2.2.2.2.2 ht hW) S.2.2.1.2.2 hd C.2.2.2.2.1⟩
end
