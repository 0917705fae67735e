/-! THE LAW'S ENTRY. The first rows and the last are the kit's skeleton. -/
def R_law : String := "QuotaLawsLaw"
def lw_P (b : Addr) (xs : List Int32) (args : Array Value) (s : State) : Prop := args = #[.ref b] ∧ s.IntsAt b xs ∧ xs.length ≤ 320 ∧ (Jvm.Cond.and given_1 narrow_1).before args s = true
def lw_Q (_ : Array Value) (s : State) (o : Outcome) (t : State) : Prop := o = .returned (some (.int 1)) ∧ Framed s o t [] 600000 7302250
def lw_Z (below : List Frame) (a : Array Value) (s : State) : State → Prop := fun t => ∃ o, t.status = .running ∧ Ended t below o ∧ lw_Q a s o t
/-- what holds at the law's entry: the machine, the code, the tables' words (any of lw_tbl by 'hts w (by decide +kernel)'), the script of L ints xs at the cell b, what the Statement gives of the start (any of its parts by flat_of_before) -/
def lw_At (p : Program) (s : State) (m : MethodId) (meth : Method) (c : Code) (b L : Nat) (xs : Nat → Int32) : Prop :=
  p.tables.exec = Jvm.exec ∧ c.code = code ∧ meth.sig.returnType = ret ∧ c.maxLocals = 4 ∧ s.vm.findClass R_law = some m.cls ∧ (∀ w ∈ lw_tbl, w.before #[Value.ref b] s = true) ∧ va_X b L xs s s.heap ∧ b < s.heap.size ∧ meth.locks = false ∧ (Jvm.Cond.and given_1 narrow_1).before #[Value.ref b] s = true ∧ meth.name = "law"
theorem arr_known {s : State} {args : Array Value} {ty : FieldType} (h : (Cond.arrayClass ty).before args s = true) : ∃ cA : ClassId, ArrOfT s cA ty ∧ s.vm.findClass ("[" ++ ty.toString) = some cA := by
  obtain ⟨cA, kA, comp, h1, h2, h3⟩ := Cond.arrayClass_spec h
  exact ⟨cA, fun n z => ⟨fun k h => (by cases h), kA, h2, comp, h3⟩, h1⟩
theorem arr_over {s : State} {C : String} (h : va_AO C s) : ∃ cA : ClassId, ArrOfT s cA (.object C) ∧ va_RA s cA (.object C) := by
  obtain ⟨comp, c, k, h1, h2, h3, h4, h5⟩ := Cond.arrayOver_spec h
  exact ⟨c, fun n z => ⟨fun k h => (by cases h), k, h3, comp, h4⟩, k, comp, h3, h4, h1, h5⟩
def strT (i : Nat) : Term := .string "QuotaLaws$Reader" ([54, 67, 75, 80].getD i 0)
set_option maxRecDepth 100000 in
theorem str_start {b : Nat} {s : State} {A : Nat → Prop} (hg : (Jvm.Cond.and given_1 narrow_1).before #[Value.ref b] s = true) (hA : ∀ a : Nat, a < s.heap.size → ¬ A a) : ∃ adK adV : Nat → Nat, vk_S strK.length strL strB adK adV A s s.heap ∧ ∀ i : Nat, i < strK.length → (strT i).eval #[Value.ref b] s none [] s = some (.ref (adK i)) := by
  have hs := flat_of_before _ hg
  refine vk_Sof (args := #[Value.ref b]) (N := 4) (tm := strT) (len := strL) (byt := strB) ?_ ?_ ?_ ?_ ?_ ?_ ?_ hA
  · intro i hi; rcases (show i = 0 ∨ i = 1 ∨ i = 2 ∨ i = 3 by omega) with rfl | rfl | rfl | rfl <;> decide
  · intro i hi; rcases (show i = 0 ∨ i = 1 ∨ i = 2 ∨ i = 3 by omega) with rfl | rfl | rfl | rfl <;> exact hs _ (by decide +kernel)
  · intro i hi; rcases (show i = 0 ∨ i = 1 ∨ i = 2 ∨ i = 3 by omega) with rfl | rfl | rfl | rfl <;> exact hs _ (by decide +kernel)
  · intro i hi; rcases (show i = 0 ∨ i = 1 ∨ i = 2 ∨ i = 3 by omega) with rfl | rfl | rfl | rfl <;> exact hs _ (by decide +kernel)
  · intro i hi; rcases (show i = 0 ∨ i = 1 ∨ i = 2 ∨ i = 3 by omega) with rfl | rfl | rfl | rfl <;> exact hs _ (by decide +kernel)
  · intro i hi
    rcases (show i = 0 ∨ i = 1 ∨ i = 2 ∨ i = 3 by omega) with rfl | rfl | rfl | rfl
    · intro j (hj : j < 3); rcases (show j = 0 ∨ j = 1 ∨ j = 2 by omega) with rfl | rfl | rfl <;> exact hs _ (by decide +kernel)
    · intro j (hj : j < 3); rcases (show j = 0 ∨ j = 1 ∨ j = 2 by omega) with rfl | rfl | rfl <;> exact hs _ (by decide +kernel)
    · intro j (hj : j < 4); rcases (show j = 0 ∨ j = 1 ∨ j = 2 ∨ j = 3 by omega) with rfl | rfl | rfl | rfl <;> exact hs _ (by decide +kernel)
    · intro j (hj : j < 5); rcases (show j = 0 ∨ j = 1 ∨ j = 2 ∨ j = 3 ∨ j = 4 by omega) with rfl | rfl | rfl | rfl | rfl <;> exact hs _ (by decide +kernel)
  · intro i j hi hj hij
    rcases (show i = 0 ∨ i = 1 ∨ i = 2 ∨ i = 3 by omega) with rfl | rfl | rfl | rfl <;> rcases (show j = 0 ∨ j = 1 ∨ j = 2 ∨ j = 3 by omega) with rfl | rfl | rfl | rfl <;> first | exact absurd rfl hij | exact Or.inl (hs _ (by decide +kernel)) | exact Or.inr (hs _ (by decide +kernel))
set_option maxRecDepth 100000 in
theorem EX_start {b L : Nat} {xs : Nat → Int32} {s : State} (hts : ∀ w ∈ lw_tbl, w.before #[Value.ref b] s = true) (hg : (Jvm.Cond.and given_1 narrow_1).before #[Value.ref b] s = true) (hX : va_X b L xs s s.heap) (hbl : b < s.heap.size) : ∃ ad : Nat → Nat, EX (L, xs) ad (fun q => s.heap.size ≤ q) s ∧ ad 1300 = b := by
  have hA : ∀ a : Nat, a < s.heap.size → ¬ (fun q => s.heap.size ≤ q) a := fun a h => Nat.not_le.mpr h
  have hs := flat_of_before _ hg
  obtain ⟨adK, adV, hS, hT⟩ := str_start hg hA
  have hZ : va_Z "java/lang/String" "COMPACT_STRINGS" "Z" (.int 1) (fun q => s.heap.size ≤ q) s s.heap := va_Zof (args := #[Value.ref b]) (hts _ (lw_c2 155 (by decide +kernel))) (hts _ (lw_c1 11 (by decide +kernel))) (va_eqt (hs _ (by decide +kernel))) hA
  have hF : va_Zq "jdk/internal/util/Preconditions" "SIOOBE_FORMATTER" "Ljava/util/function/BiFunction;" (fun q => s.heap.size ≤ q) s s.heap := va_Zqof (args := #[Value.ref b]) (hts _ (lw_c2 171 (by decide +kernel))) (hts _ (lw_c1 13 (by decide +kernel))) (hs _ (by decide +kernel)) hA
  obtain ⟨ft, hft⟩ : ∃ ft : Nat, va_Z "jdk/internal/util/Preconditions" "SIOOBE_FORMATTER" "Ljava/util/function/BiFunction;" .null (fun q => s.heap.size ≤ q) s s.heap ∨ va_Z "jdk/internal/util/Preconditions" "SIOOBE_FORMATTER" "Ljava/util/function/BiFunction;" (.ref ft) (fun q => s.heap.size ≤ q) s s.heap := by
    rcases hF with z | ⟨t, z⟩
    · exact ⟨0, Or.inl z⟩
    · exact ⟨t, Or.inr z⟩
  refine ⟨fun k => if k = 1300 then b else if k = 1200 then ft else if k < 1100 then adK (k - 1000) else adV (k - 1100), ⟨fun w hw => ?_, fun i q hq => ?_, ?_, hZ, hft, ?_, hX, hA b hbl⟩, rfl⟩
  · exact va_Nw.of (nest_on (List.mem_filter.mp hw).2) (hts w (List.mem_filter.mp hw).1)
  · have hi : i < 4 := (List.getElem?_eq_some_iff.mp hq).1
    rcases (show i = 0 ∨ i = 1 ∨ i = 2 ∨ i = 3 by omega) with rfl | rfl | rfl | rfl
    · cases hq; exact vk_R.of (A := #[Value.ref b]) (hts _ (lw_c2 141 (by decide +kernel))) (hT 0 (by decide))
    · cases hq; exact vk_R.of (A := #[Value.ref b]) (hts _ (lw_c2 219 (by decide +kernel))) (hT 1 (by decide))
    · cases hq; exact vk_R.of (A := #[Value.ref b]) (hts _ (lw_c2 231 (by decide +kernel))) (hT 2 (by decide))
    · cases hq; exact vk_R.of (A := #[Value.ref b]) (hts _ (lw_c2 236 (by decide +kernel))) (hT 3 (by decide))
  · have e1 : (fun i => (fun k => if k = 1300 then b else if k = 1200 then ft else if k < 1100 then adK (k - 1000) else adV (k - 1100)) (1000 + i)) = fun i => if i < 100 then adK i else if i = 300 then b else if i = 200 then ft else adV (i - 100) := by
      funext i; dsimp only; split <;> (try split) <;> (try split) <;> (try split) <;> (try split) <;> (try split) <;> first | omega | exact congrArg adV (by omega) | exact congrArg adK (by omega) | rfl | (congr 1; omega)
    have e2 : (fun i => (fun k => if k = 1300 then b else if k = 1200 then ft else if k < 1100 then adK (k - 1000) else adV (k - 1100)) (1100 + i)) = fun i => if i = 200 then b else if i = 100 then ft else adV i := by
      funext i; dsimp only; split <;> (try split) <;> (try split) <;> (try split) <;> (try split) <;> first | omega | exact congrArg adV (by omega) | exact congrArg adK (by omega) | rfl | (congr 1; omega)
    rw [e1, e2]
    refine ⟨fun i hi => ?_, fun i j hi hj e => ?_⟩
    · have hi2 : i < 4 := hi
      have h1 := hS.1 i hi
      dsimp only
      rw [if_pos (show i < 100 by omega), if_neg (show ¬ i = 200 by omega), if_neg (show ¬ i = 100 by omega)]
      exact h1
    · have hi2 : i < 4 := hi
      have hj2 : j < 4 := hj
      dsimp only at e
      rw [if_pos (show i < 100 by omega), if_pos (show j < 100 by omega)] at e
      exact hS.2 i j hi hj e
  · intro C hC
    rcases (show C = "QuotaLaws$Realm" ∨ C = "QuotaLaws$Sheet" by simpa [overs] using hC) with rfl | rfl
    · exact va_AO.of (hts _ (lw_c1 195 (by decide +kernel)))
    · exact va_AO.of (hts _ (lw_c1 197 (by decide +kernel)))
set_option maxRecDepth 100000 in
theorem K_start {b : Nat} {s : State} (hts : ∀ w ∈ lw_tbl, w.before #[Value.ref b] s = true) : ∃ (dC : Nat → ClassId) (dI : Nat → Nat → Nat) (dA : Nat → ClassId), va_K (dC, dI) mcls (mtys dA) s := by
  have htg : ∀ w ∈ tbg, w.before #[Value.ref b] s = true := fun w hw => hts w (List.mem_filter.mp hw).1
  obtain ⟨c0, i0, k0⟩ := u_known (C := "QuotaLaws") (T := T_Q) (N := 10) (n := 10) htg in_Q (htg _ wd_19)
  obtain ⟨c1, i1, k1⟩ := u_known (C := "QuotaLaws$Odds") (T := T_Odds) (N := 3) (n := 3) htg in_Odds (htg _ wd_263)
  obtain ⟨c2, i2, k2⟩ := u_known (C := "QuotaLaws$Planner") (T := T_Planner) (N := 8) (n := 8) htg in_Planner (htg _ wd_199)
  obtain ⟨c3, i3, k3⟩ := u_known (C := "QuotaLaws$Reader") (T := T_Reader) (N := 9) (n := 9) htg in_Reader (htg _ wd_27)
  obtain ⟨c4, i4, k4⟩ := u_known (C := "QuotaLaws$Realm") (T := T_Realm) (N := 19) (n := 19) htg in_Realm (htg _ wd_66)
  obtain ⟨c5, i5, k5⟩ := u_known (C := "QuotaLaws$Sheet") (T := T_Sheet) (N := 3) (n := 3) htg in_Sheet (htg _ wd_280)
  obtain ⟨c6, i6, k6⟩ := u_known (C := "QuotaLaws$Sightings") (T := T_Sightings) (N := 4) (n := 4) htg in_Sightings (htg _ wd_72)
  obtain ⟨c7, i7, k7⟩ := u_known (C := "QuotaLaws$Tables") (T := T_Tables) (N := 8) (n := 8) htg in_Tables (htg _ wd_231)
  obtain ⟨c8, i8, k8⟩ := u_known (C := "QuotaLawsModel") (T := T_M) (N := 39) (n := 39) htg in_M (htg _ wd_925)
  obtain ⟨a0, p0, r0⟩ := arr_known (ty := .int) (hts _ (lw_c1 92 (by decide +kernel)))
  obtain ⟨a1, p1, r1⟩ := arr_known (ty := .byte) (hts _ (lw_c1 64 (by decide +kernel)))
  obtain ⟨a2, p2, r2⟩ := arr_known (ty := .boolean) (hts _ (lw_c1 229 (by decide +kernel)))
  obtain ⟨a3, p3, r3⟩ := arr_known (ty := .long) (hts _ (lw_c2 21 (by decide +kernel)))
  obtain ⟨a4, p4, r4⟩ := arr_over (C := "QuotaLaws$Realm") (va_AO.of (hts _ (lw_c1 195 (by decide +kernel))))
  obtain ⟨a5, p5, r5⟩ := arr_over (C := "QuotaLaws$Sheet") (va_AO.of (hts _ (lw_c1 197 (by decide +kernel))))
  refine ⟨fun k => [c0, c1, c2, c3, c4, c5, c6, c7, c8].getD k c0, fun k => [i0, i1, i2, i3, i4, i5, i6, i7, i8].getD k i0, fun k => [a0, a1, a2, a3, a4, a5].getD k a0, fun k q hq => ?_, fun k q hq => ?_⟩
  · have hk : k < 9 := (List.getElem?_eq_some_iff.mp hq).1
    rcases (show k = 0 ∨ k = 1 ∨ k = 2 ∨ k = 3 ∨ k = 4 ∨ k = 5 ∨ k = 6 ∨ k = 7 ∨ k = 8 by omega) with rfl | rfl | rfl | rfl | rfl | rfl | rfl | rfl | rfl
    · cases hq; exact k0
    · cases hq; exact k1
    · cases hq; exact k2
    · cases hq; exact k3
    · cases hq; exact k4
    · cases hq; exact k5
    · cases hq; exact k6
    · cases hq; exact k7
    · cases hq; exact k8
  · have hk : k < 6 := (List.getElem?_eq_some_iff.mp hq).1
    rcases (show k = 0 ∨ k = 1 ∨ k = 2 ∨ k = 3 ∨ k = 4 ∨ k = 5 by omega) with rfl | rfl | rfl | rfl | rfl | rfl
    · cases hq; exact ⟨p0, r0⟩
    · cases hq; exact ⟨p1, r1⟩
    · cases hq; exact ⟨p2, r2⟩
    · cases hq; exact ⟨p3, r3⟩
    · cases hq; exact ⟨p4, r4⟩
    · cases hq; exact ⟨p5, r5⟩
/-- nothing old was written -/
theorem end_of {s t : State} {o : Outcome} {L : List Loc} {k n : Nat} (h : FrameEnd s o t L k n) (hL : ∀ q ∈ L, s.heap.size ≤ q.base) (hk : k ≤ 600000) (hn : n ≤ 7302250) : Framed s o t [] 600000 7302250 := by
  obtain ⟨h1, h2, h3⟩ := h
  refine ⟨h1, h2, ?_⟩
  have h4 := h3.mono hk hn
  obtain ⟨g1, g2, g3, g4, g5, g6⟩ := h4
  refine ⟨g1, g2, g3, g4, g5, fun a c hc => ?_⟩
  obtain ⟨c', z1, z2, z3, z4⟩ := g6 a c hc
  refine ⟨c', z1, z2, z3, fun i _ => z4 i (fun hm => ?_)⟩
  have := hL _ hm
  have ha : a < s.heap.size := (Array.getElem?_eq_some_iff.mp hc).1
  exact absurd ha (Nat.not_lt.mpr this)
/-- the cells at the law's entry: none -/
def h00 : mH := (0, 0, fun _ => dead)
/-- the claim, as said of the functions -/
def FunClaim : Prop := ∀ sc : Nat × (Nat → Int32), sc.1 ≤ 320 → ∃ h' : mH, f_QuotaLawsLaw_law sc h00 = some (1, h') ∧ h'.1 ≤ 600000 ∧ h'.2.1 ≤ 7302250
theorem start_of (hfun : FunClaim) {p : Program} {e : Env} {s : State} {m : MethodId} {below : List Frame} {meth : Method} {c : Code} (l : Launch) {b L : Nat} {xs : Nat → Int32} (hL : L ≤ 320) (C0 : lw_At p s m meth c b L xs) : W p l e room_1 s m #[Value.ref b] below meth c s.heap [] 0 0 (lw_Z below #[Value.ref b] s) (entryFrame m ([Value.ref b] : List Value).toArray 4) := by
  obtain ⟨hx, hb, hr, hml, hown, hts, hX, hbl, hlocks, hgv, hnm⟩ := id C0
  obtain ⟨ad, hE, had⟩ := EX_start hts hgv hX hbl
  obtain ⟨dC, dI, dA, hK⟩ := K_start hts
  obtain ⟨h', hf, hc1, hc2⟩ := hfun (L, xs) hL
  have hG := t_QuotaLawsLaw_law_0 (sc := (L, xs)) _ _ _ hf
  have hl := lv_entry ([.ref b]) (n := 4) (Nat.le_of_ble_eq_true rfl)
  rw [lg_entry_eq]
  generalize (lg_sl ([.ref b]) ++ List.replicate (4 - (lg_sl ([.ref b])).length) Slot.unset).toArray = ls at hl ⊢
  have hl2 : lv_has ls 4 ([(0, Value.ref 1300)].map (cq ad)) := by
    show lv_has ls 4 [(0, .ref (ad 1300))]
    rw [had]
    exact hl
  have key := hG.2.2 l p e room_1 s m #[Value.ref b] below meth c dC dI dA ad 0 0 (fun q => s.heap.size ≤ q) (fun _ _ o _ => o = .returned (some (.int 1)))
    ⟨hx, hb, hr, hml, hlocks, hown, hnm, fun w hw => hts w (List.mem_filter.mp hw).1, hK, hE, fun _ h => h⟩ (fun _ _ _ _ _ _ _ _ _ _ _ => rfl) (by decide) (by decide) hc1 hc2 ad s.heap [] ls
    ⟨fun k q h => by simp [wl, h00] at h, ⟨fun i j p q h => by simp [wl, h00] at h, fun k q h => by simp [wl, h00] at h⟩, va_S.rf, hl2, fun _ _ => rfl, Nat.le_refl _, Nat.le_refl _, ⟨by decide, fun _ _ => rfl, fun k j h => by cases h⟩⟩
  intro T hT X
  obtain ⟨t, a1, o, b1, b2, b3, LL, b4, b5⟩ := key T hT X
  exact ⟨t, a1, o, b1, b2, b3, end_of b4 b5 hc1 hc2⟩
