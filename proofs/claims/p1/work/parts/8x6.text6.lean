/-! want, watch, the words of the lines, a line -/
section
variable {K : Tp} {σ : Rho} {v : Nat → Nat → Int32} {w : Nat → Nat → Int64} {P : Nat}
theorem CS_addW {p m : Nat} (hs : CS σ v) : CS (addW σ p m) (u2 v 31 p (nI (σ 11 p ||| 2 ^ m))) := by
  obtain ⟨⟨a1, a2, a3, a4, a5, a6, a7⟩, b, c', d, e⟩ := hs
  unfold CS addW
  simp [u2_ap, up2_ap, a1, a2, a3, a4, a5, a6, a7]
  refine ⟨b, c', fun l hl => ?_, e⟩
  by_cases z : l = p
  · have := d l hl
    rw [z] at this
    simp [z, this]
  · have := d l hl
    simp [z, this]
theorem CS_addH {m : Nat} (hs : CS σ v) : CS (addH σ m) (u2 v 20 5 (nI (σ 0 5 ||| 2 ^ m))) := by
  obtain ⟨⟨a1, a2, a3, a4, a5, a6, a7⟩, b, c', d, e⟩ := hs
  unfold CS addH
  simp [u2_ap, up2_ap, a1, a2, a3, a4, a5, a7]
  exact ⟨b, c', d, e⟩
theorem FrR.fl {v1 : Nat → Nat → Int32} (h : FrR v v1) : FrL v v1 := ⟨fun q h1 _ => h.1 q h1, h.2.1, h.2.2⟩
theorem FrL.nm {v1 v2 : Nat → Nat → Int32} (h : FrL v v1) (g : FrR v1 v2) : FrL v v2 := ⟨fun q h1 h2 => (g.1 q h1).trans (h.1 q h1 h2), g.2.1.trans h.2.1, g.2.2.trans h.2.2⟩
theorem FrL.wr {v1 : Nat → Nat → Int32} {o k : Nat} {x : Int32} (h : FrL v v1) (ho : 20 ≤ o ∧ o < 37) : FrL v (u2 v1 o k x) := ⟨fun q h1 h2 => (u2_o (by omega)).trans (h.1 q h1 h2), (congrFun (u2_o (by omega)) 1).trans h.2.1, (congrFun (u2_o (by omega)) 4).trans h.2.2⟩
theorem C_takeWant (hR : Rdy K P v) (hP : P ≤ K.1) (hs : CS σ v) (hI : SI σ) : ∃ r v', f_Reader_takeWant 1 20 (bh v w) = some (r, bh v' w) ∧ FrL v v' ∧ CX (sWant K σ P) (fun x v' => v' 1 5 = nI x.2 ∧ CS x.1 v') r v' := by
  unfold f_Reader_takeWant f_Reader_takeWant_0 f_Reader_takeWant_55 sWant
  simp only [hT0, bd1_q]
  obtain ⟨r1, v1, e1, f1, x1⟩ := C_takeNumber (w := w) (lo := 0) (hi := 2) hR.1 hR.2.1 hR.2.2 hP (by decide) (by decide)
  have e1 : f_Reader_takeNumber 1 (0 : Int32) (2 : Int32) (bh v w) = some (r1, bh v1 w) := e1
  rw [e1, bd2_s]
  have T1 := hR.1.fR f1
  clear e1
  generalize sNum K 0 2 P = X1 at x1 ⊢
  cases X1 with
  | inl g =>
    obtain ⟨rfl, a, b⟩ := x1
    rw [if_pos rfl]
    exact ⟨0, v1, rfl, f1.fl, rfl, a, b⟩
  | inr p =>
  obtain ⟨rfl, a2, tk1, a8, -, hp⟩ := x1
  rw [if_neg (by decide), sb_r]
  simp only [hT0, bd1_q]
  have hP1 := (eN_b hP).2.1
  obtain ⟨r2, v2, e2, f2, x2⟩ := C_takeNumber (w := w) (lo := 0) (hi := 4) T1 a2 tk1.1 hP1 (by decide) (by decide)
  have e2 : f_Reader_takeNumber 1 (0 : Int32) (4 : Int32) (bh v1 w) = some (r2, bh v2 w) := e2
  rw [e2, bd2_s, a8]
  have T2 := T1.fR f2
  have F2 := f1.fl.nm f2
  clear e2
  generalize sNum K 0 4 (eN K P) = X2 at x2 ⊢
  cases X2 with
  | inl g =>
    obtain ⟨rfl, a, b⟩ := x2
    rw [if_pos rfl]
    exact ⟨0, v2, rfl, F2, rfl, a, b⟩
  | inr m =>
  obtain ⟨rfl, b2, tk2, b8, -, hm⟩ := x2
  rw [if_neg (by decide), sb_r]
  simp only [hU0, hT0, bd1_q]
  have d := hs.2.2.2.1 p (by omega)
  have dI := hI.2.2.2.1 p (by omega)
  have q31 : v2 31 = v 31 := (f2.1 31 (by decide)).trans (f1.1 31 (by decide))
  obtain ⟨g1, g2⟩ := C_addLaw (w := w) (v := v2) (q := 31) (p := p) (R := σ 11 p) (m := m) (s := sT K (eN K P)) (Or.inr rfl) (by omega) ((congrFun q31 p).trans d.2) dI.2.1 b8 hm tk2.2.2.1
  rcases bit_01 (σ 11 p) m with b | b
  · rw [g2 b, bd2_s, if_neg (by decide), if_neg (by omega)]
    simp only [hT0, bd1_q]
    have R3 : Rdy K (eN K (eN K P)) (u2 v2 31 p (nI (σ 11 p ||| 2 ^ m))) := Rdy.wr ⟨T2, b2, tk2.1⟩ (by decide) (by decide)
    have hP2 := (eN_b hP1).2.1
    obtain ⟨r4, v4, e4, f4, x4⟩ := C_takeToken (w := w) R3.1 R3.2.1 R3.2.2 hP2
    rw [e4, bd2_s]
    have F4 := (F2.wr (o := 31) (k := p) (x := nI (σ 11 p ||| 2 ^ m)) (by omega)).nm f4
    clear e4
    generalize tokX K (eN K (eN K P)) = X4 at x4 ⊢
    cases X4 with
    | inl g =>
      obtain ⟨rfl, a, b⟩ := x4
      rw [if_pos rfl]
      exact ⟨0, v4, rfl, F4, rfl, a, b⟩
    | inr u =>
    obtain ⟨rfl, c2, tk4⟩ := x4
    rw [if_neg (by decide), sb_r]
    simp only [hT0, bd1_q]
    obtain ⟨r5, v5, e5, f5, x5⟩ := C_isStop (w := w) tk4 c2
    rw [e5, bd2_s]
    unfold sFin
    clear e5
    generalize sStp K (eN K (eN K P)) = X5 at x5 ⊢
    cases X5 with
    | inl g =>
      obtain ⟨rfl, a, b⟩ := x5
      rw [if_pos rfl]
      exact ⟨0, v5, rfl, F4.nm f5, rfl, a, b⟩
    | inr u =>
      obtain ⟨rfl, d2, d5⟩ := x5
      rw [if_neg (by decide)]
      refine ⟨1, v5, rfl, F4.nm f5, rfl, d2, d5, CS.of (CS_addW (m := m) (p := p) hs) (fun q hq => ?_)⟩
      rw [f5.1 q hq, f4.1 q hq]
      exact u2_cg ((f2.1 q hq).trans (f1.1 q hq))
  · obtain ⟨v7, e7, f7, b1, b3⟩ := g1 b
    rw [e7, bd2_s, if_pos rfl, if_pos b]
    exact ⟨0, v7, rfl, F2.nm f7, rfl, b1, b3⟩
theorem C_takeWatch (hR : Rdy K P v) (hP : P ≤ K.1) (hs : CS σ v) (hI : SI σ) : ∃ r v', f_Reader_takeWatch 1 20 (bh v w) = some (r, bh v' w) ∧ FrL v v' ∧ CX (sWatch K σ P) (fun x v' => v' 1 5 = nI x.2 ∧ CS x.1 v') r v' := by
  have hw := hI.1.2.2.2.2.1
  unfold f_Reader_takeWatch f_Reader_takeWatch_0 f_Reader_takeWatch_68 sWatch
  simp only [hT0, bd1_q]
  obtain ⟨r2, v2, e2, f2, x2⟩ := C_takeNumber (w := w) (lo := 0) (hi := 4) hR.1 hR.2.1 hR.2.2 hP (by decide) (by decide)
  have e2 : f_Reader_takeNumber 1 (0 : Int32) (4 : Int32) (bh v w) = some (r2, bh v2 w) := e2
  rw [e2, bd2_s]
  have T2 := hR.1.fR f2
  have F2 := f2.fl
  clear e2
  generalize sNum K 0 4 P = X2 at x2 ⊢
  cases X2 with
  | inl g =>
    obtain ⟨rfl, a, b⟩ := x2
    rw [if_pos rfl]
    exact ⟨0, v2, rfl, F2, rfl, a, b⟩
  | inr m =>
  obtain ⟨rfl, b2, tk2, b8, -, hm⟩ := x2
  rw [if_neg (by decide), sb_r]
  simp only [hU0, hT0, bd1_q]
  have q5 : v2 20 5 = nI (σ 0 5) := (congrFun (f2.1 20 (by decide)) 5).trans hs.1.2.2.2.2.2.1
  rw [q5, b8, Q_hasBit (by omega) (by omega), bd2_s]
  rcases bit_01 (σ 0 5) m with b | b
  · rw [b, if_pos (show nI 0 = 0 from rfl), if_neg (by decide)]
    simp only [hU0, hT0, bd1_q]
    rw [q5, b8, shl_I (by omega), or_I]
    have R3 : Rdy K (eN K P) (u2 v2 20 5 (nI (σ 0 5 ||| 2 ^ m))) := Rdy.wr ⟨T2, b2, tk2.1⟩ (by decide) (by decide)
    have hP2 := (eN_b hP).2.1
    obtain ⟨r4, v4, e4, f4, x4⟩ := C_takeToken (w := w) R3.1 R3.2.1 R3.2.2 hP2
    rw [e4, bd2_s]
    have F4 := (F2.wr (o := 20) (k := 5) (x := nI (σ 0 5 ||| 2 ^ m)) (by omega)).nm f4
    clear e4
    generalize tokX K (eN K P) = X4 at x4 ⊢
    cases X4 with
    | inl g =>
      obtain ⟨rfl, a, b⟩ := x4
      rw [if_pos rfl]
      exact ⟨0, v4, rfl, F4, rfl, a, b⟩
    | inr u =>
    obtain ⟨rfl, c2, tk4⟩ := x4
    rw [if_neg (by decide), sb_r]
    simp only [hT0, bd1_q]
    obtain ⟨r5, v5, e5, f5, x5⟩ := C_isStop (w := w) tk4 c2
    rw [e5, bd2_s]
    unfold sFin
    clear e5
    generalize sStp K (eN K P) = X5 at x5 ⊢
    cases X5 with
    | inl g =>
      obtain ⟨rfl, a, b⟩ := x5
      rw [if_pos rfl]
      exact ⟨0, v5, rfl, F4.nm f5, rfl, a, b⟩
    | inr u =>
      obtain ⟨rfl, d2, d5⟩ := x5
      rw [if_neg (by decide)]
      refine ⟨1, v5, rfl, F4.nm f5, rfl, d2, d5, CS.of (CS_addH (m := m) hs) (fun q hq => ?_)⟩
      rw [f5.1 q hq, f4.1 q hq]
      exact u2_cg (f2.1 q hq)
  · obtain ⟨v7, e7, f7, b1, b3⟩ := C_fail (w := w) (c := 4) tk2.2.2.1
    rw [b, if_neg (by decide)]
    simp only [hT0, bd1_q]
    rw [tk2.2.2.1, show (4 : Int32) = nI 4 from rfl, e7, bd2_s, if_pos (Or.inl rfl), if_pos trivial]
    exact ⟨0, v7, rfl, F2.nm f7, rfl, b1, b3⟩
end
def wLt (o j : Nat) : Nat := ((match o with
  | 0 => [108, 97, 119]
  | 1 => [111, 110, 101]
  | 2 => [119, 97, 110, 116]
  | _ => [119, 97, 116, 99, 104]) : List Nat).getD j 0
def wLn (o : Nat) : Nat := match o with
  | 0 => 3
  | 1 => 3
  | 2 => 4
  | _ => 5
def wLm (K : Tp) (s o : Nat) : Nat → Nat → Bool
  | 0, _ => true
  | n + 1, i => if K.2 (s + i) = wLt o i then wLm K s o n (i + 1) else false
def isW (K : Tp) (P o : Nat) : Bool := if kD K P = 1 ∧ eN K P = sT K P + wLn o then wLm K (sT K P) o (wLn o) 0 else false
theorem str_len {o : Nat} (ho : o < 4) (h : mH) : f_String_length (1000 + o) h = some (nI (wLn o), h) := by
  rcases (show o = 0 ∨ o = 1 ∨ o = 2 ∨ o = 3 by omega) with rfl | rfl | rfl | rfl <;> rfl
theorem str_at {o j : Nat} (ho : o < 4) (hj : j < wLn o) (h : mH) : f_String_charAt (1000 + o) (nI j) h = some (nI (wLt o j), h) := by
  rcases (show o = 0 ∨ o = 1 ∨ o = 2 ∨ o = 3 by omega) with rfl | rfl | rfl | rfl
  · have hj : j < 3 := hj
    rcases (show j = 0 ∨ j = 1 ∨ j = 2 by omega) with rfl | rfl | rfl <;> rfl
  · have hj : j < 3 := hj
    rcases (show j = 0 ∨ j = 1 ∨ j = 2 by omega) with rfl | rfl | rfl <;> rfl
  · have hj : j < 4 := hj
    rcases (show j = 0 ∨ j = 1 ∨ j = 2 ∨ j = 3 by omega) with rfl | rfl | rfl | rfl <;> rfl
  · have hj : j < 5 := hj
    rcases (show j = 0 ∨ j = 1 ∨ j = 2 ∨ j = 3 ∨ j = 4 by omega) with rfl | rfl | rfl | rfl | rfl <;> rfl
theorem wLt_lt : ∀ o, o < 4 → ∀ j, j < 5 → wLt o j < 128 := by decide
theorem wLn_lt : ∀ o, o < 4 → wLn o ≤ 5 := by decide
section
variable {K : Tp} {σ : Rho} {v : Nat → Nat → Int32} {w : Nat → Nat → Int64} {P : Nat}
theorem C_isWord (hT : CT K v) (hk : CTk K P v) (hP : P ≤ K.1) {o : Nat} (ho : o < 4) : f_Reader_isWord 1 (1000 + o) (bh v w) = some (if isW K P o = true then 1 else 0, bh v w) := by
  have hL := hT.2.1
  have he := eN_b hP
  have hs := sT_b hP
  have k4 := (kc_s (K := K) (s := sT K P)).2.2.2.2
  have ek : kD K P = kc K (sT K P) := rfl
  have h5 := wLn_lt o ho
  have key : ∀ (n fuel i : Nat), n < fuel → i + n = wLn o → eN K P = sT K P + wLn o → f_Reader_isWord_28 fuel 1 (1000 + o) (nI i) (bh v w) = some (if wLm K (sT K P) o n i = true then 1 else 0, bh v w) := by
    intro n
    induction n with
    | zero =>
      intro fuel i hf hi hx
      obtain ⟨m, rfl⟩ : ∃ m, fuel = m + 1 := ⟨fuel - 1, by omega⟩
      show f_Reader_isWord_28b (f_Reader_isWord_28 m) 1 (1000 + o) (nI i) (bh v w) = _
      unfold f_Reader_isWord_28b
      rw [str_len ho, bd2_s, if_pos ((nI_leI (by omega) (by omega)).mpr (by omega))]
      rfl
    | succ n ih =>
      intro fuel i hf hi hx
      obtain ⟨m, rfl⟩ : ∃ m, fuel = m + 1 := ⟨fuel - 1, by omega⟩
      have wb := wLt_lt o ho i (by omega)
      have tb := hT.2.2 (sT K P + i) (by omega)
      show f_Reader_isWord_28b (f_Reader_isWord_28 m) 1 (1000 + o) (nI i) (bh v w) = _
      unfold f_Reader_isWord_28b
      rw [str_len ho, bd2_s, if_neg (fun z => by have := (nI_leI (by omega) (by omega)).mp z; omega)]
      simp only [hT0, bd1_q]
      rw [hk.2.2.1, nI_add, rd_nI (by omega) (by decide), bd1_s, str_at ho (by omega), bd2_s, tb.1, ite_iff (nI_eqI (by omega) (by omega)), nI_1]
      unfold wLm
      by_cases c : K.2 (sT K P + i) = wLt o i
      · rw [if_pos c, if_pos c]
        exact ih m (i + 1) (by omega) (by omega) hx
      · rw [if_neg c, if_neg c]
        rfl
  unfold f_Reader_isWord f_Reader_isWord_0 f_Reader_isWord_24
  simp only [hT0, bd1_q]
  have q1 : nI (kD K P) = (1 : Int32) ↔ kD K P = 1 := nI_eqI (a := kD K P) (b := 1) (by omega) (by omega)
  rw [hk.2.1, hk.1, hk.2.2.1, ite_iff q1, pk_sub he.1, str_len ho, bd2_s, ite_iff (nI_eqI (by omega) (by omega))]
  by_cases c1 : kD K P = 1
  · rw [if_pos c1]
    by_cases c2 : eN K P - sT K P = wLn o
    · have e : isW K P o = wLm K (sT K P) o (wLn o) 0 := by unfold isW; rw [if_pos ⟨c1, by omega⟩]
      rw [if_pos c2, e]
      exact key (wLn o) FU 0 (by unfold FU; omega) (by omega) (by omega)
    · have e : isW K P o = false := by unfold isW; rw [if_neg (fun z => by have := z.2; omega)]
      rw [if_neg c2, e, if_neg (by decide)]
  · have e : isW K P o = false := by unfold isW; rw [if_neg (fun z => c1 z.1)]
    rw [if_neg c1, e, if_neg (by decide)]
def sLine (K : Tp) (σ : Rho) (P : Nat) : Fa ⊕ (Rho × Nat) := if isW K P 0 = true then (if σ 0 0 < 5 then sLaw K σ (eN K P) else .inl (5, sT K P)) else if isW K P 1 = true then (if σ 0 1 < 3 then sOne K σ (eN K P) else .inl (5, sT K P)) else if isW K P 2 = true then sWant K σ (eN K P) else if isW K P 3 = true then sWatch K σ (eN K P) else .inl (2, sT K P)
theorem C_takeLine (hT : CT K v) (h2 : v 1 2 = 0) (hk : CTk K P v) (hP : P ≤ K.1) (hs : CS σ v) (hI : SI σ) : ∃ r v', f_Reader_takeLine 1 20 (bh v w) = some (r, bh v' w) ∧ FrL v v' ∧ CX (sLine K σ P) (fun x v' => v' 1 5 = nI x.2 ∧ CS x.1 v') r v' := by
  have hP1 := (eN_b hP).2.1
  have R1 : Rdy K (eN K P) v := ⟨hT, h2, hk.1⟩
  have w0 := C_isWord (w := w) hT hk hP (o := 0) (by decide)
  have w1 := C_isWord (w := w) hT hk hP (o := 1) (by decide)
  have w2 := C_isWord (w := w) hT hk hP (o := 2) (by decide)
  have w3 := C_isWord (w := w) hT hk hP (o := 3) (by decide)
  have hn0 := hI.1.1
  have hn1 := hI.1.2.1
  unfold f_Reader_takeLine f_Reader_takeLine_0 sLine
  simp only [hT0, bd1_q]
  rw [w0, bd2_s]
  by_cases c0 : isW K P 0 = true
  · rw [if_pos c0, if_pos c0, if_neg (by decide)]
    simp only [hU0, hT0, bd1_q]
    rw [hs.1.1]
    by_cases g : σ 0 0 < 5
    · rw [if_pos g]
      obtain ⟨r, v1, e1, f1, x1⟩ := C_takeLaw (w := w) R1 hP1 hs g
      rw [e1, bd2_s, if_pos (CX01 x1)]
      exact ⟨r, v1, rfl, f1, x1⟩
    · rw [if_neg g]
      obtain ⟨v7, e7, f7, b1, b3⟩ := C_fail (w := w) (c := 5) hk.2.2.1
      have : f_Reader_takeLaw 1 20 (nI (σ 0 0)) (bh v w) = some (0, bh v7 w) := by
        unfold f_Reader_takeLaw f_Reader_takeLaw_0
        rw [show (5 : Int32) = nI 5 from rfl, if_neg (fun z => g ((nI_ltI (by omega) (by omega)).mp z))]
        simp only [hT0, bd1_q]
        rw [hk.2.2.1, e7, bd2_s, if_pos (Or.inl rfl)]
      rw [this, bd2_s, if_pos (Or.inl rfl)]
      exact ⟨0, v7, rfl, f7.fl, rfl, b1, b3⟩
  rw [if_neg c0, if_neg c0, if_pos rfl]
  simp only [hT0, bd1_q]
  rw [w1, bd2_s]
  by_cases c1 : isW K P 1 = true
  · rw [if_pos c1, if_pos c1, if_neg (by decide)]
    simp only [hU0, hT0, bd1_q]
    rw [hs.1.2.1]
    by_cases g : σ 0 1 < 3
    · rw [if_pos g]
      obtain ⟨r, v1, e1, f1, x1⟩ := C_takeOne (w := w) R1 hP1 hs hI g
      rw [e1, bd2_s, if_pos (CX01 x1)]
      exact ⟨r, v1, rfl, f1, x1⟩
    · rw [if_neg g]
      obtain ⟨v7, e7, f7, b1, b3⟩ := C_fail (w := w) (c := 5) hk.2.2.1
      have : f_Reader_takeOne 1 20 (nI (σ 0 1)) (bh v w) = some (0, bh v7 w) := by
        unfold f_Reader_takeOne f_Reader_takeOne_0
        rw [show (3 : Int32) = nI 3 from rfl, if_neg (fun z => g ((nI_ltI (by omega) (by omega)).mp z))]
        simp only [hT0, bd1_q]
        rw [hk.2.2.1, show (5 : Int32) = nI 5 from rfl, e7, bd2_s, if_pos (Or.inl rfl)]
      rw [this, bd2_s, if_pos (Or.inl rfl)]
      exact ⟨0, v7, rfl, f7.fl, rfl, b1, b3⟩
  rw [if_neg c1, if_neg c1, if_pos rfl]
  simp only [hT0, bd1_q]
  rw [w2, bd2_s]
  by_cases c2 : isW K P 2 = true
  · rw [if_pos c2, if_pos c2, if_neg (by decide)]
    simp only [hT0, bd1_q]
    obtain ⟨r, v1, e1, f1, x1⟩ := C_takeWant (w := w) R1 hP1 hs hI
    rw [e1, bd2_s, if_pos (CX01 x1)]
    exact ⟨r, v1, rfl, f1, x1⟩
  rw [if_neg c2, if_neg c2, if_pos rfl]
  simp only [hT0, bd1_q]
  rw [w3, bd2_s]
  by_cases c3 : isW K P 3 = true
  · rw [if_pos c3, if_pos c3, if_neg (by decide)]
    simp only [hT0, bd1_q]
    obtain ⟨r, v1, e1, f1, x1⟩ := C_takeWatch (w := w) R1 hP1 hs hI
    rw [e1, bd2_s, if_pos (CX01 x1)]
    exact ⟨r, v1, rfl, f1, x1⟩
  rw [if_neg c3, if_neg c3, if_pos rfl]
  simp only [hT0, bd1_q]
  obtain ⟨v7, e7, f7, b1, b3⟩ := C_fail (w := w) (c := 2) hk.2.2.1
  rw [hk.2.2.1, show (2 : Int32) = nI 2 from rfl, e7, bd2_s, if_pos (Or.inl rfl)]
  exact ⟨0, v7, rfl, f7.fl, rfl, b1, b3⟩
end
