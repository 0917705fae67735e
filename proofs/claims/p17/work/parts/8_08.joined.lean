/-! 8x6.text6.lean.txt -/
section
/-! want, watch, the words of the lines, a line -/
section
variable {K : Tp} {σ : Rho} {v : Nat → Nat → Int32} {w : Nat → Nat → Int64} {P : Nat}
theorem CS_addW {p m : Nat} (hs : CS σ v) : CS (addW σ p m) (u2 v 31 p (nI (σ 11 p ||| 2 ^ m))) := by
  obtain ⟨⟨a1, a2, a3, a4, a5, a6, a7⟩, b, c', d, e⟩ := hs
  unfold CS addW
  simp [u2_ap, up2_ap, a1, a2, a3, a4, a5, a6, a7]
  refine ⟨b, c', fun l hl => ?_, e⟩
  by_cases z : l = p
  · have := d l hl
    rw [z] at this
    simp [z, this]
  · have := d l hl
    simp [z, this]
theorem CS_addH {m : Nat} (hs : CS σ v) : CS (addH σ m) (u2 v 20 5 (nI (σ 0 5 ||| 2 ^ m))) := by
  obtain ⟨⟨a1, a2, a3, a4, a5, a6, a7⟩, b, c', d, e⟩ := hs
  unfold CS addH
  simp [u2_ap, up2_ap, a1, a2, a3, a4, a5, a7]
  exact ⟨b, c', d, e⟩
theorem FrR.fl {v1 : Nat → Nat → Int32} (h : FrR v v1) : FrL v v1 := ⟨fun q h1 _ => h.1 q h1, h.2.1, h.2.2⟩
theorem FrL.nm {v1 v2 : Nat → Nat → Int32} (h : FrL v v1) (g : FrR v1 v2) : FrL v v2 := ⟨fun q h1 h2 => (g.1 q h1).trans (h.1 q h1 h2), g.2.1.trans h.2.1, g.2.2.trans h.2.2⟩
theorem FrL.wr {v1 : Nat → Nat → Int32} {o k : Nat} {x : Int32} (h : FrL v v1) (ho : 20 ≤ o ∧ o < 37) : FrL v (u2 v1 o k x) := ⟨fun q h1 h2 => (u2_o (by omega)).trans (h.1 q h1 h2), (congrFun (u2_o (by omega)) 1).trans h.2.1, (congrFun (u2_o (by omega)) 4).trans h.2.2⟩
theorem C_takeWant (hR : Rdy K P v) (hP : P ≤ K.1) (hs : CS σ v) (hI : SI σ) : ∃ r v', f_Reader_takeWant 1 20 (bh v w) = some (r, bh v' w) ∧ FrL v v' ∧ CX (sWant K σ P) (fun x v' => v' 1 5 = nI x.2 ∧ CS x.1 v') r v' := by
  unfold f_Reader_takeWant f_Reader_takeWant_0 f_Reader_takeWant_55 sWant
  simp only [hT0, bd1_q]
  obtain ⟨r1, v1, e1, f1, x1⟩ := C_takeNumber (w := w) (lo := 0) (hi := 2) hR.1 hR.2.1 hR.2.2 hP (by decide) (by decide)
  have e1 : f_Reader_takeNumber 1 (0 : Int32) (2 : Int32) (bh v w) = some (r1, bh v1 w) := e1
  rw [e1, bd2_s]
  have T1 := hR.1.fR f1
  clear e1
  generalize sNum K 0 2 P = X1 at x1 ⊢
  cases X1 with
  | inl g =>
    obtain ⟨rfl, a, b⟩ := x1
    rw [if_pos rfl]
    exact ⟨0, v1, rfl, f1.fl, rfl, a, b⟩
  | inr p =>
  obtain ⟨rfl, a2, tk1, a8, -, hp⟩ := x1
  rw [if_neg (by decide), sb_r]
  simp only [hT0, bd1_q]
  have hP1 := (eN_b hP).2.1
  obtain ⟨r2, v2, e2, f2, x2⟩ := C_takeNumber (w := w) (lo := 0) (hi := 4) T1 a2 tk1.1 hP1 (by decide) (by decide)
  have e2 : f_Reader_takeNumber 1 (0 : Int32) (4 : Int32) (bh v1 w) = some (r2, bh v2 w) := e2
  rw [e2, bd2_s, a8]
  have T2 := T1.fR f2
  have F2 := f1.fl.nm f2
  clear e2
  generalize sNum K 0 4 (eN K P) = X2 at x2 ⊢
  cases X2 with
  | inl g =>
    obtain ⟨rfl, a, b⟩ := x2
    rw [if_pos rfl]
    exact ⟨0, v2, rfl, F2, rfl, a, b⟩
  | inr m =>
  obtain ⟨rfl, b2, tk2, b8, -, hm⟩ := x2
  rw [if_neg (by decide), sb_r]
  simp only [hU0, hT0, bd1_q]
  have d := hs.2.2.2.1 p (by omega)
  have dI := hI.2.2.2.1 p (by omega)
  have q31 : v2 31 = v 31 := (f2.1 31 (by decide)).trans (f1.1 31 (by decide))
  obtain ⟨g1, g2⟩ := C_addLaw (w := w) (v := v2) (q := 31) (p := p) (R := σ 11 p) (m := m) (s := sT K (eN K P)) (Or.inr rfl) (by omega) ((congrFun q31 p).trans d.2) dI.2.1 b8 hm tk2.2.2.1
  rcases bit_01 (σ 11 p) m with b | b
  · rw [g2 b, bd2_s, if_neg (by decide), if_neg (by omega)]
    simp only [hT0, bd1_q]
    have R3 : Rdy K (eN K (eN K P)) (u2 v2 31 p (nI (σ 11 p ||| 2 ^ m))) := Rdy.wr ⟨T2, b2, tk2.1⟩ (by decide) (by decide)
    have hP2 := (eN_b hP1).2.1
    obtain ⟨r4, v4, e4, f4, x4⟩ := C_takeToken (w := w) R3.1 R3.2.1 R3.2.2 hP2
    rw [e4, bd2_s]
    have F4 := (F2.wr (o := 31) (k := p) (x := nI (σ 11 p ||| 2 ^ m)) (by omega)).nm f4
    clear e4
    generalize tokX K (eN K (eN K P)) = X4 at x4 ⊢
    cases X4 with
    | inl g =>
      obtain ⟨rfl, a, b⟩ := x4
      rw [if_pos rfl]
      exact ⟨0, v4, rfl, F4, rfl, a, b⟩
    | inr u =>
    obtain ⟨rfl, c2, tk4⟩ := x4
    rw [if_neg (by decide), sb_r]
    simp only [hT0, bd1_q]
    obtain ⟨r5, v5, e5, f5, x5⟩ := C_isStop (w := w) tk4 c2
    rw [e5, bd2_s]
    unfold sFin
    clear e5
    generalize sStp K (eN K (eN K P)) = X5 at x5 ⊢
    cases X5 with
    | inl g =>
      obtain ⟨rfl, a, b⟩ := x5
      rw [if_pos rfl]
      exact ⟨0, v5, rfl, F4.nm f5, rfl, a, b⟩
    | inr u =>
      obtain ⟨rfl, d2, d5⟩ := x5
      rw [if_neg (by decide)]
      refine ⟨1, v5, rfl, F4.nm f5, rfl, d2, d5, CS.of (CS_addW (m := m) (p := p) hs) (fun q hq => ?_)⟩
      rw [f5.1 q hq, f4.1 q hq]
      exact u2_cg ((f2.1 q hq).trans (f1.1 q hq))
  · obtain ⟨v7, e7, f7, b1, b3⟩ := g1 b
    rw [e7, bd2_s, if_pos rfl, if_pos b]
    exact ⟨0, v7, rfl, F2.nm f7, rfl, b1, b3⟩
theorem C_takeWatch (hR : Rdy K P v) (hP : P ≤ K.1) (hs : CS σ v) (hI : SI σ) : ∃ r v', f_Reader_takeWatch 1 20 (bh v w) = some (r, bh v' w) ∧ FrL v v' ∧ CX (sWatch K σ P) (fun x v' => v' 1 5 = nI x.2 ∧ CS x.1 v') r v' := by
  have hw := hI.1.2.2.2.2.1
  unfold f_Reader_takeWatch f_Reader_takeWatch_0 f_Reader_takeWatch_68 sWatch
  simp only [hT0, bd1_q]
  obtain ⟨r2, v2, e2, f2, x2⟩ := C_takeNumber (w := w) (lo := 0) (hi := 4) hR.1 hR.2.1 hR.2.2 hP (by decide) (by decide)
  have e2 : f_Reader_takeNumber 1 (0 : Int32) (4 : Int32) (bh v w) = some (r2, bh v2 w) := e2
  rw [e2, bd2_s]
  have T2 := hR.1.fR f2
  have F2 := f2.fl
  clear e2
  generalize sNum K 0 4 P = X2 at x2 ⊢
  cases X2 with
  | inl g =>
    obtain ⟨rfl, a, b⟩ := x2
    rw [if_pos rfl]
    exact ⟨0, v2, rfl, F2, rfl, a, b⟩
  | inr m =>
  obtain ⟨rfl, b2, tk2, b8, -, hm⟩ := x2
  rw [if_neg (by decide), sb_r]
  simp only [hU0, hT0, bd1_q]
  have q5 : v2 20 5 = nI (σ 0 5) := (congrFun (f2.1 20 (by decide)) 5).trans hs.1.2.2.2.2.2.1
  rw [q5, b8, Q_hasBit (by omega) (by omega), bd2_s]
  rcases bit_01 (σ 0 5) m with b | b
  · rw [b, if_pos (show nI 0 = 0 from rfl), if_neg (by decide)]
    simp only [hU0, hT0, bd1_q]
    rw [q5, b8, shl_I (by omega), or_I]
    have R3 : Rdy K (eN K P) (u2 v2 20 5 (nI (σ 0 5 ||| 2 ^ m))) := Rdy.wr ⟨T2, b2, tk2.1⟩ (by decide) (by decide)
    have hP2 := (eN_b hP).2.1
    obtain ⟨r4, v4, e4, f4, x4⟩ := C_takeToken (w := w) R3.1 R3.2.1 R3.2.2 hP2
    rw [e4, bd2_s]
    have F4 := (F2.wr (o := 20) (k := 5) (x := nI (σ 0 5 ||| 2 ^ m)) (by omega)).nm f4
    clear e4
    generalize tokX K (eN K P) = X4 at x4 ⊢
    cases X4 with
    | inl g =>
      obtain ⟨rfl, a, b⟩ := x4
      rw [if_pos rfl]
      exact ⟨0, v4, rfl, F4, rfl, a, b⟩
    | inr u =>
    obtain ⟨rfl, c2, tk4⟩ := x4
    rw [if_neg (by decide), sb_r]
    simp only [hT0, bd1_q]
    obtain ⟨r5, v5, e5, f5, x5⟩ := C_isStop (w := w) tk4 c2
    rw [e5, bd2_s]
    unfold sFin
    clear e5
    generalize sStp K (eN K P) = X5 at x5 ⊢
    cases X5 with
    | inl g =>
      obtain ⟨rfl, a, b⟩ := x5
      rw [if_pos rfl]
      exact ⟨0, v5, rfl, F4.nm f5, rfl, a, b⟩
    | inr u =>
      obtain ⟨rfl, d2, d5⟩ := x5
      rw [if_neg (by decide)]
      refine ⟨1, v5, rfl, F4.nm f5, rfl, d2, d5, CS.of (CS_addH (m := m) hs) (fun q hq => ?_)⟩
      rw [f5.1 q hq, f4.1 q hq]
      exact u2_cg (f2.1 q hq)
  · obtain ⟨v7, e7, f7, b1, b3⟩ := C_fail (w := w) (c := 4) tk2.2.2.1
    rw [b, if_neg (by decide)]
    simp only [hT0, bd1_q]
    rw [tk2.2.2.1, show (4 : Int32) = nI 4 from rfl, e7, bd2_s, if_pos (Or.inl rfl), if_pos trivial]
    exact ⟨0, v7, rfl, F2.nm f7, rfl, b1, b3⟩
end
def wLt (o j : Nat) : Nat := ((match o with
  | 0 => [108, 97, 119]
  | 1 => [111, 110, 101]
  | 2 => [119, 97, 110, 116]
  | _ => [119, 97, 116, 99, 104]) : List Nat).getD j 0
def wLn (o : Nat) : Nat := match o with
  | 0 => 3
  | 1 => 3
  | 2 => 4
  | _ => 5
def wLm (K : Tp) (s o : Nat) : Nat → Nat → Bool
  | 0, _ => true
  | n + 1, i => if K.2 (s + i) = wLt o i then wLm K s o n (i + 1) else false
def isW (K : Tp) (P o : Nat) : Bool := if kD K P = 1 ∧ eN K P = sT K P + wLn o then wLm K (sT K P) o (wLn o) 0 else false
theorem str_len {o : Nat} (ho : o < 4) (h : mH) : f_String_length (1000 + o) h = some (nI (wLn o), h) := by
  rcases (show o = 0 ∨ o = 1 ∨ o = 2 ∨ o = 3 by omega) with rfl | rfl | rfl | rfl <;> rfl
theorem str_at {o j : Nat} (ho : o < 4) (hj : j < wLn o) (h : mH) : f_String_charAt (1000 + o) (nI j) h = some (nI (wLt o j), h) := by
  rcases (show o = 0 ∨ o = 1 ∨ o = 2 ∨ o = 3 by omega) with rfl | rfl | rfl | rfl
  · have hj : j < 3 := hj
    rcases (show j = 0 ∨ j = 1 ∨ j = 2 by omega) with rfl | rfl | rfl <;> rfl
  · have hj : j < 3 := hj
    rcases (show j = 0 ∨ j = 1 ∨ j = 2 by omega) with rfl | rfl | rfl <;> rfl
  · have hj : j < 4 := hj
    rcases (show j = 0 ∨ j = 1 ∨ j = 2 ∨ j = 3 by omega) with rfl | rfl | rfl | rfl <;> rfl
  · have hj : j < 5 := hj
    rcases (show j = 0 ∨ j = 1 ∨ j = 2 ∨ j = 3 ∨ j = 4 by omega) with rfl | rfl | rfl | rfl | rfl <;> rfl
theorem wLt_lt : ∀ o, o < 4 → ∀ j, j < 5 → wLt o j < 128 := by decide
theorem wLn_lt : ∀ o, o < 4 → wLn o ≤ 5 := by decide
section
variable {K : Tp} {σ : Rho} {v : Nat → Nat → Int32} {w : Nat → Nat → Int64} {P : Nat}
theorem C_isWord (hT : CT K v) (hk : CTk K P v) (hP : P ≤ K.1) {o : Nat} (ho : o < 4) : f_Reader_isWord 1 (1000 + o) (bh v w) = some (if isW K P o = true then 1 else 0, bh v w) := by
  have hL := hT.2.1
  have he := eN_b hP
  have hs := sT_b hP
  have k4 := (kc_s (K := K) (s := sT K P)).2.2.2.2
  have ek : kD K P = kc K (sT K P) := rfl
  have h5 := wLn_lt o ho
  have key : ∀ (n fuel i : Nat), n < fuel → i + n = wLn o → eN K P = sT K P + wLn o → f_Reader_isWord_28 fuel 1 (1000 + o) (nI i) (bh v w) = some (if wLm K (sT K P) o n i = true then 1 else 0, bh v w) := by
    intro n
    induction n with
    | zero =>
      intro fuel i hf hi hx
      obtain ⟨m, rfl⟩ : ∃ m, fuel = m + 1 := ⟨fuel - 1, by omega⟩
      show f_Reader_isWord_28b (f_Reader_isWord_28 m) 1 (1000 + o) (nI i) (bh v w) = _
      unfold f_Reader_isWord_28b
      rw [str_len ho, bd2_s, if_pos ((nI_leI (by omega) (by omega)).mpr (by omega))]
      rfl
    | succ n ih =>
      intro fuel i hf hi hx
      obtain ⟨m, rfl⟩ : ∃ m, fuel = m + 1 := ⟨fuel - 1, by omega⟩
      have wb := wLt_lt o ho i (by omega)
      have tb := hT.2.2 (sT K P + i) (by omega)
      show f_Reader_isWord_28b (f_Reader_isWord_28 m) 1 (1000 + o) (nI i) (bh v w) = _
      unfold f_Reader_isWord_28b
      rw [str_len ho, bd2_s, if_neg (fun z => by have := (nI_leI (by omega) (by omega)).mp z; omega)]
      simp only [hT0, bd1_q]
      rw [hk.2.2.1, nI_add, rd_nI (by omega) (by decide), bd1_s, str_at ho (by omega), bd2_s, tb.1, ite_iff (nI_eqI (by omega) (by omega)), nI_1]
      unfold wLm
      by_cases c : K.2 (sT K P + i) = wLt o i
      · rw [if_pos c, if_pos c]
        exact ih m (i + 1) (by omega) (by omega) hx
      · rw [if_neg c, if_neg c]
        rfl
  unfold f_Reader_isWord f_Reader_isWord_0 f_Reader_isWord_24
  simp only [hT0, bd1_q]
  have q1 : nI (kD K P) = (1 : Int32) ↔ kD K P = 1 := nI_eqI (a := kD K P) (b := 1) (by omega) (by omega)
  rw [hk.2.1, hk.1, hk.2.2.1, ite_iff q1, pk_sub he.1, str_len ho, bd2_s, ite_iff (nI_eqI (by omega) (by omega))]
  by_cases c1 : kD K P = 1
  · rw [if_pos c1]
    by_cases c2 : eN K P - sT K P = wLn o
    · have e : isW K P o = wLm K (sT K P) o (wLn o) 0 := by unfold isW; rw [if_pos ⟨c1, by omega⟩]
      rw [if_pos c2, e]
      exact key (wLn o) FU 0 (by unfold FU; omega) (by omega) (by omega)
    · have e : isW K P o = false := by unfold isW; rw [if_neg (fun z => by have := z.2; omega)]
      rw [if_neg c2, e, if_neg (by decide)]
  · have e : isW K P o = false := by unfold isW; rw [if_neg (fun z => c1 z.1)]
    rw [if_neg c1, e, if_neg (by decide)]
def sLine (K : Tp) (σ : Rho) (P : Nat) : Fa ⊕ (Rho × Nat) := if isW K P 0 = true then (if σ 0 0 < 5 then sLaw K σ (eN K P) else .inl (5, sT K P)) else if isW K P 1 = true then (if σ 0 1 < 3 then sOne K σ (eN K P) else .inl (5, sT K P)) else if isW K P 2 = true then sWant K σ (eN K P) else if isW K P 3 = true then sWatch K σ (eN K P) else .inl (2, sT K P)
theorem C_takeLine (hT : CT K v) (h2 : v 1 2 = 0) (hk : CTk K P v) (hP : P ≤ K.1) (hs : CS σ v) (hI : SI σ) : ∃ r v', f_Reader_takeLine 1 20 (bh v w) = some (r, bh v' w) ∧ FrL v v' ∧ CX (sLine K σ P) (fun x v' => v' 1 5 = nI x.2 ∧ CS x.1 v') r v' := by
  have hP1 := (eN_b hP).2.1
  have R1 : Rdy K (eN K P) v := ⟨hT, h2, hk.1⟩
  have w0 := C_isWord (w := w) hT hk hP (o := 0) (by decide)
  have w1 := C_isWord (w := w) hT hk hP (o := 1) (by decide)
  have w2 := C_isWord (w := w) hT hk hP (o := 2) (by decide)
  have w3 := C_isWord (w := w) hT hk hP (o := 3) (by decide)
  have hn0 := hI.1.1
  have hn1 := hI.1.2.1
  unfold f_Reader_takeLine f_Reader_takeLine_0 sLine
  simp only [hT0, bd1_q]
  rw [w0, bd2_s]
  by_cases c0 : isW K P 0 = true
  · rw [if_pos c0, if_pos c0, if_neg (by decide)]
    simp only [hU0, hT0, bd1_q]
    rw [hs.1.1]
    by_cases g : σ 0 0 < 5
    · rw [if_pos g]
      obtain ⟨r, v1, e1, f1, x1⟩ := C_takeLaw (w := w) R1 hP1 hs g
      rw [e1, bd2_s, if_pos (CX01 x1)]
      exact ⟨r, v1, rfl, f1, x1⟩
    · rw [if_neg g]
      obtain ⟨v7, e7, f7, b1, b3⟩ := C_fail (w := w) (c := 5) hk.2.2.1
      have : f_Reader_takeLaw 1 20 (nI (σ 0 0)) (bh v w) = some (0, bh v7 w) := by
        unfold f_Reader_takeLaw f_Reader_takeLaw_0
        rw [show (5 : Int32) = nI 5 from rfl, if_neg (fun z => g ((nI_ltI (by omega) (by omega)).mp z))]
        simp only [hT0, bd1_q]
        rw [hk.2.2.1, e7, bd2_s, if_pos (Or.inl rfl)]
      rw [this, bd2_s, if_pos (Or.inl rfl)]
      exact ⟨0, v7, rfl, f7.fl, rfl, b1, b3⟩
  rw [if_neg c0, if_neg c0, if_pos rfl]
  simp only [hT0, bd1_q]
  rw [w1, bd2_s]
  by_cases c1 : isW K P 1 = true
  · rw [if_pos c1, if_pos c1, if_neg (by decide)]
    simp only [hU0, hT0, bd1_q]
    rw [hs.1.2.1]
    by_cases g : σ 0 1 < 3
    · rw [if_pos g]
      obtain ⟨r, v1, e1, f1, x1⟩ := C_takeOne (w := w) R1 hP1 hs hI g
      rw [e1, bd2_s, if_pos (CX01 x1)]
      exact ⟨r, v1, rfl, f1, x1⟩
    · rw [if_neg g]
      obtain ⟨v7, e7, f7, b1, b3⟩ := C_fail (w := w) (c := 5) hk.2.2.1
      have : f_Reader_takeOne 1 20 (nI (σ 0 1)) (bh v w) = some (0, bh v7 w) := by
        unfold f_Reader_takeOne f_Reader_takeOne_0
        rw [show (3 : Int32) = nI 3 from rfl, if_neg (fun z => g ((nI_ltI (by omega) (by omega)).mp z))]
        simp only [hT0, bd1_q]
        rw [hk.2.2.1, show (5 : Int32) = nI 5 from rfl, e7, bd2_s, if_pos (Or.inl rfl)]
      rw [this, bd2_s, if_pos (Or.inl rfl)]
      exact ⟨0, v7, rfl, f7.fl, rfl, b1, b3⟩
  rw [if_neg c1, if_neg c1, if_pos rfl]
  simp only [hT0, bd1_q]
  rw [w2, bd2_s]
  by_cases c2 : isW K P 2 = true
  · rw [if_pos c2, if_pos c2, if_neg (by decide)]
    simp only [hT0, bd1_q]
    obtain ⟨r, v1, e1, f1, x1⟩ := C_takeWant (w := w) R1 hP1 hs hI
    rw [e1, bd2_s, if_pos (CX01 x1)]
    exact ⟨r, v1, rfl, f1, x1⟩
  rw [if_neg c2, if_neg c2, if_pos rfl]
  simp only [hT0, bd1_q]
  rw [w3, bd2_s]
  by_cases c3 : isW K P 3 = true
  · rw [if_pos c3, if_pos c3, if_neg (by decide)]
    simp only [hT0, bd1_q]
    obtain ⟨r, v1, e1, f1, x1⟩ := C_takeWatch (w := w) R1 hP1 hs hI
    rw [e1, bd2_s, if_pos (CX01 x1)]
    exact ⟨r, v1, rfl, f1, x1⟩
  rw [if_neg c3, if_neg c3, if_pos rfl]
  simp only [hT0, bd1_q]
  obtain ⟨v7, e7, f7, b1, b3⟩ := C_fail (w := w) (c := 2) hk.2.2.1
  rw [hk.2.2.1, show (2 : Int32) = nI 2 from rfl, e7, bd2_s, if_pos (Or.inl rfl)]
  exact ⟨0, v7, rfl, f7.fl, rfl, b1, b3⟩
end
end
/-! 8x7.text7.lean.txt -/
section
/-! what the lines keep; the end of a text -/
theorem sb_inr {α β : Type} {x : Fa ⊕ α} {f : α → Fa ⊕ β} {b : β} (h : sb x f = .inr b) : ∃ a, x = .inr a ∧ f a = .inr b := by
  cases x with
  | inl e => cases h
  | inr a => exact ⟨a, rfl, h⟩
theorem chkB_inr {K : Tp} {lo hi P n : Nat} (h : chkB K lo hi P = .inr n) : lo ≤ n ∧ n ≤ hi := by
  unfold chkB at h
  split at h
  · next c => cases h; exact c
  · cases h
theorem sNum_inr {K : Tp} {lo hi P n : Nat} (h : sNum K lo hi P = .inr n) : lo ≤ n ∧ n ≤ hi := by
  obtain ⟨u, -, h2⟩ := sb_inr h
  unfold chk at h2
  split at h2
  · exact chkB_inr h2
  · cases h2
theorem sFin_inr {α : Type} {K : Tp} {P : Nat} {a : α} {y : α × Nat} (h : sFin K P a = .inr y) : y = (a, eN K P) := by
  obtain ⟨u, -, h2⟩ := sb_inr h
  cases h2
  rfl
theorem ite_inr {α : Type} {c : Prop} [Decidable c] {e : Fa} {x : Fa ⊕ α} {b : α} (h : (if c then .inl e else x) = .inr b) : ¬ c ∧ x = .inr b := by
  split at h
  · cases h
  · next c => exact ⟨c, h⟩
theorem or_pw_lt : ∀ x, x < 32 → ∀ m, m ≤ 4 → ∀ n, n ≤ 5 → (x ||| 2 ^ m < 2 ^ n ↔ x < 2 ^ n ∧ m + 1 ≤ n) := by decide +kernel
theorem or_2_lt : ∀ x, x < 32 → ∀ y, y < 32 → ∀ n, n ≤ 5 → (x ||| y < 2 ^ n ↔ x < 2 ^ n ∧ y < 2 ^ n) := by decide +kernel
theorem or_pw_0 : ∀ x, x < 32 → ∀ m, m ≤ 4 → x ||| 2 ^ m ≠ 0 := by decide +kernel
theorem SI_addL {σ : Rho} {q c h f m : Nat} (hI : SI σ) (hl : σ 0 0 < 5) (hq : q ≤ 9) (hc : 1 ≤ c ∧ c ≤ 3) (hh : h ≤ 9) (hf : f ≤ 9) (hm : m ≤ 5) (hm2 : m ≠ σ 0 0 + 1) : SI (addL σ q c h f m) := by
  obtain ⟨⟨a1, a2, a3, a4, a5, a6, a7, a8⟩, b, c', d, e, g, k⟩ := hI
  unfold SI addL
  simp [up2_ap]
  refine ⟨⟨by omega, a2, a3, a4, a5, a6, by omega, a8⟩, fun l hl2 => ?_, c', d, e, fun n hn => ?_, k⟩
  · by_cases z : l = σ 0 0
    · simp [z]; omega
    · have := b l (by omega)
      simp [z]; omega
  · have gn := g n hn
    constructor
    · intro hx
      obtain ⟨x1, x2, x3⟩ := gn.mp (by omega)
      refine ⟨x1, fun l hl2 => ?_, x3⟩
      by_cases z : l = σ 0 0
      · simp [z]; omega
      · simp [z]; exact x2 l (by omega)
    · rintro ⟨x1, x2, x3⟩
      have y := x2 (σ 0 0) (by omega)
      simp at y
      have := gn.mpr ⟨x1, fun l hl2 => by
        have z := x2 l (by omega)
        simp [show ¬ l = σ 0 0 by omega] at z
        exact z, x3⟩
      omega
theorem SI_addO {σ : Rho} {t c n u R h : Nat} (hI : SI σ) (hl : σ 0 1 < 3) (ht : t ≤ 5) (hc : c ≤ 3) (hn : n ≤ 10) (hu : u ≤ 99) (hR : R < 32) (hh : ∀ n, n ≤ 5 → (h ≤ n ↔ σ 17 0 ≤ n ∧ R < 2 ^ n)) : SI (addO σ t c n u R h) := by
  obtain ⟨⟨a1, a2, a3, a4, a5, a6, a7, a8⟩, b, c', d, e, g, k⟩ := hI
  have h5 : h ≤ 5 := (hh 5 (by decide)).mpr ⟨a7, hR⟩
  unfold SI addO
  simp [up2_ap]
  refine ⟨⟨a1, by omega, a3, a4, a5, a6, h5, a8⟩, b, fun p hp => ?_, fun p hp => ?_, e, fun n hn => ?_, k⟩
  · by_cases z : p = σ 0 1
    · simp [z]; omega
    · have := c' p (by omega)
      simp [z]; omega
  · have := d p hp
    by_cases z : p = σ 0 1
    · simp [z]
      refine ⟨hR, ?_⟩
      rw [← z]
      exact ⟨this.2.1, fun q => by omega⟩
    · simp [z]
      exact ⟨this.1, this.2.1, fun q => this.2.2 (by omega)⟩
  · rw [hh n hn, g n hn]
    constructor
    · rintro ⟨⟨x1, x2, x3⟩, x4⟩
      refine ⟨x1, x2, fun p hp => ⟨?_, (x3 p hp).2⟩⟩
      by_cases z : p = σ 0 1
      · simp [z]; exact x4
      · simp [z]; exact (x3 p hp).1
    · rintro ⟨x1, x2, x3⟩
      refine ⟨⟨x1, x2, fun p hp => ⟨?_, (x3 p hp).2⟩⟩, ?_⟩
      · by_cases z : p = σ 0 1
        · have := (d p hp).2.2 (by omega)
          rw [this]
          exact Nat.pow_pos (by decide)
        · have := (x3 p hp).1
          simp [z] at this
          exact this
      · have := (x3 (σ 0 1) hl).1
        simp at this
        exact this
theorem SI_addW {σ : Rho} {p m : Nat} (hI : SI σ) (hp : p ≤ 2) (hm : m ≤ 4) : SI (addW σ p m) := by
  obtain ⟨⟨a1, a2, a3, a4, a5, a6, a7, a8⟩, b, c', d, e, g, k⟩ := hI
  have dp := d p (by omega)
  unfold SI addW
  simp [up2_ap]
  refine ⟨⟨a1, a2, a3, a4, a5, a6, by omega, by omega⟩, b, c', fun j hj => ?_, e, fun n hn => ?_, fun n hn => ?_⟩
  · have := d j hj
    by_cases z : j = p
    · simp [z]
      rw [z] at this
      exact ⟨this.1, or_lt _ this.2.1 _ (pw4 m hm), this.2.2⟩
    · simp [z]; exact this
  · have o := or_pw_lt _ dp.2.1 m hm n hn
    rw [show max (σ 17 0) (m + 1) ≤ n ↔ σ 17 0 ≤ n ∧ m + 1 ≤ n by omega, g n hn]
    constructor
    · rintro ⟨⟨x1, x2, x3⟩, x4⟩
      refine ⟨x1, x2, fun j hj => ⟨(x3 j hj).1, ?_⟩⟩
      by_cases z : j = p
      · simp [z]
        have := (x3 j hj).2
        rw [z] at this
        exact o.mpr ⟨this, x4⟩
      · simp [z]; exact (x3 j hj).2
    · rintro ⟨x1, x2, x3⟩
      have y := (x3 p (by omega)).2
      simp at y
      refine ⟨⟨x1, x2, fun j hj => ⟨(x3 j hj).1, ?_⟩⟩, (o.mp y).2⟩
      by_cases z : j = p
      · rw [z]; exact (o.mp y).1
      · have := (x3 j hj).2
        simp [z] at this
        exact this
  · rw [show max (σ 17 1) (p + 1) ≤ n ↔ σ 17 1 ≤ n ∧ p + 1 ≤ n by omega, k n hn]
    constructor
    · rintro ⟨x1, x2⟩ j hj hz
      by_cases z : j = p
      · omega
      · simp [z] at hz
        exact x1 j hj hz
    · intro x
      have y := x p (by omega) (by simp)
      refine ⟨fun j hj hz => ?_, by omega⟩
      by_cases z : j = p
      · omega
      · exact x j hj (by simp [z]; exact hz)
theorem SI_addH {σ : Rho} {m : Nat} (hI : SI σ) (hm : m ≤ 4) : SI (addH σ m) := by
  obtain ⟨⟨a1, a2, a3, a4, a5, a6, a7, a8⟩, b, c', d, e, g, k⟩ := hI
  unfold SI addH
  simp [up2_ap]
  refine ⟨⟨a1, a2, a3, a4, or_lt _ a5 _ (pw4 m hm), a6, by omega, a8⟩, b, c', d, e, fun n hn => ?_, k⟩
  have o := or_pw_lt _ a5 m hm n hn
  rw [show max (σ 17 0) (m + 1) ≤ n ↔ σ 17 0 ≤ n ∧ m + 1 ≤ n by omega, g n hn]
  constructor
  · rintro ⟨⟨x1, x2, x3⟩, x4⟩
    exact ⟨o.mpr ⟨x1, x4⟩, x2, x3⟩
  · rintro ⟨x1, x2, x3⟩
    exact ⟨⟨(o.mp x1).1, x2, x3⟩, (o.mp x1).2⟩
theorem sRef_ok {K : Tp} {h0 : Nat} : ∀ (n R h Q : Nat) (y : (Nat × Nat) × Nat), sRef K n R h Q = .inr y → Q ≤ K.1 → R < 32 → (∀ n, n ≤ 5 → (h ≤ n ↔ h0 ≤ n ∧ R < 2 ^ n)) → y.1.1 < 32 ∧ (∀ n, n ≤ 5 → (y.1.2 ≤ n ↔ h0 ≤ n ∧ y.1.1 < 2 ^ n)) ∧ Q ≤ y.2 ∧ y.2 ≤ K.1
  | 0, R, h, Q, y, e, hQ, hR, hh => by cases e; exact ⟨hR, hh, Nat.le_refl _, hQ⟩
  | n + 1, R, h, Q, y, e, hQ, hR, hh => by
    unfold sRef at e
    split at e
    · obtain ⟨m, e1, e2⟩ := sb_inr e
      have hm := (chkB_inr e1).2
      obtain ⟨-, e3⟩ := ite_inr e2
      obtain ⟨u, -, e4⟩ := sb_inr e3
      have hs := sT_b hQ
      have he := eN_b hQ
      have := sRef_ok (h0 := h0) n _ _ _ y e4 he.2.1 (or_lt _ hR _ (pw4 m hm)) (fun n hn => by rw [show max h (m + 1) ≤ n ↔ h ≤ n ∧ m + 1 ≤ n by omega, hh n hn, or_pw_lt R hR m hm n hn]; omega)
      exact ⟨this.1, this.2.1, by omega, this.2.2.2⟩
    · cases e
      exact ⟨hR, hh, Nat.le_refl _, hQ⟩
theorem sLaw_ok {K : Tp} {σ : Rho} {Q : Nat} {y : Rho × Nat} (h : sLaw K σ Q = .inr y) (hI : SI σ) (hl : σ 0 0 < 5) (hQ : Q ≤ K.1) : SI y.1 ∧ Q ≤ y.2 ∧ y.2 ≤ K.1 := by
  obtain ⟨q, h1, h⟩ := sb_inr h
  obtain ⟨c, h2, h⟩ := sb_inr h
  obtain ⟨hh, h3, h⟩ := sb_inr h
  obtain ⟨f, h4, h⟩ := sb_inr h
  have b1 := sNum_inr h1
  have b2 := sNum_inr h2
  have b3 := sNum_inr h3
  have b4 := sNum_inr h4
  have e1 := eN_b hQ
  have s1 := sT_b hQ
  have e2 := eN_b e1.2.1
  have s2 := sT_b e1.2.1
  have e3 := eN_b e2.2.1
  have s3 := sT_b e2.2.1
  have e4 := eN_b e3.2.1
  have s4 := sT_b e3.2.1
  have e5 := eN_b e4.2.1
  have s5 := sT_b e4.2.1
  have e6 := eN_b e5.2.1
  have s6 := sT_b e5.2.1
  obtain ⟨u, -, h⟩ := sb_inr h
  split at h
  · obtain ⟨m, h5, h⟩ := sb_inr h
    have b5 := chkB_inr h5
    obtain ⟨n5, h⟩ := ite_inr h
    obtain ⟨u, -, h⟩ := sb_inr h
    have := sFin_inr h
    subst this
    exact ⟨SI_addL hI hl b1.2 b2 b3.2 b4.2 (by omega) (by omega), by show Q ≤ eN K _; omega, by show eN K _ ≤ K.1; omega⟩
  · have := sFin_inr h
    subst this
    exact ⟨SI_addL hI hl b1.2 b2 b3.2 b4.2 (by omega) (by omega), by show Q ≤ eN K _; omega, by show eN K _ ≤ K.1; omega⟩
theorem sOne_ok {K : Tp} {σ : Rho} {Q : Nat} {y : Rho × Nat} (h : sOne K σ Q = .inr y) (hI : SI σ) (hl : σ 0 1 < 3) (hQ : Q ≤ K.1) : SI y.1 ∧ Q ≤ y.2 ∧ y.2 ≤ K.1 := by
  obtain ⟨q, h1, h⟩ := sb_inr h
  obtain ⟨c, h2, h⟩ := sb_inr h
  obtain ⟨hh, h3, h⟩ := sb_inr h
  obtain ⟨f, h4, h⟩ := sb_inr h
  have b1 := sNum_inr h1
  have b2 := sNum_inr h2
  have b3 := sNum_inr h3
  have b4 := sNum_inr h4
  have e1 := eN_b hQ
  have s1 := sT_b hQ
  have e2 := eN_b e1.2.1
  have s2 := sT_b e1.2.1
  have e3 := eN_b e2.2.1
  have s3 := sT_b e2.2.1
  have e4 := eN_b e3.2.1
  have s4 := sT_b e3.2.1
  obtain ⟨u, -, h⟩ := sb_inr h
  obtain ⟨x, h5, h⟩ := sb_inr h
  obtain ⟨g1, g2, g3, g4⟩ := sRef_ok (h0 := σ 17 0) 6 0 (σ 17 0) _ x h5 e4.2.1 (by decide) (fun n hn => ⟨fun z => ⟨z, Nat.pow_pos (by decide)⟩, fun z => z.1⟩)
  have e5 := eN_b g4
  have s5 := sT_b g4
  have := sFin_inr h
  subst this
  exact ⟨SI_addO hI hl b1.2 b2.2 b3.2 b4.2 g1 g2, by show Q ≤ eN K _; omega, by show eN K _ ≤ K.1; omega⟩
theorem sWant_ok {K : Tp} {σ : Rho} {Q : Nat} {y : Rho × Nat} (h : sWant K σ Q = .inr y) (hI : SI σ) (hQ : Q ≤ K.1) : SI y.1 ∧ Q ≤ y.2 ∧ y.2 ≤ K.1 := by
  obtain ⟨q, h1, h⟩ := sb_inr h
  obtain ⟨c, h2, h⟩ := sb_inr h
  have b1 := sNum_inr h1
  have b2 := sNum_inr h2
  have e1 := eN_b hQ
  have s1 := sT_b hQ
  have e2 := eN_b e1.2.1
  have s2 := sT_b e1.2.1
  have e3 := eN_b e2.2.1
  have s3 := sT_b e2.2.1
  obtain ⟨-, h⟩ := ite_inr h
  obtain ⟨u, -, h⟩ := sb_inr h
  have := sFin_inr h
  subst this
  exact ⟨SI_addW hI b1.2 b2.2, by show Q ≤ eN K _; omega, by show eN K _ ≤ K.1; omega⟩
theorem sWatch_ok {K : Tp} {σ : Rho} {Q : Nat} {y : Rho × Nat} (h : sWatch K σ Q = .inr y) (hI : SI σ) (hQ : Q ≤ K.1) : SI y.1 ∧ Q ≤ y.2 ∧ y.2 ≤ K.1 := by
  obtain ⟨c, h2, h⟩ := sb_inr h
  have b2 := sNum_inr h2
  have e1 := eN_b hQ
  have s1 := sT_b hQ
  have e2 := eN_b e1.2.1
  have s2 := sT_b e1.2.1
  obtain ⟨-, h⟩ := ite_inr h
  obtain ⟨u, -, h⟩ := sb_inr h
  have := sFin_inr h
  subst this
  exact ⟨SI_addH hI b2.2, by show Q ≤ eN K _; omega, by show eN K _ ≤ K.1; omega⟩
theorem isW_k {K : Tp} {P o : Nat} (h : isW K P o = true) : kD K P = 1 := by
  unfold isW at h
  split at h
  · next c => exact c.1
  · cases h
theorem sLine_ok {K : Tp} {σ : Rho} {P : Nat} {y : Rho × Nat} (h : sLine K σ P = .inr y) (hI : SI σ) (hP : P ≤ K.1) : SI y.1 ∧ P < y.2 ∧ y.2 ≤ K.1 := by
  have he := eN_b hP
  have hs := sT_b hP
  unfold sLine at h
  split at h
  · next c =>
    have k := isW_k c
    have := he.2.2 (by omega) (by omega)
    split at h
    · next g =>
      have := sLaw_ok h hI g he.2.1
      exact ⟨this.1, by omega, this.2.2⟩
    · cases h
  · split at h
    · next c =>
      have k := isW_k c
      have := he.2.2 (by omega) (by omega)
      split at h
      · next g =>
        have := sOne_ok h hI g he.2.1
        exact ⟨this.1, by omega, this.2.2⟩
      · cases h
    · split at h
      · next c =>
        have k := isW_k c
        have := he.2.2 (by omega) (by omega)
        have := sWant_ok h hI he.2.1
        exact ⟨this.1, by omega, this.2.2⟩
      · split at h
        · next c =>
          have k := isW_k c
          have := he.2.2 (by omega) (by omega)
          have := sWatch_ok h hI he.2.1
          exact ⟨this.1, by omega, this.2.2⟩
        · cases h
end
/-! 8x8.text8.lean.txt -/
section
theorem part_I : ∀ n, n ≤ 5 → ∀ x, x < 32 → (nI x &&& ((((1 : Int32) <<< (nI n &&& 31)) - (1 : Int32)) ^^^ ((-1) : Int32)) = 0 ↔ x < 2 ^ n) := by decide +kernel
theorem Q_isPart {x n : Nat} (hx : x < 32) (hn : n ≤ 5) (h : mH) : f_Q_isPart (nI x) (((1 : Int32) <<< (nI n &&& 31)) - (1 : Int32)) h = some (if x < 2 ^ n then 1 else 0, h) := by
  unfold f_Q_isPart f_Q_isPart_0
  rw [ite_iff (part_I n hn x hx)]
  split <;> rfl
def sLines (K : Tp) : Nat → Rho → Nat → Nat → Fa ⊕ (Rho × Nat)
  | 0, σ, _, c => .inr (σ, c)
  | n + 1, σ, P, c => if kD K P = 0 then .inr (σ, c) else sb (sLine K σ P) fun x => sb (tokX K x.2) fun _ => sLines K n x.1 x.2 (c + 1)
def sEnd (K : Tp) (x : Rho × Nat) : Fa ⊕ (Rho × Nat) := if x.1 17 0 ≤ x.1 0 0 ∧ x.1 17 1 ≤ x.1 0 1 then .inr x else .inl (6, K.1)
def sText (K : Tp) : Fa ⊕ (Rho × Nat) := sb (tokX K 0) fun _ => sb (sLines K 160 (fun _ _ => 0) 0 0) fun x => sEnd K x
def fin (σ : Rho) : Rho := up2 σ 0 4 (2 ^ σ 0 0 - 1)
theorem SI_0 : SI (fun _ _ => 0) := by
  refine ⟨by decide, fun l hl => absurd hl (Nat.not_lt_zero _), fun p hp => absurd hp (Nat.not_lt_zero _), fun p hp => ⟨show 0 < 32 by decide, show 0 < 32 by decide, fun _ => rfl⟩, fun _ => rfl, fun n hn => ⟨fun _ => ⟨Nat.pow_pos (by decide), fun l hl => absurd hl (Nat.not_lt_zero _), fun p hp => ⟨Nat.pow_pos (by decide), Nat.pow_pos (by decide)⟩⟩, fun _ => Nat.zero_le _⟩, fun n hn => ⟨fun _ p hp z => absurd rfl z, fun _ => Nat.zero_le _⟩⟩
theorem ROK_fin {σ : Rho} (hI : SI σ) (h1 : σ 17 0 ≤ σ 0 0) (h2 : σ 17 1 ≤ σ 0 1) : ROK (fin σ) := by
  obtain ⟨⟨a1, a2, a3, a4, a5, a6, a7, a8⟩, b, c', d, e, g, k⟩ := hI
  obtain ⟨g1, g2, g3⟩ := (g _ a1).mp h1
  have pw : 0 < 2 ^ σ 0 0 := Nat.pow_pos (by decide)
  unfold ROK fin
  simp [up2_ap]
  refine ⟨⟨a1, a2, by omega, by omega, by omega, g1, by omega⟩, fun l hl => ?_, fun p hp => ?_, fun p l hp hl => by rw [e]; omega, fun i hi => by omega⟩
  · have := b l hl
    have := g2 l hl
    omega
  · have := c' p hp
    have q := g3 p (by omega)
    refine ⟨by omega, by omega, by omega, by omega, q.1, q.2, ?_⟩
    rw [sumN_congr (g := fun _ => 0) (fun i _ => e _), sumN_0]
    omega
section
variable {K : Tp} {σ : Rho} {v : Nat → Nat → Int32} {w : Nat → Nat → Int64} {P : Nat}
theorem CR_fin (hs : CS σ v) (hI : SI σ) : CR 20 (fin σ) v := by
  obtain ⟨⟨b1, b2, b3, b4, b5, b6, b7⟩, bb, bc, bd, be⟩ := hs
  obtain ⟨⟨a1, a2, a3, a4, a5, a6, a7, a8⟩, b, c', d, e, g, k⟩ := hI
  unfold CR fin
  simp [up2_ap, a3, a4, a6, b1, b2, b3, b4, b5, b6, b7]
  refine ⟨rfl, bb, fun p hp => ?_, fun p l hp hl => ?_⟩
  · have x := bc p hp
    have y := bd p (by omega)
    exact ⟨x.1, x.2.1, x.2.2.1, x.2.2.2, y.1, y.2⟩
  · rw [be _ (by omega), e]; rfl
theorem S_hasOne (hs : CS σ v) (hI : SI σ) {p : Nat} (hp : p < 3) : f_Realm_hasOne 20 (nI p) (bh v w) = some (if p < σ 0 1 then 1 else 0, bh v w) := by
  have a2 := hI.1.2.1
  unfold f_Realm_hasOne f_Realm_hasOne_0 f_Realm_hasOne_16
  rw [if_neg (nI_pos (by omega))]
  simp only [hU0, bd1_q]
  rw [hs.1.2.1, ite_iff (nI_leI (by omega) (by omega))]
  by_cases c : p < σ 0 1
  · rw [if_neg (by omega), if_pos c]
  · rw [if_pos (by omega), if_neg c]
theorem S_hasLaw (hs : CS σ v) (hI : SI σ) {m : Nat} (hm : m < 5) : f_Realm_hasLaw 20 (nI m) (bh v w) = some (if m < σ 0 0 then 1 else 0, bh v w) := by
  have a1 := hI.1.1
  unfold f_Realm_hasLaw f_Realm_hasLaw_0 f_Realm_hasLaw_16
  rw [if_neg (nI_pos (by omega))]
  simp only [hU0, bd1_q]
  rw [hs.1.1, ite_iff (nI_leI (by omega) (by omega))]
  by_cases c : m < σ 0 0
  · rw [if_neg (by omega), if_pos c]
  · rw [if_pos (by omega), if_neg c]
theorem C_allThere (hs : CS σ v) (hI : SI σ) : ∃ r, f_Reader_allThere 20 (bh v w) = some (r, bh v w) ∧ (r = 1 ∧ (σ 17 0 ≤ σ 0 0 ∧ σ 17 1 ≤ σ 0 1) ∨ r = 0 ∧ ¬ (σ 17 0 ≤ σ 0 0 ∧ σ 17 1 ≤ σ 0 1)) := by
  have hI' := hI
  obtain ⟨⟨a1, a2, a3, a4, a5, a6, a7, a8⟩, b, c', d, e, g, k⟩ := hI'
  have k66 : ∀ (n fuel p : Nat), n < fuel → p + n = 3 → ∃ r, f_Reader_allThere_66 fuel 20 (((1 : Int32) <<< (nI (σ 0 0) &&& 31)) - (1 : Int32)) (nI p) (bh v w) = some (r, bh v w) ∧ (r = 1 ∧ (∀ j, p ≤ j → j < 3 → (σ 0 1 ≤ j → σ 11 j = 0) ∧ σ 10 j ||| σ 11 j < 2 ^ σ 0 0) ∨ r = 0 ∧ ¬ ∀ j, p ≤ j → j < 3 → (σ 0 1 ≤ j → σ 11 j = 0) ∧ σ 10 j ||| σ 11 j < 2 ^ σ 0 0) := by
    intro n
    induction n with
    | zero =>
      intro fuel p hf hp
      obtain ⟨m, rfl⟩ : ∃ m, fuel = m + 1 := ⟨fuel - 1, by omega⟩
      show ∃ r, f_Reader_allThere_66b (f_Reader_allThere_66 m) 20 _ (nI p) (bh v w) = some (r, bh v w) ∧ _
      unfold f_Reader_allThere_66b
      rw [show (3 : Int32) = nI 3 from rfl, if_pos ((nI_leI (by omega) (by omega)).mpr (by omega))]
      exact ⟨1, rfl, Or.inl ⟨rfl, fun j h1 h2 => by omega⟩⟩
    | succ n ih =>
      intro fuel p hf hp
      obtain ⟨m, rfl⟩ : ∃ m, fuel = m + 1 := ⟨fuel - 1, by omega⟩
      have dp := d p (by omega)
      have sp := hs.2.2.2.1 p (by omega)
      obtain ⟨r, er, hr⟩ := ih m (p + 1) (by omega) (by omega)
      have f93 : (σ 0 1 ≤ p → σ 11 p = 0) → ∃ r, f_Reader_allThere_93 (f_Reader_allThere_66 m) 20 (((1 : Int32) <<< (nI (σ 0 0) &&& 31)) - (1 : Int32)) (nI p) 0 (bh v w) = some (r, bh v w) ∧ (r = 1 ∧ (∀ j, p ≤ j → j < 3 → (σ 0 1 ≤ j → σ 11 j = 0) ∧ σ 10 j ||| σ 11 j < 2 ^ σ 0 0) ∨ r = 0 ∧ ¬ ∀ j, p ≤ j → j < 3 → (σ 0 1 ≤ j → σ 11 j = 0) ∧ σ 10 j ||| σ 11 j < 2 ^ σ 0 0) := by
        intro hw
        unfold f_Reader_allThere_93 f_Reader_allThere_118
        rw [if_pos rfl]
        simp only [hU0, bd1_q]
        rw [rd_nI (by omega) (by decide), bd1_s, rd_nI (by omega) (by decide), bd1_s, sp.1, sp.2, or_I, Q_isPart (or_lt _ dp.1 _ dp.2.1) a1, bd2_s, nI_1, er]
        by_cases c : σ 10 p ||| σ 11 p < 2 ^ σ 0 0
        · rw [if_pos c, if_neg (by decide)]
          refine ⟨r, rfl, ?_⟩
          rcases hr with ⟨h1, h2⟩ | ⟨h1, h2⟩
          · refine Or.inl ⟨h1, fun j q1 q2 => ?_⟩
            by_cases z : j = p
            · rw [z]; exact ⟨hw, c⟩
            · exact h2 j (by omega) q2
          · exact Or.inr ⟨h1, fun z => h2 (fun j q1 q2 => z j (by omega) q2)⟩
        · rw [if_neg c, if_pos rfl]
          exact ⟨0, rfl, Or.inr ⟨rfl, fun z => c (z p (Nat.le_refl _) (by omega)).2⟩⟩
      show ∃ r, f_Reader_allThere_66b (f_Reader_allThere_66 m) 20 _ (nI p) (bh v w) = some (r, bh v w) ∧ _
      unfold f_Reader_allThere_66b f_Reader_allThere_92
      rw [show (3 : Int32) = nI 3 from rfl, if_neg (fun z => by have := (nI_leI (by omega) (by omega)).mp z; omega)]
      simp only [hU0, bd1_q]
      rw [S_hasOne hs hI (by omega), bd2_s]
      by_cases c : p < σ 0 1
      · rw [if_pos c, if_neg (by decide)]
        exact f93 (fun z => by omega)
      · rw [if_neg c, if_pos rfl]
        simp only [hU0, bd1_q]
        rw [rd_nI (by omega) (by decide), bd1_s, sp.2, ite_iff (nI_eq0 (by omega))]
        by_cases z : σ 11 p = 0
        · rw [if_pos z]
          exact f93 (fun _ => z)
        · rw [if_neg z]
          unfold f_Reader_allThere_93 f_Reader_allThere_118
          rw [if_neg (by decide)]
          exact ⟨0, rfl, Or.inr ⟨rfl, fun q => z ((q p (Nat.le_refl _) (by omega)).1 (by omega))⟩⟩
  have k24 : ∀ (n fuel l : Nat), n < fuel → l + n = σ 0 0 → ∃ r, f_Reader_allThere_24 fuel 20 (((1 : Int32) <<< (nI (σ 0 0) &&& 31)) - (1 : Int32)) (nI l) (bh v w) = some (r, bh v w) ∧ (r = 1 ∧ ((∀ j, l ≤ j → j < σ 0 0 → σ 5 j ≤ σ 0 0) ∧ ∀ j, 0 ≤ j → j < 3 → (σ 0 1 ≤ j → σ 11 j = 0) ∧ σ 10 j ||| σ 11 j < 2 ^ σ 0 0) ∨ r = 0 ∧ ¬ ((∀ j, l ≤ j → j < σ 0 0 → σ 5 j ≤ σ 0 0) ∧ ∀ j, 0 ≤ j → j < 3 → (σ 0 1 ≤ j → σ 11 j = 0) ∧ σ 10 j ||| σ 11 j < 2 ^ σ 0 0)) := by
    intro n
    induction n with
    | zero =>
      intro fuel l hf hl
      obtain ⟨m, rfl⟩ : ∃ m, fuel = m + 1 := ⟨fuel - 1, by omega⟩
      obtain ⟨r, er, hr⟩ := k66 3 FU 0 (by decide) (by decide)
      refine ⟨r, ?_, ?_⟩
      · show f_Reader_allThere_24b (f_Reader_allThere_24 m) 20 _ (nI l) (bh v w) = _
        unfold f_Reader_allThere_24b
        simp only [hU0, bd1_q]
        rw [hs.1.1, if_pos ((nI_leI (by omega) (by omega)).mpr (by omega))]
        exact er
      · rcases hr with ⟨h1, h2⟩ | ⟨h1, h2⟩
        · exact Or.inl ⟨h1, fun j q1 q2 => by omega, h2⟩
        · exact Or.inr ⟨h1, fun z => h2 z.2⟩
    | succ n ih =>
      intro fuel l hf hl
      obtain ⟨m, rfl⟩ : ∃ m, fuel = m + 1 := ⟨fuel - 1, by omega⟩
      obtain ⟨r, er, hr⟩ := ih m (l + 1) (by omega) (by omega)
      have bl := b l (by omega)
      have sl := (hs.2.1 l (by omega)).2.2.2.2
      have go : σ 5 l ≤ σ 0 0 → (r = 1 ∧ ((∀ j, l ≤ j → j < σ 0 0 → σ 5 j ≤ σ 0 0) ∧ ∀ j, 0 ≤ j → j < 3 → (σ 0 1 ≤ j → σ 11 j = 0) ∧ σ 10 j ||| σ 11 j < 2 ^ σ 0 0) ∨ r = 0 ∧ ¬ ((∀ j, l ≤ j → j < σ 0 0 → σ 5 j ≤ σ 0 0) ∧ ∀ j, 0 ≤ j → j < 3 → (σ 0 1 ≤ j → σ 11 j = 0) ∧ σ 10 j ||| σ 11 j < 2 ^ σ 0 0)) := by
        intro h5
        rcases hr with ⟨h1, h2⟩ | ⟨h1, h2⟩
        · refine Or.inl ⟨h1, fun j q1 q2 => ?_, h2.2⟩
          by_cases z : j = l
          · rw [z]; exact h5
          · exact h2.1 j (by omega) q2
        · exact Or.inr ⟨h1, fun z => h2 ⟨fun j q1 q2 => z.1 j (by omega) q2, z.2⟩⟩
      show ∃ r, f_Reader_allThere_24b (f_Reader_allThere_24 m) 20 _ (nI l) (bh v w) = some (r, bh v w) ∧ _
      unfold f_Reader_allThere_24b f_Reader_allThere_58
      simp only [hU0, bd1_q]
      rw [hs.1.1, if_neg (fun z => by have := (nI_leI (by omega) (by omega)).mp z; omega), rd_nI (by omega) (by decide), bd1_s, bd1_s, sl, nI_1, er]
      rcases h5 : σ 5 l with _ | m5
      · rw [if_pos (show cI 0 = -4 from rfl)]
        exact ⟨r, rfl, go (by omega)⟩
      · rw [if_neg (show ¬ cI (m5 + 1) = -4 from fun z => by
          have z2 : nI m5 = -4 := z
          have := congrArg Int32.toInt z2
          rw [nI_toInt (by omega)] at this
          have q : (-4 : Int32).toInt = -4 := by decide
          omega), show cI (m5 + 1) = nI m5 from rfl, S_hasLaw hs hI (by omega), bd2_s]
        by_cases c : m5 < σ 0 0
        · rw [if_pos c, if_neg (by decide)]
          exact ⟨r, er, go (by omega)⟩
        · rw [if_neg c, if_pos rfl]
          exact ⟨0, rfl, Or.inr ⟨rfl, fun z => by have := z.1 l (Nat.le_refl _) (by omega); omega⟩⟩
  have iff1 : (σ 17 0 ≤ σ 0 0 ∧ σ 17 1 ≤ σ 0 1) ↔ σ 0 5 < 2 ^ σ 0 0 ∧ (∀ j, 0 ≤ j → j < σ 0 0 → σ 5 j ≤ σ 0 0) ∧ ∀ j, 0 ≤ j → j < 3 → (σ 0 1 ≤ j → σ 11 j = 0) ∧ σ 10 j ||| σ 11 j < 2 ^ σ 0 0 := by
    rw [g _ a1, k _ a2]
    constructor
    · rintro ⟨⟨x1, x2, x3⟩, x4⟩
      refine ⟨x1, fun j _ q => x2 j q, fun j _ q => ⟨fun z => ?_, (or_2_lt _ (d j q).1 _ (d j q).2.1 _ a1).mpr (x3 j q)⟩⟩
      rcases Nat.eq_zero_or_pos (σ 11 j) with y | y
      · exact y
      · have := x4 j q (by omega)
        omega
    · rintro ⟨x1, x2, x3⟩
      refine ⟨⟨x1, fun l q => x2 l (Nat.zero_le _) q, fun p q => (or_2_lt _ (d p q).1 _ (d p q).2.1 _ a1).mp (x3 p (Nat.zero_le _) q).2⟩, fun p q z => ?_⟩
      rcases Nat.lt_or_ge p (σ 0 1) with y | y
      · exact y
      · exact absurd ((x3 p (Nat.zero_le _) q).1 y) z
  unfold f_Reader_allThere f_Reader_allThere_0
  simp only [hU0, bd1_q]
  rw [hs.1.1, hs.1.2.2.2.2.2.1, Q_isPart a5 a1, bd2_s]
  by_cases c : σ 0 5 < 2 ^ σ 0 0
  · rw [if_pos c, if_neg (by decide)]
    obtain ⟨r, er, hr⟩ := k24 (σ 0 0) FU 0 (by unfold FU; omega) (by omega)
    refine ⟨r, er, ?_⟩
    rcases hr with ⟨h1, h2⟩ | ⟨h1, h2⟩
    · exact Or.inl ⟨h1, iff1.mpr ⟨c, h2⟩⟩
    · exact Or.inr ⟨h1, fun z => h2 (iff1.mp z).2⟩
  · rw [if_neg c, if_pos rfl]
    exact ⟨0, rfl, Or.inr ⟨rfl, fun z => c (iff1.mp z).1⟩⟩
end
end
/-! 8x9.text9.lean.txt -/
section
theorem hZ0 (v : Nat → Nat → Int32) (w : Nat → Nat → Int64) : kC (bh v w) 0 0 = some () ∧ gR (bh v w) 0 0 0 = some 1 ∧ gR (bh v w) 0 0 1 = some 3 ∧ gR (bh v w) 0 0 2 = some 20 ∧ gR (bh v w) 0 0 4 = some 38 ∧ kC (bh v w) 3 4 = some () ∧ (∀ i x, sI (bh v w) 2 38 i x = wr v w 38 2 i x) := ⟨rfl, rfl, rfl, rfl, rfl, rfl, sI_bh rfl⟩
section
variable {K : Tp} {σ : Rho} {v : Nat → Nat → Int32} {w : Nat → Nat → Int64} {P : Nat}
theorem C_empty : ∃ v', f_Realm_empty 20 (bh v w) = some (bh v' w) ∧ CS (fun _ _ => 0) v' ∧ ∀ q, q < 20 ∨ 37 ≤ q → v' q = v q := by
  unfold f_Realm_empty f_Realm_empty_0
  simp only [hU0, bd1_q]
  obtain ⟨v1, e1, g1, h1, -⟩ := fill_I (q := 30) (n := 3) (x := 0) (by omega) (fun _ _ => rfl) (fun v w i x => sI_bh rfl i x) (u2 (u2 (u2 (u2 (u2 (u2 (u2 v 20 0 0) 20 1 0) 20 2 0) 20 3 0) 20 4 0) 20 5 0) 33 0 0) w
  rw [e1]
  simp only [hU0, bd1_q]
  obtain ⟨v2, e2, g2, h2, -⟩ := fill_I (q := 31) (n := 3) (x := 0) (by omega) (fun _ _ => rfl) (fun v w i x => sI_bh rfl i x) v1 w
  rw [e2]
  simp only [hU0, bd1_q]
  obtain ⟨v3, e3, g3, h3, -⟩ := fill_I (q := 32) (n := 15) (x := 0) (by omega) (fun _ _ => rfl) (fun v w i x => sI_bh rfl i x) v2 w
  rw [e3]
  simp only [hU0, bd1_q]
  have fr : ∀ q, q ≠ 30 → q ≠ 31 → q ≠ 32 → v3 q = u2 (u2 (u2 (u2 (u2 (u2 (u2 v 20 0 0) 20 1 0) 20 2 0) 20 3 0) 20 4 0) 20 5 0) 33 0 0 q := fun q a b c => (g3 q c).trans ((g2 q b).trans (g1 q a))
  refine ⟨v3, rfl, ⟨?_, fun l hl => absurd hl (Nat.not_lt_zero _), fun p hp => absurd hp (Nat.not_lt_zero _), fun p hp => ⟨?_, ?_⟩, h3⟩, fun q hq => ?_⟩
  · rw [fr 20 (by decide) (by decide) (by decide), fr 33 (by decide) (by decide) (by decide)]
    simp [u2_ap]
    rfl
  · rw [g3 30 (by decide), g2 30 (by decide)]; exact h1 p hp
  · rw [g3 31 (by decide)]; exact h2 p hp
  · rw [fr q (by omega) (by omega) (by omega), u2_o (by omega), u2_o (by omega), u2_o (by omega), u2_o (by omega), u2_o (by omega), u2_o (by omega), u2_o (by omega)]
theorem C_fail0 (c s : Nat) : ∃ v', f_Reader_fail 1 (nI c) (nI s) (bh v w) = some (0, bh v' w) ∧ FrR v v' ∧ v' 1 2 = nI c ∧ v' 1 3 = nI s := by
  unfold f_Reader_fail f_Reader_fail_0
  simp only [hT0, bd1_q]
  exact ⟨_, rfl, ⟨fun q hq => (u2_o hq).trans (u2_o hq), by simp [u2_ap], by simp [u2_ap]⟩, by simp [u2_ap], by simp [u2_ap]⟩
/-- what is left when a text was read -/
def TQ (x : Rho × Nat) (v : Nat → Nat → Int32) : Prop := CS x.1 v ∧ v 1 4 = nI x.2 ∧ SI x.1 ∧ (x.1 17 0 ≤ x.1 0 0 ∧ x.1 17 1 ≤ x.1 0 1)
theorem C_ri86 {c : Nat} (hT : CT K v) (h2 : v 1 2 = 0) (hs : CS σ v) (hI : SI σ) (h4 : v 1 4 = nI c) : ∃ r v', f_Reader_readInto_86 1 20 1 (bh v w) = some (r, bh v' w) ∧ FrR v v' ∧ CX (sEnd K (σ, c)) TQ r v' := by
  unfold f_Reader_readInto_86 f_Reader_readInto_114 f_Reader_readInto_110 sEnd
  rw [if_neg (by decide)]
  obtain ⟨r, er, hr⟩ := C_allThere (w := w) hs hI
  rw [er, bd2_s]
  rcases hr with ⟨rfl, h⟩ | ⟨rfl, h⟩
  · rw [if_neg (by decide), if_pos h]
    exact ⟨1, v, rfl, FrR.rfl' v, rfl, h2, hs, h4, hI, h⟩
  · rw [if_pos rfl, if_neg h]
    simp only [hT0, bd1_q]
    obtain ⟨v1, e1, f1, b1, b2⟩ := C_fail0 (v := v) (w := w) 6 K.1
    rw [hT.1, show (6 : Int32) = nI 6 from rfl, e1, bd2_s, if_pos rfl]
    exact ⟨0, v1, rfl, f1, rfl, b1, b2⟩
theorem C_riF (n b0 b1 : Nat) (i : Int32) (h : mH) : f_Reader_readInto_31 (n + 1) b0 b1 0 i h = some (0, h) := by
  show f_Reader_readInto_31b (f_Reader_readInto_31 n) b0 b1 0 i h = _
  unfold f_Reader_readInto_31b f_Reader_readInto_86 f_Reader_readInto_114
  by_cases c : (160 : Int32) ≤ i
  · rw [if_pos c, if_pos rfl]
  · rw [if_neg c, if_pos rfl, if_pos rfl]
def FrT (v v' : Nat → Nat → Int32) : Prop := (∀ q, q ≠ 1 → q < 20 ∨ 37 ≤ q → v' q = v q) ∧ v' 1 1 = v 1 1
theorem FrT.tr {v1 v2 : Nat → Nat → Int32} (h : FrT v v1) (g : FrT v1 v2) : FrT v v2 := ⟨fun q h1 h2 => (g.1 q h1 h2).trans (h.1 q h1 h2), g.2.trans h.2⟩
theorem FrL.t {v1 : Nat → Nat → Int32} (h : FrL v v1) : FrT v v1 := ⟨h.1, h.2.1⟩
theorem FrT.ln {v1 : Nat → Nat → Int32} {x : Int32} (h : FrT v v1) : FrT v (u2 v1 1 4 x) := ⟨fun q h1 h2 => (u2_o h1).trans (h.1 q h1 h2), (u2_n (by decide)).trans h.2⟩
theorem CT.ft {v1 : Nat → Nat → Int32} (h : CT K v) (g : FrT v v1) : CT K v1 := h.fr g.2 (g.1 2 (by decide) (by decide))
theorem C_readL : ∀ (n fuel i c : Nat) (σ : Rho) (P : Nat) (v : Nat → Nat → Int32), n + 1 < fuel → i + n = 160 → CT K v → v 1 2 = 0 → CTk K P v → CS σ v → SI σ → P ≤ K.1 → v 1 4 = nI c → ∃ r v', f_Reader_readInto_31 fuel 1 20 1 (nI i) (bh v w) = some (r, bh v' w) ∧ FrT v v' ∧ CX (sb (sLines K n σ P c) fun x => sEnd K x) TQ r v' := by
  intro n
  induction n with
  | zero =>
    intro fuel i c σ P v hf hi hT h2 hk hs hI hP h4
    obtain ⟨m, rfl⟩ : ∃ m, fuel = m + 1 := ⟨fuel - 1, by omega⟩
    obtain ⟨r, v1, e1, f1, x1⟩ := C_ri86 (w := w) hT h2 hs hI h4
    refine ⟨r, v1, ?_, f1.fl.t, x1⟩
    show f_Reader_readInto_31b (f_Reader_readInto_31 m) 1 20 1 (nI i) (bh v w) = _
    unfold f_Reader_readInto_31b
    rw [show (160 : Int32) = nI 160 from rfl, if_pos ((nI_leI (by omega) (by omega)).mpr (by omega))]
    exact e1
  | succ n ih =>
    intro fuel i c σ P v hf hi hT h2 hk hs hI hP h4
    obtain ⟨m, rfl⟩ : ∃ m, fuel = m + 1 + 1 := ⟨fuel - 2, by omega⟩
    have k4 := (kc_s (K := K) (s := sT K P)).2.2.2.2
    have ek : kD K P = kc K (sT K P) := rfl
    show ∃ r v', f_Reader_readInto_31b (f_Reader_readInto_31 (m + 1)) 1 20 1 (nI i) (bh v w) = some (r, bh v' w) ∧ _
    unfold f_Reader_readInto_31b f_Reader_readInto_68 f_Reader_readInto_69 sLines
    rw [show (160 : Int32) = nI 160 from rfl, if_neg (fun z => by have := (nI_leI (by omega) (by omega)).mp z; omega), if_neg (by decide)]
    simp only [hT0, bd1_q]
    rw [hk.2.1, ite_iff (nI_eq0 (by omega))]
    by_cases z : kD K P = 0
    · rw [if_pos z, if_pos z]
      obtain ⟨r, v1, e1, f1, x1⟩ := C_ri86 (w := w) hT h2 hs hI h4
      exact ⟨r, v1, e1, f1.fl.t, x1⟩
    rw [if_neg z, if_neg z]
    obtain ⟨r1, v1, e1, f1, x1⟩ := C_takeLine (w := w) hT h2 hk hP hs hI
    rw [e1, bd2_s]
    have T1 : CT K v1 := hT.ft f1.t
    have l4 : v1 1 4 = nI c := f1.2.2.trans h4
    clear e1
    generalize hX : sLine K σ P = X at x1 ⊢
    cases X with
    | inl g =>
      obtain ⟨rfl, a, b⟩ := x1
      rw [if_pos rfl]
      simp only [hT0, bd1_q, C_riF]
      exact ⟨0, _, rfl, f1.t.ln, rfl, (u2_n (by decide)).trans a, (u2_n (by decide)).trans b⟩
    | inr y =>
    obtain ⟨rfl, a2, a5, as⟩ := x1
    obtain ⟨yI, yP, yL⟩ := sLine_ok hX hI hP
    rw [if_neg (by decide), sb_r]
    simp only [hT0, bd1_q]
    obtain ⟨r2, v2, e2, f2, x2⟩ := C_takeToken (w := w) T1 a2 a5 yL
    rw [e2, bd2_s]
    have T2 : CT K v2 := T1.fR f2
    have m4 : v2 1 4 = nI c := f2.2.2.trans l4
    have s2 : CS y.1 v2 := as.of f2.1
    have F2 : FrT v v2 := f1.t.tr f2.fl.t
    clear e2
    generalize tokX K y.2 = X2 at x2 ⊢
    cases X2 with
    | inl g =>
      obtain ⟨rfl, a, b⟩ := x2
      rw [if_pos rfl]
      simp only [hT0, bd1_q, C_riF]
      exact ⟨0, _, rfl, F2.ln, rfl, (u2_n (by decide)).trans a, (u2_n (by decide)).trans b⟩
    | inr u =>
    obtain ⟨rfl, b2, tk⟩ := x2
    rw [if_neg (by decide), sb_r]
    simp only [hT0, bd1_q]
    rw [m4, nI_1, nI_1]
    obtain ⟨r3, v3, e3, f3, x3⟩ := ih (m + 1) (i + 1) (c + 1) y.1 y.2 (u2 v2 1 4 (nI (c + 1))) (by omega) (by omega) (T2.fr (u2_n (by decide)) (u2_o (by decide))) ((u2_n (by decide)).trans b2) ⟨(u2_n (by decide)).trans tk.1, (u2_n (by decide)).trans tk.2.1, (u2_n (by decide)).trans tk.2.2.1, fun q => (u2_n (by decide)).trans (tk.2.2.2 q)⟩ (s2.of (fun q hq => u2_o hq)) yI yL (u2_at _ _ _ _)
    exact ⟨r3, v3, e3, F2.ln.tr f3, x3⟩
theorem C_readInto (hT : CT K v) : ∃ r v', f_Reader_readInto 1 20 (bh v w) = some (r, bh v' w) ∧ FrT v v' ∧ CX (sText K) TQ r v' := by
  unfold f_Reader_readInto f_Reader_readInto_0 sText
  obtain ⟨v1, e1, s1, q1⟩ := C_empty (v := v) (w := w)
  simp only [hU0, bd1_q]
  rw [e1]
  simp only [hT0, bd1_q]
  have z1 : v1 1 = v 1 := q1 1 (by decide)
  have T1 : CT K v1 := hT.fr (by rw [z1]) (q1 2 (by decide))
  have F1 : FrT v (u2 (u2 (u2 (u2 v1 1 2 0) 1 3 0) 1 4 0) 1 5 0) := ⟨fun q h1 h2 => by rw [u2_o h1, u2_o h1, u2_o h1, u2_o h1]; exact q1 q h2, by simp [u2_ap]; rw [z1]⟩
  have T2 : CT K (u2 (u2 (u2 (u2 v1 1 2 0) 1 3 0) 1 4 0) 1 5 0) := hT.ft F1
  have s2 : CS (fun _ _ => 0) (u2 (u2 (u2 (u2 v1 1 2 0) 1 3 0) 1 4 0) 1 5 0) := s1.of (fun q hq => by rw [u2_o hq, u2_o hq, u2_o hq, u2_o hq])
  have a2 : u2 (u2 (u2 (u2 v1 1 2 0) 1 3 0) 1 4 0) 1 5 0 1 2 = 0 := by simp [u2_ap]
  have a4 : u2 (u2 (u2 (u2 v1 1 2 0) 1 3 0) 1 4 0) 1 5 0 1 4 = 0 := by simp [u2_ap]
  have a5 : u2 (u2 (u2 (u2 v1 1 2 0) 1 3 0) 1 4 0) 1 5 0 1 5 = nI 0 := by simp [u2_ap]; rfl
  generalize u2 (u2 (u2 (u2 v1 1 2 0) 1 3 0) 1 4 0) 1 5 0 = v2 at F1 T2 s2 a2 a4 a5 ⊢
  obtain ⟨r3, v3, e3, f3, x3⟩ := C_takeToken (w := w) T2 a2 a5 (Nat.zero_le _)
  rw [e3, bd2_s]
  have F3 : FrT v v3 := F1.tr f3.fl.t
  have T3 : CT K v3 := T2.fR f3
  have b4 : v3 1 4 = nI 0 := f3.2.2.trans a4
  clear e3
  generalize tokX K 0 = X at x3 ⊢
  cases X with
  | inl g =>
    obtain ⟨rfl, a, b⟩ := x3
    rw [show f_Reader_readInto_31 FU 1 20 0 0 (bh v3 w) = some (0, bh v3 w) from C_riF 599 1 20 0 _]
    exact ⟨0, v3, rfl, F3, rfl, a, b⟩
  | inr u =>
  obtain ⟨rfl, b2, tk⟩ := x3
  obtain ⟨r4, v4, e4, f4, x4⟩ := C_readL (w := w) 160 FU 0 0 (fun _ _ => 0) 0 v3 (by decide) (by decide) T3 b2 tk (s2.of f3.1) SI_0 (Nat.zero_le _) b4
  exact ⟨r4, v4, e4, F3.tr f4, x4⟩
/-- the class's text() -/
theorem C_text (hT : CT K v) : ∃ r v', f_Q_text 0 (bh v w) = some (r, bh v' w) ∧ v' 1 1 = 0 ∧ match sText K with
    | .inl f => r = ((-10) : Int32) - nI f.2 ∧ v' 1 2 = nI f.1 ∧ ∀ q, q ≠ 1 → q < 20 ∨ 37 ≤ q → v' q = v q
    | .inr x => r = nI x.2 ∧ v' 1 2 = 0 ∧ CR 3 (fin x.1) v' ∧ v' 38 0 = 0 ∧ v' 38 1 = 0 ∧ (SI x.1 ∧ x.1 17 0 ≤ x.1 0 0 ∧ x.1 17 1 ≤ x.1 0 1) ∧ ∀ q, q ≠ 1 → q ≠ 38 → q < 3 ∨ 37 ≤ q → v' q = v q := by
  unfold f_Q_text f_Q_text_0
  simp only [hZ0, hT0, bd1_q]
  obtain ⟨r1, v1, e1, f1, x1⟩ := C_readInto (w := w) hT
  rw [e1, bd2_s]
  simp only [hZ0, hT0, bd1_q]
  clear e1
  generalize sText K = X at x1 ⊢
  cases X with
  | inl g =>
    obtain ⟨rfl, a, b⟩ := x1
    rw [if_pos rfl, u2_n (show 3 ≠ 1 by decide), b]
    exact ⟨_, _, rfl, u2_at _ _ _ _, rfl, (u2_n (by decide)).trans a, fun q h1 h2 => (u2_o h1).trans (f1.1 q h1 h2)⟩
  | inr y =>
  obtain ⟨rfl, a2, ts, t4, tI, te⟩ := x1
  rw [if_neg (by decide)]
  obtain ⟨v2, e2, c2⟩ := C_copyFrom (a := 3) (b := 20) (Or.inl rfl) (Or.inr (Or.inl rfl)) (by decide) (u2 v1 1 1 0) w
  rw [e2, bd1_s]
  have hR : CR 3 (fin y.1) v2 := CR_copy (CR_fin (ts.of (fun q hq => u2_o hq)) tI) (ROK_fin tI te.1 te.2) c2
  have z1 : v2 1 = u2 v1 1 1 0 1 := c2.1 1 (by decide)
  refine ⟨nI y.2, u2 (u2 v2 38 0 0) 38 1 0, ?_, ?_, rfl, ?_, ?_, ?_, ?_, ⟨tI, te⟩, ?_⟩
  · show f_Q_text_48b (f_Q_text_48 599) 0 0 (bh v2 w) = _
    unfold f_Q_text_48b
    rw [if_neg (by decide)]
    simp only [hZ0, bd1_q]
    rw [show (0 : Int32) = nI 0 from rfl, wr_nI (by decide) (by decide), bd1_s]
    show f_Q_text_48b (f_Q_text_48 598) 0 (nI 1) (bh (u2 v2 38 0 0) w) = _
    unfold f_Q_text_48b
    rw [if_neg (by decide)]
    simp only [hZ0, bd1_q]
    rw [wr_nI (by decide) (by decide), bd1_s]
    show f_Q_text_48b (f_Q_text_48 597) 0 (nI 2) (bh (u2 (u2 v2 38 0 0) 38 1 0) w) = _
    unfold f_Q_text_48b
    rw [if_pos (by decide)]
    simp only [hZ0, hT0, bd1_q]
    rw [u2_o (by decide), u2_o (by decide), z1, u2_n (by decide), t4]
    rfl
  · rw [u2_o (by decide), u2_o (by decide), z1, u2_at]
  · rw [u2_o (by decide), u2_o (by decide), z1, u2_n (by decide)]; exact a2
  · exact hR.frame (fun p h1 h2 => (u2_o (by omega)).trans (u2_o (by omega)))
  · rw [u2_n (by decide), u2_at]
  · rw [u2_at]
  · intro q h1 h2 h3
    rw [u2_o h2, u2_o h2, c2.1 q (by omega), u2_o h1]
    exact f1.1 q h1 (by omega)
end
end
/-! 8xa.texta.lean.txt -/
section
/-! the reference's tokens -/
theorem nin_I {a lo hi : Nat} (ha : a < 2 ^ 31) (hl : lo < 2 ^ 31) (hh : hi < 2 ^ 31) (h : mH) : f_M_in (nI a).toInt64 (nI lo).toInt64 (nI hi).toInt64 h = some (if lo ≤ a ∧ a ≤ hi then 1 else 0, h) := by
  rw [M_in]
  have e : ((nI lo).toInt64 ≤ (nI a).toInt64 ∧ (nI a).toInt64 ≤ (nI hi).toInt64) ↔ (lo ≤ a ∧ a ≤ hi) := by
    rw [i64_le, i64_le, nI_toInt ha, nI_toInt hl, nI_toInt hh]
    omega
  rw [ite_iff e]
def FL (f : Fa) (v : Nat → Nat → Int32) : Prop := v 100 25 = nI f.1 ∧ v 100 26 = nI f.2 ∧ 1 ≤ f.1 ∧ f.1 ≤ 6
def FrN (v v' : Nat → Nat → Int32) : Prop := (∀ q, q ≠ 100 → v' q = v q) ∧ ∀ j, j < 21 ∨ 26 < j → v' 100 j = v 100 j
theorem FrN.rf (v : Nat → Nat → Int32) : FrN v v := ⟨fun _ _ => rfl, fun _ _ => rfl⟩
theorem FrN.tr {v v1 v2 : Nat → Nat → Int32} (h : FrN v v1) (g : FrN v1 v2) : FrN v v2 := ⟨fun q hq => (g.1 q hq).trans (h.1 q hq), fun j hj => (g.2 j hj).trans (h.2 j hj)⟩
theorem FrN.u {v v1 : Nat → Nat → Int32} {k : Nat} {x : Int32} (h : FrN v v1) (hk : 21 ≤ k ∧ k ≤ 26) : FrN v (u2 v1 100 k x) := ⟨fun q hq => (u2_o hq).trans (h.1 q hq), fun j hj => (u2_n (by omega)).trans (h.2 j hj)⟩
def MX {α : Type} (X : Fa ⊕ α) (Q : α → (Nat → Nat → Int32) → Prop) (v : Nat → Nat → Int32) : Prop := match X with
  | .inl f => FL f v
  | .inr a => v 100 25 = 0 ∧ Q a v
def MTk (K : Tp) (P : Nat) (v : Nat → Nat → Int32) : Prop := P ≤ K.1 ∧ v 100 21 = nI (eN K P) ∧ v 100 22 = nI (sT K P) ∧ v 100 23 = nI (kD K P) ∧ (kD K P = 2 → v 100 24 = nI (vL K P))
theorem MT.fr {K : Tp} {v v' : Nat → Nat → Int32} (h : MT K v) (h1 : v' 100 20 = v 100 20) (h2 : v' 114 = v 114) : MT K v' := by
  unfold MT
  rw [h1, h2]
  exact h
theorem MT.fN {K : Tp} {v v' : Nat → Nat → Int32} (h : MT K v) (g : FrN v v') : MT K v' := h.fr (g.2 20 (by decide)) (g.1 114 (by decide))
section
variable {K : Tp} {v : Nat → Nat → Int32} {w : Nat → Nat → Int64} {P : Nat}
theorem M_look (hT : MT K v) {p : Nat} (hp : p < 2 ^ 31) : f_M_look 100 (nI p) (bh v w) = some (if p < K.1 then nI (K.2 p) else -1, bh v w) := by
  have hL := hT.2.1
  unfold f_M_look f_M_look_0
  simp only [hN0, bd1_q]
  rw [hT.1, ite_iff (nI_leI (by omega) hp)]
  by_cases c : p < K.1
  · rw [if_neg (by omega), if_pos c, rd_nI (by omega) (by decide), bd1_s, (hT.2.2 p c).1]
  · rw [if_pos (by omega), if_neg c]
theorem M_needs1 (c : Int32) (h : mH) : f_M_needs 100 1 c h = some h := by
  unfold f_M_needs f_M_needs_0
  rw [if_neg (by decide)]
theorem M_needs0 (h25 : v 100 25 = 0) (c : Int32) : f_M_needs 100 0 c (bh v w) = some (bh (u2 (u2 v 100 25 c) 100 26 (v 100 22)) w) := by
  unfold f_M_needs f_M_needs_0
  rw [if_pos rfl]
  simp only [hN0, bd1_q]
  rw [h25, if_pos rfl, u2_n (by decide)]
theorem M_needsF {f : Fa} (hF : FL f v) (b c : Int32) : f_M_needs 100 b c (bh v w) = some (bh v w) := by
  have h1 := hF.2.2
  unfold f_M_needs f_M_needs_0
  by_cases z : b = 0
  · rw [if_pos z]
    simp only [hN0, bd1_q]
    rw [hF.1, if_neg (nI_ne0 (by omega) (by omega))]
  · rw [if_neg z]
theorem M_run82 : ∀ (n fuel i : Nat) (v : Nat → Nat → Int32), n < fuel → i + n = K.1 → MT K v → v 100 21 = nI i → ∃ v', f_M_next_82 fuel 100 (bh v w) = some (bh v' w) ∧ v' 100 21 = nI (ru K.2 97 122 n i) ∧ (∀ q, q ≠ 100 → v' q = v q) ∧ ∀ j, j ≠ 21 → v' 100 j = v 100 j := by
  intro n
  induction n with
  | zero =>
    intro fuel i v hf hi hT h21
    obtain ⟨m, rfl⟩ : ∃ m, fuel = m + 1 := ⟨fuel - 1, by omega⟩
    have hL := hT.2.1
    refine ⟨v, ?_, h21, fun _ _ => rfl, fun _ _ => rfl⟩
    show f_M_next_82b (f_M_next_82 m) 100 (bh v w) = _
    unfold f_M_next_82b
    simp only [hN0, bd1_q]
    rw [h21, M_look hT (by omega), bd2_s, if_neg (by omega), show f_M_in (-1 : Int32).toInt64 97 122 (bh v w) = some (0, bh v w) from rfl, bd2_s, if_pos rfl]
  | succ n ih =>
    intro fuel i v hf hi hT h21
    obtain ⟨m, rfl⟩ : ∃ m, fuel = m + 1 := ⟨fuel - 1, by omega⟩
    have hL := hT.2.1
    obtain ⟨t1, t2⟩ := hT.2.2 i (by omega)
    show ∃ v', f_M_next_82b (f_M_next_82 m) 100 (bh v w) = _ ∧ _
    unfold f_M_next_82b ru
    simp only [hN0, bd1_q]
    rw [h21, M_look hT (by omega), bd2_s, if_pos (show i < K.1 by omega), show (97 : Int64) = (nI 97).toInt64 from rfl, show (122 : Int64) = (nI 122).toInt64 from rfl, nin_I (by omega) (by omega) (by omega), bd2_s]
    by_cases c : 97 ≤ K.2 i ∧ K.2 i ≤ 122
    · rw [if_pos c, if_neg (by decide), if_pos c]
      simp only [hN0, bd1_q]
      rw [h21, nI_1]
      obtain ⟨v', e1, e2, e3, e4⟩ := ih m (i + 1) (u2 v 100 21 (nI (i + 1))) (by omega) (by omega) (hT.fr (u2_n (by decide)) (u2_o (by decide))) (u2_at _ _ _ _)
      exact ⟨v', e1, e2, fun q hq => (e3 q hq).trans (u2_o hq), fun j hj => (e4 j hj).trans (u2_n hj)⟩
    · rw [if_neg c, if_pos rfl, if_neg c]
      exact ⟨v, rfl, h21, fun _ _ => rfl, fun _ _ => rfl⟩
/-- the first two figures from s on, below i -/
def pv (K : Tp) (s i : Nat) : Nat := if i = s then 0 else if i = s + 1 then K.2 s - 48 else 10 * (K.2 s - 48) + (K.2 (s + 1) - 48)
theorem M_run140 {s : Nat} : ∀ (n fuel i : Nat) (v : Nat → Nat → Int32), n < fuel → i + n = K.1 → s ≤ i → (∀ j, s ≤ j → j < i → 48 ≤ K.2 j ∧ K.2 j ≤ 57) → MT K v → v 100 25 = 0 → v 100 21 = nI i → v 100 22 = nI s → v 100 24 = nI (pv K s i) → ∃ v', f_M_next_140 fuel 100 (bh v w) = some (bh v' w) ∧ FrN v v' ∧ v' 100 23 = v 100 23 ∧ (s + 2 < ru K.2 48 57 n i → FL (1, s) v') ∧ (¬ s + 2 < ru K.2 48 57 n i → v' 100 25 = 0 ∧ v' 100 21 = nI (ru K.2 48 57 n i) ∧ v' 100 22 = nI s ∧ v' 100 24 = nI (pv K s (ru K.2 48 57 n i))) := by
  intro n
  have ext : ∀ (i : Nat) (v : Nat → Nat → Int32), i ≤ K.1 → s ≤ i → MT K v → v 100 25 = 0 → v 100 21 = nI i → v 100 22 = nI s → v 100 24 = nI (pv K s i) → ∃ v', (if (2 : Int32) < nI i - nI s then f_M_next_236 100 0 (bh v w) else f_M_next_236 100 1 (bh v w)) = some (bh v' w) ∧ FrN v v' ∧ v' 100 23 = v 100 23 ∧ (s + 2 < i → FL (1, s) v') ∧ (¬ s + 2 < i → v' 100 25 = 0 ∧ v' 100 21 = nI i ∧ v' 100 22 = nI s ∧ v' 100 24 = nI (pv K s i)) := by
    intro i v hi hs hT h25 h21 h22 h24
    have hL := hT.2.1
    rw [pk_sub hs, show (2 : Int32) = nI 2 from rfl, ite_iff (nI_ltI (by omega) (by omega))]
    unfold f_M_next_236
    simp only [hN0, bd1_q]
    by_cases c : 2 < i - s
    · rw [if_pos c, M_needs0 h25, bd1_s]
      refine ⟨_, rfl, ((FrN.rf v).u (by omega)).u (by omega), by simp [u2_ap], fun _ => ⟨by simp [u2_ap]; rfl, by simp [u2_ap, h22], Nat.le_refl 1, show 1 ≤ 6 by decide⟩, fun z => by omega⟩
    · rw [if_neg c, M_needs1, bd1_s]
      exact ⟨v, rfl, FrN.rf v, rfl, fun z => by omega, fun _ => ⟨h25, h21, h22, h24⟩⟩
  induction n with
  | zero =>
    intro fuel i v hf hi hs hd hT h25 h21 h22 h24
    obtain ⟨m, rfl⟩ : ∃ m, fuel = m + 1 := ⟨fuel - 1, by omega⟩
    have hL := hT.2.1
    show ∃ v', f_M_next_140b (f_M_next_140 m) 100 (bh v w) = _ ∧ _
    unfold f_M_next_140b
    simp only [hN0, bd1_q]
    rw [h21, M_look hT (by omega), bd2_s, if_neg (by omega), show f_M_in (-1 : Int32).toInt64 48 57 (bh v w) = some (0, bh v w) from rfl, bd2_s, if_pos rfl]
    simp only [hN0, bd1_q]
    rw [h21, h22]
    exact ext i v (by omega) hs hT h25 h21 h22 h24
  | succ n ih =>
    intro fuel i v hf hi hs hd hT h25 h21 h22 h24
    obtain ⟨m, rfl⟩ : ∃ m, fuel = m + 1 := ⟨fuel - 1, by omega⟩
    have hL := hT.2.1
    obtain ⟨t1, t2⟩ := hT.2.2 i (by omega)
    show ∃ v', f_M_next_140b (f_M_next_140 m) 100 (bh v w) = _ ∧ _
    unfold f_M_next_140b ru
    simp only [hN0, bd1_q]
    rw [h21, M_look hT (by omega), bd2_s, if_pos (show i < K.1 by omega), show (48 : Int64) = (nI 48).toInt64 from rfl, show (57 : Int64) = (nI 57).toInt64 from rfl, nin_I (by omega) (by omega) (by omega), bd2_s]
    by_cases c : 48 ≤ K.2 i ∧ K.2 i ≤ 57
    · rw [if_pos c, if_neg (by decide), if_pos c]
      unfold f_M_next_201
      simp only [hN0, bd1_q]
      have go : ∀ x : Nat, x = pv K s (i + 1) → ∃ v', f_M_next_140 m 100 (bh (u2 (u2 v 100 24 (nI x)) 100 21 (nI (i + 1))) w) = some (bh v' w) ∧ FrN v v' ∧ v' 100 23 = v 100 23 ∧ (s + 2 < ru K.2 48 57 n (i + 1) → FL (1, s) v') ∧ (¬ s + 2 < ru K.2 48 57 n (i + 1) → v' 100 25 = 0 ∧ v' 100 21 = nI (ru K.2 48 57 n (i + 1)) ∧ v' 100 22 = nI s ∧ v' 100 24 = nI (pv K s (ru K.2 48 57 n (i + 1)))) := by
        intro x hx
        have hd' : ∀ j, s ≤ j → j < i + 1 → 48 ≤ K.2 j ∧ K.2 j ≤ 57 := fun j q1 q2 => by
          by_cases z : j = i
          · rw [z]; exact c
          · exact hd j q1 (by omega)
        obtain ⟨v', e1, e2, e3, e4, e5⟩ := ih m (i + 1) (u2 (u2 v 100 24 (nI x)) 100 21 (nI (i + 1))) (by omega) (by omega) (by omega) hd' (hT.fr (by simp [u2_ap]) ((u2_o (by decide)).trans (u2_o (by decide)))) (by simp [u2_ap, h25]) (u2_at _ _ _ _) (by simp [u2_ap, h22]) (by simp [u2_ap, hx])
        exact ⟨v', e1, (((FrN.rf v).u (by omega)).u (by omega)).tr e2, by rw [e3]; simp [u2_ap], e4, e5⟩
      have q1 : (u2 (u2 v 100 24 (v 100 24)) 100 21 (nI (i + 1))) = (u2 (u2 v 100 24 (v 100 24)) 100 21 (nI (i + 1))) := rfl
      rw [h21, h22, pk_sub hs, show (2 : Int32) = nI 2 from rfl, ite_iff (nI_leI (by omega) (by omega))]
      by_cases g : 2 ≤ i - s
      · rw [if_pos g, u2_n (show 21 ≠ 24 by decide), h21, nI_1, h24]
        refine go _ ?_
        unfold pv
        rw [if_neg (by omega), if_neg (by omega), if_neg (by omega), if_neg (by omega)]
      · rw [if_neg g, M_look hT (by omega), bd2_s, if_pos (show i < K.1 by omega)]
        simp only [hN0, bd1_q]
        rw [u2_n (show 21 ≠ 24 by decide), h21, nI_1, h24, show (10 : Int32) = nI 10 from rfl, pk_mul, nI_add, show (48 : Int32) = nI 48 from rfl, pk_sub (by omega)]
        refine go _ ?_
        unfold pv
        by_cases z : i = s
        · subst z
          rw [if_pos rfl, if_neg (by omega), if_pos rfl]
          omega
        · have z2 : i = s + 1 := by omega
          subst z2
          have := hd s (Nat.le_refl _) (by omega)
          rw [if_neg (by omega), if_pos rfl, if_neg (by omega), if_neg (by omega)]
          omega
    · rw [if_neg c, if_pos rfl, if_neg c]
      simp only [hN0, bd1_q]
      rw [h21, h22]
      exact ext i v (by omega) hs hT h25 h21 h22 h24
end
end
/-! 8xb.textb.lean.txt -/
section
section
variable {K : Tp} {v : Nat → Nat → Int32} {w : Nat → Nat → Int64} {P : Nat}
theorem MTk.of {v1 : Nat → Nat → Int32} (h : MTk K P v) (e : ∀ j, 21 ≤ j ∧ j ≤ 24 → v1 100 j = v 100 j) : MTk K P v1 := by
  obtain ⟨a, b, c, d, f⟩ := h
  exact ⟨a, (e 21 (by omega)).trans b, (e 22 (by omega)).trans c, (e 23 (by omega)).trans d, fun z => (e 24 (by omega)).trans (f z)⟩
theorem M_nextX (rec8 : Nat → mH → Option mH) (hT : MT K v) (h25 : v 100 25 = 0) (h21 : v 100 21 = nI (sT K P)) (hP : P ≤ K.1) (hn : ¬ (sT K P < K.1 ∧ K.2 (sT K P) = 32)) : ∃ v', f_M_next_8b rec8 100 (bh v w) = some (bh v' w) ∧ FrN v v' ∧ MX (tokX K P) (fun _ v' => MTk K P v') v' := by
  have hL := hT.2.1
  have hs := sT_b hP
  have he := eN_b hP
  have hkc := kc_s (K := K) (s := sT K P)
  have ek : kD K P = kc K (sT K P) := rfl
  have T1 : MT K (u2 v 100 22 (nI (sT K P))) := hT.fr (u2_n (by decide)) (u2_o (by decide))
  unfold f_M_next_8b
  simp only [hN0, bd1_q]
  rw [h21, M_look hT (by omega), bd2_s, if_neg (show ¬ (if sT K P < K.1 then nI (K.2 (sT K P)) else -1) = (32 : Int32) from fun z => by
    by_cases c : sT K P < K.1
    · rw [if_pos c] at z
      have := (hT.2.2 _ c).2
      exact hn ⟨c, (nI_eqI (a := K.2 (sT K P)) (b := 32) (by omega) (by omega)).mp z⟩
    · rw [if_neg c] at z
      exact absurd z (by decide))]
  simp only [hN0, bd1_q]
  rw [h21, u2_n (show 21 ≠ 22 by decide), h21, M_look T1 (by omega), bd2_s]
  by_cases c : sT K P < K.1
  · obtain ⟨t1, t2⟩ := hT.2.2 _ c
    rw [if_pos c, if_pos (nI_pos' (by omega)), show (97 : Int64) = (nI 97).toInt64 from rfl, show (122 : Int64) = (nI 122).toInt64 from rfl, nin_I (by omega) (by omega) (by omega), bd2_s]
    by_cases c1 : 97 ≤ K.2 (sT K P) ∧ K.2 (sT K P) ≤ 122
    · have hk : kD K P = 1 := by rw [ek]; unfold kc; rw [if_pos c, if_neg (by omega), if_pos c1]
      rw [if_pos c1, if_neg (by decide)]
      simp only [hN0, bd1_q]
      obtain ⟨v2, e2, b21, gq, gj⟩ := M_run82 (w := w) (K.1 - sT K P) FU (sT K P) (u2 (u2 v 100 22 (nI (sT K P))) 100 23 1) (by unfold FU; omega) (by omega) (T1.fr (u2_n (by decide)) (u2_o (by decide))) (by simp [u2_ap, h21])
      refine ⟨v2, e2, ⟨fun q hq => (gq q hq).trans ((u2_o hq).trans (u2_o hq)), fun j hj => by rw [gj j (by omega), u2_n (by omega), u2_n (by omega)]⟩, ?_⟩
      unfold tokX
      rw [if_neg (by omega)]
      refine ⟨by rw [gj 25 (by decide)]; simp [u2_ap, h25], hP, ?_, ?_, ?_, fun z => by omega⟩
      · rw [b21]; unfold eN rn; rw [if_pos hk]
      · rw [gj 22 (by decide)]; simp [u2_ap]
      · rw [gj 23 (by decide), hk]; simp [u2_ap]; rfl
    · rw [if_neg c1, if_pos rfl, show (48 : Int64) = (nI 48).toInt64 from rfl, show (57 : Int64) = (nI 57).toInt64 from rfl, nin_I (by omega) (by omega) (by omega), bd2_s]
      by_cases c2 : 48 ≤ K.2 (sT K P) ∧ K.2 (sT K P) ≤ 57
      · have hk : kD K P = 2 := by rw [ek]; unfold kc; rw [if_pos c, if_neg (by omega), if_neg c1, if_pos c2]
        have ee : eN K P = ru K.2 48 57 (K.1 - sT K P) (sT K P) := by unfold eN rn; rw [if_neg (by omega), if_pos hk]
        rw [if_pos c2, if_neg (by decide)]
        simp only [hN0, bd1_q]
        have T3 : MT K (u2 (u2 (u2 v 100 22 (nI (sT K P))) 100 23 2) 100 24 0) := (T1.fr (u2_n (by decide)) (u2_o (by decide))).fr (u2_n (by decide)) (u2_o (by decide))
        obtain ⟨v2, e2, f2, b23, g1, g2⟩ := M_run140 (w := w) (s := sT K P) (K.1 - sT K P) FU (sT K P) (u2 (u2 (u2 v 100 22 (nI (sT K P))) 100 23 2) 100 24 0) (by unfold FU; omega) (by omega) (Nat.le_refl _) (fun j q1 q2 => by omega) T3 (by simp [u2_ap, h25]) (by simp [u2_ap, h21]) (by simp [u2_ap]) (by simp [u2_ap, pv]; rfl)
        rw [← ee] at g1 g2
        refine ⟨v2, e2, ((((FrN.rf v).u (by omega)).u (by omega)).u (by omega)).tr f2, ?_⟩
        unfold tokX
        have h1 := he.2.2 (by omega) (by omega)
        by_cases z : sT K P + 2 < eN K P
        · rw [if_pos (Or.inr ⟨hk, z⟩)]
          exact g1 z
        · rw [if_neg (by omega)]
          obtain ⟨x1, x2, x3, x4⟩ := g2 z
          refine ⟨x1, hP, x2, x3, by rw [b23, hk]; simp [u2_ap]; rfl, fun _ => ?_⟩
          rw [x4]
          unfold pv vL
          rw [if_neg (by omega)]
      · rw [if_neg c2, if_pos rfl]
        simp only [hN0, bd1_q]
        rw [show (59 : Int32) = nI 59 from rfl, ite_iff (nI_eqI (by omega) (by omega))]
        unfold f_M_next_260
        simp only [hN0, bd1_q]
        by_cases c3 : K.2 (sT K P) = 59
        · have hk : kD K P = 3 := by rw [ek]; unfold kc; rw [if_pos c, if_pos c3]
          rw [if_pos c3, M_needs1]
          simp only [hN0, bd1_q]
          refine ⟨_, rfl, (((FrN.rf v).u (by omega)).u (by omega)).u (by omega), ?_⟩
          unfold tokX
          rw [if_neg (by omega)]
          refine ⟨by simp [u2_ap, h25], hP, ?_, by simp [u2_ap], by rw [hk]; simp [u2_ap]; rfl, fun z => by omega⟩
          rw [u2_at, u2_n (show 21 ≠ 23 by decide), u2_n (show 21 ≠ 22 by decide), h21, nI_1]
          unfold eN
          rw [if_neg (by omega), if_neg (by omega), if_pos hk]
        · have hk : kD K P = 4 := by rw [ek]; unfold kc; rw [if_pos c, if_neg c3, if_neg c1, if_neg c2]
          rw [if_neg c3, M_needs0 (by simp [u2_ap, h25])]
          simp only [hN0, bd1_q]
          refine ⟨_, rfl, (((((FrN.rf v).u (by omega)).u (by omega)).u (by omega)).u (by omega)).u (by omega), ?_⟩
          unfold tokX
          rw [if_pos (Or.inl hk)]
          exact ⟨by simp [u2_ap]; rfl, by simp [u2_ap], Nat.le_refl 1, show 1 ≤ 6 by decide⟩
  · have hk : kD K P = 0 := by rw [ek]; unfold kc; rw [if_neg c]
    rw [if_neg c, if_neg (by decide)]
    simp only [hN0, bd1_q]
    refine ⟨_, rfl, ((FrN.rf v).u (by omega)).u (by omega), ?_⟩
    unfold tokX
    rw [if_neg (by omega)]
    refine ⟨by simp [u2_ap, h25], hP, ?_, by simp [u2_ap], by rw [hk]; simp [u2_ap]; rfl, fun z => by omega⟩
    unfold eN
    rw [if_neg (by omega), if_neg (by omega), if_neg (by omega)]
    simp [u2_ap, h21]
theorem M_next8 (hP : P ≤ K.1) : ∀ (n fuel i : Nat) (v : Nat → Nat → Int32), n < fuel → i + n = K.1 → ru K.2 32 32 n i = sT K P → MT K v → v 100 25 = 0 → v 100 21 = nI i → ∃ v', f_M_next_8 fuel 100 (bh v w) = some (bh v' w) ∧ FrN v v' ∧ MX (tokX K P) (fun _ v' => MTk K P v') v' := by
  intro n
  induction n with
  | zero =>
    intro fuel i v hf hi hr hT h25 h21
    obtain ⟨m, rfl⟩ : ∃ m, fuel = m + 1 := ⟨fuel - 1, by omega⟩
    have hr : i = sT K P := hr
    exact M_nextX (f_M_next_8 m) hT h25 (by rw [← hr]; exact h21) hP (by omega)
  | succ n ih =>
    intro fuel i v hf hi hr hT h25 h21
    obtain ⟨m, rfl⟩ : ∃ m, fuel = m + 1 := ⟨fuel - 1, by omega⟩
    have hL := hT.2.1
    obtain ⟨t1, t2⟩ := hT.2.2 i (by omega)
    unfold ru at hr
    by_cases c : 32 ≤ K.2 i ∧ K.2 i ≤ 32
    · rw [if_pos c] at hr
      obtain ⟨v', e1, e2, e3⟩ := ih m (i + 1) (u2 v 100 21 (nI (i + 1))) (by omega) (by omega) hr (hT.fr (u2_n (by decide)) (u2_o (by decide))) ((u2_n (by decide)).trans h25) (u2_at _ _ _ _)
      refine ⟨v', ?_, ((FrN.rf v).u (by omega)).tr e2, e3⟩
      show f_M_next_8b (f_M_next_8 m) 100 (bh v w) = _
      unfold f_M_next_8b
      simp only [hN0, bd1_q]
      rw [h21, M_look hT (by omega), bd2_s, if_pos (show i < K.1 by omega), if_pos (show nI (K.2 i) = (32 : Int32) by rw [show K.2 i = 32 by omega]; rfl)]
      simp only [hN0, bd1_q]
      rw [h21, nI_1]
      exact e1
    · rw [if_neg c] at hr
      exact M_nextX (f_M_next_8 m) hT h25 (by rw [← hr]; exact h21) hP (fun z => c (by rw [hr]; omega))
theorem M_next (hT : MT K v) (h25 : v 100 25 = 0) (h21 : v 100 21 = nI P) (hP : P ≤ K.1) : ∃ v', f_M_next 100 (bh v w) = some (bh v' w) ∧ FrN v v' ∧ MX (tokX K P) (fun _ v' => MTk K P v') v' := by
  have hL := hT.2.1
  obtain ⟨v', e1, e2, e3⟩ := M_next8 (w := w) hP (K.1 - P) FU P v (by unfold FU; omega) (by omega) rfl hT h25 h21
  refine ⟨v', ?_, e2, e3⟩
  unfold f_M_next f_M_next_0
  simp only [hN0, bd1_q]
  rw [h25, if_pos (by decide)]
  exact e1
theorem M_nextF {f : Fa} (hF : FL f v) : f_M_next 100 (bh v w) = some (bh v w) := by
  have := hF.2.2
  unfold f_M_next f_M_next_0
  simp only [hN0, bd1_q]
  rw [hF.1, if_neg (nI_nle (by omega) (by omega))]
theorem M_lookedF {f : Fa} (hF : FL f v) (lo hi : Int32) : f_M_looked 100 lo hi (bh v w) = some (0, bh v w) := by
  have := hF.2.2
  have n0 : ¬ nI f.1 = 0 := nI_ne0 (by omega) (by omega)
  unfold f_M_looked f_M_looked_0 f_M_looked_25 f_M_looked_49
  simp only [hN0, bd1_q]
  rw [hF.1, if_neg n0, if_neg n0, if_neg n0]
theorem M_looked {lo hi : Nat} (hk : MTk K P v) (h25 : v 100 25 = 0) (hb : ∀ j, j < K.1 → K.2 j ≤ 127) (hlo : lo < 200) (hhi : hi < 200) : ∃ r v', f_M_looked 100 (nI lo) (nI hi) (bh v w) = some (r, bh v' w) ∧ FrN v v' ∧ MX (chk K lo hi P) (fun n v' => r = nI n ∧ MTk K P v') v' ∧ (∀ f, chk K lo hi P = .inl f → r = 0) := by
  have k4 := (kc_s (K := K) (s := sT K P)).2.2.2.2
  have ek : kD K P = kc K (sT K P) := rfl
  obtain ⟨hP, k21, k22, k23, k24⟩ := hk
  unfold f_M_looked f_M_looked_0 f_M_looked_21 f_M_looked_25 f_M_looked_49
  simp only [hN0, bd1_q]
  rw [h25, if_pos rfl, k23, show (2 : Int32) = nI 2 from rfl, ite_iff (nI_eqI (by omega) (by omega))]
  unfold chk chkB
  by_cases c : kD K P = 2
  · have hv := vL_lt hb hP c
    rw [if_pos c, if_pos c, M_needs1]
    simp only [hN0, bd1_q]
    rw [h25, if_pos rfl, k24 c, nin_I hv (by omega) (by omega), bd2_s]
    by_cases g : lo ≤ vL K P ∧ vL K P ≤ hi
    · rw [if_pos g, if_pos g]
      simp only [hN0, bd1_q]
      rw [M_needs1]
      simp only [hN0, bd1_q]
      rw [h25, if_pos rfl, k24 c]
      exact ⟨_, v, rfl, FrN.rf v, ⟨h25, rfl, hP, k21, k22, k23, k24⟩, fun f z => by cases z⟩
    · rw [if_neg g, if_neg g]
      simp only [hN0, bd1_q]
      rw [M_needs0 h25]
      simp only [hN0, bd1_q]
      rw [u2_n (show 25 ≠ 26 by decide), u2_at, if_neg (by decide)]
      exact ⟨0, _, rfl, ((FrN.rf v).u (by omega)).u (by omega), ⟨by simp [u2_ap]; rfl, by simp [u2_ap, k22], show 1 ≤ 3 by decide, show 3 ≤ 6 by decide⟩, fun f z => rfl⟩
  · rw [if_neg c, if_neg c, M_needs0 h25]
    simp only [hN0, bd1_q]
    rw [u2_n (show 25 ≠ 26 by decide), u2_at, if_neg (by decide), if_neg (by decide)]
    exact ⟨0, _, rfl, ((FrN.rf v).u (by omega)).u (by omega), ⟨by simp [u2_ap], by simp [u2_ap, k22], show 1 ≤ 2 by decide, show 2 ≤ 6 by decide⟩, fun f z => rfl⟩
end
end
/-! 8xc.textc.lean.txt -/
section
/-! the reference reads numbers and laws -/
def MS (σ : Rho) (v : Nat → Nat → Int32) : Prop := (v 100 10 = nI (σ 0 0) ∧ v 100 11 = nI (σ 0 1) ∧ v 100 17 = cI (σ 17 0) ∧ v 100 18 = cI (σ 17 1) ∧ v 108 11 = nI (σ 0 5)) ∧ (∀ l, l < σ 0 0 → v 108 l = nI (σ 1 l) ∧ v 109 l = nI (σ 2 l) ∧ v 110 l = nI (σ 3 l) ∧ v 111 l = nI (σ 4 l) ∧ v 108 (5 + l) = cI (σ 5 l)) ∧ (∀ l, σ 0 0 ≤ l → l < 5 → v 108 (5 + l) = -4) ∧ (∀ p, p < σ 0 1 → v 108 (12 + p) = nI (σ 6 p) ∧ v 112 p = nI (σ 7 p) ∧ v 113 p = nI (σ 8 p) ∧ v 108 (15 + p) = nI (σ 9 p)) ∧ (∀ p, p < 3 → v 108 (18 + p) = nI (σ 10 p) ∧ v 108 (21 + p) = nI (σ 11 p)) ∧ (∀ j, 24 ≤ j → j < 66 → v 108 j = 0)
/-- what MS reads -/
def rdS (σ : Rho) (q j : Nat) : Prop := q = 100 ∧ (j = 10 ∨ j = 11 ∨ j = 17 ∨ j = 18) ∨ q = 108 ∧ (j < σ 0 0 ∨ 5 ≤ j ∧ j < 10 ∨ j = 11 ∨ 12 ≤ j ∧ j < 12 + σ 0 1 ∨ 15 ≤ j ∧ j < 15 + σ 0 1 ∨ 18 ≤ j ∧ j < 66) ∨ (q = 109 ∨ q = 110 ∨ q = 111) ∧ j < σ 0 0 ∨ (q = 112 ∨ q = 113) ∧ j < σ 0 1
theorem MS.of {σ : Rho} {v v' : Nat → Nat → Int32} (h : MS σ v) (h0 : σ 0 0 ≤ 5) (e : ∀ q j, rdS σ q j → v' q j = v q j) : MS σ v' := by
  obtain ⟨⟨a1, a2, a3, a4, a5⟩, b, c, d, f, g⟩ := h
  refine ⟨⟨(e _ _ (by unfold rdS; omega)).trans a1, (e _ _ (by unfold rdS; omega)).trans a2, (e _ _ (by unfold rdS; omega)).trans a3, (e _ _ (by unfold rdS; omega)).trans a4, (e _ _ (by unfold rdS; omega)).trans a5⟩, fun l hl => ?_, fun l h1 h2 => (e _ _ (by unfold rdS; omega)).trans (c l h1 h2), fun p hp => ?_, fun p hp => ?_, fun j h1 h2 => (e _ _ (by unfold rdS; omega)).trans (g j h1 h2)⟩
  · obtain ⟨x1, x2, x3, x4, x5⟩ := b l hl
    exact ⟨(e _ _ (by unfold rdS; omega)).trans x1, (e _ _ (by unfold rdS; omega)).trans x2, (e _ _ (by unfold rdS; omega)).trans x3, (e _ _ (by unfold rdS; omega)).trans x4, (e _ _ (by unfold rdS; omega)).trans x5⟩
  · obtain ⟨x1, x2, x3, x4⟩ := d p hp
    exact ⟨(e _ _ (by unfold rdS; omega)).trans x1, (e _ _ (by unfold rdS; omega)).trans x2, (e _ _ (by unfold rdS; omega)).trans x3, (e _ _ (by unfold rdS; omega)).trans x4⟩
  · obtain ⟨x1, x2⟩ := f p hp
    exact ⟨(e _ _ (by unfold rdS; omega)).trans x1, (e _ _ (by unfold rdS; omega)).trans x2⟩
theorem MS.fN {σ : Rho} {v v' : Nat → Nat → Int32} (h : MS σ v) (h0 : σ 0 0 ≤ 5) (g : FrN v v') : MS σ v' := h.of h0 (fun q j hr => by
  by_cases z : q = 100
  · subst z
    exact g.2 j (by unfold rdS at hr; omega)
  · rw [g.1 q z])
/-- what the lines may change -/
def FrD (v v' : Nat → Nat → Int32) : Prop := (∀ q, q < 100 ∨ 100 < q ∧ q < 108 ∨ 113 < q → v' q = v q) ∧ ∀ j, j < 10 ∨ j = 20 ∨ 26 < j → v' 100 j = v 100 j
theorem FrN.d {v v' : Nat → Nat → Int32} (h : FrN v v') : FrD v v' := ⟨fun q hq => h.1 q (by omega), fun j hj => h.2 j (by omega)⟩
theorem FrD.rf (v : Nat → Nat → Int32) : FrD v v := ⟨fun _ _ => rfl, fun _ _ => rfl⟩
theorem FrD.tr {v v1 v2 : Nat → Nat → Int32} (h : FrD v v1) (g : FrD v1 v2) : FrD v v2 := ⟨fun q hq => (g.1 q hq).trans (h.1 q hq), fun j hj => (g.2 j hj).trans (h.2 j hj)⟩
theorem FrD.w {v v1 : Nat → Nat → Int32} {o k : Nat} {x : Int32} (h : FrD v v1) (ho : 108 ≤ o ∧ o ≤ 113) : FrD v (u2 v1 o k x) := ⟨fun q hq => (u2_o (by omega)).trans (h.1 q hq), fun j hj => (congrFun (u2_o (by omega)) j).trans (h.2 j hj)⟩
theorem FrD.u {v v1 : Nat → Nat → Int32} {k : Nat} {x : Int32} (h : FrD v v1) (hk : 10 ≤ k ∧ k ≤ 26 ∧ k ≠ 20) : FrD v (u2 v1 100 k x) := ⟨fun q hq => (u2_o (by omega)).trans (h.1 q hq), fun j hj => (u2_n (by omega)).trans (h.2 j hj)⟩
theorem MT.fD {K : Tp} {v v' : Nat → Nat → Int32} (h : MT K v) (g : FrD v v') : MT K v' := h.fr (g.2 20 (by decide)) (g.1 114 (by decide))
theorem FL.w {f : Fa} {v : Nat → Nat → Int32} {o k : Nat} {x : Int32} (h : FL f v) (ho : 100 ≠ o) : FL f (u2 v o k x) := ⟨(congrFun (u2_o ho) 25).trans h.1, (congrFun (u2_o ho) 26).trans h.2.1, h.2.2⟩
theorem FL.u {f : Fa} {v : Nat → Nat → Int32} {k : Nat} {x : Int32} (h : FL f v) (h1 : 25 ≠ k) (h2 : 26 ≠ k) : FL f (u2 v 100 k x) := ⟨(u2_n h1).trans h.1, (u2_n h2).trans h.2.1, h.2.2⟩
theorem MTk.w {K : Tp} {P o k : Nat} {x : Int32} {v : Nat → Nat → Int32} (h : MTk K P v) (ho : 100 ≠ o) : MTk K P (u2 v o k x) := h.of (fun j _ => congrFun (u2_o ho) j)
theorem MTk.u {K : Tp} {P k : Nat} {x : Int32} {v : Nat → Nat → Int32} (h : MTk K P v) (hk : k < 21 ∨ 24 < k) : MTk K P (u2 v 100 k x) := h.of (fun j hj => u2_n (by omega))
def sNw {α : Type} (K : Tp) (lo hi : Nat) (X : Fa ⊕ (α × Nat)) : Fa ⊕ ((α × Nat) × Nat) := sb X fun y => sb (chk K lo hi y.2) fun n => sb (tokX K (eN K y.2)) fun _ => .inr ((y.1, n), eN K y.2)
section
variable {K : Tp} {σ : Rho} {v : Nat → Nat → Int32} {w : Nat → Nat → Int64} {P lo hi : Nat}
theorem chk_inr {n : Nat} (h : chk K lo hi P = .inr n) : lo ≤ n ∧ n ≤ hi := by
  unfold chk at h
  split at h
  · exact chkB_inr h
  · cases h
theorem M_rn {α : Type} {X : Fa ⊕ (α × Nat)} {A : α → Prop} (hT : MT K v) (h : MX X (fun y v => MTk K y.2 v ∧ A y.1) v) (hlo : lo < 200) (hhi : hi < 200) : ∃ r v', f_M_readNumber 100 (nI lo) (nI hi) (bh v w) = some (r, bh v' w) ∧ FrN v v' ∧ (∃ n, n ≤ hi ∧ r = nI n) ∧ MX (sNw K lo hi X) (fun y v' => MTk K y.2 v' ∧ A y.1.1 ∧ r = nI y.1.2 ∧ lo ≤ y.1.2 ∧ y.1.2 ≤ hi) v' := by
  have hb : ∀ j, j < K.1 → K.2 j ≤ 127 := fun j hj => (hT.2.2 j hj).2
  unfold f_M_readNumber f_M_readNumber_0 sNw
  simp only [hN0, bd1_q]
  cases X with
  | inl f =>
    have h : FL f v := h
    rw [M_lookedF h, bd2_s]
    simp only [hN0, bd1_q]
    rw [M_nextF h, bd1_s]
    exact ⟨0, v, rfl, FrN.rf v, ⟨0, Nat.zero_le _, rfl⟩, h⟩
  | inr y =>
    obtain ⟨h25, hk, hA⟩ := h
    obtain ⟨r, v1, e1, f1, x1, z1⟩ := M_looked (w := w) (lo := lo) (hi := hi) hk h25 hb hlo hhi
    rw [e1, bd2_s, sb_r]
    simp only [hN0, bd1_q]
    clear e1
    cases hc : chk K lo hi y.2 with
    | inl f =>
      rw [hc] at x1
      have x1 : FL f v1 := x1
      rw [M_nextF x1, bd1_s, z1 f hc]
      exact ⟨0, v1, rfl, f1, ⟨0, Nat.zero_le _, rfl⟩, x1⟩
    | inr n =>
      rw [hc] at x1
      obtain ⟨b25, rfl, bk⟩ := x1
      obtain ⟨v2, e2, f2, x2⟩ := M_next (w := w) (hT.fN f1) b25 bk.2.1 (eN_b hk.1).2.1
      rw [e2, bd1_s, sb_r]
      have hn := chk_inr hc
      refine ⟨nI n, v2, rfl, f1.tr f2, ⟨n, hn.2, rfl⟩, ?_⟩
      clear e2
      cases hx : tokX K (eN K y.2) with
      | inl f => rw [hx] at x2; exact x2
      | inr u =>
        rw [hx] at x2
        exact ⟨x2.1, x2.2, hA, rfl, hn⟩
theorem M_nw {α : Type} {X : Fa ⊕ (α × Nat)} {A : α → (Nat → Nat → Int32) → Prop} {B : α × Nat → (Nat → Nat → Int32) → Prop} (o k : Nat) (hT : MT K v) (h : MX X (fun y v => MTk K y.2 v ∧ A y.1 v) v) (hlo : lo < 200) (hhi : hi < 200) (ho : 100 ≠ o) (hB : ∀ a n v', FrN v v' → A a v → B (a, n) (u2 v' o k (nI n))) : ∃ r v', f_M_readNumber 100 (nI lo) (nI hi) (bh v w) = some (r, bh v' w) ∧ FrN v v' ∧ MX (sNw K lo hi X) (fun y v => MTk K y.2 v ∧ B y.1 v) (u2 v' o k r) := by
  have h' : MX X (fun y v2 => MTk K y.2 v2 ∧ A y.1 v) v := by
    cases X with
    | inl f => exact h
    | inr y => exact h
  obtain ⟨r, v1, e1, f1, -, x1⟩ := M_rn (w := w) (lo := lo) (hi := hi) (A := fun a => A a v) hT h' hlo hhi
  refine ⟨r, v1, e1, f1, ?_⟩
  clear e1
  generalize sNw K lo hi X = Y at x1 ⊢
  cases Y with
  | inl f => exact FL.w x1 ho
  | inr y =>
    obtain ⟨a25, ak, aA, ar, -⟩ := x1
    refine ⟨(congrFun (u2_o ho) 25).trans a25, ak.w ho, ?_⟩
    rw [ar]
    exact hB y.1.1 y.1.2 v1 f1 aA
theorem M_rloF {f : Fa} (hF : FL f v) (R : Int32) : f_M_readLawOf 100 R (bh v w) = some (R ||| ((1 : Int32) <<< ((0 : Int32) &&& 31)), bh v w) := by
  have := hF.2.2
  have n0 : ¬ nI f.1 = 0 := nI_ne0 (by omega) (by omega)
  unfold f_M_readLawOf f_M_readLawOf_0 f_M_readLawOf_32 f_M_readLawOf_59
  simp only [hN0, bd1_q]
  rw [M_lookedF hF, bd2_s]
  simp only [hN0, bd1_q]
  rw [hF.1, if_neg n0, if_neg n0, M_nextF hF, bd1_s]
theorem cI_le : ∀ m, m ≤ 4 → ∀ h, h ≤ 5 → (nI m ≤ cI h ↔ m + 1 ≤ h) := by decide +kernel
def sLx (K : Tp) (R P : Nat) : Fa ⊕ (Nat × Nat) := sb (chk K 0 4 P) fun m => if bit R m = 1 then .inl (4, sT K P) else sb (tokX K (eN K P)) fun _ => .inr (m, eN K P)
theorem M_rlo {R h : Nat} (hT : MT K v) (hk : MTk K P v) (h25 : v 100 25 = 0) (hR : R < 32) (h17 : v 100 17 = cI h) (hh : h ≤ 5) : ∃ r v', f_M_readLawOf 100 (nI R) (bh v w) = some (r, bh v' w) ∧ (∀ q, q ≠ 100 → v' q = v q) ∧ (∀ j, j ≠ 17 → j < 21 ∨ 26 < j → v' 100 j = v 100 j) ∧ MX (sLx K R P) (fun y v' => r = nI (R ||| 2 ^ y.1) ∧ v' 100 17 = cI (max h (y.1 + 1)) ∧ y.1 ≤ 4 ∧ MTk K y.2 v') v' := by
  have hb : ∀ j, j < K.1 → K.2 j ≤ 127 := fun j hj => (hT.2.2 j hj).2
  obtain ⟨r, v1, e1, f1, x1, z1⟩ := M_looked (w := w) (lo := 0) (hi := 4) hk h25 hb (by decide) (by decide)
  have e1 : f_M_looked 100 (0 : Int32) (4 : Int32) (bh v w) = some (r, bh v1 w) := e1
  unfold f_M_readLawOf f_M_readLawOf_0 f_M_readLawOf_28 f_M_readLawOf_32 f_M_readLawOf_56 f_M_readLawOf_59 sLx
  simp only [hN0, bd1_q]
  rw [e1, bd2_s]
  simp only [hN0, bd1_q]
  clear e1
  cases hc : chk K 0 4 P with
  | inl f =>
    rw [hc] at x1
    have x1 : FL f v1 := x1
    have := x1.2.2
    have n0 : ¬ nI f.1 = 0 := nI_ne0 (by omega) (by omega)
    rw [x1.1, if_neg n0, if_neg n0, M_nextF x1, bd1_s]
    exact ⟨_, v1, rfl, f1.1, fun j _ hj => f1.2 j hj, x1⟩
  | inr m =>
    rw [hc] at x1
    obtain ⟨b25, rfl, bk⟩ := x1
    have hm := (chk_inr hc).2
    rw [b25, if_pos rfl, bit_I (by omega) (by omega), sb_r]
    rcases bit_01 R m with b | b
    · rw [b, if_pos (show nI 0 = 0 from rfl), M_needs1, if_neg (by decide)]
      simp only [hN0, bd1_q]
      have b17 : v1 100 17 = cI h := (f1.2 17 (by decide)).trans h17
      rw [b25, if_pos rfl, b17, ite_iff (cI_le m hm h hh), shl_I (by omega), or_I]
      have go : ∀ x : Int32, x = cI (max h (m + 1)) → ∃ r v', (bd1 (f_M_next 100 (bh (u2 v1 100 17 x) w)) fun h26 => some (nI (R ||| 2 ^ m), h26)) = some (r, bh v' w) ∧ (∀ q, q ≠ 100 → v' q = v q) ∧ (∀ j, j ≠ 17 → j < 21 ∨ 26 < j → v' 100 j = v 100 j) ∧ MX (sb (tokX K (eN K P)) fun _ => .inr (m, eN K P)) (fun y v' => r = nI (R ||| 2 ^ y.1) ∧ v' 100 17 = cI (max h (y.1 + 1)) ∧ y.1 ≤ 4 ∧ MTk K y.2 v') v' := by
        intro x hx
        obtain ⟨v2, e2, f2, x2⟩ := M_next (w := w) (K := K) (P := eN K P) (v := u2 v1 100 17 x) ((hT.fN f1).fr (u2_n (by decide)) (u2_o (by decide))) ((u2_n (by decide)).trans b25) ((u2_n (by decide)).trans bk.2.1) (eN_b hk.1).2.1
        rw [e2, bd1_s]
        refine ⟨_, v2, rfl, fun q hq => (f2.1 q hq).trans ((u2_o hq).trans (f1.1 q hq)), fun j h1 h2 => (f2.2 j h2).trans ((u2_n h1).trans (f1.2 j h2)), ?_⟩
        clear e2
        cases hx2 : tokX K (eN K P) with
        | inl f => rw [hx2] at x2; exact x2
        | inr u =>
          rw [hx2] at x2
          exact ⟨x2.1, rfl, (f2.2 17 (by decide)).trans ((u2_at _ _ _ _).trans hx), hm, x2.2⟩
      by_cases g : m + 1 ≤ h
      · rw [if_pos g]
        exact go _ (by rw [show max h (m + 1) = h by omega])
      · rw [if_neg g]
        exact go _ (by rw [show max h (m + 1) = m + 1 by omega]; rfl)
    · rw [b, if_neg (by decide), M_needs0 b25, if_pos rfl]
      simp only [hN0, bd1_q]
      have F2 : FL (4, sT K P) (u2 (u2 v1 100 25 4) 100 26 (v1 100 22)) := ⟨by simp [u2_ap]; rfl, by simp [u2_ap]; exact bk.2.2.1, show 1 ≤ 4 by decide, show 4 ≤ 6 by decide⟩
      rw [F2.1, if_neg (show ¬ nI 4 = 0 by decide), M_nextF F2, bd1_s]
      exact ⟨_, _, rfl, fun q hq => (u2_o hq).trans ((u2_o hq).trans (f1.1 q hq)), fun j h1 h2 => by rw [u2_n (by omega), u2_n (by omega)]; exact f1.2 j h2, F2⟩
end
end
