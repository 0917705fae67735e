def vOne (σ : Rho) (v : Nat → Nat → Int32) : Nat → Nat → Int32 := u2 v 20 1 (nI (σ 0 1 + 1))
section
variable {K : Tp} {σ : Rho} {v : Nat → Nat → Int32} {w : Nat → Nat → Int64} {P : Nat}
theorem C_addLaw {q p m R s : Nat} (hq : q = 30 ∨ q = 31) (hp : p < 3) (hr : v q p = nI R) (hR : R < 32) (h8 : v 1 8 = nI m) (hm : m ≤ 4) (h7 : v 1 7 = nI s) : (bit R m = 1 → ∃ v', f_Reader_addLaw 1 q (nI p) (bh v w) = some (0, bh v' w) ∧ FrR v v' ∧ v' 1 2 = nI 4 ∧ v' 1 3 = nI s) ∧ (bit R m = 0 → f_Reader_addLaw 1 q (nI p) (bh v w) = some (1, bh (u2 v q p (nI (R ||| 2 ^ m))) w)) := by
  obtain ⟨v1, e1, f1, b1, b2⟩ := C_fail (w := w) (c := 4) h7
  rcases hq with rfl | rfl
  · refine ⟨fun b => ?_, fun b => ?_⟩
    · unfold f_Reader_addLaw f_Reader_addLaw_0
      simp only [hU0, hT0, bd1_q]
      rw [rd_nI hp (by decide), bd1_s, hr, h8, Q_hasBit (by omega) (by omega), bd2_s, b, if_neg (by decide)]
      simp only [hT0, bd1_q]
      rw [h7, show (4 : Int32) = nI 4 from rfl, e1, bd2_s, if_pos (Or.inl rfl)]
      exact ⟨v1, rfl, f1, b1, b2⟩
    · unfold f_Reader_addLaw f_Reader_addLaw_0
      simp only [hU0, hT0, bd1_q]
      rw [rd_nI hp (by decide), bd1_s, hr, h8, Q_hasBit (by omega) (by omega), bd2_s, b, if_pos (show nI 0 = 0 from rfl)]
      simp only [hU0, hT0, bd1_q]
      rw [rd_nI hp (by decide), bd1_s, hr, h8, shl_I (by omega), or_I, wr_nI hp (by decide), bd1_s]
  · refine ⟨fun b => ?_, fun b => ?_⟩
    · unfold f_Reader_addLaw f_Reader_addLaw_0
      simp only [hU0, hT0, bd1_q]
      rw [rd_nI hp (by decide), bd1_s, hr, h8, Q_hasBit (by omega) (by omega), bd2_s, b, if_neg (by decide)]
      simp only [hT0, bd1_q]
      rw [h7, show (4 : Int32) = nI 4 from rfl, e1, bd2_s, if_pos (Or.inl rfl)]
      exact ⟨v1, rfl, f1, b1, b2⟩
    · unfold f_Reader_addLaw f_Reader_addLaw_0
      simp only [hU0, hT0, bd1_q]
      rw [rd_nI hp (by decide), bd1_s, hr, h8, Q_hasBit (by omega) (by omega), bd2_s, b, if_pos (show nI 0 = 0 from rfl)]
      simp only [hU0, hT0, bd1_q]
      rw [rd_nI hp (by decide), bd1_s, hr, h8, shl_I (by omega), or_I, wr_nI hp (by decide), bd1_s]
theorem pw4 : ∀ x, x ≤ 4 → 2 ^ x < 32 := by decide
theorem C_refF (n b0 b1 : Nat) (b2 i : Int32) (h : mH) : f_Reader_takeOne_127 (n + 1) b0 b1 b2 0 i h = some (0, h) := by
  show f_Reader_takeOne_127b (f_Reader_takeOne_127 n) b0 b1 b2 0 i h = _
  unfold f_Reader_takeOne_127b f_Reader_takeOne_185 f_Reader_takeOne_200
  by_cases c : (5 : Int32) < i
  · rw [if_pos c, if_pos rfl]
  · rw [if_neg c, if_pos rfl, if_pos rfl]
theorem C_oneF (b0 b1 : Nat) (b2 : Int32) (h : mH) : f_Reader_takeOne_122 b0 b1 b2 h = some (0, h) := C_refF 599 b0 b1 b2 0 h
theorem C_one185 {α : Type} (a : α) (hk : CTk K P v) (h2 : v 1 2 = 0) : ∃ r v', f_Reader_takeOne_185 1 1 (bh v w) = some (r, bh v' w) ∧ FrR v v' ∧ CX (sFin K P a) (fun y v' => v' 1 5 = nI y.2 ∧ y.1 = a) r v' := by
  obtain ⟨r, v1, e1, f1, x1⟩ := C_isStop (w := w) hk h2
  unfold f_Reader_takeOne_185 f_Reader_takeOne_200 sFin
  rw [if_neg (by decide)]
  simp only [hT0, bd1_q]
  rw [e1, bd2_s]
  generalize sStp K P = X at x1 ⊢
  cases X with
  | inl g =>
    obtain ⟨rfl, a, b⟩ := x1
    rw [if_pos rfl]
    exact ⟨0, v1, rfl, f1, rfl, a, b⟩
  | inr u =>
    obtain ⟨rfl, d2, d5⟩ := x1
    rw [if_neg (by decide)]
    exact ⟨1, v1, rfl, f1, rfl, d2, d5, rfl⟩
def FrO (p : Nat) (v v' : Nat → Nat → Int32) : Prop := (∀ q, q ≠ 1 → q ≠ 30 → v' q = v q) ∧ (∀ j, j ≠ p → v' 30 j = v 30 j) ∧ v' 1 1 = v 1 1 ∧ v' 1 4 = v 1 4
theorem FrO.nm {p : Nat} {v v1 v2 : Nat → Nat → Int32} (h : FrO p v v1) (g : FrR v1 v2) : FrO p v v2 := ⟨fun q h1 h2 => (g.1 q h1).trans (h.1 q h1 h2), fun j hj => (congrFun (g.1 30 (by decide)) j).trans (h.2.1 j hj), g.2.1.trans h.2.2.1, g.2.2.trans h.2.2.2⟩
theorem FrO.rf (p : Nat) (v : Nat → Nat → Int32) : FrO p v v := ⟨fun _ _ _ => rfl, fun _ _ => rfl, rfl, rfl⟩
theorem FrO.wr {p : Nat} {v v1 : Nat → Nat → Int32} {x : Int32} (h : FrO p v v1) : FrO p v (u2 v1 30 p x) := ⟨fun q h1 h2 => (u2_o h2).trans (h.1 q h1 h2), fun j hj => (u2_n hj).trans (h.2.1 j hj), (congrFun (u2_o (by decide)) 1).trans h.2.2.1, (congrFun (u2_o (by decide)) 4).trans h.2.2.2⟩
theorem FrO.tr {p : Nat} {v v1 v2 : Nat → Nat → Int32} (h : FrO p v v1) (g : FrO p v1 v2) : FrO p v v2 := ⟨fun q h1 h2 => (g.1 q h1 h2).trans (h.1 q h1 h2), fun j hj => (g.2.1 j hj).trans (h.2.1 j hj), g.2.2.1.trans h.2.2.1, g.2.2.2.trans h.2.2.2⟩
theorem C_refL {p : Nat} (hp : p < 3) : ∀ (n fuel i R h Q : Nat) (v : Nat → Nat → Int32), n + 1 < fuel → i + n = 6 → CT K v → v 1 2 = 0 → CTk K Q v → Q ≤ K.1 → v 30 p = nI R → R < 32 → ∃ r v', f_Reader_takeOne_127 fuel 1 20 (nI p) 1 (nI i) (bh v w) = some (r, bh v' w) ∧ FrO p v v' ∧ CX (sb (sRef K n R h Q) fun x => sFin K x.2 x.1) (fun y v' => v' 1 5 = nI y.2 ∧ v' 30 p = nI y.1.1) r v' := by
  intro n
  have stp : ∀ (R h Q : Nat) (v : Nat → Nat → Int32), v 1 2 = 0 → CTk K Q v → v 30 p = nI R → ∃ r v', f_Reader_takeOne_185 1 1 (bh v w) = some (r, bh v' w) ∧ FrO p v v' ∧ CX (sFin K Q (R, h)) (fun y v' => v' 1 5 = nI y.2 ∧ v' 30 p = nI y.1.1) r v' := by
    intro R h Q v h2 hk h30
    obtain ⟨r, v1, e1, f1, x1⟩ := C_one185 (w := w) (R, h) hk h2
    refine ⟨r, v1, e1, (FrO.rf p v).nm f1, ?_⟩
    generalize sFin K Q (R, h) = X at x1 ⊢
    cases X with
    | inl g => exact x1
    | inr y =>
      obtain ⟨a, b, c, d⟩ := x1
      exact ⟨a, b, c, by rw [f1.1 30 (by decide), h30, d]⟩
  induction n with
  | zero =>
    intro fuel i R h Q v hf hi hT h2 hk hQ h30 hR
    obtain ⟨m, rfl⟩ : ∃ m, fuel = m + 1 := ⟨fuel - 1, by omega⟩
    obtain rfl : i = 6 := by omega
    show ∃ r v', f_Reader_takeOne_127b (f_Reader_takeOne_127 m) 1 20 (nI p) 1 (nI 6) (bh v w) = some (r, bh v' w) ∧ _
    unfold f_Reader_takeOne_127b
    rw [if_pos (by decide)]
    exact stp R h Q v h2 hk h30
  | succ n ih =>
    intro fuel i R h Q v hf hi hT h2 hk hQ h30 hR
    obtain ⟨m, rfl⟩ : ∃ m, fuel = m + 1 + 1 := ⟨fuel - 2, by omega⟩
    have k4 := (kc_s (K := K) (s := sT K Q)).2.2.2.2
    have ek : kD K Q = kc K (sT K Q) := rfl
    have hb : ∀ j, j < K.1 → K.2 j ≤ 127 := fun j hj => (hT.2.2 j hj).2
    show ∃ r v', f_Reader_takeOne_127b (f_Reader_takeOne_127 (m + 1)) 1 20 (nI p) 1 (nI i) (bh v w) = some (r, bh v' w) ∧ _
    unfold f_Reader_takeOne_127b sRef f_Reader_takeOne_177 f_Reader_takeOne_178
    rw [show (5 : Int32) = nI 5 from rfl, if_neg (fun z => by have := (nI_ltI (by omega) (by omega)).mp z; omega), if_neg (by decide)]
    simp only [hT0, hU0, bd1_q]
    rw [hk.2.1, show (2 : Int32) = nI 2 from rfl, ite_iff (nI_eqI (by omega) (by omega))]
    by_cases k : kD K Q = 2
    · rw [if_pos k, if_pos k]
      obtain ⟨r6, v6, e6, f6, x6⟩ := C_isBounded (w := w) (lo := 0) (hi := 4) hk h2 k (vL_lt hb hQ k) (by decide) (by decide)
      have e6 : f_Reader_isBounded 1 (0 : Int32) (4 : Int32) (bh v w) = some (r6, bh v6 w) := e6
      rw [e6, bd2_s]
      have T6 := hT.fR f6
      have F6 := (FrO.rf p v).nm f6
      clear e6
      generalize hX6 : chkB K 0 4 Q = X6 at x6 ⊢
      cases X6 with
      | inl g =>
        obtain ⟨rfl, a, b⟩ := x6
        rw [if_pos rfl, C_refF]
        exact ⟨0, v6, rfl, F6, rfl, a, b⟩
      | inr m' =>
      obtain ⟨rfl, b2, tk6, b8, -, hm⟩ := x6
      rw [if_neg (by decide), sb_r]
      simp only [hU0, hT0, bd1_q]
      obtain ⟨g1, g2⟩ := C_addLaw (w := w) (v := v6) (q := 30) (p := p) (R := R) (m := m') (s := sT K Q) (Or.inl rfl) hp ((congrFun (f6.1 30 (by decide)) p).trans h30) hR b8 hm tk6.2.2.1
      rcases bit_01 R m' with b | b
      · rw [g2 b, bd2_s, if_neg (by decide), if_neg (by omega)]
        simp only [hT0, bd1_q]
        obtain ⟨r8, v8, e8, f8, x8⟩ := C_takeToken (w := w) (K := K) (P := eN K Q) (v := u2 v6 30 p (nI (R ||| 2 ^ m'))) (T6.fr (congrFun (u2_o (by decide)) 1) (u2_o (by decide))) ((congrFun (u2_o (by decide)) 2).trans b2) ((congrFun (u2_o (by decide)) 5).trans tk6.1) (eN_b hQ).2.1
        rw [e8, bd2_s]
        have F8 := (F6.wr (x := nI (R ||| 2 ^ m'))).nm f8
        have T8 : CT K v8 := (T6.fr (congrFun (u2_o (by decide)) 1) (u2_o (by decide)) : CT K (u2 v6 30 p (nI (R ||| 2 ^ m')))).fR f8
        have c30 : v8 30 p = nI (R ||| 2 ^ m') := (congrFun (f8.1 30 (by decide)) p).trans (u2_at _ _ _ _)
        clear e8
        generalize hX8 : tokX K (eN K Q) = X8 at x8 ⊢
        cases X8 with
        | inl g =>
          obtain ⟨rfl, a, b⟩ := x8
          rw [if_pos rfl, C_refF]
          exact ⟨0, v8, rfl, F8, rfl, a, b⟩
        | inr u =>
        obtain ⟨rfl, c2, tk8⟩ := x8
        rw [if_neg (by decide), sb_r, nI_1]
        obtain ⟨r9, v9, e9, f9, x9⟩ := ih (m + 1) (i + 1) (R ||| 2 ^ m') (max h (m' + 1)) (eN K Q) v8 (by omega) (by omega) T8 c2 tk8 (eN_b hQ).2.1 c30 (or_lt R hR _ (pw4 m' hm))
        exact ⟨r9, v9, e9, F8.tr f9, x9⟩
      · obtain ⟨v7, e7, f7, b1, b3⟩ := g1 b
        rw [e7, bd2_s, if_pos rfl, C_refF, if_pos b]
        exact ⟨0, v7, rfl, F6.nm f7, rfl, b1, b3⟩
    · rw [if_neg k, if_neg k]
      exact stp R h Q v h2 hk h30
theorem CS_addO {σ : Rho} {v : Nat → Nat → Int32} {t c n u R h : Nat} (hs : CS σ v) (hp : σ 0 1 < 3) : CS (addO σ t c n u R h) (u2 (u2 (u2 (u2 (u2 (vOne σ v) 26 (σ 0 1) (nI t)) 27 (σ 0 1) (nI c)) 28 (σ 0 1) (nI n)) 29 (σ 0 1) (nI u)) 30 (σ 0 1) (nI R)) := by
  obtain ⟨⟨a1, a2, a3, a4, a5, a6, a7⟩, b, c', d, e⟩ := hs
  unfold CS addO vOne
  simp [u2_ap, up2_ap, a1, a3, a4, a5, a6, a7]
  refine ⟨b, fun l hl => ?_, fun p hp => ?_, e⟩
  · by_cases z : l = σ 0 1
    · simp [z]
    · have := c' l (by omega)
      simp [z, this]
  · by_cases z : p = σ 0 1
    · have := d p hp
      rw [z] at this
      simp [z, this]
    · have := d p hp
      simp [z, this]
theorem C_takeOne (hR : Rdy K P v) (hP : P ≤ K.1) (hs : CS σ v) (hI : SI σ) (hl : σ 0 1 < 3) : ∃ r v', f_Reader_takeOne 1 20 (nI (σ 0 1)) (bh v w) = some (r, bh v' w) ∧ FrL v v' ∧ CX (sOne K σ P) (fun x v' => v' 1 5 = nI x.2 ∧ CS x.1 v') r v' := by
  have s1 := fun t c n u R h => CS_addO (v := v) (t := t) (c := c) (n := n) (u := u) (R := R) (h := h) hs hl
  have z1 : vOne σ v 1 = v 1 := by unfold vOne; rw [u2_o (by decide)]
  have z30 : vOne σ v 30 = v 30 := by unfold vOne; rw [u2_o (by decide)]
  have zq : ∀ q, q ≠ 1 → q < 20 ∨ 37 ≤ q → vOne σ v q = v q := fun q _ h2 => by unfold vOne; rw [u2_o (by omega)]
  have R0 : Rdy K P (vOne σ v) := hR.wr (by decide) (by decide)
  have e0 : u2 v 20 1 (nI (σ 0 1 + 1)) = vOne σ v := rfl
  have h30 : v 30 (σ 0 1) = nI 0 := by rw [(hs.2.2.2.1 _ hl).1, (hI.2.2.2.1 _ hl).2.2 (Nat.le_refl _)]
  unfold f_Reader_takeOne f_Reader_takeOne_0 sOne
  rw [if_pos (show nI (σ 0 1) < (3 : Int32) from nI_lt hl (by decide))]
  simp only [hU0, hT0, bd1_q, C_oneF]
  rw [hs.1.2.1, nI_1, e0]
  clear e0
  generalize vOne σ v = v0 at s1 z1 z30 zq R0
  have H0 : Ch v0 v0 v0 := ⟨fun _ _ => rfl, rfl, rfl⟩
  obtain ⟨r1, v1, e1, f1, x1⟩ := C_takeNumber (w := w) (lo := 0) (hi := 5) R0.1 R0.2.1 R0.2.2 hP (by decide) (by decide)
  have e1 : f_Reader_takeNumber 1 (0 : Int32) (5 : Int32) (bh (v0) w) = some (r1, bh v1 w) := e1
  rw [e1, bd2_s]
  have H1a := H0.nm f1
  have T1 := R0.1.fR f1
  clear e1
  generalize hX1 : sNum K 0 5 P = X1 at x1 ⊢
  cases X1 with
  | inl g =>
    obtain ⟨rfl, a, b⟩ := x1
    rw [if_pos rfl]
    exact ⟨0, v1, rfl, H1a.fl zq z1, rfl, a, b⟩
  | inr t =>
  obtain ⟨rfl, a2, tk1, a8, lo1, hi1⟩ := x1
  rw [if_neg (by decide), sb_r]
  simp only [hU0, hT0, bd1_q, f_Reader_putInto, f_Reader_putInto_0]
  rw [wr_nI hl (by decide), bd1_s, bd2_s, if_neg (by decide), a8]
  have R1 : Rdy K (eN K P) (u2 v1 26 (σ 0 1) (nI t)) := Rdy.wr ⟨T1, a2, tk1.1⟩ (by decide) (by decide)
  have H1 := H1a.wr (o := 26) (k := (σ 0 1)) (x := nI t) (by decide)
  have fr1 : ∀ qq, qq ≠ 1 → qq < 20 ∨ 37 ≤ qq → u2 (v0) 26 (σ 0 1) (nI t) qq = v qq := fun qq h1 h2 => (u2_o (by omega)).trans (zq qq h1 h2)
  have hP1 := (eN_b hP).2.1
  obtain ⟨r2, v2, e2, f2, x2⟩ := C_takeNumber (w := w) (lo := 0) (hi := 3) R1.1 R1.2.1 R1.2.2 hP1 (by decide) (by decide)
  have e2 : f_Reader_takeNumber 1 (0 : Int32) (3 : Int32) (bh (u2 v1 26 (σ 0 1) (nI t)) w) = some (r2, bh v2 w) := e2
  rw [e2, bd2_s]
  have H2a := H1.nm f2
  have T2 := R1.1.fR f2
  clear e2
  generalize hX2 : sNum K 0 3 (eN K P) = X2 at x2 ⊢
  cases X2 with
  | inl g =>
    obtain ⟨rfl, a, b⟩ := x2
    rw [if_pos rfl]
    exact ⟨0, v2, rfl, H2a.fl fr1 z1, rfl, a, b⟩
  | inr c =>
  obtain ⟨rfl, a2, tk2, a8, lo2, hi2⟩ := x2
  rw [if_neg (by decide), sb_r]
  simp only [hU0, hT0, bd1_q, f_Reader_putInto, f_Reader_putInto_0]
  rw [wr_nI hl (by decide), bd1_s, bd2_s, if_neg (by decide), a8]
  have R2 : Rdy K (eN K (eN K P)) (u2 v2 27 (σ 0 1) (nI c)) := Rdy.wr ⟨T2, a2, tk2.1⟩ (by decide) (by decide)
  have H2 := H2a.wr (o := 27) (k := (σ 0 1)) (x := nI c) (by decide)
  have fr2 : ∀ qq, qq ≠ 1 → qq < 20 ∨ 37 ≤ qq → u2 (u2 (v0) 26 (σ 0 1) (nI t)) 27 (σ 0 1) (nI c) qq = v qq := fun qq h1 h2 => (u2_o (by omega)).trans (fr1 qq h1 h2)
  have hP2 := (eN_b hP1).2.1
  obtain ⟨r3, v3, e3, f3, x3⟩ := C_takeNumber (w := w) (lo := 0) (hi := 10) R2.1 R2.2.1 R2.2.2 hP2 (by decide) (by decide)
  have e3 : f_Reader_takeNumber 1 (0 : Int32) (10 : Int32) (bh (u2 v2 27 (σ 0 1) (nI c)) w) = some (r3, bh v3 w) := e3
  rw [e3, bd2_s]
  have H3a := H2.nm f3
  have T3 := R2.1.fR f3
  clear e3
  generalize hX3 : sNum K 0 10 (eN K (eN K P)) = X3 at x3 ⊢
  cases X3 with
  | inl g =>
    obtain ⟨rfl, a, b⟩ := x3
    rw [if_pos rfl]
    exact ⟨0, v3, rfl, H3a.fl fr2 z1, rfl, a, b⟩
  | inr n =>
  obtain ⟨rfl, a2, tk3, a8, lo3, hi3⟩ := x3
  rw [if_neg (by decide), sb_r]
  simp only [hU0, hT0, bd1_q, f_Reader_putInto, f_Reader_putInto_0]
  rw [wr_nI hl (by decide), bd1_s, bd2_s, if_neg (by decide), a8]
  have R3 : Rdy K (eN K (eN K (eN K P))) (u2 v3 28 (σ 0 1) (nI n)) := Rdy.wr ⟨T3, a2, tk3.1⟩ (by decide) (by decide)
  have H3 := H3a.wr (o := 28) (k := (σ 0 1)) (x := nI n) (by decide)
  have fr3 : ∀ qq, qq ≠ 1 → qq < 20 ∨ 37 ≤ qq → u2 (u2 (u2 (v0) 26 (σ 0 1) (nI t)) 27 (σ 0 1) (nI c)) 28 (σ 0 1) (nI n) qq = v qq := fun qq h1 h2 => (u2_o (by omega)).trans (fr2 qq h1 h2)
  have hP3 := (eN_b hP2).2.1
  obtain ⟨r4, v4, e4, f4, x4⟩ := C_takeNumber (w := w) (lo := 0) (hi := 99) R3.1 R3.2.1 R3.2.2 hP3 (by decide) (by decide)
  have e4 : f_Reader_takeNumber 1 (0 : Int32) (99 : Int32) (bh (u2 v3 28 (σ 0 1) (nI n)) w) = some (r4, bh v4 w) := e4
  rw [e4, bd2_s]
  have H4a := H3.nm f4
  have T4 := R3.1.fR f4
  clear e4
  generalize hX4 : sNum K 0 99 (eN K (eN K (eN K P))) = X4 at x4 ⊢
  cases X4 with
  | inl g =>
    obtain ⟨rfl, a, b⟩ := x4
    rw [if_pos rfl]
    exact ⟨0, v4, rfl, H4a.fl fr3 z1, rfl, a, b⟩
  | inr u =>
  obtain ⟨rfl, a2, tk4, a8, lo4, hi4⟩ := x4
  rw [if_neg (by decide), sb_r]
  simp only [hU0, hT0, bd1_q, f_Reader_putInto, f_Reader_putInto_0]
  rw [wr_nI hl (by decide), bd1_s, bd2_s, if_neg (by decide), a8]
  have R4 : Rdy K (eN K (eN K (eN K (eN K P)))) (u2 v4 29 (σ 0 1) (nI u)) := Rdy.wr ⟨T4, a2, tk4.1⟩ (by decide) (by decide)
  have H4 := H4a.wr (o := 29) (k := (σ 0 1)) (x := nI u) (by decide)
  have fr4 : ∀ qq, qq ≠ 1 → qq < 20 ∨ 37 ≤ qq → u2 (u2 (u2 (u2 (v0) 26 (σ 0 1) (nI t)) 27 (σ 0 1) (nI c)) 28 (σ 0 1) (nI n)) 29 (σ 0 1) (nI u) qq = v qq := fun qq h1 h2 => (u2_o (by omega)).trans (fr3 qq h1 h2)
  have hP4 := (eN_b hP3).2.1
  simp only [hT0, bd1_q]
  obtain ⟨r5, v5, e5, f5, x5⟩ := C_takeToken (w := w) R4.1 R4.2.1 R4.2.2 hP4
  rw [e5, bd2_s]
  have H5 := H4.nm f5
  have T5 := R4.1.fR f5
  clear e5
  generalize hX5 : tokX K (eN K (eN K (eN K (eN K P)))) = X5 at x5 ⊢
  cases X5 with
  | inl g =>
    obtain ⟨rfl, a, b⟩ := x5
    rw [if_pos rfl]
    exact ⟨0, v5, rfl, H5.fl fr4 z1, rfl, a, b⟩
  | inr uu =>
  obtain ⟨rfl, a2, tk⟩ := x5
  rw [if_neg (by decide), sb_r]
  unfold f_Reader_takeOne_123
  generalize hQ4 : eN K (eN K (eN K (eN K P))) = Q4 at tk hP4 ⊢
  have c30 : v5 30 (σ 0 1) = nI 0 := by
    rw [H5.1 30 (by decide), u2_o (by decide), u2_o (by decide), u2_o (by decide), u2_o (by decide), z30]
    exact h30
  obtain ⟨r9, v9, e9, f9, x9⟩ := C_refL (w := w) hl 6 FU 0 0 (σ 17 0) Q4 v5 (by decide) (by decide) T5 a2 tk hP4 c30 (by decide)
  refine ⟨r9, v9, e9, ⟨fun q h1 h2 => (f9.1 q h1 (by omega)).trans ((H5.1 q h1).trans (fr4 q h1 h2)), f9.2.2.1.trans (H5.2.1.trans (by rw [z1])), f9.2.2.2.trans (H5.2.2.trans (by rw [z1]))⟩, ?_⟩
  clear e9
  generalize sRef K 6 0 (σ 17 0) Q4 = X at x9 ⊢
  cases X with
  | inl g => exact x9
  | inr x =>
  rw [sb_r] at x9 ⊢
  unfold sFin at x9 ⊢
  generalize sStp K x.2 = X at x9 ⊢
  cases X with
  | inl g => exact x9
  | inr y =>
  obtain ⟨b1, b2, b3, b4⟩ := x9
  refine ⟨b1, b2, b3, CS.of (s1 t c n u x.1.1 x.1.2) (fun q hq => ?_)⟩
  by_cases e : q = 30
  · subst e
    funext j
    by_cases z : j = σ 0 1
    · rw [z, b4, u2_at]
    · rw [f9.2.1 j z, u2_n z, H5.1 30 (by decide)]
  · rw [f9.1 q hq e, H5.1 q hq, u2_o e]
end
