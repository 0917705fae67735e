/-! the class reads the lines -/
def CS (σ : Rho) (v : Nat → Nat → Int32) : Prop := (v 20 0 = nI (σ 0 0) ∧ v 20 1 = nI (σ 0 1) ∧ v 20 2 = 0 ∧ v 20 3 = 0 ∧ v 20 4 = nI (2 ^ σ 0 0 - 1) ∧ v 20 5 = nI (σ 0 5) ∧ v 33 0 = 0) ∧ (∀ l, l < σ 0 0 → v 21 l = nI (σ 1 l) ∧ v 22 l = nI (σ 2 l) ∧ v 23 l = nI (σ 3 l) ∧ v 24 l = nI (σ 4 l) ∧ v 25 l = cI (σ 5 l)) ∧ (∀ p, p < σ 0 1 → v 26 p = nI (σ 6 p) ∧ v 27 p = nI (σ 7 p) ∧ v 28 p = nI (σ 8 p) ∧ v 29 p = nI (σ 9 p)) ∧ (∀ p, p < 3 → v 30 p = nI (σ 10 p) ∧ v 31 p = nI (σ 11 p)) ∧ (∀ j, j < 15 → v 32 j = 0)
def SI (σ : Rho) : Prop :=
  (σ 0 0 ≤ 5 ∧ σ 0 1 ≤ 3 ∧ σ 0 2 = 0 ∧ σ 0 3 = 0 ∧ σ 0 5 < 32 ∧ σ 0 6 = 0 ∧ σ 17 0 ≤ 5 ∧ σ 17 1 ≤ 3) ∧
  (∀ l, l < σ 0 0 → σ 1 l ≤ 9 ∧ 1 ≤ σ 2 l ∧ σ 2 l ≤ 3 ∧ σ 3 l ≤ 9 ∧ σ 4 l ≤ 9 ∧ σ 5 l ≤ 5 ∧ σ 5 l ≠ l + 1) ∧
  (∀ p, p < σ 0 1 → σ 6 p ≤ 5 ∧ σ 7 p ≤ 3 ∧ σ 8 p ≤ 10 ∧ σ 9 p ≤ 99) ∧
  (∀ p, p < 3 → σ 10 p < 32 ∧ σ 11 p < 32 ∧ (σ 0 1 ≤ p → σ 10 p = 0)) ∧
  (∀ j, σ 12 j = 0) ∧
  (∀ n, n ≤ 5 → (σ 17 0 ≤ n ↔ σ 0 5 < 2 ^ n ∧ (∀ l, l < σ 0 0 → σ 5 l ≤ n) ∧ ∀ p, p < 3 → σ 10 p < 2 ^ n ∧ σ 11 p < 2 ^ n)) ∧
  (∀ n, n ≤ 3 → (σ 17 1 ≤ n ↔ ∀ p, p < 3 → σ 11 p ≠ 0 → p < n))
def Ch (v V v' : Nat → Nat → Int32) : Prop := (∀ q, q ≠ 1 → v' q = V q) ∧ v' 1 1 = v 1 1 ∧ v' 1 4 = v 1 4
theorem Ch.nm {v V v1 v2 : Nat → Nat → Int32} (h : Ch v V v1) (g : FrR v1 v2) : Ch v V v2 := ⟨fun q hq => (g.1 q hq).trans (h.1 q hq), g.2.1.trans h.2.1, g.2.2.trans h.2.2⟩
theorem Ch.wr {v V v1 : Nat → Nat → Int32} {o k : Nat} {x : Int32} (h : Ch v V v1) (ho : o ≠ 1) : Ch v (u2 V o k x) (u2 v1 o k x) := ⟨fun q hq => u2_cg (h.1 q hq), (congrFun (u2_o (fun z => ho z.symm)) 1).trans h.2.1, (congrFun (u2_o (fun z => ho z.symm)) 4).trans h.2.2⟩
/-- ready to read on at P -/
def Rdy (K : Tp) (P : Nat) (v : Nat → Nat → Int32) : Prop := CT K v ∧ v 1 2 = 0 ∧ v 1 5 = nI P
theorem Rdy.wr {K : Tp} {P o k : Nat} {x : Int32} {v : Nat → Nat → Int32} (h : Rdy K P v) (h1 : 1 ≠ o) (h2 : 2 ≠ o) : Rdy K P (u2 v o k x) := ⟨h.1.fr (congrFun (u2_o h1) 1) (u2_o h2), (congrFun (u2_o h1) 2).trans h.2.1, (congrFun (u2_o h1) 5).trans h.2.2⟩
theorem CS.of {σ : Rho} {v V : Nat → Nat → Int32} (h : CS σ V) (e : ∀ q, q ≠ 1 → v q = V q) : CS σ v := by
  unfold CS
  rw [e 20 (by decide), e 21 (by decide), e 22 (by decide), e 23 (by decide), e 24 (by decide), e 25 (by decide), e 26 (by decide), e 27 (by decide), e 28 (by decide), e 29 (by decide), e 30 (by decide), e 31 (by decide), e 32 (by decide), e 33 (by decide)]
  exact h
def FrL (v v' : Nat → Nat → Int32) : Prop := (∀ q, q ≠ 1 → q < 20 ∨ 37 ≤ q → v' q = v q) ∧ v' 1 1 = v 1 1 ∧ v' 1 4 = v 1 4
theorem or_pw : ∀ l, l < 5 → nI (2 ^ l - 1) ||| ((1 : Int32) <<< (nI l &&& 31)) = nI (2 ^ (l + 1) - 1) := by decide +kernel
def vLaw (σ : Rho) (v : Nat → Nat → Int32) : Nat → Nat → Int32 := u2 (u2 (u2 v 25 (σ 0 0) (-4)) 20 4 (nI (2 ^ (σ 0 0 + 1) - 1))) 20 0 (nI (σ 0 0 + 1))
theorem CS_addL {σ : Rho} {v : Nat → Nat → Int32} {q c h f : Nat} (hs : CS σ v) : CS (addL σ q c h f 0) (u2 (u2 (u2 (u2 (vLaw σ v) 21 (σ 0 0) (nI q)) 22 (σ 0 0) (nI c)) 23 (σ 0 0) (nI h)) 24 (σ 0 0) (nI f)) := by
  obtain ⟨⟨a1, a2, a3, a4, a5, a6, a7⟩, b, c', d, e⟩ := hs
  unfold CS addL vLaw
  simp [u2_ap, up2_ap, a2, a3, a4, a6, a7]
  refine ⟨fun l hl => ?_, c', d, e⟩
  by_cases z : l = σ 0 0
  · simp [z]; rfl
  · have := b l (by omega)
    simp [z, this]
theorem CS_addLm {σ : Rho} {v : Nat → Nat → Int32} {q c h f m : Nat} (hs : CS σ v) : CS (addL σ q c h f (m + 1)) (u2 (u2 (u2 (u2 (u2 (vLaw σ v) 21 (σ 0 0) (nI q)) 22 (σ 0 0) (nI c)) 23 (σ 0 0) (nI h)) 24 (σ 0 0) (nI f)) 25 (σ 0 0) (nI m)) := by
  obtain ⟨⟨a1, a2, a3, a4, a5, a6, a7⟩, b, c', d, e⟩ := hs
  unfold CS addL vLaw
  simp [u2_ap, up2_ap, a2, a3, a4, a6, a7]
  refine ⟨fun l hl => ?_, c', d, e⟩
  by_cases z : l = σ 0 0
  · simp [z]; rfl
  · have := b l (by omega)
    simp [z, this]
theorem Ch.fl {v V v' v0 : Nat → Nat → Int32} (h : Ch v0 V v') (e : ∀ q, q ≠ 1 → q < 20 ∨ 37 ≤ q → V q = v q) (e1 : v0 1 = v 1) : FrL v v' := ⟨fun q h1 h2 => (h.1 q h1).trans (e q h1 h2), h.2.1.trans (by rw [e1]), h.2.2.trans (by rw [e1])⟩
section
variable {K : Tp} {σ : Rho} {v : Nat → Nat → Int32} {w : Nat → Nat → Int64} {P : Nat}
theorem C_takeLaw (hR : Rdy K P v) (hP : P ≤ K.1) (hs : CS σ v) (hl : σ 0 0 < 5) : ∃ r v', f_Reader_takeLaw 1 20 (nI (σ 0 0)) (bh v w) = some (r, bh v' w) ∧ FrL v v' ∧ CX (sLaw K σ P) (fun x v' => v' 1 5 = nI x.2 ∧ CS x.1 v') r v' := by
  have s1 := fun q c h f => CS_addL (v := v) (q := q) (c := c) (h := h) (f := f) hs
  have s2 := fun q c h f m => CS_addLm (v := v) (q := q) (c := c) (h := h) (f := f) (m := m) hs
  have hb : ∀ j, j < K.1 → K.2 j ≤ 127 := fun j hj => (hR.1.2.2 j hj).2
  have z1 : vLaw σ v 1 = v 1 := by unfold vLaw; rw [u2_o (by decide), u2_o (by decide), u2_o (by decide)]
  have zq : ∀ q, q ≠ 1 → q < 20 ∨ 37 ≤ q → vLaw σ v q = v q := fun q _ h2 => by unfold vLaw; rw [u2_o (by omega), u2_o (by omega), u2_o (by omega)]
  have R0 : Rdy K P (vLaw σ v) := ((hR.wr (by decide) (by decide)).wr (by decide) (by decide)).wr (by decide) (by decide)
  have e0 : u2 (u2 (u2 v 25 (σ 0 0) (-4)) 20 4 (nI (2 ^ (σ 0 0 + 1) - 1))) 20 0 (nI (σ 0 0 + 1)) = vLaw σ v := rfl
  unfold f_Reader_takeLaw f_Reader_takeLaw_0 f_Reader_takeLaw_174 f_Reader_takeLaw_163 sLaw
  rw [if_pos (show nI (σ 0 0) < (5 : Int32) from nI_lt hl (by decide))]
  simp only [hU0, hT0, bd1_q]
  rw [wr_nI hl (by decide)]
  simp only [hU0, hT0, bd1_q]
  rw [u2_n (show (0 : Nat) ≠ 4 by decide), u2_o (show 20 ≠ 25 by decide), hs.1.1, hs.1.2.2.2.2.1, or_pw _ hl, nI_1, e0]
  clear e0
  generalize vLaw σ v = v0 at s1 s2 z1 zq R0
  have H0 : Ch v0 v0 v0 := ⟨fun _ _ => rfl, rfl, rfl⟩
  obtain ⟨r1, v1, e1, f1, x1⟩ := C_takeNumber (w := w) (lo := 0) (hi := 9) R0.1 R0.2.1 R0.2.2 hP (by decide) (by decide)
  have e1 : f_Reader_takeNumber 1 (0 : Int32) (9 : Int32) (bh (v0) w) = some (r1, bh v1 w) := e1
  rw [e1, bd2_s]
  have H1a := H0.nm f1
  have T1 := R0.1.fR f1
  clear e1
  generalize hX1 : sNum K 0 9 P = X1 at x1 ⊢
  cases X1 with
  | inl g =>
    obtain ⟨rfl, a, b⟩ := x1
    rw [if_pos rfl]
    exact ⟨0, v1, rfl, H1a.fl zq z1, rfl, a, b⟩
  | inr q =>
  obtain ⟨rfl, a2, tk1, a8, lo1, hi1⟩ := x1
  rw [if_neg (by decide), sb_r]
  simp only [hU0, hT0, bd1_q, f_Reader_putInto, f_Reader_putInto_0]
  rw [wr_nI hl (by decide), bd1_s, bd2_s, if_neg (by decide), a8]
  have R1 : Rdy K (eN K P) (u2 v1 21 (σ 0 0) (nI q)) := Rdy.wr ⟨T1, a2, tk1.1⟩ (by decide) (by decide)
  have H1 := H1a.wr (o := 21) (k := (σ 0 0)) (x := nI q) (by decide)
  have fr1 : ∀ qq, qq ≠ 1 → qq < 20 ∨ 37 ≤ qq → u2 (v0) 21 (σ 0 0) (nI q) qq = v qq := fun qq h1 h2 => (u2_o (by omega)).trans (zq qq h1 h2)
  have hP1 := (eN_b hP).2.1
  obtain ⟨r2, v2, e2, f2, x2⟩ := C_takeNumber (w := w) (lo := 1) (hi := 3) R1.1 R1.2.1 R1.2.2 hP1 (by decide) (by decide)
  have e2 : f_Reader_takeNumber 1 (1 : Int32) (3 : Int32) (bh (u2 v1 21 (σ 0 0) (nI q)) w) = some (r2, bh v2 w) := e2
  rw [e2, bd2_s]
  have H2a := H1.nm f2
  have T2 := R1.1.fR f2
  clear e2
  generalize hX2 : sNum K 1 3 (eN K P) = X2 at x2 ⊢
  cases X2 with
  | inl g =>
    obtain ⟨rfl, a, b⟩ := x2
    rw [if_pos rfl]
    exact ⟨0, v2, rfl, H2a.fl fr1 z1, rfl, a, b⟩
  | inr c =>
  obtain ⟨rfl, a2, tk2, a8, lo2, hi2⟩ := x2
  rw [if_neg (by decide), sb_r]
  simp only [hU0, hT0, bd1_q, f_Reader_putInto, f_Reader_putInto_0]
  rw [wr_nI hl (by decide), bd1_s, bd2_s, if_neg (by decide), a8]
  have R2 : Rdy K (eN K (eN K P)) (u2 v2 22 (σ 0 0) (nI c)) := Rdy.wr ⟨T2, a2, tk2.1⟩ (by decide) (by decide)
  have H2 := H2a.wr (o := 22) (k := (σ 0 0)) (x := nI c) (by decide)
  have fr2 : ∀ qq, qq ≠ 1 → qq < 20 ∨ 37 ≤ qq → u2 (u2 (v0) 21 (σ 0 0) (nI q)) 22 (σ 0 0) (nI c) qq = v qq := fun qq h1 h2 => (u2_o (by omega)).trans (fr1 qq h1 h2)
  have hP2 := (eN_b hP1).2.1
  obtain ⟨r3, v3, e3, f3, x3⟩ := C_takeNumber (w := w) (lo := 0) (hi := 9) R2.1 R2.2.1 R2.2.2 hP2 (by decide) (by decide)
  have e3 : f_Reader_takeNumber 1 (0 : Int32) (9 : Int32) (bh (u2 v2 22 (σ 0 0) (nI c)) w) = some (r3, bh v3 w) := e3
  rw [e3, bd2_s]
  have H3a := H2.nm f3
  have T3 := R2.1.fR f3
  clear e3
  generalize hX3 : sNum K 0 9 (eN K (eN K P)) = X3 at x3 ⊢
  cases X3 with
  | inl g =>
    obtain ⟨rfl, a, b⟩ := x3
    rw [if_pos rfl]
    exact ⟨0, v3, rfl, H3a.fl fr2 z1, rfl, a, b⟩
  | inr h =>
  obtain ⟨rfl, a2, tk3, a8, lo3, hi3⟩ := x3
  rw [if_neg (by decide), sb_r]
  simp only [hU0, hT0, bd1_q, f_Reader_putInto, f_Reader_putInto_0]
  rw [wr_nI hl (by decide), bd1_s, bd2_s, if_neg (by decide), a8]
  have R3 : Rdy K (eN K (eN K (eN K P))) (u2 v3 23 (σ 0 0) (nI h)) := Rdy.wr ⟨T3, a2, tk3.1⟩ (by decide) (by decide)
  have H3 := H3a.wr (o := 23) (k := (σ 0 0)) (x := nI h) (by decide)
  have fr3 : ∀ qq, qq ≠ 1 → qq < 20 ∨ 37 ≤ qq → u2 (u2 (u2 (v0) 21 (σ 0 0) (nI q)) 22 (σ 0 0) (nI c)) 23 (σ 0 0) (nI h) qq = v qq := fun qq h1 h2 => (u2_o (by omega)).trans (fr2 qq h1 h2)
  have hP3 := (eN_b hP2).2.1
  obtain ⟨r4, v4, e4, f4, x4⟩ := C_takeNumber (w := w) (lo := 0) (hi := 9) R3.1 R3.2.1 R3.2.2 hP3 (by decide) (by decide)
  have e4 : f_Reader_takeNumber 1 (0 : Int32) (9 : Int32) (bh (u2 v3 23 (σ 0 0) (nI h)) w) = some (r4, bh v4 w) := e4
  rw [e4, bd2_s]
  have H4a := H3.nm f4
  have T4 := R3.1.fR f4
  clear e4
  generalize hX4 : sNum K 0 9 (eN K (eN K (eN K P))) = X4 at x4 ⊢
  cases X4 with
  | inl g =>
    obtain ⟨rfl, a, b⟩ := x4
    rw [if_pos rfl]
    exact ⟨0, v4, rfl, H4a.fl fr3 z1, rfl, a, b⟩
  | inr f =>
  obtain ⟨rfl, a2, tk4, a8, lo4, hi4⟩ := x4
  rw [if_neg (by decide), sb_r]
  simp only [hU0, hT0, bd1_q, f_Reader_putInto, f_Reader_putInto_0]
  rw [wr_nI hl (by decide), bd1_s, bd2_s, if_neg (by decide), a8]
  have R4 : Rdy K (eN K (eN K (eN K (eN K P)))) (u2 v4 24 (σ 0 0) (nI f)) := Rdy.wr ⟨T4, a2, tk4.1⟩ (by decide) (by decide)
  have H4 := H4a.wr (o := 24) (k := (σ 0 0)) (x := nI f) (by decide)
  have fr4 : ∀ qq, qq ≠ 1 → qq < 20 ∨ 37 ≤ qq → u2 (u2 (u2 (u2 (v0) 21 (σ 0 0) (nI q)) 22 (σ 0 0) (nI c)) 23 (σ 0 0) (nI h)) 24 (σ 0 0) (nI f) qq = v qq := fun qq h1 h2 => (u2_o (by omega)).trans (fr3 qq h1 h2)
  have hP4 := (eN_b hP3).2.1
  unfold sCar
  simp only [hT0, bd1_q]
  obtain ⟨r5, v5, e5, f5, x5⟩ := C_takeToken (w := w) R4.1 R4.2.1 R4.2.2 hP4
  rw [e5, bd2_s]
  have H5 := H4.nm f5
  have T5 := R4.1.fR f5
  clear e5
  generalize hX5 : tokX K (eN K (eN K (eN K (eN K P)))) = X5 at x5 ⊢
  cases X5 with
  | inl g =>
    obtain ⟨rfl, a, b⟩ := x5
    rw [if_pos rfl]
    exact ⟨0, v5, rfl, H5.fl fr4 z1, rfl, a, b⟩
  | inr u =>
  obtain ⟨rfl, a2, tk⟩ := x5
  rw [if_neg (by decide), sb_r]
  simp only [hT0, bd1_q]
  generalize hQ4 : eN K (eN K (eN K (eN K P))) = Q4 at tk hP4 ⊢
  have k4 := (kc_s (K := K) (s := sT K Q4)).2.2.2.2
  have ek : kD K Q4 = kc K (sT K Q4) := rfl
  rw [tk.2.1, show (2 : Int32) = nI 2 from rfl, ite_iff (nI_eqI (by omega) (by omega))]
  by_cases k : kD K Q4 = 2
  · rw [if_pos k, if_pos k]
    obtain ⟨r6, v6, e6, f6, x6⟩ := C_isBounded (w := w) (lo := 0) (hi := 4) tk a2 k (vL_lt hb hP4 k) (by decide) (by decide)
    have e6 : f_Reader_isBounded 1 (0 : Int32) (4 : Int32) (bh v5 w) = some (r6, bh v6 w) := e6
    unfold f_Reader_takeCarried f_Reader_takeCarried_0 f_Reader_takeCarried_41
    simp only [hT0, bd1_q]
    rw [e6, bd2_s]
    have H6 := H5.nm f6
    have T6 := T5.fR f6
    clear e6
    generalize hX6 : chkB K 0 4 Q4 = X6 at x6 ⊢
    cases X6 with
    | inl g =>
      obtain ⟨rfl, a, b⟩ := x6
      rw [if_pos rfl, bd2_s, if_pos rfl]
      exact ⟨0, v6, rfl, H6.fl fr4 z1, rfl, a, b⟩
    | inr m =>
    obtain ⟨rfl, b2, tk6, b8, -, hm⟩ := x6
    rw [if_neg (by decide), sb_r]
    simp only [hU0, hT0, bd1_q]
    rw [wr_nI hl (by decide)]
    simp only [hU0, hT0, bd1_q]
    rw [u2_o (show 1 ≠ 25 by decide), b8, tk6.2.2.1, ite_iff (nI_eqI (by omega) (by omega))]
    have H7 := H6.wr (o := 25) (k := σ 0 0) (x := nI m) (by decide)
    have fr7 : ∀ qq, qq ≠ 1 → qq < 20 ∨ 37 ≤ qq → u2 (u2 (u2 (u2 (u2 (v0) 21 (σ 0 0) (nI q)) 22 (σ 0 0) (nI c)) 23 (σ 0 0) (nI h)) 24 (σ 0 0) (nI f)) 25 (σ 0 0) (nI m) qq = v qq := fun qq h1 h2 => (u2_o (by omega)).trans (fr4 qq h1 h2)
    by_cases g : m = σ 0 0
    · rw [if_pos g, if_pos g]
      obtain ⟨v8, e8, f8, b1, b2⟩ := C_fail (w := w) (c := 4) (v := u2 v6 25 (σ 0 0) (nI m)) (s := sT K Q4) ((congrFun (u2_o (by decide)) 7).trans tk6.2.2.1)
      rw [show (4 : Int32) = nI 4 from rfl, e8, bd2_s, if_pos rfl, bd2_s, if_pos rfl]
      exact ⟨0, v8, rfl, (H7.nm f8).fl fr7 z1, rfl, b1, b2⟩
    · rw [if_neg g, if_neg g, bd2_s, if_neg (by decide)]
      have R7 : Rdy K (eN K Q4) (u2 v6 25 (σ 0 0) (nI m)) := Rdy.wr ⟨T6, b2, tk6.1⟩ (by decide) (by decide)
      have hP5 := (eN_b hP4).2.1
      simp only [hT0, bd1_q]
      obtain ⟨r8, v8, e8, f8, x8⟩ := C_takeToken (w := w) R7.1 R7.2.1 R7.2.2 hP5
      rw [e8, bd2_s]
      have H8 := H7.nm f8
      clear e8
      generalize hX8 : tokX K (eN K Q4) = X8 at x8 ⊢
      cases X8 with
      | inl g =>
        obtain ⟨rfl, a, b⟩ := x8
        rw [if_pos rfl]
        exact ⟨0, v8, rfl, H8.fl fr7 z1, rfl, a, b⟩
      | inr u =>
      obtain ⟨rfl, c2, tk8⟩ := x8
      rw [if_neg (by decide), sb_r]
      simp only [hT0, bd1_q]
      obtain ⟨r9, v9, e9, f9, x9⟩ := C_isStop (w := w) tk8 c2
      rw [e9, bd2_s]
      have H9 := H8.nm f9
      unfold sFin
      generalize sStp K (eN K Q4) = X9 at x9 ⊢
      cases X9 with
      | inl g =>
        obtain ⟨rfl, a, b⟩ := x9
        rw [if_pos rfl]
        exact ⟨0, v9, rfl, H9.fl fr7 z1, rfl, a, b⟩
      | inr u =>
        obtain ⟨rfl, d2, d5⟩ := x9
        rw [if_neg (by decide)]
        exact ⟨1, v9, rfl, H9.fl fr7 z1, rfl, d2, d5, CS.of (s2 q c h f m) H9.1⟩
  · rw [if_neg k, if_neg k]
    obtain ⟨r9, v9, e9, f9, x9⟩ := C_isStop (w := w) tk a2
    rw [e9, bd2_s]
    have H9 := H5.nm f9
    unfold sFin
    generalize sStp K Q4 = X9 at x9 ⊢
    cases X9 with
    | inl g =>
      obtain ⟨rfl, a, b⟩ := x9
      rw [if_pos rfl]
      exact ⟨0, v9, rfl, H9.fl fr4 z1, rfl, a, b⟩
    | inr u =>
      obtain ⟨rfl, d2, d5⟩ := x9
      rw [if_neg (by decide)]
      exact ⟨1, v9, rfl, H9.fl fr4 z1, rfl, d2, d5, CS.of (s1 q c h f) H9.1⟩
end
