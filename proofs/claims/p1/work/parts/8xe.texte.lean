section
variable {K : Tp} {σ : Rho} {v v' : Nat → Nat → Int32} {w : Nat → Nat → Int64} {P : Nat}
theorem M_61F {f : Fa} (hF : FL f v) (m : Nat) (b : Int32) : f_M_readOne_61 (m + 1) 100 b (bh v w) = some (bh (u2 v 100 11 (v 100 11 + 1)) w) := by
  have := hF.2.2
  show f_M_readOne_61b (f_M_readOne_61 m) 100 b (bh v w) = _
  unfold f_M_readOne_61b f_M_readOne_101
  simp only [hN0, bd1_q]
  rw [hF.1, if_neg (nI_ne0 (by omega) (by omega))]
theorem M_refL {p : Nat} (hp : p < 3) : ∀ (n fuel R h Q : Nat) (v : Nat → Nat → Int32), mu5 R < n → n + 1 < fuel → MT K v → v 100 25 = 0 → MTk K Q v → v 100 17 = cI h → h ≤ 5 → v 108 (18 + p) = nI R → R < 32 → ∃ v', f_M_readOne_61 fuel 100 (nI p) (bh v w) = some (bh v' w) ∧ (∀ q, q ≠ 100 → q ≠ 108 → v' q = v q) ∧ (∀ j, j ≠ 18 + p → v' 108 j = v 108 j) ∧ (∀ j, j ≠ 17 → j ≠ 11 → j < 21 ∨ 26 < j → v' 100 j = v 100 j) ∧ v' 100 11 = v 100 11 + 1 ∧ MX (sRef K n R h Q) (fun y v' => MTk K y.2 v' ∧ v' 100 17 = cI y.1.2 ∧ v' 108 (18 + p) = nI y.1.1) v' := by
  intro n
  induction n with
  | zero =>
    intro fuel R h Q v hm
    exact absurd hm (Nat.not_lt_zero _)
  | succ n ih =>
    intro fuel R h Q v hm hf hT h25 hk h17 hh h18 hR
    obtain ⟨m, rfl⟩ : ∃ m, fuel = m + 1 + 1 := ⟨fuel - 2, by omega⟩
    have k4 := (kc_s (K := K) (s := sT K Q)).2.2.2.2
    have ek : kD K Q = kc K (sT K Q) := rfl
    show ∃ v', f_M_readOne_61b (f_M_readOne_61 (m + 1)) 100 (nI p) (bh v w) = _ ∧ _
    unfold f_M_readOne_61b f_M_readOne_101 sRef
    simp only [hN0, bd1_q]
    rw [h25, if_pos rfl, hk.2.2.2.1, show (2 : Int32) = nI 2 from rfl, ite_iff (nI_eqI (by omega) (by omega))]
    by_cases c : kD K Q = 2
    · rw [if_pos c, if_pos c, show (18 : Int32) = nI 18 from rfl, nI_add, rd_nI (by omega) (by decide), bd1_s, h18]
      obtain ⟨r1, v1, e1, q1, j1, x1⟩ := M_rlo (w := w) hT hk h25 hR h17 hh
      rw [e1, bd2_s]
      simp only [hN0, bd1_q]
      rw [wr_nI (by omega) (by decide), bd1_s]
      clear e1
      unfold sLx chk at x1
      rw [if_pos c] at x1
      have fq : ∀ q, q ≠ 100 → q ≠ 108 → u2 v1 108 (18 + p) r1 q = v q := fun q a b => (u2_o b).trans (q1 q a)
      have fj : ∀ j, j ≠ 18 + p → u2 v1 108 (18 + p) r1 108 j = v 108 j := fun j a => (u2_n a).trans (congrFun (q1 108 (by decide)) j)
      have fh : ∀ j, j ≠ 17 → j < 21 ∨ 26 < j → u2 v1 108 (18 + p) r1 100 j = v 100 j := fun j a b => (congrFun (u2_o (by decide)) j).trans (j1 j a b)
      have bad : ∀ f : Fa, FL f v1 → ∃ v', f_M_readOne_61 (m + 1) 100 (nI p) (bh (u2 v1 108 (18 + p) r1) w) = some (bh v' w) ∧ (∀ q, q ≠ 100 → q ≠ 108 → v' q = v q) ∧ (∀ j, j ≠ 18 + p → v' 108 j = v 108 j) ∧ (∀ j, j ≠ 17 → j ≠ 11 → j < 21 ∨ 26 < j → v' 100 j = v 100 j) ∧ v' 100 11 = v 100 11 + 1 ∧ FL f v' := by
        intro f hF
        have F2 : FL f (u2 v1 108 (18 + p) r1) := hF.w (by decide)
        rw [M_61F F2]
        exact ⟨_, rfl, fun q a b => (u2_o a).trans (fq q a b), fun j a => (congrFun (u2_o (by decide)) j).trans (fj j a), fun j a b c => (u2_n b).trans (fh j a c), by rw [u2_at, fh 11 (by decide) (by decide)], F2.u (by decide) (by decide)⟩
      cases hc : chkB K 0 4 Q with
      | inl f =>
        rw [hc] at x1
        exact bad f x1
      | inr x =>
        rw [hc, sb_r] at x1
        have hx := (chkB_inr hc).2
        rw [sb_r]
        rcases bit_01 R x with b | b
        · rw [if_neg (by omega)] at x1
          rw [if_neg (by omega)]
          cases ht : tokX K (eN K Q) with
          | inl f =>
            rw [ht] at x1
            exact bad f x1
          | inr u =>
            rw [ht] at x1
            obtain ⟨c25, cr, c17, -, ck⟩ := x1
            obtain ⟨s1, s2⟩ := mu5_step R hR x (by omega) b
            obtain ⟨v2, e2, q2, j2, g2, a11, x2⟩ := ih (m + 1) (R ||| 2 ^ x) (max h (x + 1)) (eN K Q) (u2 v1 108 (18 + p) r1) (by omega) (by omega) (hT.fr (fh 20 (by decide) (by decide)) (fq 114 (by decide) (by decide))) ((congrFun (u2_o (by decide)) 25).trans c25) (ck.w (by decide)) ((congrFun (u2_o (by decide)) 17).trans c17) (by omega) (by rw [u2_at, cr]) s1
            exact ⟨v2, e2, fun q a b => (q2 q a b).trans (fq q a b), fun j a => (j2 j a).trans (fj j a), fun j a b c => (g2 j a b c).trans (fh j a c), a11.trans (by rw [fh 11 (by decide) (by decide)]), x2⟩
        · rw [if_pos b] at x1
          rw [if_pos b]
          exact bad _ x1
    · rw [if_neg c, if_neg c]
      exact ⟨_, rfl, fun q a b => u2_o a, fun j a => congrFun (u2_o (by decide)) j, fun j a b c => u2_n b, u2_at _ _ _ _, (u2_n (by decide)).trans h25, hk.u (by decide), (u2_n (by decide)).trans h17, (congrFun (u2_o (by decide)) _).trans h18⟩
def sOr (K : Tp) (σ : Rho) (y : Y4 × Nat) : Fa ⊕ (Rho × Nat) := sb (sRef K 6 0 (σ 17 0) y.2) fun x => .inr (addO σ y.1.1.1.1.2 y.1.1.1.2 y.1.1.2 y.1.2 x.1.1 x.1.2, x.2)
theorem M_readOne (hT : MT K v) (hk : MTk K P v) (h25 : v 100 25 = 0) (hS : MS σ v) (hI : SI σ) (hl : σ 0 1 < 3) : ∃ v', f_M_readOne 100 (bh v w) = some (bh v' w) ∧ FrD v v' ∧ MX (sb (sNw K 0 99 (sNw K 0 10 (sNw K 0 3 (sNw K 0 5 (.inr ((), P)))))) fun y => sOr K σ y) (fun z v' => MTk K z.2 v' ∧ MS z.1 v') v' := by
  have h0 : σ 0 0 ≤ 5 := hI.1.1
  have hR0 : σ 10 (σ 0 1) = 0 := (hI.2.2.2.1 _ hl).2.2 (Nat.le_refl _)
  unfold f_M_readOne f_M_readOne_0
  simp only [hN0, bd1_q]
  rw [hS.1.2.1]
  have hX0 : MX ((.inr ((), P)) : Fa ⊕ (Unit × Nat)) (fun y v => MTk K y.2 v ∧ MS σ v) v := ⟨h25, hk, hS⟩
  have T0 := hT
  have D0 := FrD.rf v
  obtain ⟨r1, v1, e1, f1, hX1⟩ := M_nw (α := Unit) (w := w) (lo := 0) (hi := 5) (A := fun a v => MS σ v) (B := fun a v => MS σ v ∧ v 108 (12 + σ 0 1) = nI a.2) 108 (12 + σ 0 1) T0 hX0 (by decide) (by decide) (by decide) (fun a n v' g hs => by
    have s : MS σ v := hs
    exact ⟨(s.fN h0 g).put h0 (by unfold rdS; omega), u2_at _ _ _ _⟩)
  have e1 : f_M_readNumber 100 (0 : Int32) (5 : Int32) (bh (v) w) = some (r1, bh v1 w) := e1
  rw [e1, bd2_s]
  simp only [hN0, bd1_q]
  rw [show (12 : Int32) = nI 12 from rfl, nI_add, wr_nI (by omega) (by decide), bd1_s]
  have D1 := (D0.tr f1.d).w (o := 108) (k := 12 + σ 0 1) (x := r1) (by omega)
  have T1 := hT.fD D1
  clear e1
  simp only [hN0, bd1_q]
  obtain ⟨r2, v2, e2, f2, hX2⟩ := M_nw (α := Unit × Nat) (w := w) (lo := 0) (hi := 3) (A := fun a v => MS σ v ∧ v 108 (12 + σ 0 1) = nI a.2) (B := fun a v => MS σ v ∧ v 108 (12 + σ 0 1) = nI a.1.2 ∧ v 112 (σ 0 1) = nI a.2) 112 (σ 0 1) T1 hX1 (by decide) (by decide) (by decide) (fun a n v' g hs => by
    obtain ⟨s, z1⟩ := hs
    exact ⟨(s.fN h0 g).put h0 (by unfold rdS; omega), (u2_ap _ _ _ _ _ _).trans ((if_neg (by omega)).trans ((congrFun (g.1 108 (by decide)) _).trans z1)), u2_at _ _ _ _⟩)
  have e2 : f_M_readNumber 100 (0 : Int32) (3 : Int32) (bh (u2 v1 108 (12 + σ 0 1) r1) w) = some (r2, bh v2 w) := e2
  rw [e2, bd2_s]
  simp only [hN0, bd1_q]
  rw [wr_nI (by omega) (by decide), bd1_s]
  have D2 := (D1.tr f2.d).w (o := 112) (k := σ 0 1) (x := r2) (by omega)
  have T2 := hT.fD D2
  clear e2
  simp only [hN0, bd1_q]
  obtain ⟨r3, v3, e3, f3, hX3⟩ := M_nw (α := (Unit × Nat) × Nat) (w := w) (lo := 0) (hi := 10) (A := fun a v => MS σ v ∧ v 108 (12 + σ 0 1) = nI a.1.2 ∧ v 112 (σ 0 1) = nI a.2) (B := fun a v => MS σ v ∧ v 108 (12 + σ 0 1) = nI a.1.1.2 ∧ v 112 (σ 0 1) = nI a.1.2 ∧ v 113 (σ 0 1) = nI a.2) 113 (σ 0 1) T2 hX2 (by decide) (by decide) (by decide) (fun a n v' g hs => by
    obtain ⟨s, z1, z2⟩ := hs
    exact ⟨(s.fN h0 g).put h0 (by unfold rdS; omega), (u2_ap _ _ _ _ _ _).trans ((if_neg (by omega)).trans ((congrFun (g.1 108 (by decide)) _).trans z1)), (u2_ap _ _ _ _ _ _).trans ((if_neg (by omega)).trans ((congrFun (g.1 112 (by decide)) _).trans z2)), u2_at _ _ _ _⟩)
  have e3 : f_M_readNumber 100 (0 : Int32) (10 : Int32) (bh (u2 v2 112 (σ 0 1) r2) w) = some (r3, bh v3 w) := e3
  rw [e3, bd2_s]
  simp only [hN0, bd1_q]
  rw [wr_nI (by omega) (by decide), bd1_s]
  have D3 := (D2.tr f3.d).w (o := 113) (k := σ 0 1) (x := r3) (by omega)
  have T3 := hT.fD D3
  clear e3
  simp only [hN0, bd1_q]
  obtain ⟨r4, v4, e4, f4, hX4⟩ := M_nw (α := ((Unit × Nat) × Nat) × Nat) (w := w) (lo := 0) (hi := 99) (A := fun a v => MS σ v ∧ v 108 (12 + σ 0 1) = nI a.1.1.2 ∧ v 112 (σ 0 1) = nI a.1.2 ∧ v 113 (σ 0 1) = nI a.2) (B := fun a v => MS σ v ∧ v 108 (12 + σ 0 1) = nI a.1.1.1.2 ∧ v 112 (σ 0 1) = nI a.1.1.2 ∧ v 113 (σ 0 1) = nI a.1.2 ∧ v 108 (15 + σ 0 1) = nI a.2) 108 (15 + σ 0 1) T3 hX3 (by decide) (by decide) (by decide) (fun a n v' g hs => by
    obtain ⟨s, z1, z2, z3⟩ := hs
    exact ⟨(s.fN h0 g).put h0 (by unfold rdS; omega), (u2_ap _ _ _ _ _ _).trans ((if_neg (by omega)).trans ((congrFun (g.1 108 (by decide)) _).trans z1)), (u2_ap _ _ _ _ _ _).trans ((if_neg (by omega)).trans ((congrFun (g.1 112 (by decide)) _).trans z2)), (u2_ap _ _ _ _ _ _).trans ((if_neg (by omega)).trans ((congrFun (g.1 113 (by decide)) _).trans z3)), u2_at _ _ _ _⟩)
  have e4 : f_M_readNumber 100 (0 : Int32) (99 : Int32) (bh (u2 v3 113 (σ 0 1) r3) w) = some (r4, bh v4 w) := e4
  rw [e4, bd2_s]
  simp only [hN0, bd1_q]
  rw [show (15 : Int32) = nI 15 from rfl, nI_add, wr_nI (by omega) (by decide), bd1_s]
  have D4 := (D3.tr f4.d).w (o := 108) (k := 15 + σ 0 1) (x := r4) (by omega)
  have T4 := hT.fD D4
  clear e4
  generalize hv5 : u2 v4 108 (15 + σ 0 1) r4 = v5 at hX4 D4 T4 ⊢
  generalize sNw K 0 99 (sNw K 0 10 (sNw K 0 3 (sNw K 0 5 ((.inr ((), P)) : Fa ⊕ (Unit × Nat))))) = X4 at hX4 ⊢
  cases X4 with
  | inl f =>
    have F : FL f v5 := hX4
    have e5 : f_M_readOne_61 FU 100 (nI (σ 0 1)) (bh v5 w) = some (bh (u2 v5 100 11 (v5 100 11 + 1)) w) := M_61F F 599 _
    rw [e5]
    exact ⟨_, rfl, D4.u (by decide), F.u (by decide) (by decide)⟩
  | inr y =>
    obtain ⟨b25, bk, bS, z1, z2, z3, z4⟩ := hX4
    obtain ⟨v6, e6, q6, j6, g6, a11, x6⟩ := M_refL (w := w) hl 6 FU 0 (σ 17 0) y.2 v5 (by decide) (by decide) T4 b25 bk bS.1.2.2.1 hI.1.2.2.2.2.2.2.1 (by rw [(bS.2.2.2.2.1 _ hl).1, hR0]) (by decide)
    have D6 : FrD v v6 := D4.tr ⟨fun q hq => q6 q (by omega) (by omega), fun j hj => g6 j (by omega) (by omega) (by omega)⟩
    refine ⟨v6, e6, D6, ?_⟩
    clear e6
    rw [sb_r]
    unfold sOr
    generalize sRef K 6 0 (σ 17 0) y.2 = X at x6 ⊢
    cases X with
    | inl f => exact x6
    | inr x =>
      obtain ⟨c25, ck, c17, c18⟩ := x6
      refine ⟨c25, ck, MS_addO bS h0 hl z1 z2 z3 z4 ?_ c17 c18 (g6 10 (by decide) (by decide) (by decide)) (g6 18 (by decide) (by decide) (by decide)) j6 (fun q h1 h2 => q6 q (by omega) (by omega))⟩
      rw [a11, bS.1.2.1, nI_1]
end
