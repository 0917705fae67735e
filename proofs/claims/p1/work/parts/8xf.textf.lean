section
variable {K : Tp} {σ : Rho} {v v' : Nat → Nat → Int32} {w : Nat → Nat → Int64} {P : Nat}
theorem MS_addW {p m : Nat} (hS : MS σ v) (h0 : σ 0 0 ≤ 5) (h1 : σ 0 1 ≤ 3) (hp : p ≤ 2) (b1 : v' 100 18 = cI (max (σ 17 1) (p + 1))) (b2 : v' 100 17 = cI (max (σ 17 0) (m + 1))) (b3 : v' 108 (21 + p) = nI (σ 11 p ||| 2 ^ m)) (e0 : v' 100 10 = v 100 10) (e1 : v' 100 11 = v 100 11) (e2 : ∀ j, j ≠ 21 + p → v' 108 j = v 108 j) (e3 : ∀ q, 109 ≤ q → q ≤ 113 → v' q = v q) : MS (addW σ p m) v' := by
  obtain ⟨⟨s1, s2, s3, s4, s5⟩, b, c', d, g, k⟩ := hS
  unfold MS addW
  simp [up2_ap]
  rw [e3 109 (by decide) (by decide), e3 110 (by decide) (by decide), e3 111 (by decide) (by decide), e3 112 (by decide) (by decide), e3 113 (by decide) (by decide)]
  refine ⟨⟨e0.trans s1, e1.trans s2, b2, b1, (e2 11 (by omega)).trans s5⟩, fun l hl2 => ?_, fun l h1 h2 => (e2 _ (by omega)).trans (c' l (by omega) h2), fun p hp => ?_, fun j hj => ?_, fun j h1 h2 => (e2 j (by omega)).trans (k j h1 h2)⟩
  · have := b l (by omega)
    exact ⟨(e2 _ (by omega)).trans this.1, this.2.1, this.2.2.1, this.2.2.2.1, (e2 _ (by omega)).trans this.2.2.2.2⟩
  · have := d p (by omega)
    exact ⟨(e2 _ (by omega)).trans this.1, this.2.1, this.2.2.1, (e2 _ (by omega)).trans this.2.2.2⟩
  · have := g j hj
    by_cases z : j = p
    · subst z
      simp
      exact ⟨(e2 _ (by omega)).trans this.1, b3⟩
    · simp [z]
      exact ⟨(e2 _ (by omega)).trans this.1, (e2 _ (by omega)).trans this.2⟩
theorem MS_addH {m : Nat} (hS : MS σ v) (h0 : σ 0 0 ≤ 5) (h1 : σ 0 1 ≤ 3) (b1 : v' 100 18 = v 100 18) (b2 : v' 100 17 = cI (max (σ 17 0) (m + 1))) (b3 : v' 108 11 = nI (σ 0 5 ||| 2 ^ m)) (e0 : v' 100 10 = v 100 10) (e1 : v' 100 11 = v 100 11) (e2 : ∀ j, j ≠ 11 → v' 108 j = v 108 j) (e3 : ∀ q, 109 ≤ q → q ≤ 113 → v' q = v q) : MS (addH σ m) v' := by
  obtain ⟨⟨s1, s2, s3, s4, s5⟩, b, c', d, g, k⟩ := hS
  unfold MS addH
  simp [up2_ap]
  rw [e3 109 (by decide) (by decide), e3 110 (by decide) (by decide), e3 111 (by decide) (by decide), e3 112 (by decide) (by decide), e3 113 (by decide) (by decide)]
  refine ⟨⟨e0.trans s1, e1.trans s2, b2, b1.trans s4, b3⟩, fun l hl2 => ?_, fun l h1 h2 => (e2 _ (by omega)).trans (c' l (by omega) h2), fun p hp => ?_, fun j hj => ?_, fun j h1 h2 => (e2 j (by omega)).trans (k j h1 h2)⟩
  · have := b l (by omega)
    exact ⟨(e2 _ (by omega)).trans this.1, this.2.1, this.2.2.1, this.2.2.2.1, (e2 _ (by omega)).trans this.2.2.2.2⟩
  · have := d p (by omega)
    exact ⟨(e2 _ (by omega)).trans this.1, this.2.1, this.2.2.1, (e2 _ (by omega)).trans this.2.2.2⟩
  · have := g j hj
    exact ⟨(e2 _ (by omega)).trans this.1, (e2 _ (by omega)).trans this.2⟩
def sWr (K : Tp) (σ : Rho) (P : Nat) : Fa ⊕ (Rho × Nat) := sb (sNw K 0 2 ((.inr ((), P)) : Fa ⊕ (Unit × Nat))) fun y => sb (sLx K (σ 11 y.1.2) y.2) fun z => .inr (addW σ y.1.2 z.1, z.2)
def sHr (K : Tp) (σ : Rho) (P : Nat) : Fa ⊕ (Rho × Nat) := sb (sLx K (σ 0 5) P) fun z => .inr (addH σ z.1, z.2)
theorem cI_le3 : ∀ m, m ≤ 2 → ∀ h, h ≤ 3 → (nI m ≤ cI h ↔ m + 1 ≤ h) := by decide +kernel
theorem M_want (hT : MT K v) (hk : MTk K P v) (h25 : v 100 25 = 0) (hS : MS σ v) (hI : SI σ) : ∃ v', f_M_readLineOf 100 2 (bh v w) = some (bh v' w) ∧ FrD v v' ∧ MX (sWr K σ P) (fun z v' => MTk K z.2 v' ∧ MS z.1 v') v' := by
  have h0 := hI.1.1
  have h1 := hI.1.2.1
  have h8 := hI.1.2.2.2.2.2.2.2
  unfold f_M_readLineOf f_M_readLineOf_0 f_M_readLineOf_69 f_M_readLineOf_73 sWr
  rw [if_neg (by decide), if_neg (by decide), if_pos rfl]
  simp only [hN0, bd1_q]
  obtain ⟨r1, v1, e1, f1, ⟨n, hn, rn⟩, x1⟩ := M_rn (w := w) (lo := 0) (hi := 2) (X := ((.inr ((), P)) : Fa ⊕ (Unit × Nat))) (A := fun _ => True) hT ⟨h25, hk, trivial⟩ (by decide) (by decide)
  have e1 : f_M_readNumber 100 (0 : Int32) (2 : Int32) (bh v w) = some (r1, bh v1 w) := e1
  rw [e1, bd2_s]
  simp only [hN0, bd1_q]
  clear e1
  have T1 := hT.fN f1
  have S1 := hS.fN h0 f1
  generalize sNw K 0 2 ((.inr ((), P)) : Fa ⊕ (Unit × Nat)) = X at x1 ⊢
  cases X with
  | inl f =>
    have F : FL f v1 := x1
    have := F.2.2
    rw [F.1, if_neg (nI_ne0 (by omega) (by omega)), rn, show (21 : Int32) = nI 21 from rfl, nI_add, rd_nI (by omega) (by decide), bd1_s]
    have F2 : FL f (u2 v1 100 18 (v1 100 18)) := F.u (by decide) (by decide)
    rw [M_rloF F2, bd2_s]
    simp only [hN0, bd1_q]
    rw [wr_nI (by omega) (by decide), bd1_s]
    exact ⟨_, rfl, (f1.d.u (by decide)).w (by decide), F2.w (by decide)⟩
  | inr y =>
    obtain ⟨b25, bk, -, br, -, hp⟩ := x1
    have dI := hI.2.2.2.1 y.1.2 (by omega)
    have dS := (S1.2.2.2.2.1 y.1.2 (by omega)).2
    rw [b25, if_pos rfl, br, S1.1.2.2.2.1, ite_iff (cI_le3 _ hp _ h8), sb_r, show (21 : Int32) = nI 21 from rfl, nI_add]
    have go : ∀ x : Int32, x = cI (max (σ 17 1) (y.1.2 + 1)) → ∃ v', (bd1 (rd (u2 v1 100 18 x 108) 66 (nI (21 + y.1.2))) fun x42 => bd2 (f_M_readLawOf 100 x42 (bh (u2 v1 100 18 x) w)) fun x48 h46 => bd1 (sI h46 0 108 (nI (21 + y.1.2)) x48) fun h49 => some h49) = some (bh v' w) ∧ FrD v v' ∧ MX (sb (sLx K (σ 11 y.1.2) y.2) fun z => .inr (addW σ y.1.2 z.1, z.2)) (fun z v' => MTk K z.2 v' ∧ MS z.1 v') v' := by
      intro x hx
      rw [rd_nI (by omega) (by decide), bd1_s, u2_o (by decide), dS]
      obtain ⟨r2, v2, e2, q2, j2, x2⟩ := M_rlo (w := w) (v := u2 v1 100 18 x) (R := σ 11 y.1.2) (h := σ 17 0) (T1.fr (u2_n (by decide)) (u2_o (by decide))) (bk.u (by decide)) ((u2_n (by decide)).trans b25) dI.2.1 ((u2_n (by decide)).trans S1.1.2.2.1) hI.1.2.2.2.2.2.2.1
      rw [e2, bd2_s]
      simp only [hN0, bd1_q]
      rw [wr_nI (by omega) (by decide), bd1_s]
      have D2 : FrD v v2 := (f1.d.u (k := 18) (x := x) (by decide)).tr ⟨fun q hq => q2 q (by omega), fun j hj => j2 j (by omega) (by omega)⟩
      refine ⟨_, rfl, D2.w (by decide), ?_⟩
      clear e2
      generalize sLx K (σ 11 y.1.2) y.2 = X2 at x2 ⊢
      cases X2 with
      | inl f => exact FL.w x2 (by decide)
      | inr z =>
        obtain ⟨c25, cr, c17, cm, ck⟩ := x2
        refine ⟨(congrFun (u2_o (by decide)) 25).trans c25, ck.w (by decide), MS_addW S1 h0 h1 hp ?_ ((congrFun (u2_o (by decide)) 17).trans c17) ?_ ?_ ?_ (fun j hj => ?_) (fun q a b => ?_)⟩
        · rw [u2_o (by decide), j2 18 (by decide) (by decide), u2_at, hx]
        · rw [u2_at, cr]
        · rw [u2_o (by decide), j2 10 (by decide) (by decide), u2_n (by decide)]
        · rw [u2_o (by decide), j2 11 (by decide) (by decide), u2_n (by decide)]
        · rw [u2_n hj, q2 108 (by decide), u2_o (by decide)]
        · rw [u2_o (by omega), q2 q (by omega), u2_o (by omega)]
    by_cases g : y.1.2 + 1 ≤ σ 17 1
    · rw [if_pos g]
      exact go _ (by rw [show max (σ 17 1) (y.1.2 + 1) = σ 17 1 by omega])
    · rw [if_neg g]
      exact go _ (by rw [show max (σ 17 1) (y.1.2 + 1) = y.1.2 + 1 by omega]; rfl)
theorem M_watchL (hT : MT K v) (hk : MTk K P v) (h25 : v 100 25 = 0) (hS : MS σ v) (hI : SI σ) : ∃ v', f_M_readLineOf 100 3 (bh v w) = some (bh v' w) ∧ FrD v v' ∧ MX (sHr K σ P) (fun z v' => MTk K z.2 v' ∧ MS z.1 v') v' := by
  have h0 := hI.1.1
  have h1 := hI.1.2.1
  unfold f_M_readLineOf f_M_readLineOf_0 sHr
  rw [if_neg (by decide), if_neg (by decide), if_neg (by decide)]
  simp only [hN0, bd1_q]
  rw [show (11 : Int32) = nI 11 from rfl, rd_nI (by decide) (by decide), bd1_s, hS.1.2.2.2.2]
  obtain ⟨r2, v2, e2, q2, j2, x2⟩ := M_rlo (w := w) (R := σ 0 5) (h := σ 17 0) hT hk h25 hI.1.2.2.2.2.1 hS.1.2.2.1 hI.1.2.2.2.2.2.2.1
  rw [e2, bd2_s]
  simp only [hN0, bd1_q]
  rw [wr_nI (by decide) (by decide), bd1_s]
  have D2 : FrD v v2 := ⟨fun q hq => q2 q (by omega), fun j hj => j2 j (by omega) (by omega)⟩
  refine ⟨_, rfl, D2.w (by decide), ?_⟩
  clear e2
  generalize sLx K (σ 0 5) P = X2 at x2 ⊢
  cases X2 with
  | inl f => exact FL.w x2 (by decide)
  | inr z =>
    obtain ⟨c25, cr, c17, cm, ck⟩ := x2
    refine ⟨(congrFun (u2_o (by decide)) 25).trans c25, ck.w (by decide), MS_addH hS h0 h1 ?_ ((congrFun (u2_o (by decide)) 17).trans c17) ?_ ?_ ?_ (fun j hj => ?_) (fun q a b => ?_)⟩
    · rw [u2_o (by decide), j2 18 (by decide) (by decide)]
    · rw [u2_at, cr]
    · rw [u2_o (by decide), j2 10 (by decide) (by decide)]
    · rw [u2_o (by decide), j2 11 (by decide) (by decide)]
    · rw [u2_n hj, q2 108 (by decide)]
    · rw [u2_o (by omega), q2 q (by omega)]
/-- behind what a line holds -/
theorem M_tail {X : Fa ⊕ (Rho × Nat)} (h0 : ∀ z, X = .inr z → z.1 0 0 ≤ 5) (hT : MT K v) (h : MX X (fun z v => MTk K z.2 v ∧ MS z.1 v) v) : ∃ v', (if v 100 25 = 0 then (if v 100 23 = (3 : Int32) then f_M_readLine_107 100 100 1 (bh v w) else f_M_readLine_107 100 100 0 (bh v w)) else f_M_readLine_111 100 (bh v w)) = some (bh v' w) ∧ FrN v v' ∧ MX (sb X fun z => sb (sFin K z.2 z.1) fun y => sb (tokX K y.2) fun _ => .inr y) (fun y v' => MTk K y.2 v' ∧ MS y.1 v') v' := by
  unfold f_M_readLine_107 f_M_readLine_111
  simp only [hN0, bd1_q]
  cases X with
  | inl f =>
    have F : FL f v := h
    have := F.2.2
    rw [F.1, if_neg (nI_ne0 (by omega) (by omega)), M_nextF F, bd1_s]
    exact ⟨v, rfl, FrN.rf v, F⟩
  | inr z =>
    obtain ⟨b25, bk, bS⟩ := h
    have k4 := (kc_s (K := K) (s := sT K z.2)).2.2.2.2
    have ek : kD K z.2 = kc K (sT K z.2) := rfl
    rw [b25, if_pos rfl, bk.2.2.2.1, show (3 : Int32) = nI 3 from rfl, ite_iff (nI_eqI (by omega) (by omega)), sb_r]
    unfold sFin sStp
    by_cases c : kD K z.2 = 3
    · rw [if_pos c, if_pos c, sb_r, sb_r, M_needs1]
      simp only [hN0, bd1_q]
      obtain ⟨v2, e2, f2, x2⟩ := M_next (w := w) hT b25 bk.2.1 (eN_b bk.1).2.1
      rw [e2, bd1_s]
      refine ⟨v2, rfl, f2, ?_⟩
      clear e2
      generalize tokX K (eN K z.2) = Y at x2 ⊢
      cases Y with
      | inl f => exact x2
      | inr u => exact ⟨x2.1, x2.2, bS.fN (h0 z rfl) f2⟩
    · rw [if_neg c, if_neg c, M_needs0 b25]
      simp only [hN0, bd1_q]
      have F : FL (2, sT K z.2) (u2 (u2 v 100 25 2) 100 26 (v 100 22)) := ⟨by simp [u2_ap]; rfl, by simp [u2_ap]; exact bk.2.2.1, show 1 ≤ 2 by decide, show 2 ≤ 6 by decide⟩
      rw [M_nextF F, bd1_s]
      exact ⟨_, rfl, ((FrN.rf v).u (by decide)).u (by decide), F⟩
end
