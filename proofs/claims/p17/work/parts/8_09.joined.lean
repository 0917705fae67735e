/-! 8xd.textd.lean.txt -/
section
section
variable {K : Tp} {σ : Rho} {v v' : Nat → Nat → Int32} {w : Nat → Nat → Int64} {P : Nat}
theorem MS.put {o k : Nat} {x : Int32} (h : MS σ v) (h0 : σ 0 0 ≤ 5) (hn : ¬ rdS σ o k) : MS σ (u2 v o k x) := h.of h0 (fun q j hr => by rw [u2_ap, if_neg (fun z => hn (by rw [← z.1, ← z.2]; exact hr))])
theorem MS_addL {q c h f m : Nat} (hS : MS σ v) (hl : σ 0 0 < 5) (a1 : v 108 (σ 0 0) = nI q) (a2 : v 109 (σ 0 0) = nI c) (a3 : v 110 (σ 0 0) = nI h) (a4 : v 111 (σ 0 0) = nI f) (b1 : v' 100 10 = nI (σ 0 0 + 1)) (b2 : v' 100 17 = cI (max (σ 17 0) m)) (b3 : v' 108 (5 + σ 0 0) = cI m) (e0 : v' 100 11 = v 100 11) (e1 : v' 100 18 = v 100 18) (e2 : ∀ j, j ≠ 5 + σ 0 0 → v' 108 j = v 108 j) (e3 : ∀ q, 109 ≤ q → q ≤ 113 → v' q = v q) : MS (addL σ q c h f m) v' := by
  obtain ⟨⟨s1, s2, s3, s4, s5⟩, b, c', d, g, k⟩ := hS
  unfold MS addL
  simp [up2_ap]
  rw [e3 109 (by decide) (by decide), e3 110 (by decide) (by decide), e3 111 (by decide) (by decide), e3 112 (by decide) (by decide), e3 113 (by decide) (by decide)]
  refine ⟨⟨b1, e0.trans s2, b2, e1.trans s4, (e2 11 (by omega)).trans s5⟩, fun l hl2 => ?_, fun l h1 h2 => (e2 _ (by omega)).trans (c' l (by omega) h2), fun p hp => ?_, fun p hp => ?_, fun j h1 h2 => (e2 j (by omega)).trans (k j h1 h2)⟩
  · by_cases z : l = σ 0 0
    · subst z
      simp
      exact ⟨(e2 _ (by omega)).trans a1, a2, a3, a4, b3⟩
    · have := b l (by omega)
      simp [z]
      exact ⟨(e2 _ (by omega)).trans this.1, this.2.1, this.2.2.1, this.2.2.2.1, (e2 _ (by omega)).trans this.2.2.2.2⟩
  · have := d p hp
    exact ⟨(e2 _ (by omega)).trans this.1, this.2.1, this.2.2.1, (e2 _ (by omega)).trans this.2.2.2⟩
  · have := g p hp
    exact ⟨(e2 _ (by omega)).trans this.1, (e2 _ (by omega)).trans this.2⟩
theorem MS_addO {t c n u R h : Nat} (hS : MS σ v) (h0 : σ 0 0 ≤ 5) (hl : σ 0 1 < 3) (a1 : v 108 (12 + σ 0 1) = nI t) (a2 : v 112 (σ 0 1) = nI c) (a3 : v 113 (σ 0 1) = nI n) (a4 : v 108 (15 + σ 0 1) = nI u) (b1 : v' 100 11 = nI (σ 0 1 + 1)) (b2 : v' 100 17 = cI h) (b3 : v' 108 (18 + σ 0 1) = nI R) (e0 : v' 100 10 = v 100 10) (e1 : v' 100 18 = v 100 18) (e2 : ∀ j, j ≠ 18 + σ 0 1 → v' 108 j = v 108 j) (e3 : ∀ q, 109 ≤ q → q ≤ 113 → v' q = v q) : MS (addO σ t c n u R h) v' := by
  obtain ⟨⟨s1, s2, s3, s4, s5⟩, b, c', d, g, k⟩ := hS
  unfold MS addO
  simp [up2_ap]
  rw [e3 109 (by decide) (by decide), e3 110 (by decide) (by decide), e3 111 (by decide) (by decide), e3 112 (by decide) (by decide), e3 113 (by decide) (by decide)]
  refine ⟨⟨e0.trans s1, b1, b2, e1.trans s4, (e2 11 (by omega)).trans s5⟩, fun l hl2 => ?_, fun l h1 h2 => (e2 _ (by omega)).trans (c' l (by omega) h2), fun p hp => ?_, fun p hp => ?_, fun j h1 h2 => (e2 j (by omega)).trans (k j h1 h2)⟩
  · have := b l (by omega)
    exact ⟨(e2 _ (by omega)).trans this.1, this.2.1, this.2.2.1, this.2.2.2.1, (e2 _ (by omega)).trans this.2.2.2.2⟩
  · by_cases z : p = σ 0 1
    · subst z
      simp
      exact ⟨(e2 _ (by omega)).trans a1, a2, a3, (e2 _ (by omega)).trans a4⟩
    · have := d p (by omega)
      simp [z]
      exact ⟨(e2 _ (by omega)).trans this.1, this.2.1, this.2.2.1, (e2 _ (by omega)).trans this.2.2.2⟩
  · have := g p hp
    by_cases z : p = σ 0 1
    · subst z
      simp
      exact ⟨b3, (e2 _ (by omega)).trans this.2⟩
    · simp [z]
      exact ⟨(e2 _ (by omega)).trans this.1, (e2 _ (by omega)).trans this.2⟩
theorem pw_inj : ∀ a, a < 5 → ∀ b, b < 5 → nI (2 ^ a) = nI (2 ^ b) → a = b := by decide +kernel
theorem M_car {l : Nat} (hl : l < 5) (b2 : Int32) : ∀ (n fuel m : Nat) (v : Nat → Nat → Int32), n < fuel → m + n = 5 → ∃ v', f_M_readLaw_89 fuel 100 (nI l) b2 (nI m) (bh v w) = some (bh v' w) ∧ (∀ q, q ≠ 100 → q ≠ 108 → v' q = v q) ∧ (∀ j, j ≠ 10 → v' 100 j = v 100 j) ∧ v' 100 10 = v 100 10 + 1 ∧ (∀ j, j ≠ 5 + l → v' 108 j = v 108 j) ∧ (∀ k, m ≤ k → k < 5 → b2 = nI (2 ^ k) → v' 108 (5 + l) = nI k) ∧ ((∀ k, m ≤ k → k < 5 → b2 ≠ nI (2 ^ k)) → v' 108 (5 + l) = v 108 (5 + l)) := by
  intro n
  induction n with
  | zero =>
    intro fuel m v hf hm
    obtain ⟨n', rfl⟩ : ∃ n', fuel = n' + 1 := ⟨fuel - 1, by omega⟩
    show ∃ v', f_M_readLaw_89b (f_M_readLaw_89 n') 100 (nI l) b2 (nI m) (bh v w) = _ ∧ _
    unfold f_M_readLaw_89b f_M_readLaw_127
    rw [show (5 : Int32) = nI 5 from rfl, if_pos ((nI_leI (by omega) (by omega)).mpr (by omega))]
    simp only [hN0, bd1_q]
    exact ⟨_, rfl, fun q h1 h2 => u2_o h1, fun j hj => u2_n hj, u2_at _ _ _ _, fun j hj => congrFun (u2_o (by decide)) j, fun k h1 h2 => by omega, fun _ => congrFun (u2_o (by decide)) _⟩
  | succ n ih =>
    intro fuel m v hf hm
    obtain ⟨n', rfl⟩ : ∃ n', fuel = n' + 1 := ⟨fuel - 1, by omega⟩
    have go : ∀ x : Int32, (b2 = nI (2 ^ m) → x = nI m) → (b2 ≠ nI (2 ^ m) → x = v 108 (5 + l)) → ∃ v', f_M_readLaw_89 n' 100 (nI l) b2 (nI (m + 1)) (bh (u2 v 108 (5 + l) x) w) = some (bh v' w) ∧ (∀ q, q ≠ 100 → q ≠ 108 → v' q = v q) ∧ (∀ j, j ≠ 10 → v' 100 j = v 100 j) ∧ v' 100 10 = v 100 10 + 1 ∧ (∀ j, j ≠ 5 + l → v' 108 j = v 108 j) ∧ (∀ k, m ≤ k → k < 5 → b2 = nI (2 ^ k) → v' 108 (5 + l) = nI k) ∧ ((∀ k, m ≤ k → k < 5 → b2 ≠ nI (2 ^ k)) → v' 108 (5 + l) = v 108 (5 + l)) := by
      intro x hx1 hx2
      obtain ⟨v', e1, e2, e3, e4, e5, e6, e7⟩ := ih n' (m + 1) (u2 v 108 (5 + l) x) (by omega) (by omega)
      refine ⟨v', e1, fun q h1 h2 => (e2 q h1 h2).trans (u2_o h2), fun j hj => (e3 j hj).trans (congrFun (u2_o (by decide)) j), e4.trans (by rw [u2_o (by decide)]), fun j hj => (e5 j hj).trans (u2_n hj), fun k h1 h2 h3 => ?_, fun h => ?_⟩
      · by_cases z : k = m
        · subst z
          rw [e7 (fun k' q1 q2 q3 => by have := pw_inj k (by omega) k' q2 (h3.symm.trans q3); omega), u2_at]
          exact hx1 h3
        · exact e6 k (by omega) h2 h3
      · rw [e7 (fun k' q1 q2 => h k' (by omega) q2), u2_at]
        exact hx2 (h m (Nat.le_refl _) (by omega))
    show ∃ v', f_M_readLaw_89b (f_M_readLaw_89 n') 100 (nI l) b2 (nI m) (bh v w) = _ ∧ _
    unfold f_M_readLaw_89b f_M_readLaw_120
    rw [show (5 : Int32) = nI 5 from rfl, if_neg (fun z => by have := (nI_leI (by omega) (by omega)).mp z; omega)]
    simp only [hN0, bd1_q]
    rw [shl_I (by omega), nI_add, nI_1]
    by_cases c : b2 = nI (2 ^ m)
    · rw [if_pos c, wr_nI (by omega) (by decide), bd1_s]
      exact go _ (fun _ => rfl) (fun z => absurd c z)
    · rw [if_neg c, rd_nI (by omega) (by decide), bd1_s, wr_nI (by omega) (by decide), bd1_s]
      exact go _ (fun z => absurd z c) (fun _ => rfl)
abbrev Y4 : Type := (((Unit × Nat) × Nat) × Nat) × Nat
def sCr (K : Tp) (σ : Rho) (y : Y4 × Nat) : Fa ⊕ (Rho × Nat) := if kD K y.2 = 2 then sb (chkB K 0 4 y.2) fun m => if m = σ 0 0 then .inl (4, sT K y.2) else sb (tokX K (eN K y.2)) fun _ => .inr (addL σ y.1.1.1.1.2 y.1.1.1.2 y.1.1.2 y.1.2 (m + 1), eN K y.2) else .inr (addL σ y.1.1.1.1.2 y.1.1.1.2 y.1.1.2 y.1.2 0, y.2)
theorem bit_pw : ∀ l, l < 5 → ∀ m, m ≤ 4 → (bit (2 ^ l) m = 1 ↔ m = l) := by decide +kernel
theorem car_I : ∀ l, l < 5 → ∀ m, m ≤ 4 → m ≠ l → nI (2 ^ l ||| 2 ^ m) &&& (nI (2 ^ l) ^^^ ((-1) : Int32)) = nI (2 ^ m) := by decide +kernel
theorem pw5 : ∀ l, l < 5 → 2 ^ l < 32 := by decide
theorem M_readLaw (hT : MT K v) (hk : MTk K P v) (h25 : v 100 25 = 0) (hS : MS σ v) (hI : SI σ) (hl : σ 0 0 < 5) : ∃ v', f_M_readLaw 100 (bh v w) = some (bh v' w) ∧ FrD v v' ∧ MX (sb (sNw K 0 9 (sNw K 0 9 (sNw K 1 3 (sNw K 0 9 (.inr ((), P)))))) fun y => sCr K σ y) (fun z v' => MTk K z.2 v' ∧ MS z.1 v') v' := by
  have h0 : σ 0 0 ≤ 5 := by omega
  unfold f_M_readLaw f_M_readLaw_0
  simp only [hN0, bd1_q]
  rw [hS.1.1]
  have hX0 : MX ((.inr ((), P)) : Fa ⊕ (Unit × Nat)) (fun y v => MTk K y.2 v ∧ MS σ v) v := ⟨h25, hk, hS⟩
  have T0 := hT
  have D0 := FrD.rf v
  obtain ⟨r1, v1, e1, f1, hX1⟩ := M_nw (α := Unit) (w := w) (lo := 0) (hi := 9) (A := fun a v => MS σ v) (B := fun a v => MS σ v ∧ v 108 (σ 0 0) = nI a.2) 108 (σ 0 0) T0 hX0 (by decide) (by decide) (by decide) (fun a n v' g hs => by
    have s : MS σ v := hs
    exact ⟨(s.fN h0 g).put h0 (by unfold rdS; omega), u2_at _ _ _ _⟩)
  have e1 : f_M_readNumber 100 (0 : Int32) (9 : Int32) (bh (v) w) = some (r1, bh v1 w) := e1
  rw [e1, bd2_s]
  simp only [hN0, bd1_q]
  rw [show (0 : Int32) + nI (σ 0 0) = nI (σ 0 0) from Int32.zero_add _, wr_nI (by omega) (by decide), bd1_s]
  have D1 := (D0.tr f1.d).w (o := 108) (k := σ 0 0) (x := r1) (by omega)
  have T1 := hT.fD D1
  clear e1
  simp only [hN0, bd1_q]
  obtain ⟨r2, v2, e2, f2, hX2⟩ := M_nw (α := Unit × Nat) (w := w) (lo := 1) (hi := 3) (A := fun a v => MS σ v ∧ v 108 (σ 0 0) = nI a.2) (B := fun a v => MS σ v ∧ v 108 (σ 0 0) = nI a.1.2 ∧ v 109 (σ 0 0) = nI a.2) 109 (σ 0 0) T1 hX1 (by decide) (by decide) (by decide) (fun a n v' g hs => by
    obtain ⟨s, z1⟩ := hs
    exact ⟨(s.fN h0 g).put h0 (by unfold rdS; omega), (u2_ap _ _ _ _ _ _).trans ((if_neg (by omega)).trans ((congrFun (g.1 108 (by decide)) _).trans z1)), u2_at _ _ _ _⟩)
  have e2 : f_M_readNumber 100 (1 : Int32) (3 : Int32) (bh (u2 v1 108 (σ 0 0) r1) w) = some (r2, bh v2 w) := e2
  rw [e2, bd2_s]
  simp only [hN0, bd1_q]
  rw [wr_nI (by omega) (by decide), bd1_s]
  have D2 := (D1.tr f2.d).w (o := 109) (k := σ 0 0) (x := r2) (by omega)
  have T2 := hT.fD D2
  clear e2
  simp only [hN0, bd1_q]
  obtain ⟨r3, v3, e3, f3, hX3⟩ := M_nw (α := (Unit × Nat) × Nat) (w := w) (lo := 0) (hi := 9) (A := fun a v => MS σ v ∧ v 108 (σ 0 0) = nI a.1.2 ∧ v 109 (σ 0 0) = nI a.2) (B := fun a v => MS σ v ∧ v 108 (σ 0 0) = nI a.1.1.2 ∧ v 109 (σ 0 0) = nI a.1.2 ∧ v 110 (σ 0 0) = nI a.2) 110 (σ 0 0) T2 hX2 (by decide) (by decide) (by decide) (fun a n v' g hs => by
    obtain ⟨s, z1, z2⟩ := hs
    exact ⟨(s.fN h0 g).put h0 (by unfold rdS; omega), (u2_ap _ _ _ _ _ _).trans ((if_neg (by omega)).trans ((congrFun (g.1 108 (by decide)) _).trans z1)), (u2_ap _ _ _ _ _ _).trans ((if_neg (by omega)).trans ((congrFun (g.1 109 (by decide)) _).trans z2)), u2_at _ _ _ _⟩)
  have e3 : f_M_readNumber 100 (0 : Int32) (9 : Int32) (bh (u2 v2 109 (σ 0 0) r2) w) = some (r3, bh v3 w) := e3
  rw [e3, bd2_s]
  simp only [hN0, bd1_q]
  rw [wr_nI (by omega) (by decide), bd1_s]
  have D3 := (D2.tr f3.d).w (o := 110) (k := σ 0 0) (x := r3) (by omega)
  have T3 := hT.fD D3
  clear e3
  simp only [hN0, bd1_q]
  obtain ⟨r4, v4, e4, f4, hX4⟩ := M_nw (α := ((Unit × Nat) × Nat) × Nat) (w := w) (lo := 0) (hi := 9) (A := fun a v => MS σ v ∧ v 108 (σ 0 0) = nI a.1.1.2 ∧ v 109 (σ 0 0) = nI a.1.2 ∧ v 110 (σ 0 0) = nI a.2) (B := fun a v => MS σ v ∧ v 108 (σ 0 0) = nI a.1.1.1.2 ∧ v 109 (σ 0 0) = nI a.1.1.2 ∧ v 110 (σ 0 0) = nI a.1.2 ∧ v 111 (σ 0 0) = nI a.2) 111 (σ 0 0) T3 hX3 (by decide) (by decide) (by decide) (fun a n v' g hs => by
    obtain ⟨s, z1, z2, z3⟩ := hs
    exact ⟨(s.fN h0 g).put h0 (by unfold rdS; omega), (u2_ap _ _ _ _ _ _).trans ((if_neg (by omega)).trans ((congrFun (g.1 108 (by decide)) _).trans z1)), (u2_ap _ _ _ _ _ _).trans ((if_neg (by omega)).trans ((congrFun (g.1 109 (by decide)) _).trans z2)), (u2_ap _ _ _ _ _ _).trans ((if_neg (by omega)).trans ((congrFun (g.1 110 (by decide)) _).trans z3)), u2_at _ _ _ _⟩)
  have e4 : f_M_readNumber 100 (0 : Int32) (9 : Int32) (bh (u2 v3 110 (σ 0 0) r3) w) = some (r4, bh v4 w) := e4
  rw [e4, bd2_s]
  simp only [hN0, bd1_q]
  rw [wr_nI (by omega) (by decide), bd1_s]
  have D4 := (D3.tr f4.d).w (o := 111) (k := σ 0 0) (x := r4) (by omega)
  have T4 := hT.fD D4
  clear e4
  simp only [hN0, bd1_q]
  generalize hv5 : u2 v4 111 (σ 0 0) r4 = v5 at hX4 D4 T4 ⊢
  generalize sNw K 0 9 (sNw K 0 9 (sNw K 1 3 (sNw K 0 9 ((.inr ((), P)) : Fa ⊕ (Unit × Nat))))) = X4 at hX4 ⊢
  cases X4 with
  | inl f =>
    have F : FL f v5 := hX4
    have := F.2.2
    rw [F.1, if_neg (nI_ne0 (by omega) (by omega))]
    unfold f_M_readLaw_127
    simp only [hN0, bd1_q]
    exact ⟨_, rfl, D4.u (by decide), F.u (by decide) (by decide)⟩
  | inr y =>
    obtain ⟨b25, bk, bS, z1, z2, z3, z4⟩ := hX4
    have k4 := (kc_s (K := K) (s := sT K y.2)).2.2.2.2
    have ek : kD K y.2 = kc K (sT K y.2) := rfl
    rw [b25, if_pos rfl, bk.2.2.2.1, show (2 : Int32) = nI 2 from rfl, ite_iff (nI_eqI (by omega) (by omega)), sb_r]
    unfold sCr
    by_cases c : kD K y.2 = 2
    · rw [if_pos c, if_pos c, shl_I (by omega)]
      obtain ⟨r6, v6, e6, q6, j6, x6⟩ := M_rlo (w := w) (R := 2 ^ σ 0 0) T4 bk b25 (pw5 _ hl) bS.1.2.2.1 hI.1.2.2.2.2.2.2.1
      rw [e6, bd2_s]
      obtain ⟨v7, e7, q7, j7, a10, j8, m7, -⟩ := M_car (w := w) hl (r6 &&& (nI (2 ^ σ 0 0) ^^^ ((-1) : Int32))) 5 FU 0 v6 (by decide) (by decide)
      have e7 : f_M_readLaw_89 FU 100 (nI (σ 0 0)) (r6 &&& (nI (2 ^ σ 0 0) ^^^ ((-1) : Int32))) (0 : Int32) (bh v6 w) = some (bh v7 w) := e7
      rw [e7]
      have D7 : FrD v v7 := D4.tr ⟨fun q hq => (q7 q (by omega) (by omega)).trans (q6 q (by omega)), fun j hj => (j7 j (by omega)).trans (j6 j (by omega) (by omega))⟩
      refine ⟨v7, rfl, D7, ?_⟩
      clear e6 e7
      unfold sLx chk at x6
      rw [if_pos c] at x6
      cases hc : chkB K 0 4 y.2 with
      | inl f =>
        rw [hc] at x6
        exact ⟨(j7 25 (by decide)).trans x6.1, (j7 26 (by decide)).trans x6.2.1, x6.2.2⟩
      | inr m =>
        rw [hc, sb_r] at x6
        have hm := (chkB_inr hc).2
        rw [sb_r]
        by_cases g : m = σ 0 0
        · rw [if_pos ((bit_pw _ hl m hm).mpr g)] at x6
          rw [if_pos g]
          exact ⟨(j7 25 (by decide)).trans x6.1, (j7 26 (by decide)).trans x6.2.1, x6.2.2⟩
        · rw [if_neg (fun z => g ((bit_pw _ hl m hm).mp z))] at x6
          rw [if_neg g]
          cases hx : tokX K (eN K y.2) with
          | inl f =>
            rw [hx] at x6
            exact ⟨(j7 25 (by decide)).trans x6.1, (j7 26 (by decide)).trans x6.2.1, x6.2.2⟩
          | inr u =>
            rw [hx] at x6
            obtain ⟨c25, cr, c17, -, ck⟩ := x6
            refine ⟨(j7 25 (by decide)).trans c25, ck.of (fun j hj => j7 j (by omega)), ?_⟩
            refine MS_addL bS hl z1 z2 z3 z4 ?_ ((j7 17 (by decide)).trans c17) ?_ ((j7 11 (by decide)).trans (j6 11 (by decide) (by decide))) ((j7 18 (by decide)).trans (j6 18 (by decide) (by decide))) (fun j hj => (j8 j hj).trans (congrFun (q6 108 (by decide)) j)) (fun q h1 h2 => (q7 q (by omega) (by omega)).trans (q6 q (by omega)))
            · rw [a10, j6 10 (by decide) (by decide), bS.1.1, nI_1]
            · exact m7 m (Nat.zero_le _) (by omega) (by rw [cr]; exact car_I _ hl m hm g)
    · rw [if_neg c, if_neg c]
      unfold f_M_readLaw_127
      simp only [hN0, bd1_q]
      refine ⟨_, rfl, D4.u (by decide), (u2_n (by decide)).trans b25, bk.u (by decide), ?_⟩
      refine MS_addL bS hl z1 z2 z3 z4 ?_ ?_ ?_ (u2_n (by decide)) (u2_n (by decide)) (fun j _ => congrFun (u2_o (by decide)) j) (fun q h1 h2 => u2_o (by omega))
      · rw [u2_at, bS.1.1, nI_1]
      · rw [u2_n (by decide), bS.1.2.2.1, show max (σ 17 0) 0 = σ 17 0 by omega]
      · rw [u2_o (by decide)]; exact bS.2.2.1 _ (Nat.le_refl _) hl
end
end
/-! 8xe.texte.lean.txt -/
section
section
variable {K : Tp} {σ : Rho} {v v' : Nat → Nat → Int32} {w : Nat → Nat → Int64} {P : Nat}
theorem M_61F {f : Fa} (hF : FL f v) (m : Nat) (b : Int32) : f_M_readOne_61 (m + 1) 100 b (bh v w) = some (bh (u2 v 100 11 (v 100 11 + 1)) w) := by
  have := hF.2.2
  show f_M_readOne_61b (f_M_readOne_61 m) 100 b (bh v w) = _
  unfold f_M_readOne_61b f_M_readOne_101
  simp only [hN0, bd1_q]
  rw [hF.1, if_neg (nI_ne0 (by omega) (by omega))]
theorem M_refL {p : Nat} (hp : p < 3) : ∀ (n fuel R h Q : Nat) (v : Nat → Nat → Int32), mu5 R < n → n + 1 < fuel → MT K v → v 100 25 = 0 → MTk K Q v → v 100 17 = cI h → h ≤ 5 → v 108 (18 + p) = nI R → R < 32 → ∃ v', f_M_readOne_61 fuel 100 (nI p) (bh v w) = some (bh v' w) ∧ (∀ q, q ≠ 100 → q ≠ 108 → v' q = v q) ∧ (∀ j, j ≠ 18 + p → v' 108 j = v 108 j) ∧ (∀ j, j ≠ 17 → j ≠ 11 → j < 21 ∨ 26 < j → v' 100 j = v 100 j) ∧ v' 100 11 = v 100 11 + 1 ∧ MX (sRef K n R h Q) (fun y v' => MTk K y.2 v' ∧ v' 100 17 = cI y.1.2 ∧ v' 108 (18 + p) = nI y.1.1) v' := by
  intro n
  induction n with
  | zero =>
    intro fuel R h Q v hm
    exact absurd hm (Nat.not_lt_zero _)
  | succ n ih =>
    intro fuel R h Q v hm hf hT h25 hk h17 hh h18 hR
    obtain ⟨m, rfl⟩ : ∃ m, fuel = m + 1 + 1 := ⟨fuel - 2, by omega⟩
    have k4 := (kc_s (K := K) (s := sT K Q)).2.2.2.2
    have ek : kD K Q = kc K (sT K Q) := rfl
    show ∃ v', f_M_readOne_61b (f_M_readOne_61 (m + 1)) 100 (nI p) (bh v w) = _ ∧ _
    unfold f_M_readOne_61b f_M_readOne_101 sRef
    simp only [hN0, bd1_q]
    rw [h25, if_pos rfl, hk.2.2.2.1, show (2 : Int32) = nI 2 from rfl, ite_iff (nI_eqI (by omega) (by omega))]
    by_cases c : kD K Q = 2
    · rw [if_pos c, if_pos c, show (18 : Int32) = nI 18 from rfl, nI_add, rd_nI (by omega) (by decide), bd1_s, h18]
      obtain ⟨r1, v1, e1, q1, j1, x1⟩ := M_rlo (w := w) hT hk h25 hR h17 hh
      rw [e1, bd2_s]
      simp only [hN0, bd1_q]
      rw [wr_nI (by omega) (by decide), bd1_s]
      clear e1
      unfold sLx chk at x1
      rw [if_pos c] at x1
      have fq : ∀ q, q ≠ 100 → q ≠ 108 → u2 v1 108 (18 + p) r1 q = v q := fun q a b => (u2_o b).trans (q1 q a)
      have fj : ∀ j, j ≠ 18 + p → u2 v1 108 (18 + p) r1 108 j = v 108 j := fun j a => (u2_n a).trans (congrFun (q1 108 (by decide)) j)
      have fh : ∀ j, j ≠ 17 → j < 21 ∨ 26 < j → u2 v1 108 (18 + p) r1 100 j = v 100 j := fun j a b => (congrFun (u2_o (by decide)) j).trans (j1 j a b)
      have bad : ∀ f : Fa, FL f v1 → ∃ v', f_M_readOne_61 (m + 1) 100 (nI p) (bh (u2 v1 108 (18 + p) r1) w) = some (bh v' w) ∧ (∀ q, q ≠ 100 → q ≠ 108 → v' q = v q) ∧ (∀ j, j ≠ 18 + p → v' 108 j = v 108 j) ∧ (∀ j, j ≠ 17 → j ≠ 11 → j < 21 ∨ 26 < j → v' 100 j = v 100 j) ∧ v' 100 11 = v 100 11 + 1 ∧ FL f v' := by
        intro f hF
        have F2 : FL f (u2 v1 108 (18 + p) r1) := hF.w (by decide)
        rw [M_61F F2]
        exact ⟨_, rfl, fun q a b => (u2_o a).trans (fq q a b), fun j a => (congrFun (u2_o (by decide)) j).trans (fj j a), fun j a b c => (u2_n b).trans (fh j a c), by rw [u2_at, fh 11 (by decide) (by decide)], F2.u (by decide) (by decide)⟩
      cases hc : chkB K 0 4 Q with
      | inl f =>
        rw [hc] at x1
        exact bad f x1
      | inr x =>
        rw [hc, sb_r] at x1
        have hx := (chkB_inr hc).2
        rw [sb_r]
        rcases bit_01 R x with b | b
        · rw [if_neg (by omega)] at x1
          rw [if_neg (by omega)]
          cases ht : tokX K (eN K Q) with
          | inl f =>
            rw [ht] at x1
            exact bad f x1
          | inr u =>
            rw [ht] at x1
            obtain ⟨c25, cr, c17, -, ck⟩ := x1
            obtain ⟨s1, s2⟩ := mu5_step R hR x (by omega) b
            obtain ⟨v2, e2, q2, j2, g2, a11, x2⟩ := ih (m + 1) (R ||| 2 ^ x) (max h (x + 1)) (eN K Q) (u2 v1 108 (18 + p) r1) (by omega) (by omega) (hT.fr (fh 20 (by decide) (by decide)) (fq 114 (by decide) (by decide))) ((congrFun (u2_o (by decide)) 25).trans c25) (ck.w (by decide)) ((congrFun (u2_o (by decide)) 17).trans c17) (by omega) (by rw [u2_at, cr]) s1
            exact ⟨v2, e2, fun q a b => (q2 q a b).trans (fq q a b), fun j a => (j2 j a).trans (fj j a), fun j a b c => (g2 j a b c).trans (fh j a c), a11.trans (by rw [fh 11 (by decide) (by decide)]), x2⟩
        · rw [if_pos b] at x1
          rw [if_pos b]
          exact bad _ x1
    · rw [if_neg c, if_neg c]
      exact ⟨_, rfl, fun q a b => u2_o a, fun j a => congrFun (u2_o (by decide)) j, fun j a b c => u2_n b, u2_at _ _ _ _, (u2_n (by decide)).trans h25, hk.u (by decide), (u2_n (by decide)).trans h17, (congrFun (u2_o (by decide)) _).trans h18⟩
def sOr (K : Tp) (σ : Rho) (y : Y4 × Nat) : Fa ⊕ (Rho × Nat) := sb (sRef K 6 0 (σ 17 0) y.2) fun x => .inr (addO σ y.1.1.1.1.2 y.1.1.1.2 y.1.1.2 y.1.2 x.1.1 x.1.2, x.2)
theorem M_readOne (hT : MT K v) (hk : MTk K P v) (h25 : v 100 25 = 0) (hS : MS σ v) (hI : SI σ) (hl : σ 0 1 < 3) : ∃ v', f_M_readOne 100 (bh v w) = some (bh v' w) ∧ FrD v v' ∧ MX (sb (sNw K 0 99 (sNw K 0 10 (sNw K 0 3 (sNw K 0 5 (.inr ((), P)))))) fun y => sOr K σ y) (fun z v' => MTk K z.2 v' ∧ MS z.1 v') v' := by
  have h0 : σ 0 0 ≤ 5 := hI.1.1
  have hR0 : σ 10 (σ 0 1) = 0 := (hI.2.2.2.1 _ hl).2.2 (Nat.le_refl _)
  unfold f_M_readOne f_M_readOne_0
  simp only [hN0, bd1_q]
  rw [hS.1.2.1]
  have hX0 : MX ((.inr ((), P)) : Fa ⊕ (Unit × Nat)) (fun y v => MTk K y.2 v ∧ MS σ v) v := ⟨h25, hk, hS⟩
  have T0 := hT
  have D0 := FrD.rf v
  obtain ⟨r1, v1, e1, f1, hX1⟩ := M_nw (α := Unit) (w := w) (lo := 0) (hi := 5) (A := fun a v => MS σ v) (B := fun a v => MS σ v ∧ v 108 (12 + σ 0 1) = nI a.2) 108 (12 + σ 0 1) T0 hX0 (by decide) (by decide) (by decide) (fun a n v' g hs => by
    have s : MS σ v := hs
    exact ⟨(s.fN h0 g).put h0 (by unfold rdS; omega), u2_at _ _ _ _⟩)
  have e1 : f_M_readNumber 100 (0 : Int32) (5 : Int32) (bh (v) w) = some (r1, bh v1 w) := e1
  rw [e1, bd2_s]
  simp only [hN0, bd1_q]
  rw [show (12 : Int32) = nI 12 from rfl, nI_add, wr_nI (by omega) (by decide), bd1_s]
  have D1 := (D0.tr f1.d).w (o := 108) (k := 12 + σ 0 1) (x := r1) (by omega)
  have T1 := hT.fD D1
  clear e1
  simp only [hN0, bd1_q]
  obtain ⟨r2, v2, e2, f2, hX2⟩ := M_nw (α := Unit × Nat) (w := w) (lo := 0) (hi := 3) (A := fun a v => MS σ v ∧ v 108 (12 + σ 0 1) = nI a.2) (B := fun a v => MS σ v ∧ v 108 (12 + σ 0 1) = nI a.1.2 ∧ v 112 (σ 0 1) = nI a.2) 112 (σ 0 1) T1 hX1 (by decide) (by decide) (by decide) (fun a n v' g hs => by
    obtain ⟨s, z1⟩ := hs
    exact ⟨(s.fN h0 g).put h0 (by unfold rdS; omega), (u2_ap _ _ _ _ _ _).trans ((if_neg (by omega)).trans ((congrFun (g.1 108 (by decide)) _).trans z1)), u2_at _ _ _ _⟩)
  have e2 : f_M_readNumber 100 (0 : Int32) (3 : Int32) (bh (u2 v1 108 (12 + σ 0 1) r1) w) = some (r2, bh v2 w) := e2
  rw [e2, bd2_s]
  simp only [hN0, bd1_q]
  rw [wr_nI (by omega) (by decide), bd1_s]
  have D2 := (D1.tr f2.d).w (o := 112) (k := σ 0 1) (x := r2) (by omega)
  have T2 := hT.fD D2
  clear e2
  simp only [hN0, bd1_q]
  obtain ⟨r3, v3, e3, f3, hX3⟩ := M_nw (α := (Unit × Nat) × Nat) (w := w) (lo := 0) (hi := 10) (A := fun a v => MS σ v ∧ v 108 (12 + σ 0 1) = nI a.1.2 ∧ v 112 (σ 0 1) = nI a.2) (B := fun a v => MS σ v ∧ v 108 (12 + σ 0 1) = nI a.1.1.2 ∧ v 112 (σ 0 1) = nI a.1.2 ∧ v 113 (σ 0 1) = nI a.2) 113 (σ 0 1) T2 hX2 (by decide) (by decide) (by decide) (fun a n v' g hs => by
    obtain ⟨s, z1, z2⟩ := hs
    exact ⟨(s.fN h0 g).put h0 (by unfold rdS; omega), (u2_ap _ _ _ _ _ _).trans ((if_neg (by omega)).trans ((congrFun (g.1 108 (by decide)) _).trans z1)), (u2_ap _ _ _ _ _ _).trans ((if_neg (by omega)).trans ((congrFun (g.1 112 (by decide)) _).trans z2)), u2_at _ _ _ _⟩)
  have e3 : f_M_readNumber 100 (0 : Int32) (10 : Int32) (bh (u2 v2 112 (σ 0 1) r2) w) = some (r3, bh v3 w) := e3
  rw [e3, bd2_s]
  simp only [hN0, bd1_q]
  rw [wr_nI (by omega) (by decide), bd1_s]
  have D3 := (D2.tr f3.d).w (o := 113) (k := σ 0 1) (x := r3) (by omega)
  have T3 := hT.fD D3
  clear e3
  simp only [hN0, bd1_q]
  obtain ⟨r4, v4, e4, f4, hX4⟩ := M_nw (α := ((Unit × Nat) × Nat) × Nat) (w := w) (lo := 0) (hi := 99) (A := fun a v => MS σ v ∧ v 108 (12 + σ 0 1) = nI a.1.1.2 ∧ v 112 (σ 0 1) = nI a.1.2 ∧ v 113 (σ 0 1) = nI a.2) (B := fun a v => MS σ v ∧ v 108 (12 + σ 0 1) = nI a.1.1.1.2 ∧ v 112 (σ 0 1) = nI a.1.1.2 ∧ v 113 (σ 0 1) = nI a.1.2 ∧ v 108 (15 + σ 0 1) = nI a.2) 108 (15 + σ 0 1) T3 hX3 (by decide) (by decide) (by decide) (fun a n v' g hs => by
    obtain ⟨s, z1, z2, z3⟩ := hs
    exact ⟨(s.fN h0 g).put h0 (by unfold rdS; omega), (u2_ap _ _ _ _ _ _).trans ((if_neg (by omega)).trans ((congrFun (g.1 108 (by decide)) _).trans z1)), (u2_ap _ _ _ _ _ _).trans ((if_neg (by omega)).trans ((congrFun (g.1 112 (by decide)) _).trans z2)), (u2_ap _ _ _ _ _ _).trans ((if_neg (by omega)).trans ((congrFun (g.1 113 (by decide)) _).trans z3)), u2_at _ _ _ _⟩)
  have e4 : f_M_readNumber 100 (0 : Int32) (99 : Int32) (bh (u2 v3 113 (σ 0 1) r3) w) = some (r4, bh v4 w) := e4
  rw [e4, bd2_s]
  simp only [hN0, bd1_q]
  rw [show (15 : Int32) = nI 15 from rfl, nI_add, wr_nI (by omega) (by decide), bd1_s]
  have D4 := (D3.tr f4.d).w (o := 108) (k := 15 + σ 0 1) (x := r4) (by omega)
  have T4 := hT.fD D4
  clear e4
  generalize hv5 : u2 v4 108 (15 + σ 0 1) r4 = v5 at hX4 D4 T4 ⊢
  generalize sNw K 0 99 (sNw K 0 10 (sNw K 0 3 (sNw K 0 5 ((.inr ((), P)) : Fa ⊕ (Unit × Nat))))) = X4 at hX4 ⊢
  cases X4 with
  | inl f =>
    have F : FL f v5 := hX4
    have e5 : f_M_readOne_61 FU 100 (nI (σ 0 1)) (bh v5 w) = some (bh (u2 v5 100 11 (v5 100 11 + 1)) w) := M_61F F 599 _
    rw [e5]
    exact ⟨_, rfl, D4.u (by decide), F.u (by decide) (by decide)⟩
  | inr y =>
    obtain ⟨b25, bk, bS, z1, z2, z3, z4⟩ := hX4
    obtain ⟨v6, e6, q6, j6, g6, a11, x6⟩ := M_refL (w := w) hl 6 FU 0 (σ 17 0) y.2 v5 (by decide) (by decide) T4 b25 bk bS.1.2.2.1 hI.1.2.2.2.2.2.2.1 (by rw [(bS.2.2.2.2.1 _ hl).1, hR0]) (by decide)
    have D6 : FrD v v6 := D4.tr ⟨fun q hq => q6 q (by omega) (by omega), fun j hj => g6 j (by omega) (by omega) (by omega)⟩
    refine ⟨v6, e6, D6, ?_⟩
    clear e6
    rw [sb_r]
    unfold sOr
    generalize sRef K 6 0 (σ 17 0) y.2 = X at x6 ⊢
    cases X with
    | inl f => exact x6
    | inr x =>
      obtain ⟨c25, ck, c17, c18⟩ := x6
      refine ⟨c25, ck, MS_addO bS h0 hl z1 z2 z3 z4 ?_ c17 c18 (g6 10 (by decide) (by decide) (by decide)) (g6 18 (by decide) (by decide) (by decide)) j6 (fun q h1 h2 => q6 q (by omega) (by omega))⟩
      rw [a11, bS.1.2.1, nI_1]
end
end
/-! 8xf.textf.lean.txt -/
section
section
variable {K : Tp} {σ : Rho} {v v' : Nat → Nat → Int32} {w : Nat → Nat → Int64} {P : Nat}
theorem MS_addW {p m : Nat} (hS : MS σ v) (h0 : σ 0 0 ≤ 5) (h1 : σ 0 1 ≤ 3) (hp : p ≤ 2) (b1 : v' 100 18 = cI (max (σ 17 1) (p + 1))) (b2 : v' 100 17 = cI (max (σ 17 0) (m + 1))) (b3 : v' 108 (21 + p) = nI (σ 11 p ||| 2 ^ m)) (e0 : v' 100 10 = v 100 10) (e1 : v' 100 11 = v 100 11) (e2 : ∀ j, j ≠ 21 + p → v' 108 j = v 108 j) (e3 : ∀ q, 109 ≤ q → q ≤ 113 → v' q = v q) : MS (addW σ p m) v' := by
  obtain ⟨⟨s1, s2, s3, s4, s5⟩, b, c', d, g, k⟩ := hS
  unfold MS addW
  simp [up2_ap]
  rw [e3 109 (by decide) (by decide), e3 110 (by decide) (by decide), e3 111 (by decide) (by decide), e3 112 (by decide) (by decide), e3 113 (by decide) (by decide)]
  refine ⟨⟨e0.trans s1, e1.trans s2, b2, b1, (e2 11 (by omega)).trans s5⟩, fun l hl2 => ?_, fun l h1 h2 => (e2 _ (by omega)).trans (c' l (by omega) h2), fun p hp => ?_, fun j hj => ?_, fun j h1 h2 => (e2 j (by omega)).trans (k j h1 h2)⟩
  · have := b l (by omega)
    exact ⟨(e2 _ (by omega)).trans this.1, this.2.1, this.2.2.1, this.2.2.2.1, (e2 _ (by omega)).trans this.2.2.2.2⟩
  · have := d p (by omega)
    exact ⟨(e2 _ (by omega)).trans this.1, this.2.1, this.2.2.1, (e2 _ (by omega)).trans this.2.2.2⟩
  · have := g j hj
    by_cases z : j = p
    · subst z
      simp
      exact ⟨(e2 _ (by omega)).trans this.1, b3⟩
    · simp [z]
      exact ⟨(e2 _ (by omega)).trans this.1, (e2 _ (by omega)).trans this.2⟩
theorem MS_addH {m : Nat} (hS : MS σ v) (h0 : σ 0 0 ≤ 5) (h1 : σ 0 1 ≤ 3) (b1 : v' 100 18 = v 100 18) (b2 : v' 100 17 = cI (max (σ 17 0) (m + 1))) (b3 : v' 108 11 = nI (σ 0 5 ||| 2 ^ m)) (e0 : v' 100 10 = v 100 10) (e1 : v' 100 11 = v 100 11) (e2 : ∀ j, j ≠ 11 → v' 108 j = v 108 j) (e3 : ∀ q, 109 ≤ q → q ≤ 113 → v' q = v q) : MS (addH σ m) v' := by
  obtain ⟨⟨s1, s2, s3, s4, s5⟩, b, c', d, g, k⟩ := hS
  unfold MS addH
  simp [up2_ap]
  rw [e3 109 (by decide) (by decide), e3 110 (by decide) (by decide), e3 111 (by decide) (by decide), e3 112 (by decide) (by decide), e3 113 (by decide) (by decide)]
  refine ⟨⟨e0.trans s1, e1.trans s2, b2, b1.trans s4, b3⟩, fun l hl2 => ?_, fun l h1 h2 => (e2 _ (by omega)).trans (c' l (by omega) h2), fun p hp => ?_, fun j hj => ?_, fun j h1 h2 => (e2 j (by omega)).trans (k j h1 h2)⟩
  · have := b l (by omega)
    exact ⟨(e2 _ (by omega)).trans this.1, this.2.1, this.2.2.1, this.2.2.2.1, (e2 _ (by omega)).trans this.2.2.2.2⟩
  · have := d p (by omega)
    exact ⟨(e2 _ (by omega)).trans this.1, this.2.1, this.2.2.1, (e2 _ (by omega)).trans this.2.2.2⟩
  · have := g j hj
    exact ⟨(e2 _ (by omega)).trans this.1, (e2 _ (by omega)).trans this.2⟩
def sWr (K : Tp) (σ : Rho) (P : Nat) : Fa ⊕ (Rho × Nat) := sb (sNw K 0 2 ((.inr ((), P)) : Fa ⊕ (Unit × Nat))) fun y => sb (sLx K (σ 11 y.1.2) y.2) fun z => .inr (addW σ y.1.2 z.1, z.2)
def sHr (K : Tp) (σ : Rho) (P : Nat) : Fa ⊕ (Rho × Nat) := sb (sLx K (σ 0 5) P) fun z => .inr (addH σ z.1, z.2)
theorem cI_le3 : ∀ m, m ≤ 2 → ∀ h, h ≤ 3 → (nI m ≤ cI h ↔ m + 1 ≤ h) := by decide +kernel
theorem M_want (hT : MT K v) (hk : MTk K P v) (h25 : v 100 25 = 0) (hS : MS σ v) (hI : SI σ) : ∃ v', f_M_readLineOf 100 2 (bh v w) = some (bh v' w) ∧ FrD v v' ∧ MX (sWr K σ P) (fun z v' => MTk K z.2 v' ∧ MS z.1 v') v' := by
  have h0 := hI.1.1
  have h1 := hI.1.2.1
  have h8 := hI.1.2.2.2.2.2.2.2
  unfold f_M_readLineOf f_M_readLineOf_0 f_M_readLineOf_69 f_M_readLineOf_73 sWr
  rw [if_neg (by decide), if_neg (by decide), if_pos rfl]
  simp only [hN0, bd1_q]
  obtain ⟨r1, v1, e1, f1, ⟨n, hn, rn⟩, x1⟩ := M_rn (w := w) (lo := 0) (hi := 2) (X := ((.inr ((), P)) : Fa ⊕ (Unit × Nat))) (A := fun _ => True) hT ⟨h25, hk, trivial⟩ (by decide) (by decide)
  have e1 : f_M_readNumber 100 (0 : Int32) (2 : Int32) (bh v w) = some (r1, bh v1 w) := e1
  rw [e1, bd2_s]
  simp only [hN0, bd1_q]
  clear e1
  have T1 := hT.fN f1
  have S1 := hS.fN h0 f1
  generalize sNw K 0 2 ((.inr ((), P)) : Fa ⊕ (Unit × Nat)) = X at x1 ⊢
  cases X with
  | inl f =>
    have F : FL f v1 := x1
    have := F.2.2
    rw [F.1, if_neg (nI_ne0 (by omega) (by omega)), rn, show (21 : Int32) = nI 21 from rfl, nI_add, rd_nI (by omega) (by decide), bd1_s]
    have F2 : FL f (u2 v1 100 18 (v1 100 18)) := F.u (by decide) (by decide)
    rw [M_rloF F2, bd2_s]
    simp only [hN0, bd1_q]
    rw [wr_nI (by omega) (by decide), bd1_s]
    exact ⟨_, rfl, (f1.d.u (by decide)).w (by decide), F2.w (by decide)⟩
  | inr y =>
    obtain ⟨b25, bk, -, br, -, hp⟩ := x1
    have dI := hI.2.2.2.1 y.1.2 (by omega)
    have dS := (S1.2.2.2.2.1 y.1.2 (by omega)).2
    rw [b25, if_pos rfl, br, S1.1.2.2.2.1, ite_iff (cI_le3 _ hp _ h8), sb_r, show (21 : Int32) = nI 21 from rfl, nI_add]
    have go : ∀ x : Int32, x = cI (max (σ 17 1) (y.1.2 + 1)) → ∃ v', (bd1 (rd (u2 v1 100 18 x 108) 66 (nI (21 + y.1.2))) fun x42 => bd2 (f_M_readLawOf 100 x42 (bh (u2 v1 100 18 x) w)) fun x48 h46 => bd1 (sI h46 0 108 (nI (21 + y.1.2)) x48) fun h49 => some h49) = some (bh v' w) ∧ FrD v v' ∧ MX (sb (sLx K (σ 11 y.1.2) y.2) fun z => .inr (addW σ y.1.2 z.1, z.2)) (fun z v' => MTk K z.2 v' ∧ MS z.1 v') v' := by
      intro x hx
      rw [rd_nI (by omega) (by decide), bd1_s, u2_o (by decide), dS]
      obtain ⟨r2, v2, e2, q2, j2, x2⟩ := M_rlo (w := w) (v := u2 v1 100 18 x) (R := σ 11 y.1.2) (h := σ 17 0) (T1.fr (u2_n (by decide)) (u2_o (by decide))) (bk.u (by decide)) ((u2_n (by decide)).trans b25) dI.2.1 ((u2_n (by decide)).trans S1.1.2.2.1) hI.1.2.2.2.2.2.2.1
      rw [e2, bd2_s]
      simp only [hN0, bd1_q]
      rw [wr_nI (by omega) (by decide), bd1_s]
      have D2 : FrD v v2 := (f1.d.u (k := 18) (x := x) (by decide)).tr ⟨fun q hq => q2 q (by omega), fun j hj => j2 j (by omega) (by omega)⟩
      refine ⟨_, rfl, D2.w (by decide), ?_⟩
      clear e2
      generalize sLx K (σ 11 y.1.2) y.2 = X2 at x2 ⊢
      cases X2 with
      | inl f => exact FL.w x2 (by decide)
      | inr z =>
        obtain ⟨c25, cr, c17, cm, ck⟩ := x2
        refine ⟨(congrFun (u2_o (by decide)) 25).trans c25, ck.w (by decide), MS_addW S1 h0 h1 hp ?_ ((congrFun (u2_o (by decide)) 17).trans c17) ?_ ?_ ?_ (fun j hj => ?_) (fun q a b => ?_)⟩
        · rw [u2_o (by decide), j2 18 (by decide) (by decide), u2_at, hx]
        · rw [u2_at, cr]
        · rw [u2_o (by decide), j2 10 (by decide) (by decide), u2_n (by decide)]
        · rw [u2_o (by decide), j2 11 (by decide) (by decide), u2_n (by decide)]
        · rw [u2_n hj, q2 108 (by decide), u2_o (by decide)]
        · rw [u2_o (by omega), q2 q (by omega), u2_o (by omega)]
    by_cases g : y.1.2 + 1 ≤ σ 17 1
    · rw [if_pos g]
      exact go _ (by rw [show max (σ 17 1) (y.1.2 + 1) = σ 17 1 by omega])
    · rw [if_neg g]
      exact go _ (by rw [show max (σ 17 1) (y.1.2 + 1) = y.1.2 + 1 by omega]; rfl)
theorem M_watchL (hT : MT K v) (hk : MTk K P v) (h25 : v 100 25 = 0) (hS : MS σ v) (hI : SI σ) : ∃ v', f_M_readLineOf 100 3 (bh v w) = some (bh v' w) ∧ FrD v v' ∧ MX (sHr K σ P) (fun z v' => MTk K z.2 v' ∧ MS z.1 v') v' := by
  have h0 := hI.1.1
  have h1 := hI.1.2.1
  unfold f_M_readLineOf f_M_readLineOf_0 sHr
  rw [if_neg (by decide), if_neg (by decide), if_neg (by decide)]
  simp only [hN0, bd1_q]
  rw [show (11 : Int32) = nI 11 from rfl, rd_nI (by decide) (by decide), bd1_s, hS.1.2.2.2.2]
  obtain ⟨r2, v2, e2, q2, j2, x2⟩ := M_rlo (w := w) (R := σ 0 5) (h := σ 17 0) hT hk h25 hI.1.2.2.2.2.1 hS.1.2.2.1 hI.1.2.2.2.2.2.2.1
  rw [e2, bd2_s]
  simp only [hN0, bd1_q]
  rw [wr_nI (by decide) (by decide), bd1_s]
  have D2 : FrD v v2 := ⟨fun q hq => q2 q (by omega), fun j hj => j2 j (by omega) (by omega)⟩
  refine ⟨_, rfl, D2.w (by decide), ?_⟩
  clear e2
  generalize sLx K (σ 0 5) P = X2 at x2 ⊢
  cases X2 with
  | inl f => exact FL.w x2 (by decide)
  | inr z =>
    obtain ⟨c25, cr, c17, cm, ck⟩ := x2
    refine ⟨(congrFun (u2_o (by decide)) 25).trans c25, ck.w (by decide), MS_addH hS h0 h1 ?_ ((congrFun (u2_o (by decide)) 17).trans c17) ?_ ?_ ?_ (fun j hj => ?_) (fun q a b => ?_)⟩
    · rw [u2_o (by decide), j2 18 (by decide) (by decide)]
    · rw [u2_at, cr]
    · rw [u2_o (by decide), j2 10 (by decide) (by decide)]
    · rw [u2_o (by decide), j2 11 (by decide) (by decide)]
    · rw [u2_n hj, q2 108 (by decide)]
    · rw [u2_o (by omega), q2 q (by omega)]
/-- behind what a line holds -/
theorem M_tail {X : Fa ⊕ (Rho × Nat)} (h0 : ∀ z, X = .inr z → z.1 0 0 ≤ 5) (hT : MT K v) (h : MX X (fun z v => MTk K z.2 v ∧ MS z.1 v) v) : ∃ v', (if v 100 25 = 0 then (if v 100 23 = (3 : Int32) then f_M_readLine_107 100 100 1 (bh v w) else f_M_readLine_107 100 100 0 (bh v w)) else f_M_readLine_111 100 (bh v w)) = some (bh v' w) ∧ FrN v v' ∧ MX (sb X fun z => sb (sFin K z.2 z.1) fun y => sb (tokX K y.2) fun _ => .inr y) (fun y v' => MTk K y.2 v' ∧ MS y.1 v') v' := by
  unfold f_M_readLine_107 f_M_readLine_111
  simp only [hN0, bd1_q]
  cases X with
  | inl f =>
    have F : FL f v := h
    have := F.2.2
    rw [F.1, if_neg (nI_ne0 (by omega) (by omega)), M_nextF F, bd1_s]
    exact ⟨v, rfl, FrN.rf v, F⟩
  | inr z =>
    obtain ⟨b25, bk, bS⟩ := h
    have k4 := (kc_s (K := K) (s := sT K z.2)).2.2.2.2
    have ek : kD K z.2 = kc K (sT K z.2) := rfl
    rw [b25, if_pos rfl, bk.2.2.2.1, show (3 : Int32) = nI 3 from rfl, ite_iff (nI_eqI (by omega) (by omega)), sb_r]
    unfold sFin sStp
    by_cases c : kD K z.2 = 3
    · rw [if_pos c, if_pos c, sb_r, sb_r, M_needs1]
      simp only [hN0, bd1_q]
      obtain ⟨v2, e2, f2, x2⟩ := M_next (w := w) hT b25 bk.2.1 (eN_b bk.1).2.1
      rw [e2, bd1_s]
      refine ⟨v2, rfl, f2, ?_⟩
      clear e2
      generalize tokX K (eN K z.2) = Y at x2 ⊢
      cases Y with
      | inl f => exact x2
      | inr u => exact ⟨x2.1, x2.2, bS.fN (h0 z rfl) f2⟩
    · rw [if_neg c, if_neg c, M_needs0 b25]
      simp only [hN0, bd1_q]
      have F : FL (2, sT K z.2) (u2 (u2 v 100 25 2) 100 26 (v 100 22)) := ⟨by simp [u2_ap]; rfl, by simp [u2_ap]; exact bk.2.2.1, show 1 ≤ 2 by decide, show 2 ≤ 6 by decide⟩
      rw [M_nextF F, bd1_s]
      exact ⟨_, rfl, ((FrN.rf v).u (by decide)).u (by decide), F⟩
end
end
/-! 8xg.textg.lean.txt -/
section
section
variable {K : Tp} {σ : Rho} {v v' : Nat → Nat → Int32} {w : Nat → Nat → Int64} {P : Nat}
theorem M_is {n a b c : Nat} (hT : MT K v) (hk : MTk K P v) (h3 : 3 ≤ n) (hn : n < 200) (ha : a < 200) (hb : b < 200) (hc : c < 200) : f_M_is 100 (nI n) (nI a) (nI b) (nI c) (bh v w) = some (if eN K P = sT K P + n ∧ K.2 (sT K P) = a ∧ K.2 (sT K P + 1) = b ∧ K.2 (sT K P + 2) = c then 1 else 0, bh v w) := by
  have hL := hT.2.1
  have he := eN_b hk.1
  have hs := sT_b hk.1
  unfold f_M_is f_M_is_0 f_M_is_58
  simp only [hN0, bd1_q]
  rw [hk.2.1, hk.2.2.1, pk_sub he.1, ite_iff (nI_eqI (by omega) (by omega))]
  by_cases c1 : eN K P - sT K P = n
  · have t0 := (hT.2.2 (sT K P) (by omega)).2
    have t1 := (hT.2.2 (sT K P + 1) (by omega)).2
    have t2 := (hT.2.2 (sT K P + 2) (by omega)).2
    rw [if_pos c1, M_look hT (by omega), bd2_s, if_pos (show sT K P < K.1 by omega), ite_iff (nI_eqI (by omega) (by omega))]
    by_cases c2 : K.2 (sT K P) = a
    · rw [if_pos c2]
      simp only [hN0, bd1_q]
      rw [hk.2.2.1, nI_1, M_look hT (by omega), bd2_s, if_pos (show sT K P + 1 < K.1 by omega), ite_iff (nI_eqI (by omega) (by omega))]
      by_cases c3 : K.2 (sT K P + 1) = b
      · rw [if_pos c3]
        simp only [hN0, bd1_q]
        rw [hk.2.2.1, show nI (sT K P) + (2 : Int32) = nI (sT K P + 2) from nI_add _ 2, M_look hT (by omega), bd2_s, if_pos (show sT K P + 2 < K.1 by omega), ite_iff (nI_eqI (by omega) (by omega))]
        by_cases c4 : K.2 (sT K P + 2) = c
        · rw [if_pos c4, if_pos ⟨by omega, c2, c3, c4⟩]
        · rw [if_neg c4, if_neg (fun z => c4 z.2.2.2)]
      · rw [if_neg c3, if_neg (fun z => c3 z.2.2.1)]
    · rw [if_neg c2, if_neg (fun z => c2 z.2.1)]
  · rw [if_neg c1, if_neg (fun z => c1 (by omega))]
def lkI (K : Tp) (P : Nat) : Int32 := if isW K P 0 = true then 0 else if isW K P 1 = true then 1 else if isW K P 2 = true then 2 else if isW K P 3 = true then 3 else -4
theorem M_lineNow (hT : MT K v) (hk : MTk K P v) (k1 : kD K P = 1) : f_M_lineNow 100 (bh v w) = some (lkI K P, bh v w) := by
  have hL := hT.2.1
  have he := eN_b hk.1
  have hs := sT_b hk.1
  have w0 : isW K P 0 = true ↔ eN K P = sT K P + 3 ∧ K.2 (sT K P) = 108 ∧ K.2 (sT K P + 1) = 97 ∧ K.2 (sT K P + 2) = 119 := by
    simp [isW, k1, wLn, wLm, wLt]
  have w1 : isW K P 1 = true ↔ eN K P = sT K P + 3 ∧ K.2 (sT K P) = 111 ∧ K.2 (sT K P + 1) = 110 ∧ K.2 (sT K P + 2) = 101 := by
    simp [isW, k1, wLn, wLm, wLt]
  have w2 : isW K P 2 = true ↔ (eN K P = sT K P + 4 ∧ K.2 (sT K P) = 119 ∧ K.2 (sT K P + 1) = 97 ∧ K.2 (sT K P + 2) = 110) ∧ K.2 (sT K P + 3) = 116 := by
    simp [isW, k1, wLn, wLm, wLt, and_assoc]
  have w3 : isW K P 3 = true ↔ (eN K P = sT K P + 5 ∧ K.2 (sT K P) = 119 ∧ K.2 (sT K P + 1) = 97 ∧ K.2 (sT K P + 2) = 116) ∧ K.2 (sT K P + 3) = 99 ∧ K.2 (sT K P + 4) = 104 := by
    simp [isW, k1, wLn, wLm, wLt, and_assoc]
  have i0 : f_M_is 100 (3 : Int32) (108 : Int32) (97 : Int32) (119 : Int32) (bh v w) = _ := M_is (w := w) (n := 3) (a := 108) (b := 97) (c := 119) hT hk (by decide) (by decide) (by decide) (by decide) (by decide)
  have i1 : f_M_is 100 (3 : Int32) (111 : Int32) (110 : Int32) (101 : Int32) (bh v w) = _ := M_is (w := w) (n := 3) (a := 111) (b := 110) (c := 101) hT hk (by decide) (by decide) (by decide) (by decide) (by decide)
  have i2 : f_M_is 100 (4 : Int32) (119 : Int32) (97 : Int32) (110 : Int32) (bh v w) = _ := M_is (w := w) (n := 4) (a := 119) (b := 97) (c := 110) hT hk (by decide) (by decide) (by decide) (by decide) (by decide)
  have i3 : f_M_is 100 (5 : Int32) (119 : Int32) (97 : Int32) (116 : Int32) (bh v w) = _ := M_is (w := w) (n := 5) (a := 119) (b := 97) (c := 116) hT hk (by decide) (by decide) (by decide) (by decide) (by decide)
  have l63 : isW K P 2 ≠ true → f_M_lineNow_63 100 (bh v w) = some (if isW K P 3 = true then 3 else -4, bh v w) := by
    intro n2
    unfold f_M_lineNow_63 f_M_lineNow_111
    simp only [hN0, bd1_q]
    rw [i3, bd2_s]
    by_cases c : eN K P = sT K P + 5 ∧ K.2 (sT K P) = 119 ∧ K.2 (sT K P + 1) = 97 ∧ K.2 (sT K P + 2) = 116
    · have t3 := (hT.2.2 (sT K P + 3) (by omega)).2
      have t4 := (hT.2.2 (sT K P + 4) (by omega)).2
      rw [if_pos c, if_neg (by decide)]
      simp only [hN0, bd1_q]
      rw [hk.2.2.1, show nI (sT K P) + (3 : Int32) = nI (sT K P + 3) from nI_add _ 3, M_look hT (by omega), bd2_s, if_pos (show sT K P + 3 < K.1 by omega), show (99 : Int32) = nI 99 from rfl, ite_iff (nI_eqI (by omega) (by omega))]
      by_cases d : K.2 (sT K P + 3) = 99
      · rw [if_pos d]
        simp only [hN0, bd1_q]
        rw [hk.2.2.1, show nI (sT K P) + (4 : Int32) = nI (sT K P + 4) from nI_add _ 4, M_look hT (by omega), bd2_s, if_pos (show sT K P + 4 < K.1 by omega), show (104 : Int32) = nI 104 from rfl, ite_iff (nI_eqI (by omega) (by omega))]
        by_cases e : K.2 (sT K P + 4) = 104
        · rw [if_pos e, if_pos (w3.mpr ⟨c, d, e⟩)]
        · rw [if_neg e, if_neg (fun z => e (w3.mp z).2.2)]
      · rw [if_neg d, if_neg (fun z => d (w3.mp z).2.1)]
    · rw [if_neg c, if_pos rfl, if_neg (fun z => c (w3.mp z).1)]
  unfold f_M_lineNow f_M_lineNow_0 lkI
  simp only [hN0, bd1_q]
  rw [i0, bd2_s]
  by_cases c0 : isW K P 0 = true
  · rw [if_pos (w0.mp c0), if_neg (by decide), if_pos c0]
  rw [if_neg (fun z => c0 (w0.mpr z)), if_pos rfl, if_neg c0]
  simp only [hN0, bd1_q]
  rw [i1, bd2_s]
  by_cases c1 : isW K P 1 = true
  · rw [if_pos (w1.mp c1), if_neg (by decide), if_pos c1]
  rw [if_neg (fun z => c1 (w1.mpr z)), if_pos rfl, if_neg c1]
  simp only [hN0, bd1_q]
  rw [i2, bd2_s]
  by_cases c : eN K P = sT K P + 4 ∧ K.2 (sT K P) = 119 ∧ K.2 (sT K P + 1) = 97 ∧ K.2 (sT K P + 2) = 110
  · have t3 := (hT.2.2 (sT K P + 3) (by omega)).2
    rw [if_pos c, if_neg (by decide)]
    simp only [hN0, bd1_q]
    rw [hk.2.2.1, show nI (sT K P) + (3 : Int32) = nI (sT K P + 3) from nI_add _ 3, M_look hT (by omega), bd2_s, if_pos (show sT K P + 3 < K.1 by omega), show (116 : Int32) = nI 116 from rfl, ite_iff (nI_eqI (by omega) (by omega))]
    by_cases d : K.2 (sT K P + 3) = 116
    · rw [if_pos d, if_pos (w2.mpr ⟨c, d⟩)]
    · have n2 : ¬ isW K P 2 = true := fun z => d (w2.mp z).2
      rw [if_neg d, l63 n2, if_neg n2]
  · have n2 : ¬ isW K P 2 = true := fun z => c (w2.mp z).1
    rw [if_neg c, if_pos rfl, l63 n2, if_neg n2]
theorem sLaw_eq (Q : Nat) : sLaw K σ Q = sb (tokX K Q) fun _ => sb (sb (sNw K 0 9 (sNw K 0 9 (sNw K 1 3 (sNw K 0 9 ((.inr ((), Q)) : Fa ⊕ (Unit × Nat)))))) fun y => sCr K σ y) fun z => sFin K z.2 z.1 := by
  unfold sLaw sNum sNw sCar sCr
  simp only [sb_r]
  rcases tokX K Q with f | u
  · rfl
  simp only [sb_r]
  rcases chk K 0 9 Q with f | q
  · rfl
  simp only [sb_r]
  rcases tokX K (eN K Q) with f | u
  · rfl
  simp only [sb_r]
  rcases chk K 1 3 (eN K Q) with f | c
  · rfl
  simp only [sb_r]
  rcases tokX K (eN K (eN K Q)) with f | u
  · rfl
  simp only [sb_r]
  rcases chk K 0 9 (eN K (eN K Q)) with f | h
  · rfl
  simp only [sb_r]
  rcases tokX K (eN K (eN K (eN K Q))) with f | u
  · rfl
  simp only [sb_r]
  rcases chk K 0 9 (eN K (eN K (eN K Q))) with f | g
  · rfl
  simp only [sb_r]
  rcases tokX K (eN K (eN K (eN K (eN K Q)))) with f | u
  · rfl
  simp only [sb_r]
  by_cases k : kD K (eN K (eN K (eN K (eN K Q)))) = 2
  · rw [if_pos k, if_pos k]
    rcases chkB K 0 4 (eN K (eN K (eN K (eN K Q)))) with f | m
    · rfl
    simp only [sb_r]
    by_cases z : m = σ 0 0
    · rw [if_pos z, if_pos z]; rfl
    · rw [if_neg z, if_neg z]
      rcases tokX K (eN K (eN K (eN K (eN K (eN K Q))))) with f | u
      · rfl
      · rfl
  · rw [if_neg k, if_neg k]; rfl
theorem sOne_eq (Q : Nat) : sOne K σ Q = sb (tokX K Q) fun _ => sb (sb (sNw K 0 99 (sNw K 0 10 (sNw K 0 3 (sNw K 0 5 ((.inr ((), Q)) : Fa ⊕ (Unit × Nat)))))) fun y => sOr K σ y) fun z => sFin K z.2 z.1 := by
  unfold sOne sNum sNw sOr
  simp only [sb_r]
  rcases tokX K Q with f | u
  · rfl
  simp only [sb_r]
  rcases chk K 0 5 Q with f | q
  · rfl
  simp only [sb_r]
  rcases tokX K (eN K Q) with f | u
  · rfl
  simp only [sb_r]
  rcases chk K 0 3 (eN K Q) with f | c
  · rfl
  simp only [sb_r]
  rcases tokX K (eN K (eN K Q)) with f | u
  · rfl
  simp only [sb_r]
  rcases chk K 0 10 (eN K (eN K Q)) with f | h
  · rfl
  simp only [sb_r]
  rcases tokX K (eN K (eN K (eN K Q))) with f | u
  · rfl
  simp only [sb_r]
  rcases chk K 0 99 (eN K (eN K (eN K Q))) with f | g
  · rfl
  simp only [sb_r]
  rcases tokX K (eN K (eN K (eN K (eN K Q)))) with f | u
  · rfl
  simp only [sb_r]
  rcases sRef K 6 0 (σ 17 0) (eN K (eN K (eN K (eN K Q)))) with f | x
  · rfl
  · rfl
theorem sWant_eq (Q : Nat) : sWant K σ Q = sb (tokX K Q) fun _ => sb (sWr K σ Q) fun z => sFin K z.2 z.1 := by
  unfold sWant sNum sWr sNw sLx
  simp only [sb_r]
  rcases tokX K Q with f | u
  · rfl
  simp only [sb_r]
  rcases chk K 0 2 Q with f | q
  · rfl
  simp only [sb_r]
  rcases tokX K (eN K Q) with f | u
  · rfl
  simp only [sb_r]
  rcases chk K 0 4 (eN K Q) with f | m
  · rfl
  simp only [sb_r]
  by_cases z : bit (σ 11 q) m = 1
  · rw [if_pos z, if_pos z]; rfl
  · rw [if_neg z, if_neg z]
    rcases tokX K (eN K (eN K Q)) with f | u
    · rfl
    · rfl
theorem sWatch_eq (Q : Nat) : sWatch K σ Q = sb (tokX K Q) fun _ => sb (sHr K σ Q) fun z => sFin K z.2 z.1 := by
  unfold sWatch sNum sHr sLx
  rcases tokX K Q with f | u
  · rfl
  simp only [sb_r]
  rcases chk K 0 4 Q with f | m
  · rfl
  simp only [sb_r]
  by_cases z : bit (σ 0 5) m = 1
  · rw [if_pos z, if_pos z]; rfl
  · rw [if_neg z, if_neg z]
    rcases tokX K (eN K Q) with f | u
    · rfl
    · rfl
theorem M_l65F {f : Fa} (hF : FL f v) (b1 s1 : Int32) : f_M_readLine_65 100 b1 100 s1 (bh v w) = some (bh v w) := by
  have := hF.2.2
  unfold f_M_readLine_65
  simp only [hN0, bd1_q]
  rw [M_needsF hF]
  simp only [hN0, bd1_q]
  rw [M_nextF hF]
  simp only [hN0, bd1_q]
  rw [hF.1, if_neg (nI_nle (by omega) (by omega))]
theorem M_l65_5 (hk : MTk K P v) (h25 : v 100 25 = 0) (b1 : Int32) : ∃ v', f_M_readLine_65 100 b1 100 0 (bh v w) = some (bh v' w) ∧ FrD v v' ∧ FL (5, sT K P) v' := by
  have F : FL (5, sT K P) (u2 (u2 v 100 25 5) 100 26 (v 100 22)) := ⟨by simp [u2_ap]; rfl, by simp [u2_ap]; exact hk.2.2.1, show 1 ≤ 5 by decide, show 5 ≤ 6 by decide⟩
  unfold f_M_readLine_65
  simp only [hN0, bd1_q]
  rw [M_needs0 h25]
  simp only [hN0, bd1_q]
  rw [M_nextF F]
  simp only [hN0, bd1_q]
  rw [F.1, if_neg (show ¬ nI 5 ≤ 0 by decide)]
  exact ⟨_, rfl, ((FrD.rf v).u (by decide)).u (by decide), F⟩
theorem M_l65 {X : Fa ⊕ (Rho × Nat)} {b1 : Int32} (hT : MT K v) (hk : MTk K P v) (h25 : v 100 25 = 0) (hS : MS σ v) (h5 : σ 0 0 ≤ 5) (h0 : ∀ z, X = .inr z → z.1 0 0 ≤ 5) (hline : ∀ v2, MT K v2 → MTk K (eN K P) v2 → v2 100 25 = 0 → MS σ v2 → ∃ v3, f_M_readLineOf 100 b1 (bh v2 w) = some (bh v3 w) ∧ FrD v2 v3 ∧ MX X (fun z v' => MTk K z.2 v' ∧ MS z.1 v') v3) : ∃ v', f_M_readLine_65 100 b1 100 1 (bh v w) = some (bh v' w) ∧ FrD v v' ∧ MX (sb (tokX K (eN K P)) fun _ => sb X fun z => sb (sFin K z.2 z.1) fun y => sb (tokX K y.2) fun _ => .inr y) (fun y v' => MTk K y.2 v' ∧ MS y.1 v') v' := by
  unfold f_M_readLine_65
  simp only [hN0, bd1_q]
  rw [M_needs1]
  simp only [hN0, bd1_q]
  obtain ⟨v2, e2, f2, x2⟩ := M_next (w := w) hT h25 hk.2.1 (eN_b hk.1).2.1
  rw [e2]
  simp only [hN0, bd1_q]
  clear e2
  generalize tokX K (eN K P) = Y at x2 ⊢
  cases Y with
  | inl f =>
    have F : FL f v2 := x2
    have := F.2.2
    rw [F.1, if_neg (nI_nle (by omega) (by omega))]
    exact ⟨v2, rfl, f2.d, F⟩
  | inr u =>
    obtain ⟨b25, bk⟩ := x2
    have T2 := hT.fN f2
    obtain ⟨v3, e3, f3, x3⟩ := hline v2 T2 bk b25 (hS.fN h5 f2)
    rw [b25, if_pos (by decide), e3]
    simp only [hN0, bd1_q]
    obtain ⟨v4, e4, f4, x4⟩ := M_tail (w := w) h0 (T2.fD f3) x3
    exact ⟨v4, e4, (f2.d.tr f3).tr f4.d, x4⟩
theorem sb_as {α β γ : Type} (x : Fa ⊕ α) (f : α → Fa ⊕ β) (g : β → Fa ⊕ γ) : sb (sb x f) g = sb x fun a => sb (f a) g := by
  cases x <;> rfl
theorem M_readLine (hT : MT K v) (hk : MTk K P v) (h25 : v 100 25 = 0) (hS : MS σ v) (hI : SI σ) : ∃ v', f_M_readLine 100 (bh v w) = some (bh v' w) ∧ FrD v v' ∧ MX (sb (sLine K σ P) fun y => sb (tokX K y.2) fun _ => .inr y) (fun y v' => MTk K y.2 v' ∧ MS y.1 v') v' := by
  have k4 := (kc_s (K := K) (s := sT K P)).2.2.2.2
  have ek : kD K P = kc K (sT K P) := rfl
  have h5 := hI.1.1
  have h3 := hI.1.2.1
  have e17 : f_M_readLine 100 (bh v w) = f_M_readLine_17 100 (lkI K P) (bh v w) := by
    unfold f_M_readLine f_M_readLine_0
    simp only [hN0, bd1_q]
    have q1 : v 100 23 = (1 : Int32) ↔ kD K P = 1 := by rw [hk.2.2.2.1]; exact nI_eqI (a := kD K P) (b := 1) (by omega) (by omega)
    rw [ite_iff q1]
    by_cases c : kD K P = 1
    · rw [if_pos c, M_lineNow hT hk c, bd2_s]
    · have nw : ∀ o, ¬ isW K P o = true := fun o z => c (isW_k z)
      rw [if_neg c]
      unfold lkI
      rw [if_neg (nw 0), if_neg (nw 1), if_neg (nw 2), if_neg (nw 3)]
  rw [e17]
  unfold f_M_readLine_17 f_M_readLine_30 f_M_readLine_47 f_M_readLine_64 f_M_readLine_60 lkI sLine
  by_cases c0 : isW K P 0 = true
  · rw [if_pos c0, if_pos c0, if_neg (by decide)]
    simp only [hN0, bd1_q]
    rw [M_needs1]
    simp only [hN0, bd1_q]
    rw [if_pos trivial, hS.1.1, show (5 : Int32) = nI 5 from rfl, ite_iff (nI_leI (by omega) (by omega))]
    by_cases g : σ 0 0 < 5
    · rw [if_neg (by omega), if_neg (by decide), if_pos g, sLaw_eq, sb_as]
      have := M_l65 (w := w) (b1 := 0) (X := sb (sNw K 0 9 (sNw K 0 9 (sNw K 1 3 (sNw K 0 9 ((.inr ((), eN K P)) : Fa ⊕ (Unit × Nat)))))) fun y => sCr K σ y) hT hk h25 hS h5 (fun z hz => by
        obtain ⟨y, -, hy⟩ := sb_inr hz
        unfold sCr at hy
        split at hy
        · obtain ⟨m, -, hy⟩ := sb_inr hy
          obtain ⟨-, hy⟩ := ite_inr hy
          obtain ⟨u, -, hy⟩ := sb_inr hy
          cases hy
          simp [addL, up2_ap]
          omega
        · cases hy
          simp [addL, up2_ap]
          omega) (fun v2 a1 a2 a3 a4 => by
        obtain ⟨v3, e3, f3, x3⟩ := M_readLaw (w := w) a1 a2 a3 a4 hI g
        refine ⟨v3, ?_, f3, x3⟩
        unfold f_M_readLineOf f_M_readLineOf_0
        rw [if_pos rfl]
        simp only [hN0, bd1_q]
        rw [e3, bd1_s])
      obtain ⟨v4, e4, f4, x4⟩ := this
      refine ⟨v4, e4, f4, ?_⟩
      simp only [sb_as] at x4 ⊢
      exact x4
    · rw [if_pos (by omega), if_neg g]
      obtain ⟨v4, e4, f4, x4⟩ := M_l65_5 (w := w) hk h25 0
      exact ⟨v4, e4, f4, x4⟩
  rw [if_neg c0, if_neg c0]
  by_cases c1 : isW K P 1 = true
  · rw [if_pos c1, if_pos c1, if_neg (by decide)]
    simp only [hN0, bd1_q]
    rw [M_needs1]
    simp only [hN0, bd1_q]
    rw [if_neg (by decide), if_pos trivial, hS.1.2.1, show (3 : Int32) = nI 3 from rfl, ite_iff (nI_leI (by omega) (by omega))]
    by_cases g : σ 0 1 < 3
    · rw [if_neg (by omega), if_pos g, sOne_eq, sb_as]
      have := M_l65 (w := w) (b1 := 1) (X := sb (sNw K 0 99 (sNw K 0 10 (sNw K 0 3 (sNw K 0 5 ((.inr ((), eN K P)) : Fa ⊕ (Unit × Nat)))))) fun y => sOr K σ y) hT hk h25 hS h5 (fun z hz => by
        obtain ⟨y, -, hy⟩ := sb_inr hz
        obtain ⟨x, -, hy⟩ := sb_inr hy
        cases hy
        simp [addO, up2_ap]
        exact h5) (fun v2 a1 a2 a3 a4 => by
        obtain ⟨v3, e3, f3, x3⟩ := M_readOne (w := w) a1 a2 a3 a4 hI g
        refine ⟨v3, ?_, f3, x3⟩
        unfold f_M_readLineOf f_M_readLineOf_0
        rw [if_neg (by decide), if_pos rfl]
        simp only [hN0, bd1_q]
        rw [e3, bd1_s])
      obtain ⟨v4, e4, f4, x4⟩ := this
      refine ⟨v4, e4, f4, ?_⟩
      simp only [sb_as] at x4 ⊢
      exact x4
    · rw [if_pos (by omega), if_neg g]
      obtain ⟨v4, e4, f4, x4⟩ := M_l65_5 (w := w) hk h25 1
      exact ⟨v4, e4, f4, x4⟩
  rw [if_neg c1, if_neg c1]
  by_cases c2 : isW K P 2 = true
  · rw [if_pos c2, if_pos c2, if_neg (by decide)]
    simp only [hN0, bd1_q]
    rw [M_needs1]
    simp only [hN0, bd1_q]
    rw [if_neg (by decide), if_neg (by decide), sWant_eq, sb_as]
    have := M_l65 (w := w) (b1 := 2) (X := sWr K σ (eN K P)) hT hk h25 hS h5 (fun z hz => by
      obtain ⟨y, -, hy⟩ := sb_inr hz
      obtain ⟨x, -, hy⟩ := sb_inr hy
      cases hy
      simp [addW, up2_ap]
      exact h5) (fun v2 a1 a2 a3 a4 => M_want (w := w) a1 a2 a3 a4 hI)
    obtain ⟨v4, e4, f4, x4⟩ := this
    refine ⟨v4, e4, f4, ?_⟩
    simp only [sb_as] at x4 ⊢
    exact x4
  rw [if_neg c2, if_neg c2]
  by_cases c3 : isW K P 3 = true
  · rw [if_pos c3, if_pos c3, if_neg (by decide)]
    simp only [hN0, bd1_q]
    rw [M_needs1]
    simp only [hN0, bd1_q]
    rw [if_neg (by decide), if_neg (by decide), sWatch_eq, sb_as]
    have := M_l65 (w := w) (b1 := 3) (X := sHr K σ (eN K P)) hT hk h25 hS h5 (fun z hz => by
      obtain ⟨x, -, hy⟩ := sb_inr hz
      cases hy
      simp [addH, up2_ap]
      exact h5) (fun v2 a1 a2 a3 a4 => M_watchL (w := w) a1 a2 a3 a4 hI)
    obtain ⟨v4, e4, f4, x4⟩ := this
    refine ⟨v4, e4, f4, ?_⟩
    simp only [sb_as] at x4 ⊢
    exact x4
  rw [if_neg c3, if_neg c3, if_pos rfl]
  simp only [hN0, bd1_q]
  rw [M_needs0 h25]
  simp only [hN0, bd1_q]
  have F : FL (2, sT K P) (u2 (u2 v 100 25 2) 100 26 (v 100 22)) := ⟨by simp [u2_ap]; rfl, by simp [u2_ap]; exact hk.2.2.1, show 1 ≤ 2 by decide, show 2 ≤ 6 by decide⟩
  rw [if_neg (by decide), if_neg (by decide), M_l65F F]
  exact ⟨_, rfl, ((FrD.rf v).u (by decide)).u (by decide), F⟩
end
end
/-! 8xh.texth.lean.txt -/
section
theorem hN1 (v : Nat → Nat → Int32) (w : Nat → Nat → Int64) : (∀ i x, sI (bh v w) 0 101 i x = wr v w 101 198 i x) ∧ (∀ i x, sI (bh v w) 0 103 i x = wr v w 103 5 i x) ∧ (∀ i x, sI (bh v w) 0 104 i x = wr v w 104 5 i x) ∧ (∀ i x, sI (bh v w) 0 105 i x = wr v w 105 5 i x) ∧ (∀ i x, sI (bh v w) 0 106 i x = wr v w 106 3 i x) ∧ (∀ i x, sI (bh v w) 0 107 i x = wr v w 107 3 i x) ∧ (∀ i x, sI (bh v w) 2 102 i x = wr v w 102 2 i x) := ⟨sI_bh rfl, sI_bh rfl, sI_bh rfl, sI_bh rfl, sI_bh rfl, sI_bh rfl, sI_bh rfl⟩
section
variable {K : Tp} {σ : Rho} {v v' : Nat → Nat → Int32} {w : Nat → Nat → Int64} {P : Nat}
theorem M_fd23 : ∀ (n fuel l : Nat) (v : Nat → Nat → Int32), n < fuel → l + n = 5 → (∀ j, j < l → v 108 (5 + j) = -4) → (∀ j, j < 5 ∨ 10 ≤ j ∧ j < 66 → v 108 j = 0) → ∃ v', f_M_firstDraft_23 fuel 100 (nI l) (bh v w) = some (bh v' w) ∧ MS (fun _ _ => 0) v' ∧ (∀ q, q ≠ 100 → q ≠ 108 → v' q = v q) ∧ ∀ j, j ≠ 10 → j ≠ 11 → j ≠ 17 → j ≠ 18 → v' 100 j = v 100 j := by
  intro n
  induction n with
  | zero =>
    intro fuel l v hf hl h1 h2
    obtain ⟨m, rfl⟩ : ∃ m, fuel = m + 1 := ⟨fuel - 1, by omega⟩
    show ∃ v', f_M_firstDraft_23b (f_M_firstDraft_23 m) 100 (nI l) (bh v w) = _ ∧ _
    unfold f_M_firstDraft_23b
    rw [show (5 : Int32) = nI 5 from rfl, if_pos ((nI_leI (by omega) (by omega)).mpr (by omega))]
    simp only [hN0, bd1_q]
    refine ⟨_, rfl, ⟨⟨by simp [u2_ap]; rfl, by simp [u2_ap]; rfl, by simp [u2_ap]; rfl, by simp [u2_ap]; rfl, ?_⟩, fun l hl => absurd hl (Nat.not_lt_zero _), fun l _ hl => ?_, fun p hp => absurd hp (Nat.not_lt_zero _), fun p hp => ⟨?_, ?_⟩, fun j a b => ?_⟩, fun q a b => by rw [u2_o a, u2_o a, u2_o a, u2_o a], fun j a b c d => by rw [u2_n d, u2_n c, u2_n b, u2_n a]⟩
    · rw [u2_o (by decide), u2_o (by decide), u2_o (by decide), u2_o (by decide)]; exact h2 11 (by omega)
    · rw [u2_o (by decide), u2_o (by decide), u2_o (by decide), u2_o (by decide)]; exact h1 l (by omega)
    · rw [u2_o (by decide), u2_o (by decide), u2_o (by decide), u2_o (by decide)]; exact h2 _ (by omega)
    · rw [u2_o (by decide), u2_o (by decide), u2_o (by decide), u2_o (by decide)]; exact h2 _ (by omega)
    · rw [u2_o (by decide), u2_o (by decide), u2_o (by decide), u2_o (by decide)]; exact h2 _ (by omega)
  | succ n ih =>
    intro fuel l v hf hl h1 h2
    obtain ⟨m, rfl⟩ : ∃ m, fuel = m + 1 := ⟨fuel - 1, by omega⟩
    obtain ⟨v', e1, e2, e3, e4⟩ := ih m (l + 1) (u2 v 108 (5 + l) (-4)) (by omega) (by omega) (fun j hj => by
      by_cases z : j = l
      · rw [z, u2_at]
      · rw [u2_n (by omega)]; exact h1 j (by omega)) (fun j hj => by rw [u2_n (by omega)]; exact h2 j hj)
    refine ⟨v', ?_, e2, fun q a b => (e3 q a b).trans (u2_o b), fun j a b c d => (e4 j a b c d).trans (congrFun (u2_o (by decide)) j)⟩
    show f_M_firstDraft_23b (f_M_firstDraft_23 m) 100 (nI l) (bh v w) = _
    unfold f_M_firstDraft_23b
    rw [show (5 : Int32) = nI 5 from rfl, if_neg (fun z => by have := (nI_leI (by omega) (by omega)).mp z; omega)]
    simp only [hN0, bd1_q]
    rw [nI_add, wr_nI (by omega) (by decide), bd1_s, nI_1]
    exact e1
theorem M_fd2 : ∀ (n fuel k : Nat) (v : Nat → Nat → Int32), n < fuel → k + n = 66 → (∀ j, j < k → v 108 j = 0) → ∃ v', f_M_firstDraft_2 fuel 100 (nI k) (bh v w) = some (bh v' w) ∧ MS (fun _ _ => 0) v' ∧ (∀ q, q ≠ 100 → q ≠ 108 → v' q = v q) ∧ ∀ j, j ≠ 10 → j ≠ 11 → j ≠ 17 → j ≠ 18 → v' 100 j = v 100 j := by
  intro n
  induction n with
  | zero =>
    intro fuel k v hf hk h1
    obtain ⟨m, rfl⟩ : ∃ m, fuel = m + 1 := ⟨fuel - 1, by omega⟩
    obtain ⟨v', e1, e2⟩ := M_fd23 (w := w) 5 FU 0 v (by decide) (by decide) (fun j hj => by omega) (fun j hj => h1 j (by omega))
    refine ⟨v', ?_, e2⟩
    show f_M_firstDraft_2b (f_M_firstDraft_2 m) 100 (nI k) (bh v w) = _
    unfold f_M_firstDraft_2b
    rw [show (66 : Int32) = nI 66 from rfl, if_pos ((nI_leI (by omega) (by omega)).mpr (by omega))]
    exact e1
  | succ n ih =>
    intro fuel k v hf hk h1
    obtain ⟨m, rfl⟩ : ∃ m, fuel = m + 1 := ⟨fuel - 1, by omega⟩
    obtain ⟨v', e1, e2, e3, e4⟩ := ih m (k + 1) (u2 v 108 k 0) (by omega) (by omega) (fun j hj => by
      by_cases z : j = k
      · rw [z, u2_at]
      · rw [u2_n z]; exact h1 j (by omega))
    refine ⟨v', ?_, e2, fun q a b => (e3 q a b).trans (u2_o b), fun j a b c d => (e4 j a b c d).trans (congrFun (u2_o (by decide)) j)⟩
    show f_M_firstDraft_2b (f_M_firstDraft_2 m) 100 (nI k) (bh v w) = _
    unfold f_M_firstDraft_2b
    rw [show (66 : Int32) = nI 66 from rfl, if_neg (fun z => by have := (nI_leI (by omega) (by omega)).mp z; omega)]
    simp only [hN0, bd1_q]
    rw [wr_nI (by omega) (by decide), bd1_s, nI_1]
    exact e1
theorem M_firstDraft : ∃ v', f_M_firstDraft 100 (bh v w) = some (bh v' w) ∧ MS (fun _ _ => 0) v' ∧ (∀ q, q ≠ 100 → q ≠ 108 → v' q = v q) ∧ ∀ j, j ≠ 10 → j ≠ 11 → j ≠ 17 → j ≠ 18 → v' 100 j = v 100 j := by
  unfold f_M_firstDraft f_M_firstDraft_0
  rw [show (0 : Int32) = nI 0 from rfl]
  exact M_fd2 66 FU 0 v (by decide) (by decide) (fun j hj => by omega)
theorem M_kd111 {n3 : Nat} (h3 : n3 ≤ 3) : ∀ (n fuel l : Nat) (v : Nat → Nat → Int32), n < fuel → l + n = n3 → v 100 3 = nI n3 → ∃ v', f_M_keepDraft_111 fuel 100 (nI l) (bh v w) = some (bh v' w) ∧ v' 102 0 = 0 ∧ v' 102 1 = 0 ∧ (∀ q, q ≠ 102 → q ≠ 106 → q ≠ 107 → v' q = v q) ∧ (∀ j, l ≤ j → j < n3 → v' 106 j = v 112 j ∧ v' 107 j = v 113 j) ∧ ∀ j, j < l → v' 106 j = v 106 j ∧ v' 107 j = v 107 j := by
  intro n
  induction n with
  | zero =>
    intro fuel l v hf hl hv
    obtain ⟨m, rfl⟩ : ∃ m, fuel = m + 1 := ⟨fuel - 1, by omega⟩
    show ∃ v', f_M_keepDraft_111b (f_M_keepDraft_111 m) 100 (nI l) (bh v w) = _ ∧ _
    unfold f_M_keepDraft_111b
    simp only [hN0, hN1, bd1_q]
    rw [hv, if_pos ((nI_leI (by omega) (by omega)).mpr (by omega)), show wr v w 102 2 (0 : Int32) (vp_nar .boolean (0 : Int32)) = some (bh (u2 v 102 0 0) w) from wr_nI (j := 0) (by decide) (by decide), bd1_s]
    simp only [hN0, hN1, bd1_q]
    rw [show wr (u2 v 102 0 0) w 102 2 (1 : Int32) (vp_nar .boolean (0 : Int32)) = some (bh (u2 (u2 v 102 0 0) 102 1 0) w) from wr_nI (j := 1) (by decide) (by decide), bd1_s]
    exact ⟨_, rfl, by simp [u2_ap], by simp [u2_ap], fun q a b c => (u2_o a).trans (u2_o a), fun j a b => by omega, fun j a => ⟨by simp [u2_ap], by simp [u2_ap]⟩⟩
  | succ n ih =>
    intro fuel l v hf hl hv
    obtain ⟨m, rfl⟩ : ∃ m, fuel = m + 1 := ⟨fuel - 1, by omega⟩
    obtain ⟨v', e1, e2, e3, e4, e5, e6⟩ := ih m (l + 1) (u2 (u2 v 106 l (v 112 l)) 107 l (v 113 l)) (by omega) (by omega) (by simp [u2_ap, hv])
    refine ⟨v', ?_, e2, e3, fun q a b c => (e4 q a b c).trans ((u2_o c).trans (u2_o b)), fun j a b => ?_, fun j a => ?_⟩
    · show f_M_keepDraft_111b (f_M_keepDraft_111 m) 100 (nI l) (bh v w) = _
      unfold f_M_keepDraft_111b
      simp only [hN0, hN1, bd1_q]
      rw [hv, if_neg (fun z => by have := (nI_leI (by omega) (by omega)).mp z; omega), rd_nI (by omega) (by decide), bd1_s, wr_nI (by omega) (by decide), bd1_s]
      simp only [hN0, hN1, bd1_q]
      rw [rd_nI (by omega) (by decide), bd1_s, wr_nI (by omega) (by decide), bd1_s, u2_o (by decide), nI_1]
      exact e1
    · by_cases z : j = l
      · have := e6 j (by omega)
        rw [this.1, this.2, z]
        simp [u2_ap]
      · have := e5 j (by omega) b
        rw [this.1, this.2]
        simp [u2_ap]
    · have := e6 j (by omega)
      rw [this.1, this.2]
      simp [u2_ap, show ¬ j = l by omega]
theorem M_kd59 {n5 n3 : Nat} (h5 : n5 ≤ 5) (h3 : n3 ≤ 3) : ∀ (n fuel l : Nat) (v : Nat → Nat → Int32), n < fuel → l + n = n5 → v 100 2 = nI n5 → v 100 3 = nI n3 → ∃ v', f_M_keepDraft_59 fuel 100 (nI l) (bh v w) = some (bh v' w) ∧ v' 102 0 = 0 ∧ v' 102 1 = 0 ∧ (∀ q, q < 102 ∨ 107 < q → v' q = v q) ∧ (∀ j, l ≤ j → j < n5 → v' 103 j = v 109 j ∧ v' 104 j = v 110 j ∧ v' 105 j = v 111 j) ∧ (∀ j, j < l → v' 103 j = v 103 j ∧ v' 104 j = v 104 j ∧ v' 105 j = v 105 j) ∧ ∀ j, j < n3 → v' 106 j = v 112 j ∧ v' 107 j = v 113 j := by
  intro n
  induction n with
  | zero =>
    intro fuel l v hf hl hv hv3
    obtain ⟨m, rfl⟩ : ∃ m, fuel = m + 1 := ⟨fuel - 1, by omega⟩
    obtain ⟨v', e1, e2, e3, e4, e5, e6⟩ := M_kd111 (w := w) h3 n3 FU 0 v (by unfold FU; omega) (by omega) hv3
    refine ⟨v', ?_, e2, e3, fun q a => e4 q (by omega) (by omega) (by omega), fun j a b => by omega, fun j a => ?_, fun j a => e5 j (Nat.zero_le _) a⟩
    · show f_M_keepDraft_59b (f_M_keepDraft_59 m) 100 (nI l) (bh v w) = _
      unfold f_M_keepDraft_59b
      simp only [hN0, hN1, bd1_q]
      rw [hv, if_pos ((nI_leI (by omega) (by omega)).mpr (by omega))]
      exact e1
    · rw [e4 103 (by decide) (by decide) (by decide), e4 104 (by decide) (by decide) (by decide), e4 105 (by decide) (by decide) (by decide)]
      exact ⟨rfl, rfl, rfl⟩
  | succ n ih =>
    intro fuel l v hf hl hv hv3
    obtain ⟨m, rfl⟩ : ∃ m, fuel = m + 1 := ⟨fuel - 1, by omega⟩
    obtain ⟨v', e1, e2, e3, e4, e5, e6, e7⟩ := ih m (l + 1) (u2 (u2 (u2 v 103 l (v 109 l)) 104 l (v 110 l)) 105 l (v 111 l)) (by omega) (by omega) (by simp [u2_ap, hv]) (by simp [u2_ap, hv3])
    refine ⟨v', ?_, e2, e3, fun q a => (e4 q a).trans ((u2_o (by omega)).trans ((u2_o (by omega)).trans (u2_o (by omega)))), fun j a b => ?_, fun j a => ?_, fun j a => ?_⟩
    · show f_M_keepDraft_59b (f_M_keepDraft_59 m) 100 (nI l) (bh v w) = _
      unfold f_M_keepDraft_59b
      simp only [hN0, hN1, bd1_q]
      rw [hv, if_neg (fun z => by have := (nI_leI (by omega) (by omega)).mp z; omega), rd_nI (by omega) (by decide), bd1_s, wr_nI (by omega) (by decide), bd1_s]
      simp only [hN0, hN1, bd1_q]
      rw [rd_nI (by omega) (by decide), bd1_s, wr_nI (by omega) (by decide), bd1_s]
      simp only [hN0, hN1, bd1_q]
      rw [rd_nI (by omega) (by decide), bd1_s, wr_nI (by omega) (by decide), bd1_s, u2_o (show 111 ≠ 104 by decide), u2_o (show 111 ≠ 103 by decide), u2_o (show 110 ≠ 103 by decide), nI_1]
      exact e1
    · by_cases z : j = l
      · have := e6 j (by omega)
        rw [this.1, this.2.1, this.2.2, z]
        simp [u2_ap]
      · have := e5 j (by omega) b
        rw [this.1, this.2.1, this.2.2]
        simp [u2_ap]
    · have := e6 j (by omega)
      rw [this.1, this.2.1, this.2.2]
      simp [u2_ap, show ¬ j = l by omega]
    · have := e7 j a
      rw [this.1, this.2]
      simp [u2_ap]
theorem pw_m1 : ∀ n, n ≤ 5 → ((1 : Int32) <<< (nI n &&& 31)) - (1 : Int32) = nI (2 ^ n - 1) := by decide +kernel
theorem M_keepDraft (hS : MS σ v) (hI : SI σ) : ∃ v', f_M_keepDraft 100 (bh v w) = some (bh v' w) ∧ MR (fin σ) v' ∧ v' 102 0 = 0 ∧ v' 102 1 = 0 ∧ (∀ q, q < 100 ∨ 107 < q → v' q = v q) ∧ ∀ j, j ≠ 2 → j ≠ 3 → v' 100 j = v 100 j := by
  have hI' := hI
  obtain ⟨⟨a1, a2, a3, a4, a5, a6, a7, a8⟩, b, c', d, e, g, k⟩ := hI'
  have key : ∀ (n fuel i : Nat) (u : Nat → Nat → Int32), n < fuel → i + n = 66 → (∀ q, q ≠ 101 → u q = v q) → (∀ j, j < i → u 101 j = v 108 j) → ∃ v', f_M_keepDraft_2 fuel 100 (nI i) (bh u w) = some (bh v' w) ∧ MR (fin σ) v' ∧ v' 102 0 = 0 ∧ v' 102 1 = 0 ∧ (∀ q, q < 100 ∨ 107 < q → v' q = v q) ∧ ∀ j, j ≠ 2 → j ≠ 3 → v' 100 j = v 100 j := by
    intro n
    induction n with
    | zero =>
      intro fuel i u hf hi hq hj
      obtain ⟨m, rfl⟩ : ∃ m, fuel = m + 1 := ⟨fuel - 1, by omega⟩
      have u10 : u 100 10 = nI (σ 0 0) := (congrFun (hq 100 (by decide)) 10).trans hS.1.1
      have u11 : u 100 11 = nI (σ 0 1) := (congrFun (hq 100 (by decide)) 11).trans hS.1.2.1
      obtain ⟨v', e1, e2, e3, e4, e5, -, e7⟩ := M_kd59 (w := w) a1 a2 (σ 0 0) FU 0 (u2 (u2 (u2 u 100 2 (nI (σ 0 0))) 100 3 (nI (σ 0 1))) 101 10 (nI (2 ^ σ 0 0 - 1))) (by unfold FU; omega) (by omega) (by simp [u2_ap]) (by simp [u2_ap])
      refine ⟨v', ?_, ?_, e2, e3, fun q a => ?_, fun j a b => ?_⟩
      · show f_M_keepDraft_2b (f_M_keepDraft_2 m) 100 (nI i) (bh u w) = _
        unfold f_M_keepDraft_2b
        rw [show (66 : Int32) = nI 66 from rfl, if_pos ((nI_leI (by omega) (by omega)).mpr (by omega))]
        simp only [hN0, hN1, bd1_q]
        rw [u2_n (show 2 ≠ 3 by decide), u2_at, u2_n (show 11 ≠ 2 by decide), u10, u11, pw_m1 _ a1, show (10 : Int32) = nI 10 from rfl, wr_nI (by decide) (by decide), bd1_s]
        exact e1
      · have w101 : ∀ j, j < 66 → j ≠ 10 → v' 101 j = v 108 j := fun j h1 h2 => by
          rw [e4 101 (by decide), u2_n h2, u2_o (by decide), u2_o (by decide)]; exact hj j (by omega)
        refine ⟨⟨?_, ?_, fun l hl => ?_, fun p hp => ?_⟩, ?_⟩
        · rw [e4 100 (by decide), u2_o (by decide), u2_n (by decide), u2_at]; rfl
        · rw [e4 100 (by decide), u2_o (by decide), u2_at]; rfl
        · have hl : l < σ 0 0 := hl
          have x := e5 l (Nat.zero_le _) hl
          have y := hS.2.1 l hl
          rw [x.1, x.2.1, x.2.2]
          simp [u2_ap]
          rw [hq 109 (by decide), hq 110 (by decide), hq 111 (by decide)]
          exact ⟨y.2.1, y.2.2.1, y.2.2.2.1⟩
        · have hp : p < σ 0 1 := hp
          have x := e7 p hp
          have y := hS.2.2.2.1 p hp
          rw [x.1, x.2]
          simp [u2_ap]
          rw [hq 112 (by decide), hq 113 (by decide)]
          exact ⟨y.2.1, y.2.2.1⟩
        · unfold MB fin
          simp [up2_ap, a3, a4, a6, e]
          refine ⟨fun l hl => ?_, fun l hl => ?_, ?_, ?_, fun p hp => ?_, fun p hp => ?_, fun p hp => ?_, fun p hp => ?_, fun p l hp hl => ?_, ?_, ?_, ?_⟩
          · rw [w101 l (by omega) (by omega)]; exact (hS.2.1 l hl).1
          · rw [w101 _ (by omega) (by omega)]; exact (hS.2.1 l hl).2.2.2.2
          · rw [e4 101 (by decide), u2_at]
          · rw [w101 _ (by omega) (by omega)]; exact hS.1.2.2.2.2
          · rw [w101 _ (by omega) (by omega)]; exact (hS.2.2.2.1 p hp).1
          · rw [w101 _ (by omega) (by omega)]; exact (hS.2.2.2.1 p hp).2.2.2
          · rw [w101 _ (by omega) (by omega)]; exact (hS.2.2.2.2.1 p (by omega)).1
          · rw [w101 _ (by omega) (by omega)]; exact (hS.2.2.2.2.1 p (by omega)).2
          · rw [w101 _ (by omega) (by omega)]; exact hS.2.2.2.2.2 _ (by omega) (by omega)
          · rw [w101 _ (by omega) (by omega)]; exact hS.2.2.2.2.2 _ (by omega) (by omega)
          · rw [w101 _ (by omega) (by omega)]; exact hS.2.2.2.2.2 _ (by omega) (by omega)
          · rw [w101 _ (by omega) (by omega)]; exact hS.2.2.2.2.2 _ (by omega) (by omega)
      · rw [e4 q (by omega), u2_o (by omega), u2_o (by omega), u2_o (by omega)]; exact hq q (by omega)
      · rw [e4 100 (by decide), u2_o (by decide), u2_n b, u2_n a, hq 100 (by decide)]
    | succ n ih =>
      intro fuel i u hf hi hq hj
      obtain ⟨m, rfl⟩ : ∃ m, fuel = m + 1 := ⟨fuel - 1, by omega⟩
      obtain ⟨v', e1, e2⟩ := ih m (i + 1) (u2 u 101 i (u 108 i)) (by omega) (by omega) (fun q a => (u2_o a).trans (hq q a)) (fun j a => by
        by_cases z : j = i
        · rw [z, u2_at, hq 108 (by decide)]
        · rw [u2_n z]; exact hj j (by omega))
      refine ⟨v', ?_, e2⟩
      show f_M_keepDraft_2b (f_M_keepDraft_2 m) 100 (nI i) (bh u w) = _
      unfold f_M_keepDraft_2b
      rw [show (66 : Int32) = nI 66 from rfl, if_neg (fun z => by have := (nI_leI (by omega) (by omega)).mp z; omega)]
      simp only [hN0, hN1, bd1_q]
      rw [rd_nI (by omega) (by decide), bd1_s, wr_nI (by omega) (by decide), bd1_s, nI_1]
      exact e1
  exact key 66 FU 0 v (by decide) (by decide) (fun _ _ => rfl) (fun j hj => by omega)
theorem M_textL : ∀ (n fuel c : Nat) (σ : Rho) (P : Nat) (v : Nat → Nat → Int32), n + 1 < fuel → K.1 ≤ P + n → MT K v → v 100 25 = 0 → MTk K P v → MS σ v → SI σ → ∃ c' v', f_M_text_20 fuel 100 (nI c) (bh v w) = f_M_text_44 100 (nI c') (bh v' w) ∧ FrD v v' ∧ MX (sLines K n σ P c) (fun x v' => c' = x.2 ∧ MS x.1 v' ∧ SI x.1 ∧ v' 100 22 = nI K.1) v' := by
  intro n
  have ends : ∀ (m c : Nat) (P : Nat) (v : Nat → Nat → Int32), kD K P = 0 → v 100 25 = 0 → MTk K P v → f_M_text_20 (m + 1) 100 (nI c) (bh v w) = f_M_text_44 100 (nI c) (bh v w) ∧ v 100 22 = nI K.1 := by
    intro m c P v hz h25 hk
    have s1 := sT_b hk.1
    have s2 := (kc_s (K := K) (s := sT K P)).1.mp hz
    refine ⟨?_, by rw [hk.2.2.1, show sT K P = K.1 by omega]⟩
    show f_M_text_20b (f_M_text_20 m) 100 (nI c) (bh v w) = _
    unfold f_M_text_20b
    simp only [hN0, bd1_q]
    rw [h25, if_pos rfl, hk.2.2.2.1, hz, if_pos (show nI 0 = 0 from rfl)]
  have flt : ∀ (m c : Nat) (f : Fa) (v : Nat → Nat → Int32), FL f v → f_M_text_20 (m + 1) 100 (nI c) (bh v w) = f_M_text_44 100 (nI c) (bh v w) := by
    intro m c f v hF
    have := hF.2.2
    show f_M_text_20b (f_M_text_20 m) 100 (nI c) (bh v w) = _
    unfold f_M_text_20b
    simp only [hN0, bd1_q]
    rw [hF.1, if_neg (nI_ne0 (by omega) (by omega))]
  induction n with
  | zero =>
    intro fuel c σ P v hf hP hT h25 hk hS hI
    obtain ⟨m, rfl⟩ : ∃ m, fuel = m + 1 := ⟨fuel - 1, by omega⟩
    have s1 := sT_b hk.1
    have hz : kD K P = 0 := (kc_s (K := K) (s := sT K P)).1.mpr (by omega)
    obtain ⟨e1, e2⟩ := ends m c P v hz h25 hk
    exact ⟨c, v, e1, FrD.rf v, h25, rfl, hS, hI, e2⟩
  | succ n ih =>
    intro fuel c σ P v hf hP hT h25 hk hS hI
    obtain ⟨m, rfl⟩ : ∃ m, fuel = m + 1 + 1 := ⟨fuel - 2, by omega⟩
    have k4 := (kc_s (K := K) (s := sT K P)).2.2.2.2
    have ek : kD K P = kc K (sT K P) := rfl
    unfold sLines
    by_cases hz : kD K P = 0
    · obtain ⟨e1, e2⟩ := ends (m + 1) c P v hz h25 hk
      rw [if_pos hz]
      exact ⟨c, v, e1, FrD.rf v, h25, rfl, hS, hI, e2⟩
    · rw [if_neg hz]
      obtain ⟨v1, e1, f1, x1⟩ := M_readLine (w := w) hT hk h25 hS hI
      have go : f_M_text_20 (m + 1 + 1) 100 (nI c) (bh v w) = f_M_text_20 (m + 1) 100 (nI (c + 1)) (bh v1 w) := by
        show f_M_text_20b (f_M_text_20 (m + 1)) 100 (nI c) (bh v w) = _
        unfold f_M_text_20b
        simp only [hN0, bd1_q]
        rw [h25, if_pos rfl, hk.2.2.2.1, if_neg (nI_ne0 (by omega) (by omega)), e1, bd1_s, nI_1]
      rw [go]
      clear e1
      cases hX : sLine K σ P with
      | inl f =>
        rw [hX] at x1
        exact ⟨c + 1, v1, flt m (c + 1) f v1 x1, f1, x1⟩
      | inr y =>
        rw [hX, sb_r] at x1
        obtain ⟨yI, yP, yL⟩ := sLine_ok hX hI hk.1
        rw [sb_r]
        cases hY : tokX K y.2 with
        | inl f =>
          rw [hY] at x1
          exact ⟨c + 1, v1, flt m (c + 1) f v1 x1, f1, x1⟩
        | inr u =>
          rw [hY] at x1
          obtain ⟨b25, bk, bS⟩ := x1
          obtain ⟨c', v2, e2, f2, x2⟩ := ih (m + 1) (c + 1) y.1 y.2 v1 (by omega) (by omega) (hT.fD f1) b25 bk bS yI
          exact ⟨c', v2, e2, f1.tr f2, x2⟩
theorem cI_le5 : ∀ m, m ≤ 5 → ∀ h, h ≤ 5 → (nI m ≤ cI h ↔ m + 1 ≤ h) := by decide +kernel
/-- the reference's text() -/
theorem M_text (hT : MT K v) : ∃ r v', f_M_text 100 (bh v w) = some (r, bh v' w) ∧ v' 100 20 = 0 ∧ match sText K with
    | .inl f => (r = ((-10) : Int32) - nI f.2 ∧ v' 100 25 = nI f.1 ∧ f.1 ≤ 6) ∧ (∀ q, q < 100 ∨ 100 < q ∧ q < 108 ∨ 113 < q → v' q = v q) ∧ ∀ j, j < 10 ∨ 26 < j → v' 100 j = v 100 j
    | .inr x => r = nI x.2 ∧ v' 100 25 = 0 ∧ MR (fin x.1) v' ∧ v' 102 0 = 0 ∧ v' 102 1 = 0 ∧ (∀ q, q < 100 ∨ 113 < q → v' q = v q) ∧ ∀ j, 26 < j → v' 100 j = v 100 j := by
  unfold f_M_text f_M_text_0 sText
  simp only [hN0, bd1_q]
  obtain ⟨v1, e1, S1, q1, j1⟩ := M_firstDraft (v := u2 (u2 v 100 25 0) 100 21 0) (w := w)
  rw [e1]
  simp only [hN0, bd1_q]
  have D1 : FrD v v1 := (((FrD.rf v).u (k := 25) (x := 0) (by decide)).u (k := 21) (x := 0) (by decide)).tr ⟨fun q hq => q1 q (by omega) (by omega), fun j hj => j1 j (by omega) (by omega) (by omega) (by omega)⟩
  have a25 : v1 100 25 = 0 := by rw [j1 25 (by decide) (by decide) (by decide) (by decide)]; simp [u2_ap]
  have a21 : v1 100 21 = nI 0 := by rw [j1 21 (by decide) (by decide) (by decide) (by decide)]; simp [u2_ap]; rfl
  have T1 := hT.fD D1
  obtain ⟨v2, e2, f2, x2⟩ := M_next (w := w) T1 a25 a21 (Nat.zero_le _)
  rw [e2, bd1_s]
  clear e1 e2
  have D2 := D1.tr f2.d
  have S2 : MS (fun _ _ => 0) v2 := S1.fN (show 0 ≤ 5 by decide) f2
  have lp : ∃ c' v3, f_M_text_20 FU 100 0 (bh v2 w) = f_M_text_44 100 (nI c') (bh v3 w) ∧ FrD v v3 ∧ MX (sb (tokX K 0) fun _ => sLines K 160 (fun _ _ => 0) 0 0) (fun x v' => c' = x.2 ∧ MS x.1 v' ∧ SI x.1 ∧ v' 100 22 = nI K.1) v3 := by
    cases hX : tokX K 0 with
    | inl f =>
      rw [hX] at x2
      have F : FL f v2 := x2
      have := F.2.2
      refine ⟨0, v2, ?_, D2, F⟩
      show f_M_text_20b (f_M_text_20 599) 100 (nI 0) (bh v2 w) = _
      unfold f_M_text_20b
      simp only [hN0, bd1_q]
      rw [F.1, if_neg (nI_ne0 (by omega) (by omega))]
    | inr u =>
      rw [hX] at x2
      obtain ⟨b25, bk⟩ := x2
      obtain ⟨c', v3, e3, f3, x3⟩ := M_textL (w := w) 160 FU 0 (fun _ _ => 0) 0 v2 (by decide) (by have := hT.2.1; omega) (T1.fN f2) b25 bk S2 SI_0
      exact ⟨c', v3, e3, D2.tr f3, x3⟩
  obtain ⟨c', v3, e3, D3, x3⟩ := lp
  rw [e3]
  rw [show (sb (tokX K 0) fun _ => sb (sLines K 160 (fun _ _ => 0) 0 0) fun x => sEnd K x) = sb (sb (tokX K 0) fun _ => sLines K 160 (fun _ _ => 0) 0 0) fun x => sEnd K x from (sb_as _ _ _).symm]
  generalize (sb (tokX K 0) fun _ => sLines K 160 (fun _ _ => 0) 0 0) = X at x3 ⊢
  have t84 : ∀ (f : Fa) (u : Nat → Nat → Int32), FL f u → FrD v u → ∃ r v', f_M_text_84 100 (nI c') (bh u w) = some (r, bh v' w) ∧ v' 100 20 = 0 ∧ (r = ((-10) : Int32) - nI f.2 ∧ v' 100 25 = nI f.1 ∧ f.1 ≤ 6) ∧ (∀ q, q < 100 ∨ 100 < q ∧ q < 108 ∨ 113 < q → v' q = v q) ∧ ∀ j, j < 10 ∨ 26 < j → v' 100 j = v 100 j := by
    intro f u hF hD
    have := hF.2.2
    unfold f_M_text_84
    simp only [hN0, bd1_q]
    rw [u2_n (show 25 ≠ 20 by decide), u2_n (show 26 ≠ 20 by decide), hF.1, hF.2.1, if_neg (nI_nle (by omega) (by omega))]
    exact ⟨_, _, rfl, u2_at _ _ _ _, ⟨rfl, (u2_n (by decide)).trans hF.1, hF.2.2.2⟩, fun q hq => (u2_o (by omega)).trans (hD.1 q hq), fun j hj => (u2_n (by omega)).trans (hD.2 j (by omega))⟩
  unfold f_M_text_44 f_M_text_78 f_M_text_79
  simp only [hN0, bd1_q]
  cases X with
  | inl f =>
    have F : FL f v3 := x3
    have := F.2.2
    rw [F.1, if_neg (nI_ne0 (by omega) (by omega))]
    exact t84 f v3 F D3
  | inr x =>
    obtain ⟨b25, rfl, bS, bI, b22⟩ := x3
    have h0 := bI.1.1
    have h1 := bI.1.2.1
    have h7 := bI.1.2.2.2.2.2.2.1
    have h8 := bI.1.2.2.2.2.2.2.2
    rw [b25, if_pos rfl, bS.1.2.2.1, bS.1.1, bS.1.2.2.2.1, bS.1.2.1, ite_iff (cI_le5 _ h0 _ h7), ite_iff (cI_le5 _ (by omega) _ (by omega)), sb_r, M_needs0 b25, M_needs1]
    simp only [bd1_q]
    unfold sEnd
    have F : FL (6, K.1) (u2 (u2 v3 100 25 6) 100 26 (v3 100 22)) := ⟨by simp [u2_ap]; rfl, by simp [u2_ap]; exact b22, show 1 ≤ 6 by decide, show 6 ≤ 6 by decide⟩
    have bad := t84 (6, K.1) _ F ((D3.u (by decide)).u (by decide))
    by_cases g1 : x.1 0 0 + 1 ≤ x.1 17 0
    · rw [if_pos g1, if_neg (fun z => by omega)]
      exact bad
    · rw [if_neg g1]
      by_cases g2 : x.1 0 1 + 1 ≤ x.1 17 1
      · rw [if_pos g2, if_neg (fun z => by omega)]
        exact bad
      · rw [if_neg g2, if_pos ⟨by omega, by omega⟩]
        unfold f_M_text_84
        simp only [hN0, bd1_q]
        have S4 : MS x.1 (u2 v3 100 20 0) := bS.put h0 (by unfold rdS; omega)
        obtain ⟨v5, e5, R5, k0, k1, q5, j5⟩ := M_keepDraft (w := w) S4 bI
        rw [u2_n (show 25 ≠ 20 by decide), b25, if_pos (by decide), e5, bd1_s]
        refine ⟨_, v5, rfl, ?_, rfl, ?_, R5, k0, k1, fun q hq => ?_, fun j hj => ?_⟩
        · rw [j5 20 (by decide) (by decide), u2_at]
        · rw [j5 25 (by decide) (by decide), u2_n (by decide)]; exact b25
        · rw [q5 q (by omega), u2_o (by omega)]; exact D3.1 q (by omega)
        · rw [j5 j (by omega) (by omega), u2_n (by omega)]; exact D3.2 j (by omega)
end
end
/-! 8xi.texti.lean.txt -/
section
theorem upX_ap (X : Nat → Nat → Int) (f i : Nat) (x : Int) (g j : Nat) : upX X f i x g j = if g = f ∧ j = i then x else X g j := by
  by_cases h : g = f
  · subst h
    by_cases k : j = i
    · subst k
      rw [upX_at, if_pos ⟨rfl, rfl⟩]
    · rw [upX_n k, if_neg (fun z => k z.2)]
  · rw [upX_f h, if_neg (fun z => h z.1)]
section
variable {S : Sg} {v v1 v2 : Nat → Nat → Int32} {w : Nat → Nat → Int64}
theorem CI_tx {ρ : Rho} {X : Nat → Nat → Int} (h : CI S v) (hq : ∀ q, q ≠ 1 → q ≠ 38 → q < 3 ∨ 37 ≤ q ∧ q < 100 → v2 q = v q) (hR : CR 3 ρ v2) (e0 : X 0 0 = 0) (e2 : v2 1 2 = zI (X 2 0)) (e1 : v2 1 1 = 0) (ek : ∀ k, k < 2 → v2 38 k = zI (X 3 k) ∧ (X 3 k = 1 → S.2.2 3 k = 1)) (e4 : ∀ f, 4 ≤ f → X f = S.2.2 f) : CI (ρ, S.2.1, X) v2 := by
  obtain ⟨h1, h2, h3, h4, h5, h6, h7⟩ := h
  refine ⟨hR, fun k hk => ⟨(ek k hk).1, fun z => ((h2 k hk).2 ((ek k hk).2 z)).frame (fun p _ _ => hq p (by omega) (by omega) (by omega))⟩, ?_, fun j hj => ?_, e2, fun k hk => ?_, ?_⟩
  · show v2 1 1 = zI (X 0 0)
    rw [e1, e0]; rfl
  · have hj : (j : Int) < X 0 0 := hj
    rw [e0] at hj
    omega
  · show v2 (92 + 2 * k) 0 = zI (if X 4 k = -4 then -4 else X 5 k) ∧ (X 4 k ≠ -4 → v2 (92 + 2 * k) 1 = zI (X 4 k)) ∧ ∀ i, i < 40 → v2 (93 + 2 * k) i = zI (X 6 (40 * k + i))
    rw [e4 4 (by omega), e4 5 (by omega), e4 6 (by omega), hq (92 + 2 * k) (by omega) (by omega) (by omega), hq (93 + 2 * k) (by omega) (by omega) (by omega)]
    exact h6 k hk
  · show v2 0 9 = zI (X 7 0) ∧ v2 43 0 = 0
    rw [e4 7 (by omega), hq 0 (by omega) (by omega) (by omega), hq 43 (by omega) (by omega) (by omega)]
    exact h7
theorem MI_tx {ρ : Rho} {X : Nat → Nat → Int} (h : MI S v) (hq : ∀ q, 113 < q → v2 q = v q) (hR : MR ρ v2) (e0 : X 0 0 = 0) (e2 : v2 100 25 = zI (X 2 0)) (e1 : v2 100 20 = 0) (ek : ∀ k, k < 2 → v2 102 k = zI (X 3 k) ∧ (X 3 k = 1 → S.2.2 3 k = 1 ∧ v2 101 = v 101)) (e4 : ∀ f, 4 ≤ f → X f = S.2.2 f) (e38 : v2 100 38 = v 100 38) : MI (ρ, S.2.1, X) v2 := by
  obtain ⟨h1, h2, h3, h4, h5, h6, h7⟩ := h
  refine ⟨hR, fun k hk => ⟨(ek k hk).1, fun z => ((h2 k hk).2 ((ek k hk).2 z).1).frame ((ek k hk).2 z).2⟩, ?_, fun j hj => ?_, e2, fun k hk => ?_, ?_⟩
  · show v2 100 20 = zI (X 0 0)
    rw [e1, e0]; rfl
  · have hj : (j : Int) < X 0 0 := hj
    rw [e0] at hj
    omega
  · show v2 123 k = zI (X 4 k) ∧ v2 124 k = zI (X 5 k) ∧ ∀ i, i < 40 → v2 125 (40 * k + i) = zI (X 6 (40 * k + i))
    rw [e4 4 (by omega), e4 5 (by omega), e4 6 (by omega), hq 123 (by omega), hq 124 (by omega), hq 125 (by omega)]
    exact h6 k hk
  · show v2 100 38 = zI (X 8 0)
    rw [e4 8 (by omega), e38]
    exact h7
theorem E_text (hs : SOK S) (hc : CI S v) (hm : MI S v) : Eqv S v w (f_Q_text 0) (f_M_text 100) := by
  have hs' := hs
  obtain ⟨hR, hK, hL, hB, hF, hSh⟩ := hs'
  obtain ⟨n, hn⟩ : ∃ n : Nat, S.2.2 0 0 = n := ⟨(S.2.2 0 0).toNat, by omega⟩
  have ej : ∀ j : Nat, j < n → zI (S.2.2 1 j) = nI (S.2.2 1 j).toNat ∧ (S.2.2 1 j).toNat ≤ 127 := by
    intro j hj
    have b := hB j (by omega)
    refine ⟨?_, by omega⟩
    rw [← zI_n, Int.toNat_of_nonneg b.1]
  have T : CT (n, fun j => (S.2.2 1 j).toNat) v := ⟨by rw [hc.2.2.1, hn]; exact zI_n n, by show n ≤ 160; omega, fun j hj => ⟨by rw [hc.2.2.2.1 j (by rw [hn]; exact Int.ofNat_lt.mpr hj)]; exact (ej j hj).1, (ej j hj).2⟩⟩
  have TM : MT (n, fun j => (S.2.2 1 j).toNat) v := ⟨by rw [hm.2.2.1, hn]; exact zI_n n, by show n ≤ 160; omega, fun j hj => ⟨by rw [hm.2.2.2.1 j (by rw [hn]; exact Int.ofNat_lt.mpr hj)]; exact (ej j hj).1, (ej j hj).2⟩⟩
  generalize ((n, fun j => (S.2.2 1 j).toNat) : Tp) = K at T TM
  obtain ⟨r, v1, e1, l1, x1⟩ := C_text (w := w) T
  have hi1 : ∀ q, 100 ≤ q → v1 q = v q := by
    intro q hq
    cases hX : sText K with
    | inl f => rw [hX] at x1; exact x1.2.2 q (by omega) (by omega)
    | inr y => rw [hX] at x1; exact x1.2.2.2.2.2.2 q (by omega) (by omega) (by omega)
  have hm1 : MI S v1 := hm.frame hi1
  have TM1 : MT K v1 := TM.fr (by rw [hi1 100 (by omega)]) (hi1 114 (by omega))
  obtain ⟨r', v2, e2, l2, x2⟩ := M_text (w := w) TM1
  cases hX : sText K with
  | inl f =>
    rw [hX] at x1 x2
    obtain ⟨y1, y2, y3⟩ := x1
    obtain ⟨⟨z1, z2, z3⟩, z4, z5⟩ := x2
    rw [z1, ← y1] at e2
    have lo : ∀ q, q ≠ 1 → q < 20 ∨ 37 ≤ q ∧ q < 100 → v2 q = v q := fun q a b => (z4 q (by omega)).trans (y3 q a (by omega))
    refine ⟨r, v1, w, v2, w, (S.1, S.2.1, upX (upX S.2.2 0 0 0) 2 0 (f.1 : Int)), e1, e2, ?_, ?_, ?_⟩
    · refine ⟨hR, fun k hk => ?_, ?_, fun j hj => ?_, ?_, fun k hk => ?_⟩
      · show upX (upX S.2.2 0 0 0) 2 0 (f.1 : Int) 3 k = 0 ∨ upX (upX S.2.2 0 0 0) 2 0 (f.1 : Int) 3 k = 1 ∧ _
        rw [upX_f (by decide), upX_f (by decide)]
        exact hK k hk
      · show 0 ≤ upX (upX S.2.2 0 0 0) 2 0 (f.1 : Int) 0 0 ∧ upX (upX S.2.2 0 0 0) 2 0 (f.1 : Int) 0 0 ≤ 160
        rw [upX_f (by decide), upX_at]
        omega
      · have hj : (j : Int) < upX (upX S.2.2 0 0 0) 2 0 (f.1 : Int) 0 0 := hj
        rw [upX_f (by decide), upX_at] at hj
        omega
      · show 0 ≤ upX (upX S.2.2 0 0 0) 2 0 (f.1 : Int) 2 0 ∧ upX (upX S.2.2 0 0 0) 2 0 (f.1 : Int) 2 0 ≤ 6
        rw [upX_at]
        omega
      · show (upX (upX S.2.2 0 0 0) 2 0 (f.1 : Int) 4 k = -4 ∨ 0 ≤ upX (upX S.2.2 0 0 0) 2 0 (f.1 : Int) 4 k ∧ upX (upX S.2.2 0 0 0) 2 0 (f.1 : Int) 4 k ≤ 2) ∧ 0 ≤ upX (upX S.2.2 0 0 0) 2 0 (f.1 : Int) 5 k ∧ upX (upX S.2.2 0 0 0) 2 0 (f.1 : Int) 5 k ≤ 40
        rw [upX_f (show 4 ≠ 2 by decide), upX_f (show 4 ≠ 0 by decide), upX_f (show 5 ≠ 2 by decide), upX_f (show 5 ≠ 0 by decide)]
        exact hSh k hk
    · refine CI_tx hc (fun q a b c => lo q a (by omega)) (hc.1.frame (fun p a b => lo p (by omega) (by omega))) ?_ ?_ ?_ (fun k hk => ?_) (fun g hg => ?_)
      · rw [upX_f (by decide), upX_at]
      · rw [upX_at, z4 1 (by decide), y2, zI_n]
      · rw [z4 1 (by decide)]; exact l1
      · rw [upX_f (show 3 ≠ 2 by decide), upX_f (show 3 ≠ 0 by decide), lo 38 (by decide) (by decide)]
        exact ⟨(hc.2.1 k hk).1, fun z => z⟩
      · rw [upX_f (by omega), upX_f (by omega)]
    · have hf : MR S.1 v2 := by
        have hr := hm1.1
        unfold MR MF MB at hr ⊢
        rw [z5 2 (by decide), z5 3 (by decide), z4 101 (by decide), z4 103 (by decide), z4 104 (by decide), z4 105 (by decide), z4 106 (by decide), z4 107 (by decide)]
        exact hr
      refine MI_tx hm1 (fun q a => z4 q (by omega)) hf ?_ ?_ l2 (fun k hk => ?_) (fun g hg => ?_) (z5 38 (by decide))
      · rw [upX_f (by decide), upX_at]
      · rw [upX_at, z2, zI_n]
      · rw [upX_f (show 3 ≠ 2 by decide), upX_f (show 3 ≠ 0 by decide), z4 102 (by decide)]
        exact ⟨(hm1.2.1 k hk).1, fun z => ⟨z, z4 101 (by decide)⟩⟩
      · rw [upX_f (by omega), upX_f (by omega)]
  | inr y =>
    rw [hX] at x1 x2
    obtain ⟨y1, y2, y3, y4, y5, ⟨yI, ya, yb⟩, y6⟩ := x1
    obtain ⟨z1, z2, z3, z4, z5, z6, z7⟩ := x2
    rw [z1, ← y1] at e2
    have lo : ∀ q, q ≠ 1 → q ≠ 38 → q < 3 ∨ 37 ≤ q ∧ q < 100 → v2 q = v q := fun q a b c => (z6 q (by omega)).trans (y6 q a b (by omega))
    have xk : ∀ k, k < 2 → upX (upX (upX (upX S.2.2 0 0 0) 2 0 0) 3 0 0) 3 1 0 3 k = 0 := by
      intro k hk
      rcases (show k = 0 ∨ k = 1 by omega) with rfl | rfl
      · rw [upX_n (by decide), upX_at]
      · rw [upX_at]
    refine ⟨r, v1, w, v2, w, (fin y.1, S.2.1, upX (upX (upX (upX S.2.2 0 0 0) 2 0 0) 3 0 0) 3 1 0), e1, e2, ?_, ?_, ?_⟩
    · refine ⟨ROK_fin yI ya yb, fun k hk => Or.inl (xk k hk), ?_, fun j hj => ?_, ?_, fun k hk => ?_⟩
      · show 0 ≤ upX (upX (upX (upX S.2.2 0 0 0) 2 0 0) 3 0 0) 3 1 0 0 0 ∧ upX (upX (upX (upX S.2.2 0 0 0) 2 0 0) 3 0 0) 3 1 0 0 0 ≤ 160
        rw [upX_f (by decide), upX_f (by decide), upX_f (by decide), upX_at]
        omega
      · have hj : (j : Int) < upX (upX (upX (upX S.2.2 0 0 0) 2 0 0) 3 0 0) 3 1 0 0 0 := hj
        rw [upX_f (by decide), upX_f (by decide), upX_f (by decide), upX_at] at hj
        omega
      · show 0 ≤ upX (upX (upX (upX S.2.2 0 0 0) 2 0 0) 3 0 0) 3 1 0 2 0 ∧ upX (upX (upX (upX S.2.2 0 0 0) 2 0 0) 3 0 0) 3 1 0 2 0 ≤ 6
        rw [upX_f (by decide), upX_f (by decide), upX_at]
        omega
      · show (upX (upX (upX (upX S.2.2 0 0 0) 2 0 0) 3 0 0) 3 1 0 4 k = -4 ∨ 0 ≤ upX (upX (upX (upX S.2.2 0 0 0) 2 0 0) 3 0 0) 3 1 0 4 k ∧ upX (upX (upX (upX S.2.2 0 0 0) 2 0 0) 3 0 0) 3 1 0 4 k ≤ 2) ∧ 0 ≤ upX (upX (upX (upX S.2.2 0 0 0) 2 0 0) 3 0 0) 3 1 0 5 k ∧ upX (upX (upX (upX S.2.2 0 0 0) 2 0 0) 3 0 0) 3 1 0 5 k ≤ 40
        simp only [upX_ap]
        simp
        have := hSh k hk
        simpa using this
    · refine CI_tx hc (fun q a b c => lo q a b (by omega)) (y3.frame (fun p a b => z6 p (by omega))) ?_ ?_ ?_ (fun k hk => ?_) (fun g hg => ?_)
      · rw [upX_f (by decide), upX_f (by decide), upX_f (by decide), upX_at]
      · rw [upX_f (by decide), upX_f (by decide), upX_at, z6 1 (by decide), y2]; rfl
      · rw [z6 1 (by decide)]; exact l1
      · rw [xk k hk, z6 38 (by decide)]
        refine ⟨?_, fun z => absurd z (by decide)⟩
        rcases (show k = 0 ∨ k = 1 by omega) with rfl | rfl
        · rw [y4]; rfl
        · rw [y5]; rfl
      · rw [upX_f (by omega), upX_f (by omega), upX_f (by omega), upX_f (by omega)]
    · refine MI_tx hm1 (fun q a => z6 q (by omega)) z3 ?_ ?_ l2 (fun k hk => ?_) (fun g hg => ?_) (z7 38 (by decide))
      · rw [upX_f (by decide), upX_f (by decide), upX_f (by decide), upX_at]
      · rw [upX_f (by decide), upX_f (by decide), upX_at, z2]; rfl
      · rw [xk k hk]
        refine ⟨?_, fun z => absurd z (by decide)⟩
        rcases (show k = 0 ∨ k = 1 by omega) with rfl | rfl
        · rw [z4]; rfl
        · rw [z5]; rfl
      · rw [upX_f (by omega), upX_f (by omega), upX_f (by omega), upX_f (by omega)]
end
end
