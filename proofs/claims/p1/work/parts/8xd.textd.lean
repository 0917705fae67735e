section
variable {K : Tp} {σ : Rho} {v v' : Nat → Nat → Int32} {w : Nat → Nat → Int64} {P : Nat}
theorem MS.put {o k : Nat} {x : Int32} (h : MS σ v) (h0 : σ 0 0 ≤ 5) (hn : ¬ rdS σ o k) : MS σ (u2 v o k x) := h.of h0 (fun q j hr => by rw [u2_ap, if_neg (fun z => hn (by rw [← z.1, ← z.2]; exact hr))])
theorem MS_addL {q c h f m : Nat} (hS : MS σ v) (hl : σ 0 0 < 5) (a1 : v 108 (σ 0 0) = nI q) (a2 : v 109 (σ 0 0) = nI c) (a3 : v 110 (σ 0 0) = nI h) (a4 : v 111 (σ 0 0) = nI f) (b1 : v' 100 10 = nI (σ 0 0 + 1)) (b2 : v' 100 17 = cI (max (σ 17 0) m)) (b3 : v' 108 (5 + σ 0 0) = cI m) (e0 : v' 100 11 = v 100 11) (e1 : v' 100 18 = v 100 18) (e2 : ∀ j, j ≠ 5 + σ 0 0 → v' 108 j = v 108 j) (e3 : ∀ q, 109 ≤ q → q ≤ 113 → v' q = v q) : MS (addL σ q c h f m) v' := by
  obtain ⟨⟨s1, s2, s3, s4, s5⟩, b, c', d, g, k⟩ := hS
  unfold MS addL
  simp [up2_ap]
  rw [e3 109 (by decide) (by decide), e3 110 (by decide) (by decide), e3 111 (by decide) (by decide), e3 112 (by decide) (by decide), e3 113 (by decide) (by decide)]
  refine ⟨⟨b1, e0.trans s2, b2, e1.trans s4, (e2 11 (by omega)).trans s5⟩, fun l hl2 => ?_, fun l h1 h2 => (e2 _ (by omega)).trans (c' l (by omega) h2), fun p hp => ?_, fun p hp => ?_, fun j h1 h2 => (e2 j (by omega)).trans (k j h1 h2)⟩
  · by_cases z : l = σ 0 0
    · subst z
      simp
      exact ⟨(e2 _ (by omega)).trans a1, a2, a3, a4, b3⟩
    · have := b l (by omega)
      simp [z]
      exact ⟨(e2 _ (by omega)).trans this.1, this.2.1, this.2.2.1, this.2.2.2.1, (e2 _ (by omega)).trans this.2.2.2.2⟩
  · have := d p hp
    exact ⟨(e2 _ (by omega)).trans this.1, this.2.1, this.2.2.1, (e2 _ (by omega)).trans this.2.2.2⟩
  · have := g p hp
    exact ⟨(e2 _ (by omega)).trans this.1, (e2 _ (by omega)).trans this.2⟩
theorem MS_addO {t c n u R h : Nat} (hS : MS σ v) (h0 : σ 0 0 ≤ 5) (hl : σ 0 1 < 3) (a1 : v 108 (12 + σ 0 1) = nI t) (a2 : v 112 (σ 0 1) = nI c) (a3 : v 113 (σ 0 1) = nI n) (a4 : v 108 (15 + σ 0 1) = nI u) (b1 : v' 100 11 = nI (σ 0 1 + 1)) (b2 : v' 100 17 = cI h) (b3 : v' 108 (18 + σ 0 1) = nI R) (e0 : v' 100 10 = v 100 10) (e1 : v' 100 18 = v 100 18) (e2 : ∀ j, j ≠ 18 + σ 0 1 → v' 108 j = v 108 j) (e3 : ∀ q, 109 ≤ q → q ≤ 113 → v' q = v q) : MS (addO σ t c n u R h) v' := by
  obtain ⟨⟨s1, s2, s3, s4, s5⟩, b, c', d, g, k⟩ := hS
  unfold MS addO
  simp [up2_ap]
  rw [e3 109 (by decide) (by decide), e3 110 (by decide) (by decide), e3 111 (by decide) (by decide), e3 112 (by decide) (by decide), e3 113 (by decide) (by decide)]
  refine ⟨⟨e0.trans s1, b1, b2, e1.trans s4, (e2 11 (by omega)).trans s5⟩, fun l hl2 => ?_, fun l h1 h2 => (e2 _ (by omega)).trans (c' l (by omega) h2), fun p hp => ?_, fun p hp => ?_, fun j h1 h2 => (e2 j (by omega)).trans (k j h1 h2)⟩
  · have := b l (by omega)
    exact ⟨(e2 _ (by omega)).trans this.1, this.2.1, this.2.2.1, this.2.2.2.1, (e2 _ (by omega)).trans this.2.2.2.2⟩
  · by_cases z : p = σ 0 1
    · subst z
      simp
      exact ⟨(e2 _ (by omega)).trans a1, a2, a3, (e2 _ (by omega)).trans a4⟩
    · have := d p (by omega)
      simp [z]
      exact ⟨(e2 _ (by omega)).trans this.1, this.2.1, this.2.2.1, (e2 _ (by omega)).trans this.2.2.2⟩
  · have := g p hp
    by_cases z : p = σ 0 1
    · subst z
      simp
      exact ⟨b3, (e2 _ (by omega)).trans this.2⟩
    · simp [z]
      exact ⟨(e2 _ (by omega)).trans this.1, (e2 _ (by omega)).trans this.2⟩
theorem pw_inj : ∀ a, a < 5 → ∀ b, b < 5 → nI (2 ^ a) = nI (2 ^ b) → a = b := by decide +kernel
theorem M_car {l : Nat} (hl : l < 5) (b2 : Int32) : ∀ (n fuel m : Nat) (v : Nat → Nat → Int32), n < fuel → m + n = 5 → ∃ v', f_M_readLaw_89 fuel 100 (nI l) b2 (nI m) (bh v w) = some (bh v' w) ∧ (∀ q, q ≠ 100 → q ≠ 108 → v' q = v q) ∧ (∀ j, j ≠ 10 → v' 100 j = v 100 j) ∧ v' 100 10 = v 100 10 + 1 ∧ (∀ j, j ≠ 5 + l → v' 108 j = v 108 j) ∧ (∀ k, m ≤ k → k < 5 → b2 = nI (2 ^ k) → v' 108 (5 + l) = nI k) ∧ ((∀ k, m ≤ k → k < 5 → b2 ≠ nI (2 ^ k)) → v' 108 (5 + l) = v 108 (5 + l)) := by
  intro n
  induction n with
  | zero =>
    intro fuel m v hf hm
    obtain ⟨n', rfl⟩ : ∃ n', fuel = n' + 1 := ⟨fuel - 1, by omega⟩
    show ∃ v', f_M_readLaw_89b (f_M_readLaw_89 n') 100 (nI l) b2 (nI m) (bh v w) = _ ∧ _
    unfold f_M_readLaw_89b f_M_readLaw_127
    rw [show (5 : Int32) = nI 5 from rfl, if_pos ((nI_leI (by omega) (by omega)).mpr (by omega))]
    simp only [hN0, bd1_q]
    exact ⟨_, rfl, fun q h1 h2 => u2_o h1, fun j hj => u2_n hj, u2_at _ _ _ _, fun j hj => congrFun (u2_o (by decide)) j, fun k h1 h2 => by omega, fun _ => congrFun (u2_o (by decide)) _⟩
  | succ n ih =>
    intro fuel m v hf hm
    obtain ⟨n', rfl⟩ : ∃ n', fuel = n' + 1 := ⟨fuel - 1, by omega⟩
    have go : ∀ x : Int32, (b2 = nI (2 ^ m) → x = nI m) → (b2 ≠ nI (2 ^ m) → x = v 108 (5 + l)) → ∃ v', f_M_readLaw_89 n' 100 (nI l) b2 (nI (m + 1)) (bh (u2 v 108 (5 + l) x) w) = some (bh v' w) ∧ (∀ q, q ≠ 100 → q ≠ 108 → v' q = v q) ∧ (∀ j, j ≠ 10 → v' 100 j = v 100 j) ∧ v' 100 10 = v 100 10 + 1 ∧ (∀ j, j ≠ 5 + l → v' 108 j = v 108 j) ∧ (∀ k, m ≤ k → k < 5 → b2 = nI (2 ^ k) → v' 108 (5 + l) = nI k) ∧ ((∀ k, m ≤ k → k < 5 → b2 ≠ nI (2 ^ k)) → v' 108 (5 + l) = v 108 (5 + l)) := by
      intro x hx1 hx2
      obtain ⟨v', e1, e2, e3, e4, e5, e6, e7⟩ := ih n' (m + 1) (u2 v 108 (5 + l) x) (by omega) (by omega)
      refine ⟨v', e1, fun q h1 h2 => (e2 q h1 h2).trans (u2_o h2), fun j hj => (e3 j hj).trans (congrFun (u2_o (by decide)) j), e4.trans (by rw [u2_o (by decide)]), fun j hj => (e5 j hj).trans (u2_n hj), fun k h1 h2 h3 => ?_, fun h => ?_⟩
      · by_cases z : k = m
        · subst z
          rw [e7 (fun k' q1 q2 q3 => by have := pw_inj k (by omega) k' q2 (h3.symm.trans q3); omega), u2_at]
          exact hx1 h3
        · exact e6 k (by omega) h2 h3
      · rw [e7 (fun k' q1 q2 => h k' (by omega) q2), u2_at]
        exact hx2 (h m (Nat.le_refl _) (by omega))
    show ∃ v', f_M_readLaw_89b (f_M_readLaw_89 n') 100 (nI l) b2 (nI m) (bh v w) = _ ∧ _
    unfold f_M_readLaw_89b f_M_readLaw_120
    rw [show (5 : Int32) = nI 5 from rfl, if_neg (fun z => by have := (nI_leI (by omega) (by omega)).mp z; omega)]
    simp only [hN0, bd1_q]
    rw [shl_I (by omega), nI_add, nI_1]
    by_cases c : b2 = nI (2 ^ m)
    · rw [if_pos c, wr_nI (by omega) (by decide), bd1_s]
      exact go _ (fun _ => rfl) (fun z => absurd c z)
    · rw [if_neg c, rd_nI (by omega) (by decide), bd1_s, wr_nI (by omega) (by decide), bd1_s]
      exact go _ (fun z => absurd z c) (fun _ => rfl)
abbrev Y4 : Type := (((Unit × Nat) × Nat) × Nat) × Nat
def sCr (K : Tp) (σ : Rho) (y : Y4 × Nat) : Fa ⊕ (Rho × Nat) := if kD K y.2 = 2 then sb (chkB K 0 4 y.2) fun m => if m = σ 0 0 then .inl (4, sT K y.2) else sb (tokX K (eN K y.2)) fun _ => .inr (addL σ y.1.1.1.1.2 y.1.1.1.2 y.1.1.2 y.1.2 (m + 1), eN K y.2) else .inr (addL σ y.1.1.1.1.2 y.1.1.1.2 y.1.1.2 y.1.2 0, y.2)
theorem bit_pw : ∀ l, l < 5 → ∀ m, m ≤ 4 → (bit (2 ^ l) m = 1 ↔ m = l) := by decide +kernel
theorem car_I : ∀ l, l < 5 → ∀ m, m ≤ 4 → m ≠ l → nI (2 ^ l ||| 2 ^ m) &&& (nI (2 ^ l) ^^^ ((-1) : Int32)) = nI (2 ^ m) := by decide +kernel
theorem pw5 : ∀ l, l < 5 → 2 ^ l < 32 := by decide
theorem M_readLaw (hT : MT K v) (hk : MTk K P v) (h25 : v 100 25 = 0) (hS : MS σ v) (hI : SI σ) (hl : σ 0 0 < 5) : ∃ v', f_M_readLaw 100 (bh v w) = some (bh v' w) ∧ FrD v v' ∧ MX (sb (sNw K 0 9 (sNw K 0 9 (sNw K 1 3 (sNw K 0 9 (.inr ((), P)))))) fun y => sCr K σ y) (fun z v' => MTk K z.2 v' ∧ MS z.1 v') v' := by
  have h0 : σ 0 0 ≤ 5 := by omega
  unfold f_M_readLaw f_M_readLaw_0
  simp only [hN0, bd1_q]
  rw [hS.1.1]
  have hX0 : MX ((.inr ((), P)) : Fa ⊕ (Unit × Nat)) (fun y v => MTk K y.2 v ∧ MS σ v) v := ⟨h25, hk, hS⟩
  have T0 := hT
  have D0 := FrD.rf v
  obtain ⟨r1, v1, e1, f1, hX1⟩ := M_nw (α := Unit) (w := w) (lo := 0) (hi := 9) (A := fun a v => MS σ v) (B := fun a v => MS σ v ∧ v 108 (σ 0 0) = nI a.2) 108 (σ 0 0) T0 hX0 (by decide) (by decide) (by decide) (fun a n v' g hs => by
    have s : MS σ v := hs
    exact ⟨(s.fN h0 g).put h0 (by unfold rdS; omega), u2_at _ _ _ _⟩)
  have e1 : f_M_readNumber 100 (0 : Int32) (9 : Int32) (bh (v) w) = some (r1, bh v1 w) := e1
  rw [e1, bd2_s]
  simp only [hN0, bd1_q]
  rw [show (0 : Int32) + nI (σ 0 0) = nI (σ 0 0) from Int32.zero_add _, wr_nI (by omega) (by decide), bd1_s]
  have D1 := (D0.tr f1.d).w (o := 108) (k := σ 0 0) (x := r1) (by omega)
  have T1 := hT.fD D1
  clear e1
  simp only [hN0, bd1_q]
  obtain ⟨r2, v2, e2, f2, hX2⟩ := M_nw (α := Unit × Nat) (w := w) (lo := 1) (hi := 3) (A := fun a v => MS σ v ∧ v 108 (σ 0 0) = nI a.2) (B := fun a v => MS σ v ∧ v 108 (σ 0 0) = nI a.1.2 ∧ v 109 (σ 0 0) = nI a.2) 109 (σ 0 0) T1 hX1 (by decide) (by decide) (by decide) (fun a n v' g hs => by
    obtain ⟨s, z1⟩ := hs
    exact ⟨(s.fN h0 g).put h0 (by unfold rdS; omega), (u2_ap _ _ _ _ _ _).trans ((if_neg (by omega)).trans ((congrFun (g.1 108 (by decide)) _).trans z1)), u2_at _ _ _ _⟩)
  have e2 : f_M_readNumber 100 (1 : Int32) (3 : Int32) (bh (u2 v1 108 (σ 0 0) r1) w) = some (r2, bh v2 w) := e2
  rw [e2, bd2_s]
  simp only [hN0, bd1_q]
  rw [wr_nI (by omega) (by decide), bd1_s]
  have D2 := (D1.tr f2.d).w (o := 109) (k := σ 0 0) (x := r2) (by omega)
  have T2 := hT.fD D2
  clear e2
  simp only [hN0, bd1_q]
  obtain ⟨r3, v3, e3, f3, hX3⟩ := M_nw (α := (Unit × Nat) × Nat) (w := w) (lo := 0) (hi := 9) (A := fun a v => MS σ v ∧ v 108 (σ 0 0) = nI a.1.2 ∧ v 109 (σ 0 0) = nI a.2) (B := fun a v => MS σ v ∧ v 108 (σ 0 0) = nI a.1.1.2 ∧ v 109 (σ 0 0) = nI a.1.2 ∧ v 110 (σ 0 0) = nI a.2) 110 (σ 0 0) T2 hX2 (by decide) (by decide) (by decide) (fun a n v' g hs => by
    obtain ⟨s, z1, z2⟩ := hs
    exact ⟨(s.fN h0 g).put h0 (by unfold rdS; omega), (u2_ap _ _ _ _ _ _).trans ((if_neg (by omega)).trans ((congrFun (g.1 108 (by decide)) _).trans z1)), (u2_ap _ _ _ _ _ _).trans ((if_neg (by omega)).trans ((congrFun (g.1 109 (by decide)) _).trans z2)), u2_at _ _ _ _⟩)
  have e3 : f_M_readNumber 100 (0 : Int32) (9 : Int32) (bh (u2 v2 109 (σ 0 0) r2) w) = some (r3, bh v3 w) := e3
  rw [e3, bd2_s]
  simp only [hN0, bd1_q]
  rw [wr_nI (by omega) (by decide), bd1_s]
  have D3 := (D2.tr f3.d).w (o := 110) (k := σ 0 0) (x := r3) (by omega)
  have T3 := hT.fD D3
  clear e3
  simp only [hN0, bd1_q]
  obtain ⟨r4, v4, e4, f4, hX4⟩ := M_nw (α := ((Unit × Nat) × Nat) × Nat) (w := w) (lo := 0) (hi := 9) (A := fun a v => MS σ v ∧ v 108 (σ 0 0) = nI a.1.1.2 ∧ v 109 (σ 0 0) = nI a.1.2 ∧ v 110 (σ 0 0) = nI a.2) (B := fun a v => MS σ v ∧ v 108 (σ 0 0) = nI a.1.1.1.2 ∧ v 109 (σ 0 0) = nI a.1.1.2 ∧ v 110 (σ 0 0) = nI a.1.2 ∧ v 111 (σ 0 0) = nI a.2) 111 (σ 0 0) T3 hX3 (by decide) (by decide) (by decide) (fun a n v' g hs => by
    obtain ⟨s, z1, z2, z3⟩ := hs
    exact ⟨(s.fN h0 g).put h0 (by unfold rdS; omega), (u2_ap _ _ _ _ _ _).trans ((if_neg (by omega)).trans ((congrFun (g.1 108 (by decide)) _).trans z1)), (u2_ap _ _ _ _ _ _).trans ((if_neg (by omega)).trans ((congrFun (g.1 109 (by decide)) _).trans z2)), (u2_ap _ _ _ _ _ _).trans ((if_neg (by omega)).trans ((congrFun (g.1 110 (by decide)) _).trans z3)), u2_at _ _ _ _⟩)
  have e4 : f_M_readNumber 100 (0 : Int32) (9 : Int32) (bh (u2 v3 110 (σ 0 0) r3) w) = some (r4, bh v4 w) := e4
  rw [e4, bd2_s]
  simp only [hN0, bd1_q]
  rw [wr_nI (by omega) (by decide), bd1_s]
  have D4 := (D3.tr f4.d).w (o := 111) (k := σ 0 0) (x := r4) (by omega)
  have T4 := hT.fD D4
  clear e4
  simp only [hN0, bd1_q]
  generalize hv5 : u2 v4 111 (σ 0 0) r4 = v5 at hX4 D4 T4 ⊢
  generalize sNw K 0 9 (sNw K 0 9 (sNw K 1 3 (sNw K 0 9 ((.inr ((), P)) : Fa ⊕ (Unit × Nat))))) = X4 at hX4 ⊢
  cases X4 with
  | inl f =>
    have F : FL f v5 := hX4
    have := F.2.2
    rw [F.1, if_neg (nI_ne0 (by omega) (by omega))]
    unfold f_M_readLaw_127
    simp only [hN0, bd1_q]
    exact ⟨_, rfl, D4.u (by decide), F.u (by decide) (by decide)⟩
  | inr y =>
    obtain ⟨b25, bk, bS, z1, z2, z3, z4⟩ := hX4
    have k4 := (kc_s (K := K) (s := sT K y.2)).2.2.2.2
    have ek : kD K y.2 = kc K (sT K y.2) := rfl
    rw [b25, if_pos rfl, bk.2.2.2.1, show (2 : Int32) = nI 2 from rfl, ite_iff (nI_eqI (by omega) (by omega)), sb_r]
    unfold sCr
    by_cases c : kD K y.2 = 2
    · rw [if_pos c, if_pos c, shl_I (by omega)]
      obtain ⟨r6, v6, e6, q6, j6, x6⟩ := M_rlo (w := w) (R := 2 ^ σ 0 0) T4 bk b25 (pw5 _ hl) bS.1.2.2.1 hI.1.2.2.2.2.2.2.1
      rw [e6, bd2_s]
      obtain ⟨v7, e7, q7, j7, a10, j8, m7, -⟩ := M_car (w := w) hl (r6 &&& (nI (2 ^ σ 0 0) ^^^ ((-1) : Int32))) 5 FU 0 v6 (by decide) (by decide)
      have e7 : f_M_readLaw_89 FU 100 (nI (σ 0 0)) (r6 &&& (nI (2 ^ σ 0 0) ^^^ ((-1) : Int32))) (0 : Int32) (bh v6 w) = some (bh v7 w) := e7
      rw [e7]
      have D7 : FrD v v7 := D4.tr ⟨fun q hq => (q7 q (by omega) (by omega)).trans (q6 q (by omega)), fun j hj => (j7 j (by omega)).trans (j6 j (by omega) (by omega))⟩
      refine ⟨v7, rfl, D7, ?_⟩
      clear e6 e7
      unfold sLx chk at x6
      rw [if_pos c] at x6
      cases hc : chkB K 0 4 y.2 with
      | inl f =>
        rw [hc] at x6
        exact ⟨(j7 25 (by decide)).trans x6.1, (j7 26 (by decide)).trans x6.2.1, x6.2.2⟩
      | inr m =>
        rw [hc, sb_r] at x6
        have hm := (chkB_inr hc).2
        rw [sb_r]
        by_cases g : m = σ 0 0
        · rw [if_pos ((bit_pw _ hl m hm).mpr g)] at x6
          rw [if_pos g]
          exact ⟨(j7 25 (by decide)).trans x6.1, (j7 26 (by decide)).trans x6.2.1, x6.2.2⟩
        · rw [if_neg (fun z => g ((bit_pw _ hl m hm).mp z))] at x6
          rw [if_neg g]
          cases hx : tokX K (eN K y.2) with
          | inl f =>
            rw [hx] at x6
            exact ⟨(j7 25 (by decide)).trans x6.1, (j7 26 (by decide)).trans x6.2.1, x6.2.2⟩
          | inr u =>
            rw [hx] at x6
            obtain ⟨c25, cr, c17, -, ck⟩ := x6
            refine ⟨(j7 25 (by decide)).trans c25, ck.of (fun j hj => j7 j (by omega)), ?_⟩
            refine MS_addL bS hl z1 z2 z3 z4 ?_ ((j7 17 (by decide)).trans c17) ?_ ((j7 11 (by decide)).trans (j6 11 (by decide) (by decide))) ((j7 18 (by decide)).trans (j6 18 (by decide) (by decide))) (fun j hj => (j8 j hj).trans (congrFun (q6 108 (by decide)) j)) (fun q h1 h2 => (q7 q (by omega) (by omega)).trans (q6 q (by omega)))
            · rw [a10, j6 10 (by decide) (by decide), bS.1.1, nI_1]
            · exact m7 m (Nat.zero_le _) (by omega) (by rw [cr]; exact car_I _ hl m hm g)
    · rw [if_neg c, if_neg c]
      unfold f_M_readLaw_127
      simp only [hN0, bd1_q]
      refine ⟨_, rfl, D4.u (by decide), (u2_n (by decide)).trans b25, bk.u (by decide), ?_⟩
      refine MS_addL bS hl z1 z2 z3 z4 ?_ ?_ ?_ (u2_n (by decide)) (u2_n (by decide)) (fun j _ => congrFun (u2_o (by decide)) j) (fun q h1 h2 => u2_o (by omega))
      · rw [u2_at, bS.1.1, nI_1]
      · rw [u2_n (by decide), bS.1.2.2.1, show max (σ 17 0) 0 = σ 17 0 by omega]
      · rw [u2_o (by decide)]; exact bS.2.2.1 _ (Nat.le_refl _) hl
end
