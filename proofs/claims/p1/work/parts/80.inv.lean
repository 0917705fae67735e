/-! what ties the class to the reference at the law's loop. S: the realm, the images, the rest (0 how long THE TAPE is, 1 its bytes, 2 the FAULT of the latest text, 3 which images are kept, 4 lanes (-4: nothing), 5 sizes, 6 cells, 7 the FAULT of the latest read as the class has it, 8 as the reference has it) -/
abbrev Sg : Type := Rho × (Nat → Rho) × (Nat → Nat → Int)
def SAME (ρ σ : Rho) : Prop := σ 0 0 = ρ 0 0 ∧ σ 0 1 = ρ 0 1 ∧ σ 2 = ρ 2 ∧ σ 3 = ρ 3 ∧ σ 4 = ρ 4 ∧ σ 7 = ρ 7 ∧ σ 8 = ρ 8
def SOK (S : Sg) : Prop :=
  ROK S.1 ∧ (∀ k, k < 2 → S.2.2 3 k = 0 ∨ S.2.2 3 k = 1 ∧ ROK (S.2.1 k) ∧ SAME S.1 (S.2.1 k)) ∧ (0 ≤ S.2.2 0 0 ∧ S.2.2 0 0 ≤ 160) ∧ (∀ j : Nat, (j : Int) < S.2.2 0 0 → 0 ≤ S.2.2 1 j ∧ S.2.2 1 j ≤ 127) ∧ (0 ≤ S.2.2 2 0 ∧ S.2.2 2 0 ≤ 6) ∧
  (∀ k, k < 4 → (S.2.2 4 k = -4 ∨ 0 ≤ S.2.2 4 k ∧ S.2.2 4 k ≤ 2) ∧ 0 ≤ S.2.2 5 k ∧ S.2.2 5 k ≤ 40)
def MI (S : Sg) (v : Nat → Nat → Int32) : Prop :=
  MR S.1 v ∧ (∀ k, k < 2 → v 102 k = zI (S.2.2 3 k) ∧ (S.2.2 3 k = 1 → MB 101 (66 * (k + 1)) (S.2.1 k) v)) ∧ v 100 20 = zI (S.2.2 0 0) ∧ (∀ j : Nat, (j : Int) < S.2.2 0 0 → v 114 j = zI (S.2.2 1 j)) ∧ v 100 25 = zI (S.2.2 2 0) ∧
  (∀ k, k < 4 → v 123 k = zI (S.2.2 4 k) ∧ v 124 k = zI (S.2.2 5 k) ∧ ∀ i, i < 40 → v 125 (40 * k + i) = zI (S.2.2 6 (40 * k + i))) ∧ v 100 38 = zI (S.2.2 8 0)
def CI (S : Sg) (v : Nat → Nat → Int32) : Prop :=
  CR 3 S.1 v ∧ (∀ k, k < 2 → v 38 k = zI (S.2.2 3 k) ∧ (S.2.2 3 k = 1 → CR (58 + 17 * k) (S.2.1 k) v)) ∧ v 1 1 = zI (S.2.2 0 0) ∧ (∀ j : Nat, (j : Int) < S.2.2 0 0 → v 2 j = zI (S.2.2 1 j)) ∧ v 1 2 = zI (S.2.2 2 0) ∧
  (∀ k, k < 4 → v (92 + 2 * k) 0 = zI (if S.2.2 4 k = -4 then -4 else S.2.2 5 k) ∧ (S.2.2 4 k ≠ -4 → v (92 + 2 * k) 1 = zI (S.2.2 4 k)) ∧ ∀ i, i < 40 → v (93 + 2 * k) i = zI (S.2.2 6 (40 * k + i))) ∧ v 0 9 = zI (S.2.2 7 0) ∧ v 43 0 = 0
theorem CR.frame {o : Nat} {ρ : Rho} {v v' : Nat → Nat → Int32} (h : CR o ρ v) (hv : ∀ p, o ≤ p → p < o + 17 → v' p = v p) : CR o ρ v' := by
  unfold CR
  rw [hv o (by omega) (by omega), hv (o + 1) (by omega) (by omega), hv (o + 2) (by omega) (by omega), hv (o + 3) (by omega) (by omega), hv (o + 4) (by omega) (by omega), hv (o + 5) (by omega) (by omega), hv (o + 6) (by omega) (by omega), hv (o + 7) (by omega) (by omega), hv (o + 8) (by omega) (by omega), hv (o + 9) (by omega) (by omega), hv (o + 10) (by omega) (by omega), hv (o + 11) (by omega) (by omega), hv (o + 12) (by omega) (by omega), hv (o + 13) (by omega) (by omega), hv (o + 14) (by omega) (by omega), hv (o + 15) (by omega) (by omega), hv (o + 16) (by omega) (by omega)]
  exact h
theorem CI.frame {S : Sg} {v v' : Nat → Nat → Int32} (h : CI S v) (hv : ∀ p, p < 100 → v' p = v p) : CI S v' := by
  obtain ⟨h1, h2, h3, h4, h5, h6, h7⟩ := h
  unfold CI
  rw [hv 38 (by omega), hv 1 (by omega), hv 2 (by omega), hv 0 (by omega), hv 43 (by omega)]
  refine ⟨h1.frame (fun p _ _ => hv p (by omega)), fun k hk => ⟨(h2 k hk).1, fun z => ((h2 k hk).2 z).frame (fun p _ _ => hv p (by omega))⟩, h3, h4, h5, fun k hk => ?_, h7⟩
  rw [hv (92 + 2 * k) (by omega), hv (93 + 2 * k) (by omega)]
  exact h6 k hk
theorem MB.frame {q k : Nat} {ρ : Rho} {v v' : Nat → Nat → Int32} (h : MB q k ρ v) (hv : v' q = v q) : MB q k ρ v' := by
  unfold MB
  rw [hv]
  exact h
theorem MI.frame {S : Sg} {v v' : Nat → Nat → Int32} (h : MI S v) (hv : ∀ p, 100 ≤ p → v' p = v p) : MI S v' := by
  obtain ⟨⟨h1, h1b⟩, h2, h3, h4, h5, h6, h7⟩ := h
  unfold MI MR MF
  rw [hv 102 (by omega), hv 100 (by omega), hv 114 (by omega), hv 123 (by omega), hv 124 (by omega), hv 125 (by omega), hv 103 (by omega), hv 104 (by omega), hv 105 (by omega), hv 106 (by omega), hv 107 (by omega)]
  exact ⟨⟨h1, h1b.frame (hv 101 (by omega))⟩, fun k hk => ⟨(h2 k hk).1, fun z => ((h2 k hk).2 z).frame (hv 101 (by omega))⟩, h3, h4, h5, h6, h7⟩
/-- class and reference answer alike, and go on alike -/
def Eqv (S : Sg) (v : Nat → Nat → Int32) (w : Nat → Nat → Int64) (fq fm : mH → Option (Int32 × mH)) : Prop :=
  ∃ (r : Int32) (v1 : Nat → Nat → Int32) (w1 : Nat → Nat → Int64) (v2 : Nat → Nat → Int32) (w2 : Nat → Nat → Int64) (S' : Sg), fq (bh v w) = some (r, bh v1 w1) ∧ fm (bh v1 w1) = some (r, bh v2 w2) ∧ SOK S' ∧ CI S' v2 ∧ MI S' v2
theorem ix {x : Int32} {n : Nat} (hn : n < 2 ^ 31) (h : 0 ≤ x.toInt ∧ x.toInt < n) : ∃ j, j < n ∧ x = nI j := vp_in_of (vp_in_iff.mpr h) hn
section
variable {S S' : Sg} {v : Nat → Nat → Int32} {w : Nat → Nat → Int64}
theorem Eqv.query {fq fm : mH → Option (Int32 × mH)} {r : Int32} (hs : SOK S) (hc : CI S v) (hm : MI S v) (h1 : fq (bh v w) = some (r, bh v w)) (h2 : fm (bh v w) = some (r, bh v w)) : Eqv S v w fq fm := ⟨r, v, w, v, w, S, h1, h2, hs, hc, hm⟩
theorem Eqv.change {fq fm : mH → Option (Int32 × mH)} {r : Int32} {v1 : Nat → Nat → Int32} {w1 : Nat → Nat → Int64} (hm : MI S v) (h1 : fq (bh v w) = some (r, bh v1 w1)) (f1 : ∀ p, 100 ≤ p → v1 p = v p) (hs : SOK S') (hc : CI S' v1) (h2 : ∀ w1, MI S v1 → ∃ v2 w2, fm (bh v1 w1) = some (r, bh v2 w2) ∧ (∀ p, p < 100 → v2 p = v1 p) ∧ MI S' v2) : Eqv S v w fq fm := by
  obtain ⟨v2, w2, e, f2, hm2⟩ := h2 w1 (hm.frame f1)
  exact ⟨r, v1, w1, v2, w2, S', h1, e, hs, hc.frame f2, hm2⟩
theorem rl3 : rl 3 := Or.inl rfl
theorem q_now (v : Nat → Nat → Int32) (w : Nat → Nat → Int64) : gR (bh v w) 0 0 1 = some 3 := rfl
theorem q_rd (v : Nat → Nat → Int32) (w : Nat → Nat → Int64) : gR (bh v w) 0 0 0 = some 1 := rfl
theorem E_fault (hs : SOK S) (hc : CI S v) (hm : MI S v) : Eqv S v w (f_Q_fault 0) (f_M_fault 100) := by
  refine Eqv.query (r := zI (S.2.2 2 0)) hs hc hm ?_ ?_
  · simp only [f_Q_fault, f_Q_fault_0, hQ v w, bd1_s]
    rw [hc.2.2.2.2.1]
  · simp only [f_M_fault, f_M_fault_0, hM v w, bd1_s]
    rw [hm.2.2.2.2.1]
theorem E_torn (hs : SOK S) (hc : CI S v) (hm : MI S v) (ht : S.2.2 8 0 = S.2.2 7 0) : Eqv S v w (f_Q_torn 0) (f_M_torn 100) := by
  refine Eqv.query (r := zI (S.2.2 7 0)) hs hc hm ?_ ?_
  · simp only [f_Q_torn, f_Q_torn_0, hQ v w, bd1_s]
    rw [hc.2.2.2.2.2.2.1]
  · simp only [f_M_torn, f_M_torn_0, hM v w, bd1_s]
    rw [hm.2.2.2.2.2.2, ht]
theorem E_falls (hs : SOK S) (hc : CI S v) (hm : MI S v) : Eqv S v w (f_Q_falls 0) (f_M_falls 100) := by
  refine Eqv.query (r := nI (sFalls S.1)) hs hc hm ?_ ?_
  · simp only [f_Q_falls, f_Q_falls_0, q_now, hRl rl3 v w, bd1_s]
    rw [C_lapsing rl3 hc.1 hs.1, bd2_s]
  · simp only [f_M_falls, f_M_falls_0, hM v w, bd1_s]
    rw [M_fallsNow hm.1 hs.1, bd2_s]
theorem E_rule (x : Int32) (hs : SOK S) (hc : CI S v) (hm : MI S v) : Eqv S v w (f_Q_rule 0 x) (f_M_rule 100 x) := by
  refine Eqv.query (r := if x = 0 then v 3 0 else if x = 1 then v 3 1 else if x = 2 then v 3 2 else if x = 3 then v 3 3 else if x = 4 then v 3 4 else if x = 5 then v 3 5 else -1) hs hc hm ?_ ?_
  · simp only [f_Q_rule, f_Q_rule_0, q_now, hRl rl3 v w, bd1_s]
    repeat' split
    all_goals rfl
  · simp only [f_M_rule, f_M_rule_0, hM v w, bd1_s]
    have c1 := hc.1.1
    have m1 := hm.1.1
    have m2 := hm.1.2
    have e2 : rd (v 101) 198 (39 : Int32) = some (v 3 2) := by rw [c1.2.2.1, ← m2.2.2.2.2.2.2.2.2.2.1]; rfl
    have e3 : rd (v 101) 198 (40 : Int32) = some (v 3 3) := by rw [c1.2.2.2.1, ← m2.2.2.2.2.2.2.2.2.2.2.1]; rfl
    have e4 : rd (v 101) 198 (10 : Int32) = some (v 3 4) := by rw [c1.2.2.2.2.1, ← m2.2.2.1]; rfl
    have e5 : rd (v 101) 198 (11 : Int32) = some (v 3 5) := by rw [c1.2.2.2.2.2.1, ← m2.2.2.2.1]; rfl
    rw [e2, e3, e4, e5, m1.1, m1.2.1, c1.1, c1.2.1]
    simp only [bd1_s]
    repeat' split
    all_goals rfl
theorem E_broken (x y : Int32) (hs : SOK S) (hc : CI S v) (hm : MI S v) : Eqv S v w (f_Q_broken 0 x y) (f_M_broken 100 x y) := by
  have h1 := hs.1.1.1
  have h2 := hs.1.1.2.1
  by_cases hp : 0 ≤ x.toInt ∧ x.toInt < (S.1 0 1 : Int)
  · obtain ⟨p, hp2, rfl⟩ := ix (by omega) hp
    by_cases hl : 0 ≤ y.toInt ∧ y.toInt < (S.1 0 0 : Int)
    · obtain ⟨l, hl2, rfl⟩ := ix (by omega) hl
      refine Eqv.query (r := nI (S.1 12 (5 * p + l))) hs hc hm ?_ ?_
      · simp only [f_Q_broken, f_Q_broken_0, f_Realm_hasBoth, f_Realm_hasBoth_0, f_Realm_hasBoth_20, q_now, hRl rl3 v w, bd1_s]
        rw [C_hasOne rl3 hc.1 h2, bd2_s, if_pos hp, if_neg (by decide)]
        simp only [hRl rl3 v w, bd1_s]
        rw [C_hasLaw rl3 hc.1 h1, bd2_s, if_pos hl, if_neg (by decide), bd2_s, if_neg (by decide)]
        simp only [q_now, hRl rl3 v w, bd1_s]
        rw [C_brokenBy rl3 hc.1 hs.1 hp2 hl2, bd2_s]
      · simp only [f_M_broken, f_M_broken_0, hM v w, bd1_s]
        rw [M_isOne hm.1.1 h2, bd2_s, if_pos hp, if_neg (by decide)]
        simp only [hM v w, bd1_s]
        rw [M_isLaw hm.1.1 h1, bd2_s, if_pos hl, if_neg (by decide)]
        simp only [hM v w, bd1_s]
        rw [M_brokenBy hm.1.2 hs.1 hp2 hl2, bd2_s]
    · refine Eqv.query (r := -1) hs hc hm ?_ ?_
      · simp only [f_Q_broken, f_Q_broken_0, f_Realm_hasBoth, f_Realm_hasBoth_0, f_Realm_hasBoth_20, q_now, hRl rl3 v w, bd1_s]
        rw [C_hasOne rl3 hc.1 h2, bd2_s, if_pos hp, if_neg (by decide)]
        simp only [hRl rl3 v w, bd1_s]
        rw [C_hasLaw rl3 hc.1 h1, bd2_s, if_neg hl, if_pos rfl, bd2_s, if_pos rfl]
      · simp only [f_M_broken, f_M_broken_0, f_M_broken_25, hM v w, bd1_s]
        rw [M_isOne hm.1.1 h2, bd2_s, if_pos hp, if_neg (by decide)]
        simp only [hM v w, bd1_s]
        rw [M_isLaw hm.1.1 h1, bd2_s, if_neg hl, if_pos rfl]
  · refine Eqv.query (r := -1) hs hc hm ?_ ?_
    · simp only [f_Q_broken, f_Q_broken_0, f_Realm_hasBoth, f_Realm_hasBoth_0, f_Realm_hasBoth_20, q_now, hRl rl3 v w, bd1_s]
      rw [C_hasOne rl3 hc.1 h2, bd2_s, if_neg hp, if_pos rfl, bd2_s, if_pos rfl]
    · simp only [f_M_broken, f_M_broken_0, f_M_broken_25, hM v w, bd1_s]
      rw [M_isOne hm.1.1 h2, bd2_s, if_neg hp, if_pos rfl]
end
