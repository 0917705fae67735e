/-! together: both come to an end -/
section
variable {ρ : Rho} {v : Nat → Nat → Int32} {w : Nat → Nat → Int64}
theorem C_togL (hr : CR 3 ρ v) (hk : ROK ρ) (h : pH (ρ 0 0) (sNeed ρ) (rR ρ) (rL ρ (ρ 6)) v) (x : Int32) : ∀ (n fuel s b : Nat), n < fuel → s + n = ρ 0 4 + 1 → b < 32 → ∃ r, f_Q_together_26 fuel 0 x (nI b) (nI s) (bh v w) = some (r, bh v w) := by
  have hst := hk.st
  have e4 : v 3 4 = nI (ρ 0 4) := hr.1.2.2.2.2.1
  intro n
  induction n with
  | zero =>
    intro fuel s b hf hs hb
    obtain ⟨m, rfl⟩ : ∃ m, fuel = m + 1 := ⟨fuel - 1, by omega⟩
    show ∃ r, f_Q_together_26b (f_Q_together_26 m) 0 x (nI b) (nI s) (bh v w) = some (r, bh v w)
    unfold f_Q_together_26b
    simp only [hP0, bd1_q]
    rw [e4, if_pos ((nI_ltI (by omega) (by omega)).mpr (by omega)), bitCount_I b hb, bd2_s]
    split
    · exact ⟨_, rfl⟩
    · exact ⟨_, rfl⟩
  | succ n ih =>
    intro fuel s b hf hs hb
    obtain ⟨m, rfl⟩ : ∃ m, fuel = m + 1 := ⟨fuel - 1, by omega⟩
    obtain ⟨r1, g1⟩ := ih m (s + 1) b (by omega) (by omega) hb
    obtain ⟨r2, g2⟩ := ih m (s + 1) s (by omega) (by omega) (by omega)
    obtain ⟨r3, g3, -⟩ := C_canMeet (w := w) (s := s) h (by omega)
    show ∃ r, f_Q_together_26b (f_Q_together_26 m) 0 x (nI b) (nI s) (bh v w) = some (r, bh v w)
    unfold f_Q_together_26b f_Q_together_53 f_Q_together_87
    simp only [hP0, bd1_q]
    rw [e4, if_neg (fun z => by have := (nI_ltI (by omega) (by omega)).mp z; omega), bitCount_I s (by omega), bd2_s, bitCount_I b hb, bd2_s, nI_1]
    split
    · rw [if_pos trivial]; exact ⟨r1, g1⟩
    · rw [if_neg (by decide)]
      simp only [hP0, bd1_q]
      rw [e4, Q_isPart2 (by omega) hst, bd2_s]
      by_cases c : s &&& (31 - ρ 0 4) = 0
      · rw [if_pos c, if_neg (by decide)]
        simp only [hP0, bd1_q]
        rw [g3, bd2_s]
        by_cases d : r3 = 0
        · rw [if_pos d]; exact ⟨r1, g1⟩
        · rw [if_neg d]; exact ⟨r2, g2⟩
      · rw [if_neg c, if_pos rfl]; exact ⟨r1, g1⟩
theorem C_together (hr : CR 3 ρ v) (hk : ROK ρ) (h43 : v 43 0 = 0) (x : Int32) : ∃ r v', f_Q_together 0 x (bh v w) = some (r, bh v' w) ∧ pFr v v' ∧ v' 43 0 = 0 := by
  unfold f_Q_together f_Q_together_0
  rw [Q_isWithin, bd2_s]
  by_cases c : (0 : Int32).toInt ≤ x.toInt ∧ x.toInt ≤ (1 : Int32).toInt
  · rw [if_pos c, if_neg (by decide)]
    simp only [hP0, bd1_q]
    obtain ⟨v1, e1, i1, f1⟩ := C_load (w := w) hr hk h43
    obtain ⟨r, e2⟩ := C_togL (w := w) (hr.fp f1) hk (pI_pH hk i1) x (ρ 0 4 + 1) FU 0 0 (by have := hk.st; unfold FU; omega) (by omega) (by decide)
    have e2 : f_Q_together_26 FU 0 x 0 0 (bh v1 w) = some (r, bh v1 w) := e2
    rw [e1, bd1_s, e2]
    exact ⟨r, v1, rfl, f1, i1.2.2.2.1 0 (Nat.zero_le _) (Or.inl (Nat.zero_le _))⟩
  · rw [if_neg c, if_pos rfl]
    exact ⟨-1, v, rfl, fun _ _ => rfl, h43⟩
theorem M_togL (hk : ROK ρ) (x : Int32) : ∀ (n fuel s : Nat) (b c : Int32) (v : Nat → Nat → Int32), n < fuel → s + n = 2 ^ ρ 0 0 → MR ρ v → ∃ r v', f_M_together_19 fuel 100 x b c (nI s) (bh v w) = some (r, bh v' w) ∧ ∀ q, q < 115 ∨ 117 < q → v' q = v q := by
  have h0 := hk.1.1
  have hst := hk.st
  have hpw : 2 ^ ρ 0 0 ≤ 32 := Nat.le_trans (Nat.pow_le_pow_right (by decide) h0) (by decide)
  have ht5 : ∀ q, q < ρ 0 1 → ρ 6 q ≤ 5 := fun q hq => (hk.2.2.1 q hq).1
  intro n
  induction n with
  | zero =>
    intro fuel s b c v hf hs hr
    obtain ⟨m, rfl⟩ : ∃ m, fuel = m + 1 := ⟨fuel - 1, by omega⟩
    show ∃ r v', f_M_together_19b (f_M_together_19 m) 100 x b c (nI s) (bh v w) = some (r, bh v' w) ∧ _
    unfold f_M_together_19b
    simp only [hN0, bd1_q]
    rw [hr.1.1, shl_I (by omega), if_pos ((nI_leI (by omega) (by omega)).mpr (by omega))]
    split
    · exact ⟨_, v, rfl, fun _ _ => rfl⟩
    · exact ⟨_, v, rfl, fun _ _ => rfl⟩
  | succ n ih =>
    intro fuel s b c v hf hs hr
    obtain ⟨m, rfl⟩ : ∃ m, fuel = m + 1 := ⟨fuel - 1, by omega⟩
    obtain ⟨v2, e2, B2, f2⟩ := M_startsRota (w := w) (s := s) (MRt_of hr) hk (fun q hq => Nat.le_trans (ht5 q hq) (by decide)) (by omega)
    obtain ⟨v3, e3, -, f3⟩ := M_findRota (w := w) hk (Nat.lt_of_le_of_lt (rL_le hk ht5 0) (by decide)) (Nat.lt_of_le_of_lt (rL_le hk ht5 1) (by decide)) (Nat.lt_of_le_of_lt (rL_le hk ht5 2) (by decide)) B2
    have R2 : MR ρ v2 := B2.1
    have R3 : MR ρ v3 := B2.1.frame (fun q h => f3 q (by omega))
    have fr2 : ∀ q, q < 115 ∨ 117 < q → v2 q = v q := fun q h => f2 q (by omega) (by omega)
    have fr3 : ∀ q, q < 115 ∨ 117 < q → v3 q = v q := fun q h => (f3 q (by omega)).trans (fr2 q h)
    have nx2 : ∀ b c : Int32, ∃ r v', f_M_together_19 m 100 x b c (nI (s + 1)) (bh v2 w) = some (r, bh v' w) ∧ ∀ q, q < 115 ∨ 117 < q → v' q = v q := fun b c => by
      obtain ⟨r, v', g1, g2⟩ := ih m (s + 1) b c v2 (by omega) (by omega) R2
      exact ⟨r, v', g1, fun q h => (g2 q h).trans (fr2 q h)⟩
    have nx3 : ∀ b c : Int32, ∃ r v', f_M_together_19 m 100 x b c (nI (s + 1)) (bh v3 w) = some (r, bh v' w) ∧ ∀ q, q < 115 ∨ 117 < q → v' q = v q := fun b c => by
      obtain ⟨r, v', g1, g2⟩ := ih m (s + 1) b c v3 (by omega) (by omega) R3
      exact ⟨r, v', g1, fun q h => (g2 q h).trans (fr3 q h)⟩
    show ∃ r v', f_M_together_19b (f_M_together_19 m) 100 x b c (nI s) (bh v w) = some (r, bh v' w) ∧ _
    unfold f_M_together_19b f_M_together_73 f_M_together_74 f_M_together_87 f_M_together_102
    simp only [hN0, bd1_q]
    rw [hr.1.1, shl_I (by omega), if_neg (fun z => by have := (nI_leI (by omega) (by omega)).mp z; omega), e2]
    simp only [hN0, hV0, bd1_q]
    rw [show (10 : Int32) = nI 10 from rfl, rd_nI (by decide) (by decide), bd1_s, nI_1, M_bitsOf (by omega), bd2_s]
    split
    · split
      · rw [if_pos trivial, if_pos trivial]; exact nx2 _ _
      · simp only [hN0, bd1_q]
        rw [e3, bd2_s]
        split
        · rw [if_pos trivial, if_pos trivial]; exact nx3 _ _
        · rw [if_neg (by decide), if_neg (by decide), M_bitsOf (by omega), bd2_s]; exact nx3 _ _
    · rw [if_pos trivial, if_pos trivial]; exact nx2 _ _
theorem M_together (hr : MR ρ v) (hk : ROK ρ) (x : Int32) : ∃ r v', f_M_together 100 x (bh v w) = some (r, bh v' w) ∧ ∀ q, q < 115 ∨ 117 < q → v' q = v q := by
  have hpw : 2 ^ ρ 0 0 ≤ 32 := Nat.le_trans (Nat.pow_le_pow_right (by decide) hk.1.1) (by decide)
  unfold f_M_together f_M_together_0
  rw [M_in, bd2_s]
  by_cases c : (0 : Int64) ≤ x.toInt64 ∧ x.toInt64 ≤ (1 : Int64)
  · rw [if_pos c, if_neg (by decide)]
    obtain ⟨r, v', e1, f1⟩ := M_togL (w := w) hk x (2 ^ ρ 0 0) FU 0 (-1) 0 v (by unfold FU; omega) (by omega) hr
    have e1 : f_M_together_19 FU 100 x (-1) 0 0 (bh v w) = some (r, bh v' w) := e1
    exact ⟨r, v', e1, f1⟩
  · rw [if_neg c, if_pos rfl]
    exact ⟨-1, v, rfl, fun _ _ => rfl⟩
end
section
variable {S : Sg} {v : Nat → Nat → Int32} {w : Nat → Nat → Int64}
/-- both come to an end; the planner of the class, the tables of the reference may change -/
theorem FiT.pl {α : Type} {fq fm : mH → Option (α × mH)} {r r' : α} {v1 v2 : Nat → Nat → Int32} {w1 w2 : Nat → Nat → Int64} (hs : SOK S) (hc : CI S v) (hm : MI S v) (h1 : fq (bh v w) = some (r, bh v1 w1)) (f1 : pFr v v1 ∨ ∀ q, q < 40 ∨ 58 ≤ q → v1 q = v q) (a43 : v1 43 0 = 0) (h2 : fm (bh v1 w1) = some (r', bh v2 w2)) (f2 : ∀ q, q < 115 ∨ 122 < q → v2 q = v1 q) : FiT S v w fq fm := by
  have g1 : ∀ q, q < 40 ∨ 58 ≤ q → v1 q = v q := by
    rcases f1 with f1 | f1
    · exact fun q hq => f1 q (by omega)
    · exact f1
  have e : v2 100 = v 100 := (f2 100 (by omega)).trans (g1 100 (by omega))
  refine ⟨r, r', v1, w1, v2, w2, S, h1, h2, hs, hc.fr0 (fun p hp => (f2 p (by unfold pC0 at hp; omega)).trans (g1 p (by unfold pC0 at hp; omega))) (by rw [f2 43 (by omega)]; exact a43), hm.fr (fun p hp => (f2 p (by unfold pM at hp; omega)).trans (g1 p (by unfold pM at hp; omega))) ?_⟩
  rw [e]
  exact ⟨rfl, rfl, rfl, rfl, rfl⟩
theorem MR.fr1 {ρ : Rho} {v1 : Nat → Nat → Int32} (h : MR ρ v) (f : ∀ q, 100 ≤ q ∧ q < 108 → v1 q = v q) : MR ρ v1 := MRt.frame (T := ρ 6) h f
theorem Fi_together (x : Int32) (hs : SOK S) (hc : CI S v) (hm : MI S v) : FiT S v w (f_Q_together 0 x) (f_M_together 100 x) := by
  obtain ⟨r, v1, e1, f1, a1⟩ := C_together (w := w) hc.1 hs.1 hc.2.2.2.2.2.2.2 x
  obtain ⟨r', v2, e2, f2⟩ := M_together (w := w) (hm.1.fr1 (fun q h => f1 q (by omega))) hs.1 x
  exact FiT.pl hs hc hm e1 (Or.inl f1) a1 e2 (fun q h => f2 q (by omega))
theorem Fi_more (x : Int32) (hs : SOK S) (hc : CI S v) (hm : MI S v) : FiT S v w (f_Q_more 0 x) (f_M_more 100 x) := by
  have h2 := hs.1.1.2.1
  by_cases hp : 0 ≤ x.toInt ∧ x.toInt < (S.1 0 1 : Int)
  · obtain ⟨p, hp2, rfl⟩ := ix (by omega) hp
    obtain ⟨r, v1, e1, f1, a1, -⟩ := C_more (w := w) hc.1 hs.1 hc.2.2.2.2.2.2.2 hp2
    obtain ⟨r', v2, e2, f2, -⟩ := M_more (w := w) (hm.1.fr1 (fun q h => f1 q (by omega))) hs.1 hp2
    exact FiT.pl hs hc hm e1 (Or.inl f1) a1 e2 (fun q h => f2 q (by omega))
  · refine EqT.fi (EqT.q (r := -1) (v1 := v) (v2 := v) (w1 := w) (w2 := w) hs hc hm ?_ (fun _ _ => rfl) ?_ (fun _ _ => rfl))
    · unfold f_Q_more f_Q_more_0
      simp only [hP0, bd1_q]
      rw [C_hasOne rl3 hc.1 h2, bd2_s, if_neg hp, if_pos rfl]
    · unfold f_M_more f_M_more_0
      simp only [hN0, bd1_q]
      rw [M_isOne hm.1.1 h2, bd2_s, if_neg hp, if_pos rfl]
end
