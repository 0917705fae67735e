/-! together: which set is found -/
def tgP (ρ : Rho) (t : Nat) : Prop := t &&& (31 - ρ 0 4) = 0 ∧ cM (ρ 0 0) (sNeed ρ) (rR ρ) (rL ρ (ρ 6)) t
/-- the first of the largest below s -/
def tgR (P : Nat → Prop) (s b : Nat) : Prop := (b = 0 ∨ b < s ∧ P b) ∧ (∀ t, t < s → P t → sumN (bit t) 5 ≤ sumN (bit b) 5) ∧ ∀ t, t < b → P t → sumN (bit t) 5 < sumN (bit b) 5
section
variable {P : Nat → Prop} {s b c : Nat}
theorem tgR_0 : tgR P 0 0 := ⟨Or.inl rfl, fun t h => (Nat.not_lt_zero t h).elim, fun t h => (Nat.not_lt_zero t h).elim⟩
theorem tgR_new (h : tgR P s b) (hl : sumN (bit b) 5 < sumN (bit s) 5) (hp : P s) : tgR P (s + 1) s := by
  refine ⟨Or.inr ⟨Nat.lt_succ_self s, hp⟩, fun t ht pt => ?_, fun t ht pt => ?_⟩
  · by_cases z : t = s
    · rw [z]; exact Nat.le_refl _
    · have := h.2.1 t (by omega) pt
      omega
  · have := h.2.1 t ht pt
    omega
theorem tgR_old (h : tgR P s b) (hn : sumN (bit s) 5 ≤ sumN (bit b) 5 ∨ ¬ P s) : tgR P (s + 1) b := by
  refine ⟨?_, fun t ht pt => ?_, h.2.2⟩
  · rcases h.1 with a | a
    · exact Or.inl a
    · exact Or.inr ⟨by omega, a.2⟩
  · by_cases z : t = s
    · rcases hn with q | q
      · rw [z]; exact q
      · rw [z] at pt; exact (q pt).elim
    · exact h.2.1 t (by omega) pt
theorem tgR_up (h : tgR P s b) (hn : ∀ t, s ≤ t → t < c → ¬ P t) (hc : s ≤ c) : tgR P c b := by
  refine ⟨?_, fun t ht pt => ?_, h.2.2⟩
  · rcases h.1 with a | a
    · exact Or.inl a
    · exact Or.inr ⟨by omega, a.2⟩
  · by_cases z : t < s
    · exact h.2.1 t z pt
    · exact (hn t (by omega) ht pt).elim
theorem tgR_one (h0 : P 0) (hs : 0 < s) (h : tgR P s b) (g : tgR P s c) : b = c := by
  have key : ∀ b c, tgR P s b → tgR P s c → b < c → False := by
    intro b c h g l
    have pb : P b := by
      rcases h.1 with a | a
      · rw [a]; exact h0
      · exact a.2
    have pc : P c := by
      rcases g.1 with a | a
      · omega
      · exact a.2
    have cs : c < s := by
      rcases g.1 with a | a
      · omega
      · exact a.1
    have x := g.2.2 b l pb
    have y := h.2.1 c cs pc
    omega
  rcases Nat.lt_trichotomy b c with l | l | l
  · exact (key b c h g l).elim
  · exact l
  · exact (key c b g h l).elim
end
section
variable {ρ : Rho} {v : Nat → Nat → Int32} {w : Nat → Nat → Int64}
def tgA (x : Int32) (b : Nat) : Int32 := if x = 0 then nI (sumN (bit b) 5) else nI b
theorem C_togX (hr : CR 3 ρ v) (hk : ROK ρ) (h : pH (ρ 0 0) (sNeed ρ) (rR ρ) (rL ρ (ρ 6)) v) (x : Int32) : ∀ (n fuel s b : Nat), n < fuel → s + n = ρ 0 4 + 1 → b < 32 → tgR (tgP ρ) s b → ∃ b', b' < 32 ∧ tgR (tgP ρ) (ρ 0 4 + 1) b' ∧ f_Q_together_26 fuel 0 x (nI b) (nI s) (bh v w) = some (tgA x b', bh v w) := by
  have hst := hk.st
  have e4 : v 3 4 = nI (ρ 0 4) := hr.1.2.2.2.2.1
  intro n
  induction n with
  | zero =>
    intro fuel s b hf hs hb ht
    obtain ⟨m, rfl⟩ : ∃ m, fuel = m + 1 := ⟨fuel - 1, by omega⟩
    refine ⟨b, hb, by rw [← hs]; exact ht, ?_⟩
    show f_Q_together_26b (f_Q_together_26 m) 0 x (nI b) (nI s) (bh v w) = _
    unfold f_Q_together_26b tgA
    simp only [hP0, bd1_q]
    rw [e4, if_pos ((nI_ltI (by omega) (by omega)).mpr (by omega)), bitCount_I b hb, bd2_s]
    split <;> rfl
  | succ n ih =>
    intro fuel s b hf hs hb ht
    obtain ⟨m, rfl⟩ : ∃ m, fuel = m + 1 := ⟨fuel - 1, by omega⟩
    obtain ⟨r3, g3, hr3⟩ := C_canMeet (w := w) (s := s) h (by omega)
    have sb := sumbit_le s
    have bb := sumbit_le b
    have old : (sumN (bit s) 5 ≤ sumN (bit b) 5 ∨ ¬ tgP ρ s) → ∃ b', b' < 32 ∧ tgR (tgP ρ) (ρ 0 4 + 1) b' ∧ f_Q_together_26 m 0 x (nI b) (nI (s + 1)) (bh v w) = some (tgA x b', bh v w) := fun q => ih m (s + 1) b (by omega) (by omega) hb (tgR_old ht q)
    have go : f_Q_together_26 (m + 1) 0 x (nI b) (nI s) (bh v w) = if sumN (bit s) 5 ≤ sumN (bit b) 5 then f_Q_together_26 m 0 x (nI b) (nI (s + 1)) (bh v w) else if s &&& (31 - ρ 0 4) = 0 then (if r3 = 0 then f_Q_together_26 m 0 x (nI b) (nI (s + 1)) (bh v w) else f_Q_together_26 m 0 x (nI s) (nI (s + 1)) (bh v w)) else f_Q_together_26 m 0 x (nI b) (nI (s + 1)) (bh v w) := by
      show f_Q_together_26b (f_Q_together_26 m) 0 x (nI b) (nI s) (bh v w) = _
      unfold f_Q_together_26b f_Q_together_53 f_Q_together_87
      simp only [hP0, bd1_q]
      rw [e4, if_neg (fun z => by have := (nI_ltI (by omega) (by omega)).mp z; omega), bitCount_I s (by omega), bd2_s, bitCount_I b hb, bd2_s, nI_1, ite_iff (nI_leI (by omega) (by omega))]
      by_cases d : sumN (bit s) 5 ≤ sumN (bit b) 5
      · rw [if_pos d, if_pos d, if_pos trivial]
      · rw [if_neg d, if_neg d, if_neg (by decide)]
        simp only [hP0, bd1_q]
        rw [e4, Q_isPart2 (by omega) hst, bd2_s]
        by_cases c : s &&& (31 - ρ 0 4) = 0
        · rw [if_pos c, if_neg (by decide), if_pos c]
          simp only [hP0, bd1_q]
          rw [g3, bd2_s]
        · rw [if_neg c, if_pos rfl, if_neg c]
    rw [go]
    by_cases d : sumN (bit s) 5 ≤ sumN (bit b) 5
    · rw [if_pos d]; exact old (Or.inl d)
    · rw [if_neg d]
      by_cases c : s &&& (31 - ρ 0 4) = 0
      · rw [if_pos c]
        rcases hr3 with ⟨a1, a2⟩ | ⟨a1, a2⟩
        · rw [a1, if_neg (by decide)]
          exact ih m (s + 1) s (by omega) (by omega) (by omega) (tgR_new ht (by omega) ⟨c, a2⟩)
        · rw [a1, if_pos rfl]
          exact old (Or.inr (fun q => a2 q.2))
      · rw [if_neg c]; exact old (Or.inr (fun q => c q.1))
theorem M_togX (hk : ROK ρ) (x : Int32) : ∀ (n fuel s b : Nat) (c : Int32) (v : Nat → Nat → Int32), n < fuel → s + n = 2 ^ ρ 0 0 → b < 32 → MR ρ v → tgR (tgP ρ) s b → (s = 0 ∧ b = 0 ∧ c = -1 ∨ 0 < s ∧ c = nI (sumN (bit b) 5)) → ∃ b' v', b' < 32 ∧ tgR (tgP ρ) (2 ^ ρ 0 0) b' ∧ f_M_together_19 fuel 100 x c (nI b) (nI s) (bh v w) = some (tgA x b', bh v' w) ∧ ∀ q, q < 115 ∨ 117 < q → v' q = v q := by
  have h0 := hk.1.1
  have hst := hk.st
  have hpw : 2 ^ ρ 0 0 ≤ 32 := Nat.le_trans (Nat.pow_le_pow_right (by decide) h0) (by decide)
  have hpp : 0 < 2 ^ ρ 0 0 := Nat.pow_pos (by decide)
  have ht5 : ∀ q, q < ρ 0 1 → ρ 6 q ≤ 5 := fun q hq => (hk.2.2.1 q hq).1
  intro n
  induction n with
  | zero =>
    intro fuel s b c v hf hs hb hr ht hc
    obtain ⟨m, rfl⟩ : ∃ m, fuel = m + 1 := ⟨fuel - 1, by omega⟩
    have hc : c = nI (sumN (bit b) 5) := by
      rcases hc with q | q
      · omega
      · exact q.2
    refine ⟨b, v, hb, by rw [← hs]; exact ht, ?_, fun _ _ => rfl⟩
    show f_M_together_19b (f_M_together_19 m) 100 x c (nI b) (nI s) (bh v w) = _
    unfold f_M_together_19b tgA
    simp only [hN0, bd1_q]
    rw [hr.1.1, shl_I (by omega), if_pos ((nI_leI (by omega) (by omega)).mpr (by omega)), hc]
    split <;> rfl
  | succ n ih =>
    intro fuel s b c v hf hs hb hr ht hc
    obtain ⟨m, rfl⟩ : ∃ m, fuel = m + 1 := ⟨fuel - 1, by omega⟩
    obtain ⟨v2, e2, B2, f2⟩ := M_startsRota (w := w) (s := s) (MRt_of hr) hk (fun q hq => Nat.le_trans (ht5 q hq) (by decide)) (by omega)
    obtain ⟨v3, e3, -, f3⟩ := M_findRota (w := w) hk (Nat.lt_of_le_of_lt (rL_le hk ht5 0) (by decide)) (Nat.lt_of_le_of_lt (rL_le hk ht5 1) (by decide)) (Nat.lt_of_le_of_lt (rL_le hk ht5 2) (by decide)) B2
    have R2 : MR ρ v2 := B2.1
    have R3 : MR ρ v3 := B2.1.frame (fun q h => f3 q (by omega))
    have fr2 : ∀ q, q < 115 ∨ 117 < q → v2 q = v q := fun q h => f2 q (by omega) (by omega)
    have fr3 : ∀ q, q < 115 ∨ 117 < q → v3 q = v q := fun q h => (f3 q (by omega)).trans (fr2 q h)
    have a10 : v2 101 10 = nI (ρ 0 4) := R2.2.2.2.1
    have sb := sumbit_le s
    have bb := sumbit_le b
    have kP : tgP ρ s ↔ s &&& (31 - ρ 0 4) = 0 ∧ rBst ρ s (ρ 0 0) (rL ρ (ρ 6) 0) (rL ρ (ρ 6) 1) (rL ρ (ρ 6) 2) ≠ FAR := by
      unfold tgP
      rw [cM_rBst hk (by omega)]
    have p0 : s = 0 → tgP ρ s := fun z => by
      rw [z]
      exact ⟨Nat.zero_and _, fun t a b => by omega⟩
    have bFar := rBst_le ρ s (ρ 0 0) (rL ρ (ρ 6) 0) (rL ρ (ρ 6) 1) (rL ρ (ρ 6) 2)
    have cc : nI (sumN (bit s) 5) ≤ c ↔ 0 < s ∧ sumN (bit s) 5 ≤ sumN (bit b) 5 := by
      rcases hc with ⟨q1, q2, q3⟩ | ⟨q1, q2⟩
      · rw [q3, q1]
        constructor
        · intro z; exact absurd z (by decide)
        · intro z; omega
      · rw [q2, nI_leI (by omega) (by omega)]
        exact ⟨fun z => ⟨q1, z⟩, fun z => z.2⟩
    have old2 : 0 < s → (sumN (bit s) 5 ≤ sumN (bit b) 5 ∨ ¬ tgP ρ s) → ∃ b' v', b' < 32 ∧ tgR (tgP ρ) (2 ^ ρ 0 0) b' ∧ f_M_together_19 m 100 x c (nI b) (nI (s + 1)) (bh v2 w) = some (tgA x b', bh v' w) ∧ ∀ q, q < 115 ∨ 117 < q → v' q = v q := fun h1 h2 => by
      obtain ⟨b', v', g1, g2, g3, g4⟩ := ih m (s + 1) b c v2 (by omega) (by omega) hb R2 (tgR_old ht h2) (Or.inr ⟨by omega, (hc.resolve_left (fun q => by omega)).2⟩)
      exact ⟨b', v', g1, g2, g3, fun q h => (g4 q h).trans (fr2 q h)⟩
    have old3 : 0 < s → ¬ tgP ρ s → ∃ b' v', b' < 32 ∧ tgR (tgP ρ) (2 ^ ρ 0 0) b' ∧ f_M_together_19 m 100 x c (nI b) (nI (s + 1)) (bh v3 w) = some (tgA x b', bh v' w) ∧ ∀ q, q < 115 ∨ 117 < q → v' q = v q := fun h1 h2 => by
      obtain ⟨b', v', g1, g2, g3, g4⟩ := ih m (s + 1) b c v3 (by omega) (by omega) hb R3 (tgR_old ht (Or.inr h2)) (Or.inr ⟨by omega, (hc.resolve_left (fun q => by omega)).2⟩)
      exact ⟨b', v', g1, g2, g3, fun q h => (g4 q h).trans (fr3 q h)⟩
    have new3 : (0 < s → sumN (bit b) 5 < sumN (bit s) 5) → tgP ρ s → ∃ b' v', b' < 32 ∧ tgR (tgP ρ) (2 ^ ρ 0 0) b' ∧ f_M_together_19 m 100 x (nI (sumN (bit s) 5)) (nI s) (nI (s + 1)) (bh v3 w) = some (tgA x b', bh v' w) ∧ ∀ q, q < 115 ∨ 117 < q → v' q = v q := fun h1 h2 => by
      obtain ⟨b', v', g1, g2, g3, g4⟩ := ih m (s + 1) s (nI (sumN (bit s) 5)) v3 (by omega) (by omega) (by omega) R3 (by
        rcases hc with ⟨q1, q2, q3⟩ | ⟨q1, q2⟩
        · have e : tgR (tgP ρ) (s + 1) b := tgR_old ht (Or.inl (by rw [q1, q2]; exact Nat.le_refl _))
          rw [q2] at e
          rw [q1] at e ⊢
          exact e
        · exact tgR_new ht (h1 q1) h2) (Or.inr ⟨by omega, rfl⟩)
      exact ⟨b', v', g1, g2, g3, fun q h => (g4 q h).trans (fr3 q h)⟩
    have go : f_M_together_19 (m + 1) 100 x c (nI b) (nI s) (bh v w) = if s &&& (31 - ρ 0 4) = 0 then (if nI (sumN (bit s) 5) ≤ c then f_M_together_19 m 100 x c (nI b) (nI (s + 1)) (bh v2 w) else if rBst ρ s (ρ 0 0) (rL ρ (ρ 6) 0) (rL ρ (ρ 6) 1) (rL ρ (ρ 6) 2) = FAR then f_M_together_19 m 100 x c (nI b) (nI (s + 1)) (bh v3 w) else f_M_together_19 m 100 x (nI (sumN (bit s) 5)) (nI s) (nI (s + 1)) (bh v3 w)) else f_M_together_19 m 100 x c (nI b) (nI (s + 1)) (bh v2 w) := by
      show f_M_together_19b (f_M_together_19 m) 100 x c (nI b) (nI s) (bh v w) = _
      unfold f_M_together_19b f_M_together_73 f_M_together_74 f_M_together_87 f_M_together_102
      simp only [hN0, bd1_q]
      rw [hr.1.1, shl_I (by omega), if_neg (fun z => by have := (nI_leI (by omega) (by omega)).mp z; omega), e2]
      simp only [hN0, hV0, bd1_q]
      rw [show (10 : Int32) = nI 10 from rfl, rd_nI (by decide) (by decide), bd1_s, a10, cut_I s (by omega) _ hst, nI_1, M_bitsOf (by omega), bd2_s]
      rw [ite_iff (nI_eq0 (show s &&& (31 - ρ 0 4) < 2 ^ 31 from Nat.lt_of_le_of_lt Nat.and_le_left (by omega)))]
      by_cases d : s &&& (31 - ρ 0 4) = 0
      · rw [if_pos d, if_pos d]
        by_cases g : nI (sumN (bit s) 5) ≤ c
        · rw [if_pos g, if_pos g, if_pos trivial, if_pos trivial]
        · rw [if_neg g, if_neg g]
          simp only [hN0, bd1_q]
          rw [e3, bd2_s, ite_iff (FAR_ne bFar)]
          by_cases u : rBst ρ s (ρ 0 0) (rL ρ (ρ 6) 0) (rL ρ (ρ 6) 1) (rL ρ (ρ 6) 2) = FAR
          · rw [if_pos u, if_pos u, if_pos trivial, if_pos trivial]
          · rw [if_neg u, if_neg u, if_neg (by decide), if_neg (by decide), M_bitsOf (by omega), bd2_s]
      · rw [if_neg d, if_neg d, if_pos trivial, if_pos trivial]
    rw [go]
    by_cases d : s &&& (31 - ρ 0 4) = 0
    · rw [if_pos d]
      by_cases g : nI (sumN (bit s) 5) ≤ c
      · rw [if_pos g]
        have q := cc.mp g
        exact old2 q.1 (Or.inl q.2)
      · rw [if_neg g]
        by_cases u : rBst ρ s (ρ 0 0) (rL ρ (ρ 6) 0) (rL ρ (ρ 6) 1) (rL ρ (ρ 6) 2) = FAR
        · rw [if_pos u]
          have np : ¬ tgP ρ s := fun q => (kP.mp q).2 u
          exact old3 (Nat.pos_of_ne_zero (fun z => np (p0 z))) np
        · rw [if_neg u]
          exact new3 (fun sp => Nat.lt_of_not_le (fun z => g (cc.mpr ⟨sp, z⟩))) (kP.mpr ⟨d, u⟩)
    · rw [if_neg d]
      have np : ¬ tgP ρ s := fun q => d q.1
      exact old2 (Nat.pos_of_ne_zero (fun z => np (p0 z))) (Or.inr np)
end
section
variable {S : Sg} {v : Nat → Nat → Int32} {w : Nat → Nat → Int64}
theorem E_together (x : Int32) (hs : SOK S) (hc : CI S v) (hm : MI S v) : EqT S v w (f_Q_together 0 x) (f_M_together 100 x) := by
  have hk := hs.1
  have hst := hk.st
  have hpw : 2 ^ S.1 0 0 ≤ 32 := Nat.le_trans (Nat.pow_le_pow_right (by decide) hk.1.1) (by decide)
  have h43 := hc.2.2.2.2.2.2.2
  by_cases c : (0 : Int32).toInt ≤ x.toInt ∧ x.toInt ≤ (1 : Int32).toInt
  · have c' : (0 : Int64) ≤ x.toInt64 ∧ x.toInt64 ≤ (1 : Int64) := by
      rw [Int64.le_iff_toInt_le, Int64.le_iff_toInt_le, Int32.toInt_toInt64]
      exact c
    obtain ⟨v1, e1, i1, f1⟩ := C_load (w := w) hc.1 hk h43
    obtain ⟨b, b32, tb, e2⟩ := C_togX (w := w) (hc.1.fp f1) hk (pI_pH hk i1) x (S.1 0 4 + 1) FU 0 0 (by unfold FU; omega) (by omega) (by decide) tgR_0
    have e2 : f_Q_together_26 FU 0 x 0 0 (bh v1 w) = some (tgA x b, bh v1 w) := e2
    obtain ⟨b', v2, b32', tb', e3, f2⟩ := M_togX (w := w) hk x (2 ^ S.1 0 0) FU 0 0 (-1) v1 (by unfold FU; omega) (by omega) (by decide) (hm.1.fr1 (fun q h => f1 q (by omega))) tgR_0 (Or.inl ⟨rfl, rfl, rfl⟩)
    have e3 : f_M_together_19 FU 100 x (-1) 0 0 (bh v1 w) = some (tgA x b', bh v2 w) := e3
    have q0 : tgP S.1 0 := ⟨Nat.zero_and _, fun t a b => by omega⟩
    have up : tgR (tgP S.1) (2 ^ S.1 0 0) b := tgR_up tb (fun t t1 t2 p => by
      have := partLe t (by omega) (S.1 0 4) hst p.1
      omega) (by have := hk.1.2.2.2.2.1; omega)
    have eb : b = b' := tgR_one q0 (Nat.pow_pos (by decide)) up tb'
    rw [← eb] at e3
    refine EqT.pl (r := tgA x b) (v1 := v1) (v2 := v2) (w1 := w) (w2 := w) hs hc hm ?_ (fun q h => f1 q (by omega)) (i1.2.2.2.1 0 (Nat.zero_le _) (Or.inl (Nat.zero_le _))) ?_ (fun q h => f2 q (by omega))
    · unfold f_Q_together f_Q_together_0
      rw [Q_isWithin, bd2_s, if_pos c, if_neg (by decide)]
      simp only [hP0, bd1_q]
      rw [e1, bd1_s, e2]
    · unfold f_M_together f_M_together_0
      rw [M_in, bd2_s, if_pos c', if_neg (by decide)]
      exact e3
  · have c' : ¬ ((0 : Int64) ≤ x.toInt64 ∧ x.toInt64 ≤ (1 : Int64)) := by
      rw [Int64.le_iff_toInt_le, Int64.le_iff_toInt_le, Int32.toInt_toInt64]
      exact c
    refine EqT.q (r := -1) (v1 := v) (v2 := v) (w1 := w) (w2 := w) hs hc hm ?_ (fun _ _ => rfl) ?_ (fun _ _ => rfl)
    · unfold f_Q_together f_Q_together_0
      rw [Q_isWithin, bd2_s, if_neg c, if_pos rfl]
    · unfold f_M_together f_M_together_0
      rw [M_in, bd2_s, if_neg c', if_pos rfl]
end
