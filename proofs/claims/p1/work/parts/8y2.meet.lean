theorem hP0 (v : Nat → Nat → Int32) (w : Nat → Nat → Int64) : kC (bh v w) 40 2 = some () ∧ gI (bh v w) 40 2 0 = some (v 40 0) ∧ (∀ x, pV (bh v w) 40 2 0 (.int x) = some (bh (u2 v 40 0 x) w)) ∧ gR (bh v w) 40 2 1 = some 41 ∧ gR (bh v w) 40 2 2 = some 42 ∧ gR (bh v w) 40 2 3 = some 43 ∧ gR (bh v w) 40 2 4 = some 44 ∧ gR (bh v w) 40 2 5 = some 45 ∧ gR (bh v w) 40 2 6 = some 46 ∧ gR (bh v w) 40 2 7 = some 47 ∧ (∀ i, aI (bh v w) 0 41 i = rd (v 41) 3 i) ∧ (∀ i x, sI (bh v w) 0 41 i x = wr v w 41 3 i x) ∧ (∀ i, aI (bh v w) 0 42 i = rd (v 42) 5 i) ∧ (∀ i x, sI (bh v w) 0 42 i x = wr v w 42 5 i x) ∧ (∀ i, aI (bh v w) 0 43 i = rd (v 43) 6 i) ∧ (∀ i x, sI (bh v w) 0 43 i x = wr v w 43 6 i x) ∧ (∀ i, aI (bh v w) 0 44 i = rd (v 44) 15 i) ∧ (∀ i x, sI (bh v w) 0 44 i x = wr v w 44 15 i x) ∧ (∀ i, aI (bh v w) 0 45 i = rd (v 45) 15 i) ∧ (∀ i x, sI (bh v w) 0 45 i x = wr v w 45 15 i x) ∧ (∀ i, aI (bh v w) 0 46 i = rd (v 46) 15 i) ∧ (∀ i x, sI (bh v w) 0 46 i x = wr v w 46 15 i x) ∧ (∀ i, aI (bh v w) 0 47 i = rd (v 47) 216 i) ∧ (∀ i x, sI (bh v w) 0 47 i x = wr v w 47 216 i x) ∧ gR (bh v w) 0 0 6 = some 40 ∧ gR (bh v w) 0 0 1 = some 3 ∧ kC (bh v w) 3 4 = some () ∧ gR (bh v w) 3 4 11 = some 9 ∧ (∀ i, aI (bh v w) 0 9 i = rd (v 9) 3 i) ∧ gI (bh v w) 3 4 4 = some (v 3 4) := ⟨rfl, rfl, (fun _ => pV_bh rfl rfl), rfl, rfl, rfl, rfl, rfl, rfl, rfl, aI_bh rfl, sI_bh rfl, aI_bh rfl, sI_bh rfl, aI_bh rfl, sI_bh rfl, aI_bh rfl, sI_bh rfl, aI_bh rfl, sI_bh rfl, aI_bh rfl, sI_bh rfl, aI_bh rfl, sI_bh rfl, rfl, rfl, rfl, rfl, aI_bh rfl, rfl⟩
theorem hB0 (v : Nat → Nat → Int32) (w : Nat → Nat → Int64) : kC (bh v w) 48 7 = some () ∧ gI (bh v w) 48 7 0 = some (v 48 0) ∧ (∀ x, pV (bh v w) 48 7 0 (.int x) = some (bh (u2 v 48 0 x) w)) ∧ gR (bh v w) 48 7 1 = some 49 ∧ gR (bh v w) 48 7 2 = some 50 ∧ gR (bh v w) 48 7 3 = some 51 ∧ gR (bh v w) 48 7 4 = some 52 ∧ gR (bh v w) 48 7 5 = some 53 ∧ gR (bh v w) 48 7 6 = some 54 ∧ gR (bh v w) 48 7 7 = some 55 ∧ (∀ i, aI (bh v w) 0 49 i = rd (v 49) 15 i) ∧ (∀ i x, sI (bh v w) 0 49 i x = wr v w 49 15 i x) ∧ (∀ i, aI (bh v w) 0 50 i = rd (v 50) 15 i) ∧ (∀ i x, sI (bh v w) 0 50 i x = wr v w 50 15 i x) ∧ (∀ i, aI (bh v w) 0 51 i = rd (v 51) 5 i) ∧ (∀ i x, sI (bh v w) 0 51 i x = wr v w 51 5 i x) ∧ (∀ i, aI (bh v w) 0 52 i = rd (v 52) 3 i) ∧ (∀ i x, sI (bh v w) 0 52 i x = wr v w 52 3 i x) ∧ (∀ i, aI (bh v w) 0 53 i = rd (v 53) 3 i) ∧ (∀ i x, sI (bh v w) 0 53 i x = wr v w 53 3 i x) ∧ (∀ i, aL (bh v w) 54 i = rd (w 54) 18 i) ∧ (∀ i x, sL (bh v w) 54 i x = wrL v w 54 18 i x) ∧ (∀ i, aL (bh v w) 55 i = rd (w 55) 216 i) ∧ (∀ i x, sL (bh v w) 55 i x = wrL v w 55 216 i x) ∧ gR (bh v w) 0 0 7 = some 48 ∧ gR (bh v w) 0 0 1 = some 3 ∧ kC (bh v w) 3 4 = some () := ⟨rfl, rfl, (fun _ => pV_bh rfl rfl), rfl, rfl, rfl, rfl, rfl, rfl, rfl, aI_bh rfl, sI_bh rfl, aI_bh rfl, sI_bh rfl, aI_bh rfl, sI_bh rfl, aI_bh rfl, sI_bh rfl, aI_bh rfl, sI_bh rfl, aL_bh rfl, sL_bh rfl, aL_bh rfl, sL_bh rfl, rfl, rfl, rfl⟩
/-! the class's planner: what it can meet -/
def isub (t s : Nat) : Prop := t &&& (31 - s) = 0
theorem Q_isPart2 {t s : Nat} (ht : t < 32) (hs : s < 32) (h : mH) : f_Q_isPart (nI t) (nI s) h = some (if t &&& (31 - s) = 0 then 1 else 0, h) := by
  unfold f_Q_isPart f_Q_isPart_0
  have hl : t &&& (31 - s) < 2 ^ 31 := Nat.lt_of_le_of_lt Nat.and_le_left (by omega)
  rw [cut_I t ht s hs, ite_iff (nI_eq0 hl)]
  split <;> rfl
/-- of the laws in s: what is needed; what p has room for; what all can give -/
def nA (L : Nat) (nd : Nat → Nat) (s : Nat) : Nat := sumN (fun l => if bit s l = 1 then nd l else 0) L
def oA (L : Nat) (rm : Nat → Nat → Nat) (s p : Nat) : Nat := sumN (fun l => if bit s l = 1 then rm p l else 0) L
def gA (L : Nat) (rm : Nat → Nat → Nat) (lf : Nat → Nat) (s : Nat) : Nat := sumN (fun p => if lf p < oA L rm s p then lf p else oA L rm s p) 3
/-- what the planner holds -/
def pH (L : Nat) (nd : Nat → Nat) (rm : Nat → Nat → Nat) (lf : Nat → Nat) (v : Nat → Nat → Int32) : Prop := L ≤ 5 ∧ v 40 0 = nI L ∧ (∀ l, l < L → v 42 l = nI (nd l) ∧ nd l ≤ 9) ∧ (∀ p l, p < 3 → l < L → v 44 (5 * p + l) = nI (rm p l) ∧ rm p l ≤ 3) ∧ ∀ p, p < 3 → v 41 p = nI (lf p) ∧ lf p ≤ 20
section
variable {L : Nat} {nd lf : Nat → Nat} {rm : Nat → Nat → Nat} {v : Nat → Nat → Int32} {w : Nat → Nat → Int64} {s : Nat}
theorem C_needOfAll (h : pH L nd rm lf v) (hs : s < 32) : f_Planner_needOfAll 40 (nI s) (bh v w) = some (nI (nA L nd s), bh v w) := by
  obtain ⟨h5, h0, hn, -, -⟩ := h
  have key : ∀ (n fuel l : Nat), n < fuel → l + n = L → f_Planner_needOfAll_4 fuel 40 (nI s) (nI (sumN (fun l => if bit s l = 1 then nd l else 0) l)) (nI l) (bh v w) = some (nI (nA L nd s), bh v w) := by
    intro n
    induction n with
    | zero =>
      intro fuel l hf hl
      obtain ⟨m, rfl⟩ : ∃ m, fuel = m + 1 := ⟨fuel - 1, by omega⟩
      show f_Planner_needOfAll_4b (f_Planner_needOfAll_4 m) 40 _ _ _ (bh v w) = _
      unfold f_Planner_needOfAll_4b
      simp only [hP0, bd1_q]
      rw [h0, if_pos ((nI_leI (by omega) (by omega)).mpr (by omega)), show l = L by omega]
      rfl
    | succ n ih =>
      intro fuel l hf hl
      obtain ⟨m, rfl⟩ : ∃ m, fuel = m + 1 := ⟨fuel - 1, by omega⟩
      have nx := ih m (l + 1) (by omega) (by omega)
      have e : sumN (fun l => if bit s l = 1 then nd l else 0) (l + 1) = sumN (fun l => if bit s l = 1 then nd l else 0) l + (if bit s l = 1 then nd l else 0) := rfl
      show f_Planner_needOfAll_4b (f_Planner_needOfAll_4 m) 40 _ _ _ (bh v w) = _
      unfold f_Planner_needOfAll_4b f_Planner_needOfAll_31
      simp only [hP0, bd1_q]
      rw [h0, if_neg (fun z => by have := (nI_leI (by omega) (by omega)).mp z; omega), Q_hasBit (by omega) (by omega), bd2_s]
      rcases bit_01 s l with b | b
      · rw [b, if_pos (show nI 0 = 0 from rfl), nI_1, Int32.add_zero]
        rw [e, b, if_neg (by decide)] at nx
        exact nx
      · rw [b, if_neg (by decide)]
        simp only [hP0, bd1_q]
        rw [rd_nI (by omega) (by decide), bd1_s, (hn l (by omega)).1, nI_add, nI_1]
        rw [e, b, if_pos rfl] at nx
        exact nx
  unfold f_Planner_needOfAll f_Planner_needOfAll_0
  exact key L FU 0 (by unfold FU; omega) (by omega)
theorem C_givenTo (h : pH L nd rm lf v) (hs : s < 32) : f_Planner_givenTo 40 (nI s) (bh v w) = some (nI (gA L rm lf s), bh v w) := by
  obtain ⟨h5, h0, -, hr, hl⟩ := h
  have ob : ∀ (p j : Nat), p < 3 → j ≤ L → sumN (fun l => if bit s l = 1 then rm p l else 0) j ≤ 3 * j := by
    intro p j hp hj
    refine sumN_c (fun i hi => ?_)
    have := (hr p i hp (by omega)).2
    split <;> omega
  have k15 : ∀ (rec4 : Nat → Int32 → Int32 → Int32 → mH → Option (Int32 × mH)) (p : Nat) (g : Int32), p < 3 → ∀ (n fuel l : Nat), n < fuel → l + n = L → f_Planner_givenTo_15 rec4 fuel 40 (nI s) g (nI p) (nI (sumN (fun l => if bit s l = 1 then rm p l else 0) l)) (nI l) (bh v w) = rec4 40 (nI s) (g + nI (if lf p < oA L rm s p then lf p else oA L rm s p)) (nI (p + 1)) (bh v w) := by
    intro rec4 p g hp n
    induction n with
    | zero =>
      intro fuel l hf hll
      obtain ⟨m, rfl⟩ : ∃ m, fuel = m + 1 := ⟨fuel - 1, by omega⟩
      show f_Planner_givenTo_15b rec4 (f_Planner_givenTo_15 rec4 m) 40 _ _ _ _ _ (bh v w) = _
      unfold f_Planner_givenTo_15b
      simp only [hP0, bd1_q]
      have b1 := ob p L hp (Nat.le_refl _)
      have b2 := (hl p hp).2
      rw [h0, if_pos ((nI_leI (by omega) (by omega)).mpr (by omega)), rd_nI hp (by decide), bd1_s, (hl p hp).1, show l = L by omega, ite_iff (nI_ltI (by omega) (by omega)), nI_1]
      congr 2
      unfold oA
      split <;> rfl
    | succ n ih =>
      intro fuel l hf hll
      obtain ⟨m, rfl⟩ : ∃ m, fuel = m + 1 := ⟨fuel - 1, by omega⟩
      have nx := ih m (l + 1) (by omega) (by omega)
      have e : sumN (fun l => if bit s l = 1 then rm p l else 0) (l + 1) = sumN (fun l => if bit s l = 1 then rm p l else 0) l + (if bit s l = 1 then rm p l else 0) := rfl
      show f_Planner_givenTo_15b rec4 (f_Planner_givenTo_15 rec4 m) 40 _ _ _ _ _ (bh v w) = _
      unfold f_Planner_givenTo_15b f_Planner_givenTo_50
      simp only [hP0, bd1_q]
      rw [h0, if_neg (fun z => by have := (nI_leI (by omega) (by omega)).mp z; omega), Q_hasBit (by omega) (by omega), bd2_s]
      rcases bit_01 s l with b | b
      · rw [b, if_pos (show nI 0 = 0 from rfl), nI_1, Int32.add_zero]
        rw [e, b, if_neg (by decide)] at nx
        exact nx
      · rw [b, if_neg (by decide)]
        simp only [hP0, bd1_q]
        rw [show (5 : Int32) = nI 5 from rfl, pk_mul, nI_add, Nat.mul_comm p 5, rd_nI (by omega) (by decide), bd1_s, (hr p l hp (by omega)).1, nI_add, nI_1]
        rw [e, b, if_pos rfl] at nx
        exact nx
  have k4 : ∀ (n fuel p : Nat), n < fuel → p + n = 3 → f_Planner_givenTo_4 fuel 40 (nI s) (nI (sumN (fun p => if lf p < oA L rm s p then lf p else oA L rm s p) p)) (nI p) (bh v w) = some (nI (gA L rm lf s), bh v w) := by
    intro n
    induction n with
    | zero =>
      intro fuel p hf hp
      obtain ⟨m, rfl⟩ : ∃ m, fuel = m + 1 := ⟨fuel - 1, by omega⟩
      show f_Planner_givenTo_4b (f_Planner_givenTo_4 m) 40 _ _ _ (bh v w) = _
      unfold f_Planner_givenTo_4b
      rw [show (3 : Int32) = nI 3 from rfl, if_pos ((nI_leI (by omega) (by omega)).mpr (by omega)), show p = 3 by omega]
      rfl
    | succ n ih =>
      intro fuel p hf hp
      obtain ⟨m, rfl⟩ : ∃ m, fuel = m + 1 := ⟨fuel - 1, by omega⟩
      have nx := ih m (p + 1) (by omega) (by omega)
      show f_Planner_givenTo_4b (f_Planner_givenTo_4 m) 40 _ _ _ (bh v w) = _
      unfold f_Planner_givenTo_4b
      rw [show (3 : Int32) = nI 3 from rfl, if_neg (fun z => by have := (nI_leI (by omega) (by omega)).mp z; omega)]
      refine (k15 _ p _ (by omega) L FU 0 (by unfold FU; omega) (by omega)).trans ?_
      rw [nI_add]
      exact nx
  unfold f_Planner_givenTo f_Planner_givenTo_0
  exact k4 3 FU 0 (by decide) (by decide)
/-- every part of s can be met -/
def cM (L : Nat) (nd : Nat → Nat) (rm : Nat → Nat → Nat) (lf : Nat → Nat) (s : Nat) : Prop := ∀ t, 1 ≤ t → t ≤ s → t &&& (31 - s) = 0 → nA L nd t ≤ gA L rm lf t
theorem C_canMeet (h : pH L nd rm lf v) (hs : s < 32) : ∃ r, f_Planner_canMeet 40 (nI s) (bh v w) = some (r, bh v w) ∧ (r = 1 ∧ cM L nd rm lf s ∨ r = 0 ∧ ¬ cM L nd rm lf s) := by
  have nb : ∀ t, nA L nd t ≤ 9 * L := fun t => sumN_c (fun i hi => by have := (h.2.2.1 i hi).2; split <;> omega)
  have gb : ∀ t, gA L rm lf t ≤ 20 * 3 := fun t => sumN_c (fun i hi => by have := (h.2.2.2.2 i hi).2; split <;> omega)
  have h5 := h.1
  have key : ∀ (n fuel t : Nat), n < fuel → t + n = s + 1 → ∃ r, f_Planner_canMeet_2 fuel 40 (nI s) (nI t) (bh v w) = some (r, bh v w) ∧ (r = 1 ∧ (∀ t', t ≤ t' → t' ≤ s → t' &&& (31 - s) = 0 → nA L nd t' ≤ gA L rm lf t') ∨ r = 0 ∧ ¬ (∀ t', t ≤ t' → t' ≤ s → t' &&& (31 - s) = 0 → nA L nd t' ≤ gA L rm lf t')) := by
    intro n
    induction n with
    | zero =>
      intro fuel t hf ht
      obtain ⟨m, rfl⟩ : ∃ m, fuel = m + 1 := ⟨fuel - 1, by omega⟩
      show ∃ r, f_Planner_canMeet_2b (f_Planner_canMeet_2 m) 40 _ _ (bh v w) = some (r, bh v w) ∧ _
      unfold f_Planner_canMeet_2b
      rw [if_pos ((nI_ltI (by omega) (by omega)).mpr (by omega))]
      exact ⟨1, rfl, Or.inl ⟨rfl, fun t' a b => by omega⟩⟩
    | succ n ih =>
      intro fuel t hf ht
      obtain ⟨m, rfl⟩ : ∃ m, fuel = m + 1 := ⟨fuel - 1, by omega⟩
      obtain ⟨r, er, hr⟩ := ih m (t + 1) (by omega) (by omega)
      have go : (t &&& (31 - s) = 0 → nA L nd t ≤ gA L rm lf t) → (r = 1 ∧ (∀ t', t ≤ t' → t' ≤ s → t' &&& (31 - s) = 0 → nA L nd t' ≤ gA L rm lf t') ∨ r = 0 ∧ ¬ (∀ t', t ≤ t' → t' ≤ s → t' &&& (31 - s) = 0 → nA L nd t' ≤ gA L rm lf t')) := by
        intro ht
        rcases hr with ⟨a, b⟩ | ⟨a, b⟩
        · refine Or.inl ⟨a, fun t' q1 q2 q3 => ?_⟩
          by_cases z : t' = t
          · rw [z]; exact ht (by rw [← z]; exact q3)
          · exact b t' (by omega) q2 q3
        · exact Or.inr ⟨a, fun q => b (fun t' q1 q2 q3 => q t' (by omega) q2 q3)⟩
      show ∃ r, f_Planner_canMeet_2b (f_Planner_canMeet_2 m) 40 _ _ (bh v w) = some (r, bh v w) ∧ _
      unfold f_Planner_canMeet_2b f_Planner_canMeet_30
      rw [if_neg (fun z => by have := (nI_ltI (by omega) (by omega)).mp z; omega), Q_isPart2 (by omega) hs, bd2_s, nI_1]
      by_cases c : t &&& (31 - s) = 0
      · rw [if_pos c, if_neg (by decide)]
        simp only [hP0, bd1_q]
        rw [C_needOfAll h (by omega), bd2_s]
        simp only [hP0, bd1_q]
        have b1 := nb t
        have b2 := gb t
        rw [C_givenTo h (by omega), bd2_s, ite_iff (nI_leI (by omega) (by omega))]
        by_cases d : nA L nd t ≤ gA L rm lf t
        · rw [if_pos d]
          exact ⟨r, er, go (fun _ => d)⟩
        · rw [if_neg d]
          exact ⟨0, rfl, Or.inr ⟨rfl, fun q => d (q t (Nat.le_refl _) (by omega) c)⟩⟩
      · rw [if_neg c, if_pos rfl]
        exact ⟨r, er, go (fun z => absurd z c)⟩
  unfold f_Planner_canMeet f_Planner_canMeet_0
  rw [show (1 : Int32) = nI 1 from rfl]
  exact key s FU 1 (by unfold FU; omega) (by omega)
end
