/-! 8y1.load.lean.txt -/
section
/-! the class's planner -/
section
variable {ρ : Rho} {v : Nat → Nat → Int32} {w : Nat → Nat → Int64}
/-- laws below l are loaded, of the law l those of the first m people (all: m = 4) -/
def pI (ρ : Rho) (l m : Nat) (v : Nat → Nat → Int32) : Prop :=
  v 40 0 = nI (ρ 0 0) ∧ (∀ p, p < 3 → v 41 p = nI (rL ρ (ρ 6) p)) ∧ (∀ j, j < ρ 0 0 → j < l ∨ j = l ∧ 0 < m → v 42 j = nI (sNeed ρ j)) ∧ (∀ j, j ≤ ρ 0 0 → j ≤ l ∨ j = l + 1 ∧ 0 < m → v 43 j = nI (sumN (sNeed ρ) j)) ∧
  (∀ p j, p < 3 → j < ρ 0 0 → v 44 (5 * p + j) = if j < l ∨ j = l ∧ p + 1 < m then nI (rR ρ p j) else 0) ∧ (∀ p j, p < ρ 0 1 → j < ρ 0 0 → j < l ∨ j = l ∧ p + 1 < m → v 45 (5 * p + j) = nI (rH ρ p j))
def pFr (v v' : Nat → Nat → Int32) : Prop := ∀ q, q < 40 ∨ 46 ≤ q → v' q = v q
theorem CR.fp {v' : Nat → Nat → Int32} (h : CR 3 ρ v) (hq : pFr v v') : CR 3 ρ v' := h.frame (fun p _ _ => hq p (by omega))
theorem C_l96 (hk : ROK ρ) (rec54 : Nat → Nat → Int32 → mH → Option mH) {l : Nat} (hl : l < ρ 0 0) : ∀ (k fuel p : Nat) (v : Nat → Nat → Int32), k < fuel → p + k = ρ 0 1 → CR 3 ρ v → pI ρ l (p + 1) v → ∃ v', f_Planner_load_96 rec54 fuel 40 3 (nI l) (nI p) (bh v w) = rec54 40 3 (nI (l + 1)) (bh v' w) ∧ pI ρ (l + 1) 0 v' ∧ pFr v v' := by
  have h1 := hk.1.1
  have h2 := hk.1.2.1
  intro k
  induction k with
  | zero =>
    intro fuel p v hf hp hr hi
    obtain ⟨n, rfl⟩ : ∃ n, fuel = n + 1 := ⟨fuel - 1, by omega⟩
    obtain ⟨i1, i2, i3, i4, i5, i6⟩ := hi
    refine ⟨v, ?_, ⟨i1, i2, fun j q1 q2 => i3 j q1 (by omega), fun j q1 q2 => i4 j q1 (by omega), fun p' j q1 q2 => ?_, fun p' j q1 q2 q3 => i6 p' j q1 q2 (by omega)⟩, fun _ _ => rfl⟩
    · show f_Planner_load_96b rec54 (f_Planner_load_96 rec54 n) 40 3 (nI l) (nI p) (bh v w) = _
      unfold f_Planner_load_96b
      simp only [hRl rl3 v w, bd1_q]
      rw [hr.1.2.1, if_pos (nI_le (by omega) (by omega)), nI_1]
    · rw [i5 p' j q1 q2]
      by_cases e : j < l ∨ j = l ∧ p' + 1 < p + 1
      · rw [if_pos e, if_pos (by omega)]
      · rw [if_neg e]
        by_cases g : j < l + 1 ∨ j = l + 1 ∧ p' + 1 < 0
        · rw [if_pos g]
          unfold rR
          rw [if_neg (by omega)]
          rfl
        · rw [if_neg g]
  | succ k ih =>
    intro fuel p v hf hp hr hi
    obtain ⟨n, rfl⟩ : ∃ n, fuel = n + 1 := ⟨fuel - 1, by omega⟩
    have hpp : p < ρ 0 1 := by omega
    have ix5 : (nI p * (5 : Int32)) + nI l = nI (5 * p + l) := by rw [show (5 : Int32) = nI 5 from rfl, pk_mul, nI_add, Nat.mul_comm p 5]
    have fr : pFr v (u2 (u2 v 44 (5 * p + l) (nI (sRoom ρ p l))) 45 (5 * p + l) (nI (ρ 3 l + ρ 7 p))) := fun q hq => (u2_o (by omega)).trans (u2_o (by omega))
    have hi' : pI ρ l (p + 1 + 1) (u2 (u2 v 44 (5 * p + l) (nI (sRoom ρ p l))) 45 (5 * p + l) (nI (ρ 3 l + ρ 7 p))) := by
      obtain ⟨i1, i2, i3, i4, i5, i6⟩ := hi
      unfold pI
      rw [u2_o (show 40 ≠ 45 by decide), u2_o (show 40 ≠ 44 by decide), u2_o (show 41 ≠ 45 by decide), u2_o (show 41 ≠ 44 by decide), u2_o (show 42 ≠ 45 by decide), u2_o (show 42 ≠ 44 by decide), u2_o (show 43 ≠ 45 by decide), u2_o (show 43 ≠ 44 by decide)]
      refine ⟨i1, i2, fun j q1 q2 => i3 j q1 (by omega), fun j q1 q2 => i4 j q1 (by omega), fun p' j q1 q2 => ?_, fun p' j q1 q2 q3 => ?_⟩
      · rw [u2_o (show 44 ≠ 45 by decide)]
        by_cases e : 5 * p' + j = 5 * p + l
        · obtain ⟨rfl, rfl⟩ : p' = p ∧ j = l := by omega
          rw [u2_at, if_pos (by omega)]
          unfold rR
          rw [if_pos hpp]
        · rw [u2_n e, i5 p' j q1 q2]
          by_cases g : j < l ∨ j = l ∧ p' + 1 < p + 1
          · rw [if_pos g, if_pos (by omega)]
          · rw [if_neg g, if_neg (by omega)]
      · by_cases e : 5 * p' + j = 5 * p + l
        · obtain ⟨rfl, rfl⟩ : p' = p ∧ j = l := by omega
          rw [u2_at]
          unfold rH
          rw [if_pos hpp]
        · rw [u2_n e, u2_o (show 45 ≠ 44 by decide)]
          exact i6 p' j q1 q2 (by omega)
    obtain ⟨v', e1, p1, q1⟩ := ih n (p + 1) _ (by omega) (by omega) (hr.fp fr) hi'
    refine ⟨v', ?_, p1, fun q hq => (q1 q hq).trans (fr q hq)⟩
    show f_Planner_load_96b rec54 (f_Planner_load_96 rec54 n) 40 3 (nI l) (nI p) (bh v w) = _
    unfold f_Planner_load_96b
    simp only [hRl rl3 v w, hQ v w, bd1_q]
    rw [hr.1.2.1, if_neg (nI_ge (by omega) (by omega)), C_roomOf rl3 hr hk hpp hl, bd2_s, ix5]
    simp only [hQ v w, bd1_q]
    rw [wr_nI (by omega) (by decide), bd1_s]
    simp only [hRl rl3 (u2 v 44 (5 * p + l) (nI (sRoom ρ p l))) w, hQ (u2 v 44 (5 * p + l) (nI (sRoom ρ p l))) w, bd1_q]
    rw [rd_nI (by omega) (by decide), bd1_s, rd_nI (by omega) (by decide), bd1_s, u2_o (show 3 + 3 ≠ 44 by decide), u2_o (show 3 + 7 ≠ 44 by decide), (hr.2.1 l hl).2.2.1, (hr.2.2.1 p hpp).2.1, nI_add, wr_nI (by omega) (by decide), bd1_s, nI_1]
    exact e1
theorem C_l54 (hk : ROK ρ) : ∀ (k fuel l : Nat) (v : Nat → Nat → Int32), k < fuel → l + k = ρ 0 0 → CR 3 ρ v → pI ρ l 0 v → ∃ v', f_Planner_load_54 fuel 40 3 (nI l) (bh v w) = some (bh v' w) ∧ pI ρ (ρ 0 0) 0 v' ∧ pFr v v' := by
  have h1 := hk.1.1
  have h2 := hk.1.2.1
  intro k
  induction k with
  | zero =>
    intro fuel l v hf hl hr hi
    obtain ⟨n, rfl⟩ : ∃ n, fuel = n + 1 := ⟨fuel - 1, by omega⟩
    obtain rfl : l = ρ 0 0 := by omega
    refine ⟨v, ?_, hi, fun _ _ => rfl⟩
    simp only [f_Planner_load_54, f_Planner_load_54b, hQ v w, bd1_q]
    rw [hi.1, if_pos (nI_le (by omega) (by omega))]
  | succ k ih =>
    intro fuel l v hf hl hr hi
    obtain ⟨n, rfl⟩ : ∃ n, fuel = n + 1 := ⟨fuel - 1, by omega⟩
    have hl2 : l < ρ 0 0 := by omega
    have fr : pFr v (u2 (u2 v 42 l (nI (sNeed ρ l))) 43 (l + 1) (nI (sumN (sNeed ρ) l + sNeed ρ l))) := fun q hq => (u2_o (by omega)).trans (u2_o (by omega))
    have hi' : pI ρ l (0 + 1) (u2 (u2 v 42 l (nI (sNeed ρ l))) 43 (l + 1) (nI (sumN (sNeed ρ) l + sNeed ρ l))) := by
      obtain ⟨i1, i2, i3, i4, i5, i6⟩ := hi
      unfold pI
      rw [u2_o (show 40 ≠ 43 by decide), u2_o (show 40 ≠ 42 by decide), u2_o (show 41 ≠ 43 by decide), u2_o (show 41 ≠ 42 by decide), u2_o (show 44 ≠ 43 by decide), u2_o (show 44 ≠ 42 by decide), u2_o (show 45 ≠ 43 by decide), u2_o (show 45 ≠ 42 by decide)]
      refine ⟨i1, i2, fun j q1 q2 => ?_, fun j q1 q2 => ?_, fun p' j q1 q2 => ?_, fun p' j q1 q2 q3 => i6 p' j q1 q2 (by omega)⟩
      · rw [u2_o (show 42 ≠ 43 by decide)]
        by_cases e : j = l
        · subst e; rw [u2_at]
        · rw [u2_n e]; exact i3 j q1 (by omega)
      · by_cases e : j = l + 1
        · subst e; rw [u2_at]; rfl
        · rw [u2_n e, u2_o (show 43 ≠ 42 by decide)]; exact i4 j q1 (by omega)
      · rw [i5 p' j q1 q2]
        by_cases g : j < l ∨ j = l ∧ p' + 1 < 0
        · rw [if_pos g, if_pos (by omega)]
        · rw [if_neg g, if_neg (by omega)]
    obtain ⟨v1, e1, p1, q1⟩ := C_l96 (w := w) hk (f_Planner_load_54 n) hl2 (ρ 0 1) FU 0 _ (by unfold FU; omega) (by omega) (hr.fp fr) hi'
    obtain ⟨v2, e2, p2, q2⟩ := ih n (l + 1) v1 (by omega) (by omega) ((hr.fp fr).fp q1) p1
    refine ⟨v2, ?_, p2, fun q hq => (q2 q hq).trans ((q1 q hq).trans (fr q hq))⟩
    have e43 : v 43 l = nI (sumN (sNeed ρ) l) := hi.2.2.2.1 l (by omega) (by omega)
    show f_Planner_load_54b (f_Planner_load_54 n) 40 3 (nI l) (bh v w) = _
    unfold f_Planner_load_54b
    simp only [hRl rl3 v w, hQ v w, bd1_q]
    rw [hi.1, if_neg (nI_ge (by omega) (by omega)), C_needOf rl3 hr hk hl2, bd2_s]
    simp only [hQ v w, bd1_q]
    rw [wr_nI (by omega) (by decide), bd1_s]
    simp only [hQ (u2 v 42 l (nI (sNeed ρ l))) w, bd1_q]
    rw [rd_nI (by omega) (by decide), bd1_s, rd_nI (by omega) (by decide), bd1_s, u2_at, u2_o (show 43 ≠ 42 by decide), e43, nI_add, nI_1, wr_nI (by omega) (by decide), bd1_s]
    exact e1.trans e2
theorem C_load (hr : CR 3 ρ v) (hk : ROK ρ) (h43 : v 43 0 = 0) : ∃ v', f_Planner_load 40 3 (bh v w) = some (bh v' w) ∧ pI ρ (ρ 0 0) 0 v' ∧ pFr v v' := by
  have h1 := hk.1.1
  have h2 := hk.1.2.1
  obtain ⟨v1, e1, f1, f2, f3⟩ := fill_I (q := 44) (n := 15) (x := 0) (by omega) (fun _ _ => rfl) (fun v w i x => by simp only [hQ v w]) (u2 v 40 0 (nI (ρ 0 0))) w
  have lf : ∀ (k fuel p : Nat) (v2 : Nat → Nat → Int32), k < fuel → p + k = 3 → pFr v v2 → v2 40 0 = nI (ρ 0 0) → v2 43 0 = 0 → (∀ j, j < 15 → v2 44 j = 0) → (∀ j, j < p → v2 41 j = nI (rL ρ (ρ 6) j)) → ∃ v', f_Planner_load_18 fuel 40 3 (nI p) (bh v2 w) = some (bh v' w) ∧ pI ρ (ρ 0 0) 0 v' ∧ pFr v v' := by
    intro k
    induction k with
    | zero =>
      intro fuel p v2 hf hp fr a40 a43 a44 a41
      obtain ⟨n, rfl⟩ : ∃ n, fuel = n + 1 := ⟨fuel - 1, by omega⟩
      obtain ⟨v', b1, b2, b3⟩ := C_l54 (w := w) hk (ρ 0 0) FU 0 v2 (by unfold FU; omega) (by omega) (hr.fp fr) ⟨a40, fun j q => a41 j (by omega), fun j _ q => by omega, fun j _ q => (by rw [show j = 0 by omega]; exact a43), fun p' j q1 q2 => by rw [a44 _ (by omega), if_neg (by omega)], fun p' j _ _ q => by omega⟩
      refine ⟨v', ?_, b2, fun q hq => (b3 q hq).trans (fr q hq)⟩
      simp only [f_Planner_load_18, f_Planner_load_18b]
      rw [show (3 : Int32) = nI 3 from rfl, if_pos ((nI_leI (by omega) (by omega)).mpr (by omega))]
      exact b1
    | succ k ih =>
      intro fuel p v2 hf hp fr a40 a43 a44 a41
      obtain ⟨n, rfl⟩ : ∃ n, fuel = n + 1 := ⟨fuel - 1, by omega⟩
      have nx := ih n (p + 1) (u2 v2 41 p (nI (rL ρ (ρ 6) p))) (by omega) (by omega) (fun q hq => (u2_o (by omega)).trans (fr q hq)) ((congrFun (u2_o (by decide)) 0).trans a40) ((congrFun (u2_o (by decide)) 0).trans a43) (fun j q => (congrFun (u2_o (by decide)) j).trans (a44 j q)) (fun j q => by
        by_cases e : j = p
        · subst e; rw [u2_at]
        · rw [u2_n e]; exact a41 j (by omega))
      have hr2 := hr.fp fr
      simp only [f_Planner_load_18, f_Planner_load_18b, f_Planner_load_45, hRl rl3 v2 w, hQ v2 w, bd1_q]
      rw [show (3 : Int32) = nI 3 from rfl, if_neg (fun z => by have := (nI_leI (by omega) (by omega)).mp z; omega), C_hasOne rl3 hr2 h2, bd2_s]
      by_cases g : p < ρ 0 1
      · rw [if_pos (show 0 ≤ (nI p).toInt ∧ (nI p).toInt < (ρ 0 1 : Int) by rw [nI_toInt (by omega)]; omega), if_neg (by decide)]
        simp only [hRl rl3 v2 w, bd1_q]
        rw [C_timeLeft rl3 hr2 hk g, bd2_s]
        simp only [hQ v2 w, bd1_q]
        rw [wr_nI (by omega) (by decide), bd1_s, nI_1]
        have e : rL ρ (ρ 6) p = sLeft ρ p := by unfold rL; rw [if_pos g]; rfl
        rw [e] at nx
        exact nx
      · rw [if_neg (show ¬ (0 ≤ (nI p).toInt ∧ (nI p).toInt < (ρ 0 1 : Int)) by rw [nI_toInt (by omega)]; omega), if_pos rfl]
        simp only [hQ v2 w, bd1_q]
        rw [wr_nI (by omega) (by decide), bd1_s, nI_1]
        have e : rL ρ (ρ 6) p = 0 := by unfold rL; rw [if_neg g]
        rw [e] at nx
        exact nx
  obtain ⟨v', b1, b2, b3⟩ := lf 3 FU 0 v1 (by decide) (by omega) (fun q hq => (f1 q (by omega)).trans (u2_o (by omega))) (by rw [f1 40 (by decide), u2_at]) (by rw [f1 43 (by decide), u2_o (by decide)]; exact h43) f2 (fun j q => by omega)
  refine ⟨v', ?_, b2, b3⟩
  simp only [f_Planner_load, f_Planner_load_0, hRl rl3 v w, hQ v w, bd1_q]
  rw [hr.1.1]
  simp only [hQ (u2 v 40 0 (nI (ρ 0 0))) w, bd1_q]
  rw [e1, bd1_s]
  exact b1
end
end
/-! 8y2.meet.lean.txt -/
section
theorem hP0 (v : Nat → Nat → Int32) (w : Nat → Nat → Int64) : kC (bh v w) 40 2 = some () ∧ gI (bh v w) 40 2 0 = some (v 40 0) ∧ (∀ x, pV (bh v w) 40 2 0 (.int x) = some (bh (u2 v 40 0 x) w)) ∧ gR (bh v w) 40 2 1 = some 41 ∧ gR (bh v w) 40 2 2 = some 42 ∧ gR (bh v w) 40 2 3 = some 43 ∧ gR (bh v w) 40 2 4 = some 44 ∧ gR (bh v w) 40 2 5 = some 45 ∧ gR (bh v w) 40 2 6 = some 46 ∧ gR (bh v w) 40 2 7 = some 47 ∧ (∀ i, aI (bh v w) 0 41 i = rd (v 41) 3 i) ∧ (∀ i x, sI (bh v w) 0 41 i x = wr v w 41 3 i x) ∧ (∀ i, aI (bh v w) 0 42 i = rd (v 42) 5 i) ∧ (∀ i x, sI (bh v w) 0 42 i x = wr v w 42 5 i x) ∧ (∀ i, aI (bh v w) 0 43 i = rd (v 43) 6 i) ∧ (∀ i x, sI (bh v w) 0 43 i x = wr v w 43 6 i x) ∧ (∀ i, aI (bh v w) 0 44 i = rd (v 44) 15 i) ∧ (∀ i x, sI (bh v w) 0 44 i x = wr v w 44 15 i x) ∧ (∀ i, aI (bh v w) 0 45 i = rd (v 45) 15 i) ∧ (∀ i x, sI (bh v w) 0 45 i x = wr v w 45 15 i x) ∧ (∀ i, aI (bh v w) 0 46 i = rd (v 46) 15 i) ∧ (∀ i x, sI (bh v w) 0 46 i x = wr v w 46 15 i x) ∧ (∀ i, aI (bh v w) 0 47 i = rd (v 47) 216 i) ∧ (∀ i x, sI (bh v w) 0 47 i x = wr v w 47 216 i x) ∧ gR (bh v w) 0 0 6 = some 40 ∧ gR (bh v w) 0 0 1 = some 3 ∧ kC (bh v w) 3 4 = some () ∧ gR (bh v w) 3 4 11 = some 9 ∧ (∀ i, aI (bh v w) 0 9 i = rd (v 9) 3 i) ∧ gI (bh v w) 3 4 4 = some (v 3 4) := ⟨rfl, rfl, (fun _ => pV_bh rfl rfl), rfl, rfl, rfl, rfl, rfl, rfl, rfl, aI_bh rfl, sI_bh rfl, aI_bh rfl, sI_bh rfl, aI_bh rfl, sI_bh rfl, aI_bh rfl, sI_bh rfl, aI_bh rfl, sI_bh rfl, aI_bh rfl, sI_bh rfl, aI_bh rfl, sI_bh rfl, rfl, rfl, rfl, rfl, aI_bh rfl, rfl⟩
theorem hB0 (v : Nat → Nat → Int32) (w : Nat → Nat → Int64) : kC (bh v w) 48 7 = some () ∧ gI (bh v w) 48 7 0 = some (v 48 0) ∧ (∀ x, pV (bh v w) 48 7 0 (.int x) = some (bh (u2 v 48 0 x) w)) ∧ gR (bh v w) 48 7 1 = some 49 ∧ gR (bh v w) 48 7 2 = some 50 ∧ gR (bh v w) 48 7 3 = some 51 ∧ gR (bh v w) 48 7 4 = some 52 ∧ gR (bh v w) 48 7 5 = some 53 ∧ gR (bh v w) 48 7 6 = some 54 ∧ gR (bh v w) 48 7 7 = some 55 ∧ (∀ i, aI (bh v w) 0 49 i = rd (v 49) 15 i) ∧ (∀ i x, sI (bh v w) 0 49 i x = wr v w 49 15 i x) ∧ (∀ i, aI (bh v w) 0 50 i = rd (v 50) 15 i) ∧ (∀ i x, sI (bh v w) 0 50 i x = wr v w 50 15 i x) ∧ (∀ i, aI (bh v w) 0 51 i = rd (v 51) 5 i) ∧ (∀ i x, sI (bh v w) 0 51 i x = wr v w 51 5 i x) ∧ (∀ i, aI (bh v w) 0 52 i = rd (v 52) 3 i) ∧ (∀ i x, sI (bh v w) 0 52 i x = wr v w 52 3 i x) ∧ (∀ i, aI (bh v w) 0 53 i = rd (v 53) 3 i) ∧ (∀ i x, sI (bh v w) 0 53 i x = wr v w 53 3 i x) ∧ (∀ i, aL (bh v w) 54 i = rd (w 54) 18 i) ∧ (∀ i x, sL (bh v w) 54 i x = wrL v w 54 18 i x) ∧ (∀ i, aL (bh v w) 55 i = rd (w 55) 216 i) ∧ (∀ i x, sL (bh v w) 55 i x = wrL v w 55 216 i x) ∧ gR (bh v w) 0 0 7 = some 48 ∧ gR (bh v w) 0 0 1 = some 3 ∧ kC (bh v w) 3 4 = some () := ⟨rfl, rfl, (fun _ => pV_bh rfl rfl), rfl, rfl, rfl, rfl, rfl, rfl, rfl, aI_bh rfl, sI_bh rfl, aI_bh rfl, sI_bh rfl, aI_bh rfl, sI_bh rfl, aI_bh rfl, sI_bh rfl, aI_bh rfl, sI_bh rfl, aL_bh rfl, sL_bh rfl, aL_bh rfl, sL_bh rfl, rfl, rfl, rfl⟩
/-! the class's planner: what it can meet -/
def isub (t s : Nat) : Prop := t &&& (31 - s) = 0
theorem Q_isPart2 {t s : Nat} (ht : t < 32) (hs : s < 32) (h : mH) : f_Q_isPart (nI t) (nI s) h = some (if t &&& (31 - s) = 0 then 1 else 0, h) := by
  unfold f_Q_isPart f_Q_isPart_0
  have hl : t &&& (31 - s) < 2 ^ 31 := Nat.lt_of_le_of_lt Nat.and_le_left (by omega)
  rw [cut_I t ht s hs, ite_iff (nI_eq0 hl)]
  split <;> rfl
/-- of the laws in s: what is needed; what p has room for; what all can give -/
def nA (L : Nat) (nd : Nat → Nat) (s : Nat) : Nat := sumN (fun l => if bit s l = 1 then nd l else 0) L
def oA (L : Nat) (rm : Nat → Nat → Nat) (s p : Nat) : Nat := sumN (fun l => if bit s l = 1 then rm p l else 0) L
def gA (L : Nat) (rm : Nat → Nat → Nat) (lf : Nat → Nat) (s : Nat) : Nat := sumN (fun p => if lf p < oA L rm s p then lf p else oA L rm s p) 3
/-- what the planner holds -/
def pH (L : Nat) (nd : Nat → Nat) (rm : Nat → Nat → Nat) (lf : Nat → Nat) (v : Nat → Nat → Int32) : Prop := L ≤ 5 ∧ v 40 0 = nI L ∧ (∀ l, l < L → v 42 l = nI (nd l) ∧ nd l ≤ 9) ∧ (∀ p l, p < 3 → l < L → v 44 (5 * p + l) = nI (rm p l) ∧ rm p l ≤ 3) ∧ ∀ p, p < 3 → v 41 p = nI (lf p) ∧ lf p ≤ 20
section
variable {L : Nat} {nd lf : Nat → Nat} {rm : Nat → Nat → Nat} {v : Nat → Nat → Int32} {w : Nat → Nat → Int64} {s : Nat}
theorem C_needOfAll (h : pH L nd rm lf v) (hs : s < 32) : f_Planner_needOfAll 40 (nI s) (bh v w) = some (nI (nA L nd s), bh v w) := by
  obtain ⟨h5, h0, hn, -, -⟩ := h
  have key : ∀ (n fuel l : Nat), n < fuel → l + n = L → f_Planner_needOfAll_4 fuel 40 (nI s) (nI (sumN (fun l => if bit s l = 1 then nd l else 0) l)) (nI l) (bh v w) = some (nI (nA L nd s), bh v w) := by
    intro n
    induction n with
    | zero =>
      intro fuel l hf hl
      obtain ⟨m, rfl⟩ : ∃ m, fuel = m + 1 := ⟨fuel - 1, by omega⟩
      show f_Planner_needOfAll_4b (f_Planner_needOfAll_4 m) 40 _ _ _ (bh v w) = _
      unfold f_Planner_needOfAll_4b
      simp only [hP0, bd1_q]
      rw [h0, if_pos ((nI_leI (by omega) (by omega)).mpr (by omega)), show l = L by omega]
      rfl
    | succ n ih =>
      intro fuel l hf hl
      obtain ⟨m, rfl⟩ : ∃ m, fuel = m + 1 := ⟨fuel - 1, by omega⟩
      have nx := ih m (l + 1) (by omega) (by omega)
      have e : sumN (fun l => if bit s l = 1 then nd l else 0) (l + 1) = sumN (fun l => if bit s l = 1 then nd l else 0) l + (if bit s l = 1 then nd l else 0) := rfl
      show f_Planner_needOfAll_4b (f_Planner_needOfAll_4 m) 40 _ _ _ (bh v w) = _
      unfold f_Planner_needOfAll_4b f_Planner_needOfAll_31
      simp only [hP0, bd1_q]
      rw [h0, if_neg (fun z => by have := (nI_leI (by omega) (by omega)).mp z; omega), Q_hasBit (by omega) (by omega), bd2_s]
      rcases bit_01 s l with b | b
      · rw [b, if_pos (show nI 0 = 0 from rfl), nI_1, Int32.add_zero]
        rw [e, b, if_neg (by decide)] at nx
        exact nx
      · rw [b, if_neg (by decide)]
        simp only [hP0, bd1_q]
        rw [rd_nI (by omega) (by decide), bd1_s, (hn l (by omega)).1, nI_add, nI_1]
        rw [e, b, if_pos rfl] at nx
        exact nx
  unfold f_Planner_needOfAll f_Planner_needOfAll_0
  exact key L FU 0 (by unfold FU; omega) (by omega)
theorem C_givenTo (h : pH L nd rm lf v) (hs : s < 32) : f_Planner_givenTo 40 (nI s) (bh v w) = some (nI (gA L rm lf s), bh v w) := by
  obtain ⟨h5, h0, -, hr, hl⟩ := h
  have ob : ∀ (p j : Nat), p < 3 → j ≤ L → sumN (fun l => if bit s l = 1 then rm p l else 0) j ≤ 3 * j := by
    intro p j hp hj
    refine sumN_c (fun i hi => ?_)
    have := (hr p i hp (by omega)).2
    split <;> omega
  have k15 : ∀ (rec4 : Nat → Int32 → Int32 → Int32 → mH → Option (Int32 × mH)) (p : Nat) (g : Int32), p < 3 → ∀ (n fuel l : Nat), n < fuel → l + n = L → f_Planner_givenTo_15 rec4 fuel 40 (nI s) g (nI p) (nI (sumN (fun l => if bit s l = 1 then rm p l else 0) l)) (nI l) (bh v w) = rec4 40 (nI s) (g + nI (if lf p < oA L rm s p then lf p else oA L rm s p)) (nI (p + 1)) (bh v w) := by
    intro rec4 p g hp n
    induction n with
    | zero =>
      intro fuel l hf hll
      obtain ⟨m, rfl⟩ : ∃ m, fuel = m + 1 := ⟨fuel - 1, by omega⟩
      show f_Planner_givenTo_15b rec4 (f_Planner_givenTo_15 rec4 m) 40 _ _ _ _ _ (bh v w) = _
      unfold f_Planner_givenTo_15b
      simp only [hP0, bd1_q]
      have b1 := ob p L hp (Nat.le_refl _)
      have b2 := (hl p hp).2
      rw [h0, if_pos ((nI_leI (by omega) (by omega)).mpr (by omega)), rd_nI hp (by decide), bd1_s, (hl p hp).1, show l = L by omega, ite_iff (nI_ltI (by omega) (by omega)), nI_1]
      congr 2
      unfold oA
      split <;> rfl
    | succ n ih =>
      intro fuel l hf hll
      obtain ⟨m, rfl⟩ : ∃ m, fuel = m + 1 := ⟨fuel - 1, by omega⟩
      have nx := ih m (l + 1) (by omega) (by omega)
      have e : sumN (fun l => if bit s l = 1 then rm p l else 0) (l + 1) = sumN (fun l => if bit s l = 1 then rm p l else 0) l + (if bit s l = 1 then rm p l else 0) := rfl
      show f_Planner_givenTo_15b rec4 (f_Planner_givenTo_15 rec4 m) 40 _ _ _ _ _ (bh v w) = _
      unfold f_Planner_givenTo_15b f_Planner_givenTo_50
      simp only [hP0, bd1_q]
      rw [h0, if_neg (fun z => by have := (nI_leI (by omega) (by omega)).mp z; omega), Q_hasBit (by omega) (by omega), bd2_s]
      rcases bit_01 s l with b | b
      · rw [b, if_pos (show nI 0 = 0 from rfl), nI_1, Int32.add_zero]
        rw [e, b, if_neg (by decide)] at nx
        exact nx
      · rw [b, if_neg (by decide)]
        simp only [hP0, bd1_q]
        rw [show (5 : Int32) = nI 5 from rfl, pk_mul, nI_add, Nat.mul_comm p 5, rd_nI (by omega) (by decide), bd1_s, (hr p l hp (by omega)).1, nI_add, nI_1]
        rw [e, b, if_pos rfl] at nx
        exact nx
  have k4 : ∀ (n fuel p : Nat), n < fuel → p + n = 3 → f_Planner_givenTo_4 fuel 40 (nI s) (nI (sumN (fun p => if lf p < oA L rm s p then lf p else oA L rm s p) p)) (nI p) (bh v w) = some (nI (gA L rm lf s), bh v w) := by
    intro n
    induction n with
    | zero =>
      intro fuel p hf hp
      obtain ⟨m, rfl⟩ : ∃ m, fuel = m + 1 := ⟨fuel - 1, by omega⟩
      show f_Planner_givenTo_4b (f_Planner_givenTo_4 m) 40 _ _ _ (bh v w) = _
      unfold f_Planner_givenTo_4b
      rw [show (3 : Int32) = nI 3 from rfl, if_pos ((nI_leI (by omega) (by omega)).mpr (by omega)), show p = 3 by omega]
      rfl
    | succ n ih =>
      intro fuel p hf hp
      obtain ⟨m, rfl⟩ : ∃ m, fuel = m + 1 := ⟨fuel - 1, by omega⟩
      have nx := ih m (p + 1) (by omega) (by omega)
      show f_Planner_givenTo_4b (f_Planner_givenTo_4 m) 40 _ _ _ (bh v w) = _
      unfold f_Planner_givenTo_4b
      rw [show (3 : Int32) = nI 3 from rfl, if_neg (fun z => by have := (nI_leI (by omega) (by omega)).mp z; omega)]
      refine (k15 _ p _ (by omega) L FU 0 (by unfold FU; omega) (by omega)).trans ?_
      rw [nI_add]
      exact nx
  unfold f_Planner_givenTo f_Planner_givenTo_0
  exact k4 3 FU 0 (by decide) (by decide)
/-- every part of s can be met -/
def cM (L : Nat) (nd : Nat → Nat) (rm : Nat → Nat → Nat) (lf : Nat → Nat) (s : Nat) : Prop := ∀ t, 1 ≤ t → t ≤ s → t &&& (31 - s) = 0 → nA L nd t ≤ gA L rm lf t
theorem C_canMeet (h : pH L nd rm lf v) (hs : s < 32) : ∃ r, f_Planner_canMeet 40 (nI s) (bh v w) = some (r, bh v w) ∧ (r = 1 ∧ cM L nd rm lf s ∨ r = 0 ∧ ¬ cM L nd rm lf s) := by
  have nb : ∀ t, nA L nd t ≤ 9 * L := fun t => sumN_c (fun i hi => by have := (h.2.2.1 i hi).2; split <;> omega)
  have gb : ∀ t, gA L rm lf t ≤ 20 * 3 := fun t => sumN_c (fun i hi => by have := (h.2.2.2.2 i hi).2; split <;> omega)
  have h5 := h.1
  have key : ∀ (n fuel t : Nat), n < fuel → t + n = s + 1 → ∃ r, f_Planner_canMeet_2 fuel 40 (nI s) (nI t) (bh v w) = some (r, bh v w) ∧ (r = 1 ∧ (∀ t', t ≤ t' → t' ≤ s → t' &&& (31 - s) = 0 → nA L nd t' ≤ gA L rm lf t') ∨ r = 0 ∧ ¬ (∀ t', t ≤ t' → t' ≤ s → t' &&& (31 - s) = 0 → nA L nd t' ≤ gA L rm lf t')) := by
    intro n
    induction n with
    | zero =>
      intro fuel t hf ht
      obtain ⟨m, rfl⟩ : ∃ m, fuel = m + 1 := ⟨fuel - 1, by omega⟩
      show ∃ r, f_Planner_canMeet_2b (f_Planner_canMeet_2 m) 40 _ _ (bh v w) = some (r, bh v w) ∧ _
      unfold f_Planner_canMeet_2b
      rw [if_pos ((nI_ltI (by omega) (by omega)).mpr (by omega))]
      exact ⟨1, rfl, Or.inl ⟨rfl, fun t' a b => by omega⟩⟩
    | succ n ih =>
      intro fuel t hf ht
      obtain ⟨m, rfl⟩ : ∃ m, fuel = m + 1 := ⟨fuel - 1, by omega⟩
      obtain ⟨r, er, hr⟩ := ih m (t + 1) (by omega) (by omega)
      have go : (t &&& (31 - s) = 0 → nA L nd t ≤ gA L rm lf t) → (r = 1 ∧ (∀ t', t ≤ t' → t' ≤ s → t' &&& (31 - s) = 0 → nA L nd t' ≤ gA L rm lf t') ∨ r = 0 ∧ ¬ (∀ t', t ≤ t' → t' ≤ s → t' &&& (31 - s) = 0 → nA L nd t' ≤ gA L rm lf t')) := by
        intro ht
        rcases hr with ⟨a, b⟩ | ⟨a, b⟩
        · refine Or.inl ⟨a, fun t' q1 q2 q3 => ?_⟩
          by_cases z : t' = t
          · rw [z]; exact ht (by rw [← z]; exact q3)
          · exact b t' (by omega) q2 q3
        · exact Or.inr ⟨a, fun q => b (fun t' q1 q2 q3 => q t' (by omega) q2 q3)⟩
      show ∃ r, f_Planner_canMeet_2b (f_Planner_canMeet_2 m) 40 _ _ (bh v w) = some (r, bh v w) ∧ _
      unfold f_Planner_canMeet_2b f_Planner_canMeet_30
      rw [if_neg (fun z => by have := (nI_ltI (by omega) (by omega)).mp z; omega), Q_isPart2 (by omega) hs, bd2_s, nI_1]
      by_cases c : t &&& (31 - s) = 0
      · rw [if_pos c, if_neg (by decide)]
        simp only [hP0, bd1_q]
        rw [C_needOfAll h (by omega), bd2_s]
        simp only [hP0, bd1_q]
        have b1 := nb t
        have b2 := gb t
        rw [C_givenTo h (by omega), bd2_s, ite_iff (nI_leI (by omega) (by omega))]
        by_cases d : nA L nd t ≤ gA L rm lf t
        · rw [if_pos d]
          exact ⟨r, er, go (fun _ => d)⟩
        · rw [if_neg d]
          exact ⟨0, rfl, Or.inr ⟨rfl, fun q => d (q t (Nat.le_refl _) (by omega) c)⟩⟩
      · rw [if_neg c, if_pos rfl]
        exact ⟨r, er, go (fun z => absurd z c)⟩
  unfold f_Planner_canMeet f_Planner_canMeet_0
  rw [show (1 : Int32) = nI 1 from rfl]
  exact key s FU 1 (by unfold FU; omega) (by omega)
end
end
/-! 8y3.more.lean.txt -/
section
/-! more -/
def mLst (P : Nat → Prop) (r : Int32) : Prop := (∃ e, e ≤ 9 ∧ r = nI e ∧ P e ∧ ∀ e', e' < e → ¬ P e') ∨ (r = -4 ∧ ∀ e, e ≤ 9 → ¬ P e)
def lfe (ρ : Rho) (p e : Nat) : Nat → Nat := fun q => if q = p then ρ 6 p + e - sAll ρ p else rL ρ (ρ 6) q
def Tme (ρ : Rho) (p e : Nat) : Nat → Nat := fun q => if q = p then ρ 6 p + e else ρ 6 q
section
variable {ρ : Rho} {v : Nat → Nat → Int32} {w : Nat → Nat → Int64}
theorem rL_le (hk : ROK ρ) {T : Nat → Nat} {m : Nat} (hT : ∀ p, p < ρ 0 1 → T p ≤ m) (p : Nat) : rL ρ T p ≤ m := by
  unfold rL
  split
  · next h => have := hT p h; omega
  · omega
theorem pI_pH (hk : ROK ρ) (h : pI ρ (ρ 0 0) 0 v) : pH (ρ 0 0) (sNeed ρ) (rR ρ) (rL ρ (ρ 6)) v := by
  obtain ⟨i1, i2, i3, i4, i5, i6⟩ := h
  refine ⟨hk.1.1, i1, fun l hl => ⟨i3 l hl (Or.inl hl), sNeed_le hk hl⟩, fun p l hp hl => ⟨?_, rR_le hk hl⟩, fun p hp => ⟨i2 p hp, Nat.le_trans (rL_le hk (fun p hp => (hk.2.2.1 p hp).1) p) (by decide)⟩⟩
  rw [i5 p l hp hl, if_pos (Or.inl hl)]
theorem C_moreL (hk : ROK ρ) {p : Nat} (hp : p < ρ 0 1) : ∀ (n fuel e : Nat) (lf : Nat → Nat) (v : Nat → Nat → Int32), n < fuel → e + n = 10 → CR 3 ρ v → pH (ρ 0 0) (sNeed ρ) (rR ρ) lf v → (∀ q, q ≠ p → lf q = rL ρ (ρ 6) q) → (∀ e', e' < e → ¬ cM (ρ 0 0) (sNeed ρ) (rR ρ) (lfe ρ p e') (ρ 0 4)) → ∃ r v', f_Q_more_26 fuel 0 (nI p) (nI e) (bh v w) = some (r, bh v' w) ∧ (∀ q, q ≠ 41 → v' q = v q) ∧ mLst (fun e => cM (ρ 0 0) (sNeed ρ) (rR ρ) (lfe ρ p e) (ρ 0 4)) r := by
  have h2 := hk.1.2.1
  have hst := hk.st
  have hs5 : sAll ρ p ≤ 5 := (hk.2.2.1 p hp).2.2.2.2.2.2
  have ht5 : ρ 6 p ≤ 5 := (hk.2.2.1 p hp).1
  intro n
  induction n with
  | zero =>
    intro fuel e lf v hf he hr hH hl hn
    obtain ⟨m, rfl⟩ : ∃ m, fuel = m + 1 := ⟨fuel - 1, by omega⟩
    show ∃ r v', f_Q_more_26b (f_Q_more_26 m) 0 (nI p) (nI e) (bh v w) = some (r, bh v' w) ∧ _
    unfold f_Q_more_26b
    rw [show (9 : Int32) = nI 9 from rfl, if_pos ((nI_ltI (by omega) (by omega)).mpr (by omega))]
    exact ⟨-4, v, rfl, fun _ _ => rfl, Or.inr ⟨rfl, fun e' h => hn e' (by omega)⟩⟩
  | succ n ih =>
    intro fuel e lf v hf he hr hH hl hn
    obtain ⟨m, rfl⟩ : ∃ m, fuel = m + 1 := ⟨fuel - 1, by omega⟩
    have c9 : v 9 p = nI (ρ 6 p) := (hr.2.2.1 p hp).1
    have cz : nI (ρ 6 p) + nI e - nI (sAll ρ p) = zI ((ρ 6 p : Int) + e - sAll ρ p) := by rw [nI_add, ← zI_n, zI_subn]; rfl
    have cn : ((ρ 6 p : Int) + e - sAll ρ p).toNat = ρ 6 p + e - sAll ρ p := by omega
    have H1 : pH (ρ 0 0) (sNeed ρ) (rR ρ) (lfe ρ p e) (u2 v 41 p (nI (ρ 6 p + e - sAll ρ p))) := by
      obtain ⟨a1, a2, a3, a4, a5⟩ := hH
      refine ⟨a1, (congrFun (u2_o (by decide)) 0).trans a2, fun l h => ⟨(congrFun (u2_o (by decide)) l).trans (a3 l h).1, (a3 l h).2⟩, fun q l h h' => ⟨(congrFun (u2_o (by decide)) _).trans (a4 q l h h').1, (a4 q l h h').2⟩, fun q h => ?_⟩
      unfold lfe
      by_cases z : q = p
      · rw [if_pos z, z, u2_at]
        exact ⟨rfl, by omega⟩
      · rw [if_neg z, u2_n z, (a5 q h).1, hl q z]
        exact ⟨rfl, by rw [← hl q z]; exact (a5 q h).2⟩
    have R1 : CR 3 ρ (u2 v 41 p (nI (ρ 6 p + e - sAll ρ p))) := hr.frame (fun q h1 h2 => u2_o (by omega))
    obtain ⟨r, er, hrr⟩ := C_canMeet (w := w) (s := ρ 0 4) H1 hst
    have go : f_Q_more_26 (m + 1) 0 (nI p) (nI e) (bh v w) = if r = 0 then f_Q_more_26 m 0 (nI p) (nI (e + 1)) (bh (u2 v 41 p (nI (ρ 6 p + e - sAll ρ p))) w) else some (nI e, bh (u2 v 41 p (nI (ρ 6 p + e - sAll ρ p))) w) := by
      show f_Q_more_26b (f_Q_more_26 m) 0 (nI p) (nI e) (bh v w) = _
      unfold f_Q_more_26b f_Planner_grant f_Planner_grant_0
      rw [show (9 : Int32) = nI 9 from rfl, if_neg (fun z => by have := (nI_ltI (by omega) (by omega)).mp z; omega)]
      simp only [hP0, bd1_q]
      rw [rd_nI (by omega) (by decide), bd1_s, c9, C_brokenByOne rl3 hr hk hp, bd2_s]
      simp only [hP0, bd1_q]
      rw [cz, max0 (by omega) (by omega), cn, wr_nI (by omega) (by decide), bd1_s, bd1_s]
      simp only [hP0, bd1_q]
      rw [R1.1.2.2.2.2.1, er, bd2_s, nI_1]
    rw [go]
    rcases hrr with ⟨a, b⟩ | ⟨a, b⟩
    · rw [a, if_neg (by decide)]
      exact ⟨nI e, _, rfl, fun q hq => u2_o hq, Or.inl ⟨e, by omega, rfl, b, hn⟩⟩
    · rw [a, if_pos rfl]
      obtain ⟨r', v', e1, e2, e3⟩ := ih m (e + 1) (lfe ρ p e) _ (by omega) (by omega) R1 H1 (fun q hq => by unfold lfe; rw [if_neg hq]) (fun e' h => by
        by_cases z : e' = e
        · rw [z]; exact b
        · exact hn e' (by omega))
      exact ⟨r', v', e1, fun q hq => (e2 q hq).trans (u2_o hq), e3⟩
theorem C_more (hr : CR 3 ρ v) (hk : ROK ρ) (h43 : v 43 0 = 0) {p : Nat} (hp : p < ρ 0 1) : ∃ r v', f_Q_more 0 (nI p) (bh v w) = some (r, bh v' w) ∧ pFr v v' ∧ v' 43 0 = 0 ∧ mLst (fun e => cM (ρ 0 0) (sNeed ρ) (rR ρ) (lfe ρ p e) (ρ 0 4)) r := by
  have h2 := hk.1.2.1
  obtain ⟨v1, e1, i1, f1⟩ := C_load (w := w) hr hk h43
  obtain ⟨r, v2, e2, f2, m2⟩ := C_moreL (w := w) hk hp 10 FU 0 _ v1 (by decide) (by decide) (hr.fp f1) (pI_pH hk i1) (fun q _ => rfl) (fun e' h => by omega)
  have e2 : f_Q_more_26 FU 0 (nI p) 0 (bh v1 w) = some (r, bh v2 w) := e2
  refine ⟨r, v2, ?_, fun q hq => (f2 q (by omega)).trans (f1 q hq), ?_, m2⟩
  · unfold f_Q_more f_Q_more_0
    simp only [hP0, bd1_q]
    rw [C_hasOne rl3 hr h2, bd2_s, if_pos (show 0 ≤ (nI p).toInt ∧ (nI p).toInt < (ρ 0 1 : Int) by rw [nI_toInt (by omega)]; omega), if_neg (by decide)]
    simp only [hP0, bd1_q]
    rw [e1, bd1_s]
    exact e2
  · rw [f2 43 (by decide)]
    exact i1.2.2.2.1 0 (Nat.zero_le _) (Or.inl (Nat.zero_le _))
/-! the reference's more -/
theorem hV0 (v : Nat → Nat → Int32) (w : Nat → Nat → Int64) : (∀ i, aI (bh v w) 0 101 i = rd (v 101) 198 i) ∧ (∀ i x, sI (bh v w) 0 101 i x = wr v w 101 198 i x) := ⟨aI_bh rfl, sI_bh rfl⟩
theorem MRt_time {T : Nat → Nat} {p x : Nat} (h : MRt T ρ v) (hk : ROK ρ) (hp : p < ρ 0 1) : MRt (fun q => if q = p then x else T q) ρ (u2 v 101 (12 + p) (nI x)) := by
  have h0 := hk.1.1
  have h2 := hk.1.2.1
  obtain ⟨hf, b1, b2, b3, b4, b5, b6, b7, b8, b9, b10, b11, b12, b13⟩ := h
  refine ⟨?_, fun l hl => ?_, fun l hl => ?_, ?_, ?_, fun q hq => ?_, fun q hq => ?_, fun q hq => ?_, fun q hq => ?_, fun q l hq hl => ?_, ?_, ?_, ?_, fun i hi => ?_⟩
  · unfold MF at hf ⊢
    rw [u2_o (by decide), u2_o (by decide), u2_o (by decide), u2_o (by decide), u2_o (by decide), u2_o (by decide)]
    exact hf
  · rw [u2_n (by omega)]; exact b1 l hl
  · rw [u2_n (by omega)]; exact b2 l hl
  · rw [u2_n (by omega)]; exact b3
  · rw [u2_n (by omega)]; exact b4
  · show _ = nI (if q = p then x else T q)
    by_cases z : q = p
    · rw [if_pos z, z, show 0 + 12 + p = 12 + p by omega, u2_at]
    · rw [if_neg z, u2_n (by omega)]; exact b5 q hq
  · rw [u2_n (by omega)]; exact b6 q hq
  · rw [u2_n (by omega)]; exact b7 q hq
  · rw [u2_n (by omega)]; exact b8 q hq
  · rw [u2_n (by omega)]; exact b9 q l hq hl
  · rw [u2_n (by omega)]; exact b10
  · rw [u2_n (by omega)]; exact b11
  · rw [u2_n (by omega)]; exact b12
  · have := hk.1.2.2.2.2.2.2
    rw [u2_n (by omega), u2_n (by omega), u2_n (by omega)]; exact b13 i hi
theorem FAR_ne {x : Nat} (h : x ≤ FAR) : (nI x = (1000000 : Int32)) ↔ x = FAR := by
  have : FAR = 1000000 := rfl
  exact nI_eqI (a := x) (b := 1000000) (by omega) (by omega)
theorem rBst_le (ρ : Rho) (s : Nat) : ∀ k a b c, rBst ρ s k a b c ≤ FAR
  | 0, _, _, _ => Nat.zero_le _
  | k + 1, a, b, c => rMin_le _ 16
def moM (ρ : Rho) (p e : Nat) : Prop := rBst ρ (ρ 0 4) (ρ 0 0) (rL ρ (Tme ρ p e) 0) (rL ρ (Tme ρ p e) 1) (rL ρ (Tme ρ p e) 2) ≠ FAR
theorem M_more86 {p : Nat} (hp : p < 3) {x y : Int32} : f_M_more_86 100 (nI p) x y (bh v w) = some (y, bh (u2 v 101 (12 + p) x) w) := by
  unfold f_M_more_86
  simp only [hN0, hV0, bd1_q]
  rw [show (12 : Int32) = nI 12 from rfl, nI_add, wr_nI (by omega) (by decide), bd1_s]
theorem M_moreF {p : Nat} (hp : p < 3) {x y : Int32} (hy : y ≠ -4) (m : Nat) (e : Int32) : f_M_more_26 (m + 1) 100 (nI p) x y e (bh v w) = some (y, bh (u2 v 101 (12 + p) x) w) := by
  show f_M_more_26b (f_M_more_26 m) 100 (nI p) x y e (bh v w) = _
  unfold f_M_more_26b
  by_cases c : (9 : Int32) < e
  · rw [if_pos c, M_more86 hp]
  · rw [if_neg c, if_neg hy, M_more86 hp]
theorem M_moreL (hk : ROK ρ) {p : Nat} (hp : p < ρ 0 1) : ∀ (n fuel e : Nat) (T : Nat → Nat) (v : Nat → Nat → Int32), n + 1 < fuel → e + n = 10 → MRt T ρ v → (∀ q, q ≠ p → T q = ρ 6 q) → (∀ e', e' < e → ¬ moM ρ p e') → ∃ r v', f_M_more_26 fuel 100 (nI p) (nI (ρ 6 p)) (-4) (nI e) (bh v w) = some (r, bh v' w) ∧ (∀ q, q ≠ 101 → q < 115 ∨ 117 < q → v' q = v q) ∧ (∀ j, j ≠ 12 + p → v' 101 j = v 101 j) ∧ v' 101 (12 + p) = nI (ρ 6 p) ∧ mLst (moM ρ p) r := by
  have h2 := hk.1.2.1
  have hst := hk.st
  have ht5 : ∀ q, q < ρ 0 1 → ρ 6 q ≤ 5 := fun q hq => (hk.2.2.1 q hq).1
  intro n
  induction n with
  | zero =>
    intro fuel e T v hf he hr hT hn
    obtain ⟨m, rfl⟩ : ∃ m, fuel = m + 1 := ⟨fuel - 1, by omega⟩
    show ∃ r v', f_M_more_26b (f_M_more_26 m) 100 (nI p) (nI (ρ 6 p)) (-4) (nI e) (bh v w) = some (r, bh v' w) ∧ _
    unfold f_M_more_26b
    rw [show (9 : Int32) = nI 9 from rfl, if_pos ((nI_ltI (by omega) (by omega)).mpr (by omega)), M_more86 (by omega)]
    exact ⟨-4, _, rfl, fun q a _ => u2_o a, fun j a => u2_n a, u2_at _ _ _ _, Or.inr ⟨rfl, fun e' h => hn e' (by omega)⟩⟩
  | succ n ih =>
    intro fuel e T v hf he hr hT hn
    obtain ⟨m, rfl⟩ : ∃ m, fuel = m + 1 + 1 := ⟨fuel - 2, by omega⟩
    have R1 : MRt (fun q => if q = p then ρ 6 p + e else T q) ρ (u2 v 101 (12 + p) (nI (ρ 6 p + e))) := MRt_time hr hk hp
    have eT : (fun q => if q = p then ρ 6 p + e else T q) = Tme ρ p e := by
      funext q
      unfold Tme
      by_cases z : q = p
      · rw [if_pos z, if_pos z]
      · rw [if_neg z, if_neg z, hT q z]
    rw [eT] at R1
    have hTe : ∀ q, q < ρ 0 1 → Tme ρ p e q ≤ 14 := by
      intro q hq
      have a := ht5 q hq
      have b := ht5 p hp
      unfold Tme
      split <;> omega
    obtain ⟨v2, e2, B2, f2⟩ := M_startsRota (w := w) R1 hk (fun q hq => Nat.le_trans (hTe q hq) (by decide)) hst
    obtain ⟨v3, e3, -, f3⟩ := M_findRota (w := w) hk (Nat.lt_of_le_of_lt (rL_le hk hTe 0) (by decide)) (Nat.lt_of_le_of_lt (rL_le hk hTe 1) (by decide)) (Nat.lt_of_le_of_lt (rL_le hk hTe 2) (by decide)) B2
    have fr : ∀ q, q ≠ 101 → q < 115 ∨ 117 < q → v3 q = v q := fun q a b => (f3 q (by omega)).trans ((f2 q (by omega) (by omega)).trans (u2_o a))
    have fj : ∀ j, j ≠ 12 + p → v3 101 j = v 101 j := fun j a => (congrFun ((f3 101 (by decide)).trans (f2 101 (by decide) (by decide))) j).trans (u2_n a)
    have R3 : MRt (Tme ρ p e) ρ v3 := B2.1.frame (fun q h => f3 q (by omega))
    have a10 : u2 v 101 (12 + p) (nI (ρ 6 p + e)) 101 10 = nI (ρ 0 4) := (u2_n (by omega)).trans hr.2.2.2.1
    have go : f_M_more_26 (m + 1 + 1) 100 (nI p) (nI (ρ 6 p)) (-4) (nI e) (bh v w) = if nI (rBst ρ (ρ 0 4) (ρ 0 0) (rL ρ (Tme ρ p e) 0) (rL ρ (Tme ρ p e) 1) (rL ρ (Tme ρ p e) 2)) = (1000000 : Int32) then f_M_more_26 (m + 1) 100 (nI p) (nI (ρ 6 p)) (-4) (nI (e + 1)) (bh v3 w) else f_M_more_26 (m + 1) 100 (nI p) (nI (ρ 6 p)) (nI e) (nI (e + 1)) (bh v3 w) := by
      show f_M_more_26b (f_M_more_26 (m + 1)) 100 (nI p) (nI (ρ 6 p)) (-4) (nI e) (bh v w) = _
      unfold f_M_more_26b f_M_more_79
      rw [show (9 : Int32) = nI 9 from rfl, if_neg (fun z => by have := (nI_ltI (by omega) (by omega)).mp z; omega), if_pos rfl]
      simp only [hN0, hV0, bd1_q]
      rw [show (12 : Int32) = nI 12 from rfl, nI_add, nI_add, wr_nI (by omega) (by decide), bd1_s]
      simp only [hN0, hV0, bd1_q]
      rw [show (10 : Int32) = nI 10 from rfl, rd_nI (by decide) (by decide), bd1_s, a10, e2]
      simp only [hN0, hV0, bd1_q]
      rw [e3, bd2_s, nI_1]
    rw [go, ite_iff (FAR_ne (rBst_le ρ _ _ _ _ _))]
    by_cases c : rBst ρ (ρ 0 4) (ρ 0 0) (rL ρ (Tme ρ p e) 0) (rL ρ (Tme ρ p e) 1) (rL ρ (Tme ρ p e) 2) = FAR
    · rw [if_pos c]
      obtain ⟨r', v', e1, g1, g2, g3, g4⟩ := ih (m + 1) (e + 1) (Tme ρ p e) v3 (by omega) (by omega) R3 (fun q hq => by unfold Tme; rw [if_neg hq]) (fun e' h => by
        by_cases z : e' = e
        · rw [z]; exact fun q => q c
        · exact hn e' (by omega))
      exact ⟨r', v', e1, fun q a b => (g1 q a b).trans (fr q a b), fun j a => (g2 j a).trans (fj j a), g3, g4⟩
    · have ne4 : nI e ≠ -4 := fun z => by
        have := congrArg Int32.toInt z
        rw [nI_toInt (by omega), show (-4 : Int32).toInt = -4 by decide] at this
        omega
      rw [if_neg c, M_moreF (by omega) ne4]
      exact ⟨nI e, _, rfl, fun q a b => (u2_o a).trans (fr q a b), fun j a => (u2_n a).trans (fj j a), u2_at _ _ _ _, Or.inl ⟨e, by omega, rfl, c, hn⟩⟩
theorem M_more (hr : MR ρ v) (hk : ROK ρ) {p : Nat} (hp : p < ρ 0 1) : ∃ r v', f_M_more 100 (nI p) (bh v w) = some (r, bh v' w) ∧ (∀ q, q < 115 ∨ 117 < q → v' q = v q) ∧ mLst (moM ρ p) r := by
  have h2 := hk.1.2.1
  have a12 : v 101 (12 + p) = nI (ρ 6 p) := by have := hr.2.2.2.2.2.1 p hp; rwa [show 0 + 12 + p = 12 + p by omega] at this
  obtain ⟨r, v1, e1, g1, g2, g3, g4⟩ := M_moreL (w := w) hk hp 10 FU 0 (ρ 6) v (by decide) (by decide) (MRt_of hr) (fun _ _ => rfl) (fun e' h => by omega)
  have e1 : f_M_more_26 FU 100 (nI p) (nI (ρ 6 p)) (-4) 0 (bh v w) = some (r, bh v1 w) := e1
  refine ⟨r, v1, ?_, fun q hq => ?_, g4⟩
  · unfold f_M_more f_M_more_0
    simp only [hN0, bd1_q]
    rw [M_isOne hr.1 h2, bd2_s, if_pos (show 0 ≤ (nI p).toInt ∧ (nI p).toInt < (ρ 0 1 : Int) by rw [nI_toInt (by omega)]; omega), if_neg (by decide)]
    simp only [hN0, hV0, bd1_q]
    rw [show (12 : Int32) = nI 12 from rfl, nI_add, rd_nI (by omega) (by decide), bd1_s, a12]
    exact e1
  · by_cases z : q = 101
    · subst z
      funext j
      by_cases y : j = 12 + p
      · rw [y, g3, a12]
      · exact g2 j y
    · exact g1 q z hq
end
end
/-! 8y4.tog.lean.txt -/
section
/-! together: both come to an end -/
section
variable {ρ : Rho} {v : Nat → Nat → Int32} {w : Nat → Nat → Int64}
theorem C_togL (hr : CR 3 ρ v) (hk : ROK ρ) (h : pH (ρ 0 0) (sNeed ρ) (rR ρ) (rL ρ (ρ 6)) v) (x : Int32) : ∀ (n fuel s b : Nat), n < fuel → s + n = ρ 0 4 + 1 → b < 32 → ∃ r, f_Q_together_26 fuel 0 x (nI b) (nI s) (bh v w) = some (r, bh v w) := by
  have hst := hk.st
  have e4 : v 3 4 = nI (ρ 0 4) := hr.1.2.2.2.2.1
  intro n
  induction n with
  | zero =>
    intro fuel s b hf hs hb
    obtain ⟨m, rfl⟩ : ∃ m, fuel = m + 1 := ⟨fuel - 1, by omega⟩
    show ∃ r, f_Q_together_26b (f_Q_together_26 m) 0 x (nI b) (nI s) (bh v w) = some (r, bh v w)
    unfold f_Q_together_26b
    simp only [hP0, bd1_q]
    rw [e4, if_pos ((nI_ltI (by omega) (by omega)).mpr (by omega)), bitCount_I b hb, bd2_s]
    split
    · exact ⟨_, rfl⟩
    · exact ⟨_, rfl⟩
  | succ n ih =>
    intro fuel s b hf hs hb
    obtain ⟨m, rfl⟩ : ∃ m, fuel = m + 1 := ⟨fuel - 1, by omega⟩
    obtain ⟨r1, g1⟩ := ih m (s + 1) b (by omega) (by omega) hb
    obtain ⟨r2, g2⟩ := ih m (s + 1) s (by omega) (by omega) (by omega)
    obtain ⟨r3, g3, -⟩ := C_canMeet (w := w) (s := s) h (by omega)
    show ∃ r, f_Q_together_26b (f_Q_together_26 m) 0 x (nI b) (nI s) (bh v w) = some (r, bh v w)
    unfold f_Q_together_26b f_Q_together_53 f_Q_together_87
    simp only [hP0, bd1_q]
    rw [e4, if_neg (fun z => by have := (nI_ltI (by omega) (by omega)).mp z; omega), bitCount_I s (by omega), bd2_s, bitCount_I b hb, bd2_s, nI_1]
    split
    · rw [if_pos trivial]; exact ⟨r1, g1⟩
    · rw [if_neg (by decide)]
      simp only [hP0, bd1_q]
      rw [e4, Q_isPart2 (by omega) hst, bd2_s]
      by_cases c : s &&& (31 - ρ 0 4) = 0
      · rw [if_pos c, if_neg (by decide)]
        simp only [hP0, bd1_q]
        rw [g3, bd2_s]
        by_cases d : r3 = 0
        · rw [if_pos d]; exact ⟨r1, g1⟩
        · rw [if_neg d]; exact ⟨r2, g2⟩
      · rw [if_neg c, if_pos rfl]; exact ⟨r1, g1⟩
theorem C_together (hr : CR 3 ρ v) (hk : ROK ρ) (h43 : v 43 0 = 0) (x : Int32) : ∃ r v', f_Q_together 0 x (bh v w) = some (r, bh v' w) ∧ pFr v v' ∧ v' 43 0 = 0 := by
  unfold f_Q_together f_Q_together_0
  rw [Q_isWithin, bd2_s]
  by_cases c : (0 : Int32).toInt ≤ x.toInt ∧ x.toInt ≤ (1 : Int32).toInt
  · rw [if_pos c, if_neg (by decide)]
    simp only [hP0, bd1_q]
    obtain ⟨v1, e1, i1, f1⟩ := C_load (w := w) hr hk h43
    obtain ⟨r, e2⟩ := C_togL (w := w) (hr.fp f1) hk (pI_pH hk i1) x (ρ 0 4 + 1) FU 0 0 (by have := hk.st; unfold FU; omega) (by omega) (by decide)
    have e2 : f_Q_together_26 FU 0 x 0 0 (bh v1 w) = some (r, bh v1 w) := e2
    rw [e1, bd1_s, e2]
    exact ⟨r, v1, rfl, f1, i1.2.2.2.1 0 (Nat.zero_le _) (Or.inl (Nat.zero_le _))⟩
  · rw [if_neg c, if_pos rfl]
    exact ⟨-1, v, rfl, fun _ _ => rfl, h43⟩
theorem M_togL (hk : ROK ρ) (x : Int32) : ∀ (n fuel s : Nat) (b c : Int32) (v : Nat → Nat → Int32), n < fuel → s + n = 2 ^ ρ 0 0 → MR ρ v → ∃ r v', f_M_together_19 fuel 100 x b c (nI s) (bh v w) = some (r, bh v' w) ∧ ∀ q, q < 115 ∨ 117 < q → v' q = v q := by
  have h0 := hk.1.1
  have hst := hk.st
  have hpw : 2 ^ ρ 0 0 ≤ 32 := Nat.le_trans (Nat.pow_le_pow_right (by decide) h0) (by decide)
  have ht5 : ∀ q, q < ρ 0 1 → ρ 6 q ≤ 5 := fun q hq => (hk.2.2.1 q hq).1
  intro n
  induction n with
  | zero =>
    intro fuel s b c v hf hs hr
    obtain ⟨m, rfl⟩ : ∃ m, fuel = m + 1 := ⟨fuel - 1, by omega⟩
    show ∃ r v', f_M_together_19b (f_M_together_19 m) 100 x b c (nI s) (bh v w) = some (r, bh v' w) ∧ _
    unfold f_M_together_19b
    simp only [hN0, bd1_q]
    rw [hr.1.1, shl_I (by omega), if_pos ((nI_leI (by omega) (by omega)).mpr (by omega))]
    split
    · exact ⟨_, v, rfl, fun _ _ => rfl⟩
    · exact ⟨_, v, rfl, fun _ _ => rfl⟩
  | succ n ih =>
    intro fuel s b c v hf hs hr
    obtain ⟨m, rfl⟩ : ∃ m, fuel = m + 1 := ⟨fuel - 1, by omega⟩
    obtain ⟨v2, e2, B2, f2⟩ := M_startsRota (w := w) (s := s) (MRt_of hr) hk (fun q hq => Nat.le_trans (ht5 q hq) (by decide)) (by omega)
    obtain ⟨v3, e3, -, f3⟩ := M_findRota (w := w) hk (Nat.lt_of_le_of_lt (rL_le hk ht5 0) (by decide)) (Nat.lt_of_le_of_lt (rL_le hk ht5 1) (by decide)) (Nat.lt_of_le_of_lt (rL_le hk ht5 2) (by decide)) B2
    have R2 : MR ρ v2 := B2.1
    have R3 : MR ρ v3 := B2.1.frame (fun q h => f3 q (by omega))
    have fr2 : ∀ q, q < 115 ∨ 117 < q → v2 q = v q := fun q h => f2 q (by omega) (by omega)
    have fr3 : ∀ q, q < 115 ∨ 117 < q → v3 q = v q := fun q h => (f3 q (by omega)).trans (fr2 q h)
    have nx2 : ∀ b c : Int32, ∃ r v', f_M_together_19 m 100 x b c (nI (s + 1)) (bh v2 w) = some (r, bh v' w) ∧ ∀ q, q < 115 ∨ 117 < q → v' q = v q := fun b c => by
      obtain ⟨r, v', g1, g2⟩ := ih m (s + 1) b c v2 (by omega) (by omega) R2
      exact ⟨r, v', g1, fun q h => (g2 q h).trans (fr2 q h)⟩
    have nx3 : ∀ b c : Int32, ∃ r v', f_M_together_19 m 100 x b c (nI (s + 1)) (bh v3 w) = some (r, bh v' w) ∧ ∀ q, q < 115 ∨ 117 < q → v' q = v q := fun b c => by
      obtain ⟨r, v', g1, g2⟩ := ih m (s + 1) b c v3 (by omega) (by omega) R3
      exact ⟨r, v', g1, fun q h => (g2 q h).trans (fr3 q h)⟩
    show ∃ r v', f_M_together_19b (f_M_together_19 m) 100 x b c (nI s) (bh v w) = some (r, bh v' w) ∧ _
    unfold f_M_together_19b f_M_together_73 f_M_together_74 f_M_together_87 f_M_together_102
    simp only [hN0, bd1_q]
    rw [hr.1.1, shl_I (by omega), if_neg (fun z => by have := (nI_leI (by omega) (by omega)).mp z; omega), e2]
    simp only [hN0, hV0, bd1_q]
    rw [show (10 : Int32) = nI 10 from rfl, rd_nI (by decide) (by decide), bd1_s, nI_1, M_bitsOf (by omega), bd2_s]
    split
    · split
      · rw [if_pos trivial, if_pos trivial]; exact nx2 _ _
      · simp only [hN0, bd1_q]
        rw [e3, bd2_s]
        split
        · rw [if_pos trivial, if_pos trivial]; exact nx3 _ _
        · rw [if_neg (by decide), if_neg (by decide), M_bitsOf (by omega), bd2_s]; exact nx3 _ _
    · rw [if_pos trivial, if_pos trivial]; exact nx2 _ _
theorem M_together (hr : MR ρ v) (hk : ROK ρ) (x : Int32) : ∃ r v', f_M_together 100 x (bh v w) = some (r, bh v' w) ∧ ∀ q, q < 115 ∨ 117 < q → v' q = v q := by
  have hpw : 2 ^ ρ 0 0 ≤ 32 := Nat.le_trans (Nat.pow_le_pow_right (by decide) hk.1.1) (by decide)
  unfold f_M_together f_M_together_0
  rw [M_in, bd2_s]
  by_cases c : (0 : Int64) ≤ x.toInt64 ∧ x.toInt64 ≤ (1 : Int64)
  · rw [if_pos c, if_neg (by decide)]
    obtain ⟨r, v', e1, f1⟩ := M_togL (w := w) hk x (2 ^ ρ 0 0) FU 0 (-1) 0 v (by unfold FU; omega) (by omega) hr
    have e1 : f_M_together_19 FU 100 x (-1) 0 0 (bh v w) = some (r, bh v' w) := e1
    exact ⟨r, v', e1, f1⟩
  · rw [if_neg c, if_pos rfl]
    exact ⟨-1, v, rfl, fun _ _ => rfl⟩
end
section
variable {S : Sg} {v : Nat → Nat → Int32} {w : Nat → Nat → Int64}
/-- both come to an end; the planner of the class, the tables of the reference may change -/
theorem FiT.pl {α : Type} {fq fm : mH → Option (α × mH)} {r r' : α} {v1 v2 : Nat → Nat → Int32} {w1 w2 : Nat → Nat → Int64} (hs : SOK S) (hc : CI S v) (hm : MI S v) (h1 : fq (bh v w) = some (r, bh v1 w1)) (f1 : pFr v v1 ∨ ∀ q, q < 40 ∨ 58 ≤ q → v1 q = v q) (a43 : v1 43 0 = 0) (h2 : fm (bh v1 w1) = some (r', bh v2 w2)) (f2 : ∀ q, q < 115 ∨ 122 < q → v2 q = v1 q) : FiT S v w fq fm := by
  have g1 : ∀ q, q < 40 ∨ 58 ≤ q → v1 q = v q := by
    rcases f1 with f1 | f1
    · exact fun q hq => f1 q (by omega)
    · exact f1
  have e : v2 100 = v 100 := (f2 100 (by omega)).trans (g1 100 (by omega))
  refine ⟨r, r', v1, w1, v2, w2, S, h1, h2, hs, hc.fr0 (fun p hp => (f2 p (by unfold pC0 at hp; omega)).trans (g1 p (by unfold pC0 at hp; omega))) (by rw [f2 43 (by omega)]; exact a43), hm.fr (fun p hp => (f2 p (by unfold pM at hp; omega)).trans (g1 p (by unfold pM at hp; omega))) ?_⟩
  rw [e]
  exact ⟨rfl, rfl, rfl, rfl, rfl⟩
theorem MR.fr1 {ρ : Rho} {v1 : Nat → Nat → Int32} (h : MR ρ v) (f : ∀ q, 100 ≤ q ∧ q < 108 → v1 q = v q) : MR ρ v1 := MRt.frame (T := ρ 6) h f
theorem Fi_together (x : Int32) (hs : SOK S) (hc : CI S v) (hm : MI S v) : FiT S v w (f_Q_together 0 x) (f_M_together 100 x) := by
  obtain ⟨r, v1, e1, f1, a1⟩ := C_together (w := w) hc.1 hs.1 hc.2.2.2.2.2.2.2 x
  obtain ⟨r', v2, e2, f2⟩ := M_together (w := w) (hm.1.fr1 (fun q h => f1 q (by omega))) hs.1 x
  exact FiT.pl hs hc hm e1 (Or.inl f1) a1 e2 (fun q h => f2 q (by omega))
theorem Fi_more (x : Int32) (hs : SOK S) (hc : CI S v) (hm : MI S v) : FiT S v w (f_Q_more 0 x) (f_M_more 100 x) := by
  have h2 := hs.1.1.2.1
  by_cases hp : 0 ≤ x.toInt ∧ x.toInt < (S.1 0 1 : Int)
  · obtain ⟨p, hp2, rfl⟩ := ix (by omega) hp
    obtain ⟨r, v1, e1, f1, a1, -⟩ := C_more (w := w) hc.1 hs.1 hc.2.2.2.2.2.2.2 hp2
    obtain ⟨r', v2, e2, f2, -⟩ := M_more (w := w) (hm.1.fr1 (fun q h => f1 q (by omega))) hs.1 hp2
    exact FiT.pl hs hc hm e1 (Or.inl f1) a1 e2 (fun q h => f2 q (by omega))
  · refine EqT.fi (EqT.q (r := -1) (v1 := v) (v2 := v) (w1 := w) (w2 := w) hs hc hm ?_ (fun _ _ => rfl) ?_ (fun _ _ => rfl))
    · unfold f_Q_more f_Q_more_0
      simp only [hP0, bd1_q]
      rw [C_hasOne rl3 hc.1 h2, bd2_s, if_neg hp, if_pos rfl]
    · unfold f_M_more f_M_more_0
      simp only [hN0, bd1_q]
      rw [M_isOne hm.1.1 h2, bd2_s, if_neg hp, if_pos rfl]
end
end
/-! 8z1.booksm.lean.txt -/
section
/-! books, entry: the reference comes to an end -/
theorem hJ0 (v : Nat → Nat → Int32) (w : Nat → Nat → Int64) : kC (bh v w) 100 8 = some () ∧ gI (bh v w) 100 8 2 = some (v 100 2) ∧ gI (bh v w) 100 8 3 = some (v 100 3) ∧ gR (bh v w) 100 8 0 = some 101 ∧ gR (bh v w) 100 8 4 = some 103 ∧ gR (bh v w) 100 8 33 = some 121 ∧ gR (bh v w) 100 8 34 = some 122 ∧ (∀ i, aI (bh v w) 0 101 i = rd (v 101) 198 i) ∧ (∀ i, aI (bh v w) 0 103 i = rd (v 103) 5 i) ∧ (∀ i, aL (bh v w) 121 i = rd (w 121) 216 i) ∧ (∀ i x, sL (bh v w) 121 i x = wrL v w 121 216 i x) ∧ (∀ i, aL (bh v w) 122 i = rd (w 122) 216 i) ∧ (∀ i x, sL (bh v w) 122 i x = wrL v w 122 216 i x) := ⟨rfl, rfl, rfl, rfl, rfl, rfl, rfl, aI_bh rfl, aI_bh rfl, aL_bh rfl, sL_bh rfl, aL_bh rfl, sL_bh rfl⟩
def mo (ρ : Rho) (p l : Nat) : Nat := if p < ρ 0 1 ∧ bit (ρ 10 p) l = 0 then ρ 2 l else 0
theorem div_I : ∀ k, k < 216 → nI k / (36 : Int32) = nI (k / 36) ∧ (nI k / (6 : Int32)) - (nI k / (6 : Int32)) / (6 : Int32) * (6 : Int32) = nI (k / 6 % 6) ∧ nI k - nI k / (6 : Int32) * (6 : Int32) = nI (k % 6) := by decide +kernel
section
variable {ρ : Rho} {v : Nat → Nat → Int32} {w : Nat → Nat → Int64}
theorem mo_le (hk : ROK ρ) {p l : Nat} (hl : l < ρ 0 0) : mo ρ p l ≤ 3 := by
  unfold mo
  have := (hk.2.1 l hl).2.2.1
  split <;> omega
theorem M_mostOf (hr : MR ρ v) (hk : ROK ρ) {p l : Nat} (hp : p < 3) (hl : l < ρ 0 0) : f_M_mostOf 100 (nI p) (nI l) (bh v w) = some (nI (mo ρ p l), bh v w) := by
  have h0 := hk.1.1
  have h1 := hk.1.2.1
  unfold f_M_mostOf f_M_mostOf_0 f_M_mostOf_33 mo
  simp only [hJ0, bd1_q]
  rw [hr.1.2.1, ite_iff (nI_leI (by omega) (by omega))]
  by_cases c : p < ρ 0 1
  · have h10 : ρ 10 p < 32 := pw_le h0 (hk.2.2.1 p c).2.2.2.2.1
    have e1 := hr.2.2.2.2.2.2.2.1 p c
    rw [show 0 + 18 + p = 18 + p by omega] at e1
    rw [if_neg (by omega), show (18 : Int32) = nI 18 from rfl, nI_add, rd_nI (by omega) (by decide), bd1_s, e1, bit_I (by omega) (by omega), ite_iff (nI_eq0 (by have := bit_lt (ρ 10 p) l; omega))]
    by_cases d : bit (ρ 10 p) l = 0
    · rw [if_pos d, rd_nI (by omega) (by decide), bd1_s, (hr.1.2.2.1 l hl).1, if_pos ⟨c, d⟩]
    · rw [if_neg d, if_neg (fun z => d z.2)]; rfl
  · rw [if_pos (by omega), if_neg (fun z => c z.1)]; rfl
theorem M_isSo (hr : MR ρ v) (hk : ROK ρ) (a b c : Int32) : ∃ r, f_M_isSo 100 a b c (bh v w) = some (r, bh v w) := by
  have h6 := hk.1.2.2.2.2.2.2
  have e41 : v 101 41 = nI (ρ 0 6) := hr.2.2.2.2.2.2.2.2.2.2.2.2.1
  have key : ∀ (n fuel k : Nat) (s : Int32), n < fuel → k + n = ρ 0 6 → s = 0 ∨ s = 1 → ∃ r, f_M_isSo_6 fuel 100 a b c s (nI k) (bh v w) = some (r, bh v w) := by
    intro n
    induction n with
    | zero =>
      intro fuel k s hf hk2 hs
      obtain ⟨m, rfl⟩ : ∃ m, fuel = m + 1 := ⟨fuel - 1, by omega⟩
      show ∃ r, f_M_isSo_6b (f_M_isSo_6 m) 100 a b c s (nI k) (bh v w) = some (r, bh v w)
      unfold f_M_isSo_6b
      simp only [hJ0, bd1_q]
      rw [show (41 : Int32) = nI 41 from rfl, rd_nI (by decide) (by decide), bd1_s, e41, if_pos ((nI_leI (by omega) (by omega)).mpr (by omega)), if_pos hs]
      exact ⟨s, rfl⟩
    | succ n ih =>
      intro fuel k s hf hk2 hs
      obtain ⟨m, rfl⟩ : ∃ m, fuel = m + 1 := ⟨fuel - 1, by omega⟩
      have n0 := ih m (k + 1) 0 (by omega) (by omega) (Or.inl rfl)
      have n1 := ih m (k + 1) 1 (by omega) (by omega) (Or.inr rfl)
      show ∃ r, f_M_isSo_6b (f_M_isSo_6 m) 100 a b c s (nI k) (bh v w) = some (r, bh v w)
      unfold f_M_isSo_6b f_M_isSo_73 f_M_isSo_69 f_M_isSo_74
      simp only [hJ0, bd1_q]
      rw [show (41 : Int32) = nI 41 from rfl, rd_nI (by decide) (by decide), bd1_s, e41, if_neg (fun z => by have := (nI_leI (by omega) (by omega)).mp z; omega), nI_1, show (42 : Int32) = nI 42 from rfl, show (3 : Int32) = nI 3 from rfl, pk_mul, nI_add, rd_nI (by omega) (by decide), bd1_s, nI_1, rd_nI (by omega) (by decide), bd1_s, show nI (42 + 3 * k) + (2 : Int32) = nI (42 + 3 * k + 2) from nI_add _ 2, rd_nI (by omega) (by decide), bd1_s]
      split
      · exact n0
      · split
        · split
          · split
            · exact n1
            · exact n0
          · exact n1
        · exact n1
  unfold f_M_isSo f_M_isSo_0
  exact key (ρ 0 6) FU 0 1 (by unfold FU; omega) (by omega) (Or.inr rfl)
theorem M_isAsked (a b c d e f : Int32) : ∃ r, ∀ h : mH, f_M_isAsked 100 a b c d e f h = some (r, h) := by
  unfold f_M_isAsked f_M_isAsked_0 f_M_isAsked_18
  by_cases c1 : a = d
  · by_cases c2 : b = e
    · by_cases c3 : c = f
      · exact ⟨1, fun h => by rw [if_pos c1, if_pos c2, if_pos c3]⟩
      · exact ⟨0, fun h => by rw [if_pos c1, if_pos c2, if_neg c3]⟩
    · exact ⟨1, fun h => by rw [if_pos c1, if_neg c2]⟩
  · exact ⟨1, fun h => by rw [if_neg c1]⟩
theorem M_addsTables {x y z : Nat} (hx : x ≤ 3) (hy : y ≤ 3) (hz : z ≤ 3) (w : Nat → Nat → Int64) : ∃ w', f_M_addsTables 100 (nI x) (nI y) (nI z) (bh v w) = some (bh v w') := by
  have key : ∀ (n fuel k : Nat) (w : Nat → Nat → Int64), n < fuel → k + n = 216 → ∃ w', f_M_addsTables_3 fuel 100 (nI x) (nI y) (nI z) (nI k) (bh v w) = some (bh v w') := by
    intro n
    induction n with
    | zero =>
      intro fuel k w hf hk
      obtain ⟨m, rfl⟩ : ∃ m, fuel = m + 1 := ⟨fuel - 1, by omega⟩
      show ∃ w', f_M_addsTables_3b (f_M_addsTables_3 m) 100 (nI x) (nI y) (nI z) (nI k) (bh v w) = some (bh v w')
      unfold f_M_addsTables_3b
      rw [show (216 : Int32) = nI 216 from rfl, if_pos ((nI_leI (by omega) (by omega)).mpr (by omega))]
      exact ⟨w, rfl⟩
    | succ n ih =>
      intro fuel k w hf hk
      obtain ⟨m, rfl⟩ : ∃ m, fuel = m + 1 := ⟨fuel - 1, by omega⟩
      obtain ⟨d1, d2, d3⟩ := div_I k (by omega)
      have nx := fun w => ih m (k + 1) w (by omega) (by omega)
      have b1 : k / 36 < 6 := by omega
      have b2 : k / 6 % 6 < 6 := by omega
      have b3 : k % 6 < 6 := by omega
      show ∃ w', f_M_addsTables_3b (f_M_addsTables_3 m) 100 (nI x) (nI y) (nI z) (nI k) (bh v w) = some (bh v w')
      unfold f_M_addsTables_3b f_M_addsTables_91
      rw [show (216 : Int32) = nI 216 from rfl, if_neg (fun q => by have := (nI_leI (by omega) (by omega)).mp q; omega), d1, d2, d3, nI_add, nI_add, nI_add, nI_1]
      generalize k / 36 = a at b1
      generalize k / 6 % 6 = b at b2
      generalize k % 6 = c at b3
      have q6 : ∀ t : Nat, t < 100 → ((6 : Int32) ≤ nI t ↔ 6 ≤ t) := fun t ht => nI_leI (a := 6) (by decide) (by omega)
      rw [ite_iff (q6 (a + x) (by omega)), ite_iff (q6 (b + y) (by omega)), ite_iff (q6 (c + z) (by omega))]
      by_cases c1 : 6 ≤ a + x
      · rw [if_pos c1]; exact nx w
      · rw [if_neg c1]
        by_cases c2 : 6 ≤ b + y
        · rw [if_pos c2]; exact nx w
        · rw [if_neg c2]
          by_cases c3 : 6 ≤ c + z
          · rw [if_pos c3]; exact nx w
          · rw [if_neg c3]
            simp only [hJ0, bd1_q]
            rw [show (36 : Int32) = nI 36 from rfl, show (6 : Int32) = nI 6 from rfl, pk_mul, pk_mul, nI_add, nI_add, rd_nI (by omega) (by decide), bd1_s, rd_nI (by omega) (by decide), bd1_s, wrL_nI (by omega) (by decide), bd1_s]
            exact nx _
  unfold f_M_addsTables f_M_addsTables_0
  rw [show (0 : Int32) = nI 0 from rfl]
  exact key 216 FU 0 w (by decide) (by decide)
theorem M_al172 : ∀ (n fuel k : Nat) (w : Nat → Nat → Int64), n < fuel → k + n = 216 → ∃ w', f_M_addsLaw_172 fuel 100 (nI k) (bh v w) = some (bh v w') := by
  intro n
  induction n with
  | zero =>
    intro fuel k w hf hk
    obtain ⟨m, rfl⟩ : ∃ m, fuel = m + 1 := ⟨fuel - 1, by omega⟩
    show ∃ w', f_M_addsLaw_172b (f_M_addsLaw_172 m) 100 (nI k) (bh v w) = some (bh v w')
    unfold f_M_addsLaw_172b
    rw [show (216 : Int32) = nI 216 from rfl, if_pos ((nI_leI (by omega) (by omega)).mpr (by omega))]
    exact ⟨w, rfl⟩
  | succ n ih =>
    intro fuel k w hf hk
    obtain ⟨m, rfl⟩ : ∃ m, fuel = m + 1 := ⟨fuel - 1, by omega⟩
    show ∃ w', f_M_addsLaw_172b (f_M_addsLaw_172 m) 100 (nI k) (bh v w) = some (bh v w')
    unfold f_M_addsLaw_172b
    rw [show (216 : Int32) = nI 216 from rfl, if_neg (fun q => by have := (nI_leI (by omega) (by omega)).mp q; omega)]
    simp only [hJ0, bd1_q]
    rw [rd_nI (by omega) (by decide), bd1_s, wrL_nI (by omega) (by decide), bd1_s, nI_1]
    exact ih m (k + 1) _ (by omega) (by omega)
theorem M_al56 (hr : MR ρ v) (hk : ROK ρ) {l : Nat} (hl : l < ρ 0 0) (b2 b3 b4 : Int32) (rec28 : Nat → Int32 → Int32 → Int32 → Int32 → Int32 → mH → Option mH) (rec42 : Nat → Int32 → Int32 → Int32 → Int32 → Int32 → Int32 → mH → Option mH) {x y : Nat} (hx : x ≤ 3) (hy : y ≤ 3) : ∀ (n fuel z : Nat) (w : Nat → Nat → Int64), n < fuel → z + n = mo ρ 2 l + 1 → ∃ w', f_M_addsLaw_56 rec28 rec42 fuel 100 (nI l) b2 b3 b4 (nI x) (nI y) (nI z) (bh v w) = rec42 100 (nI l) b2 b3 b4 (nI x) (nI (y + 1)) (bh v w') := by
  have hm := mo_le hk (p := 2) hl
  have q2 : ∀ w, f_M_mostOf 100 (2 : Int32) (nI l) (bh v w) = some (nI (mo ρ 2 l), bh v w) := fun w => M_mostOf (w := w) (p := 2) hr hk (by decide) hl
  intro n
  induction n with
  | zero =>
    intro fuel z w hf hz
    obtain ⟨m, rfl⟩ : ∃ m, fuel = m + 1 := ⟨fuel - 1, by omega⟩
    refine ⟨w, ?_⟩
    show f_M_addsLaw_56b rec28 rec42 (f_M_addsLaw_56 rec28 rec42 m) 100 (nI l) b2 b3 b4 (nI x) (nI y) (nI z) (bh v w) = _
    unfold f_M_addsLaw_56b
    simp only [hJ0, bd1_q]
    rw [q2, bd2_s, if_pos ((nI_ltI (by omega) (by omega)).mpr (by omega)), nI_1]
  | succ n ih =>
    intro fuel z w hf hz
    obtain ⟨m, rfl⟩ : ∃ m, fuel = m + 1 := ⟨fuel - 1, by omega⟩
    obtain ⟨r1, s1⟩ := M_isSo (w := w) hr hk 1 (nI l) ((nI x + nI y) + nI z)
    obtain ⟨r2, s2⟩ := M_isAsked 0 (nI l) (nI x) b2 b3 b4
    obtain ⟨r3, s3⟩ := M_isAsked 1 (nI l) (nI y) b2 b3 b4
    obtain ⟨r4, s4⟩ := M_isAsked 2 (nI l) (nI z) b2 b3 b4
    obtain ⟨w2, e2⟩ := M_addsTables (v := v) hx hy (show z ≤ 3 by omega) w
    have n1 := ih m (z + 1) w (by omega) (by omega)
    have n2 := ih m (z + 1) w2 (by omega) (by omega)
    show ∃ w', f_M_addsLaw_56b rec28 rec42 (f_M_addsLaw_56 rec28 rec42 m) 100 (nI l) b2 b3 b4 (nI x) (nI y) (nI z) (bh v w) = _
    unfold f_M_addsLaw_56b f_M_addsLaw_133 f_M_addsLaw_134 f_M_addsLaw_151
    simp only [hJ0, bd1_q]
    rw [q2, bd2_s, if_neg (fun q => by have := (nI_ltI (by omega) (by omega)).mp q; omega), nI_1]
    simp only [hJ0, bd1_q]
    rw [s1, bd2_s]
    split
    · rw [if_pos trivial]; exact n1
    · simp only [hJ0, bd1_q]
      rw [s2, bd2_s]
      split
      · rw [if_pos trivial]; exact n1
      · simp only [hJ0, bd1_q]
        rw [s3, bd2_s]
        split
        · rw [if_pos trivial]; exact n1
        · simp only [hJ0, bd1_q]
          rw [s4, bd2_s]
          split
          · rw [if_pos trivial]; exact n1
          · rw [if_neg (by decide)]
            simp only [hJ0, bd1_q]
            rw [e2, bd1_s]
            exact n2
theorem M_al42 (hr : MR ρ v) (hk : ROK ρ) {l : Nat} (hl : l < ρ 0 0) (b2 b3 b4 : Int32) (rec28 : Nat → Int32 → Int32 → Int32 → Int32 → Int32 → mH → Option mH) {x : Nat} (hx : x ≤ 3) : ∀ (n fuel y : Nat) (w : Nat → Nat → Int64), n < fuel → y + n = mo ρ 1 l + 1 → ∃ w', f_M_addsLaw_42 rec28 fuel 100 (nI l) b2 b3 b4 (nI x) (nI y) (bh v w) = rec28 100 (nI l) b2 b3 b4 (nI (x + 1)) (bh v w') := by
  have hm := mo_le hk (p := 1) hl
  have q2 : ∀ w, f_M_mostOf 100 (1 : Int32) (nI l) (bh v w) = some (nI (mo ρ 1 l), bh v w) := fun w => M_mostOf (w := w) (p := 1) hr hk (by decide) hl
  intro n
  induction n with
  | zero =>
    intro fuel y w hf hy
    obtain ⟨m, rfl⟩ : ∃ m, fuel = m + 1 := ⟨fuel - 1, by omega⟩
    refine ⟨w, ?_⟩
    show f_M_addsLaw_42b rec28 (f_M_addsLaw_42 rec28 m) 100 (nI l) b2 b3 b4 (nI x) (nI y) (bh v w) = _
    unfold f_M_addsLaw_42b
    simp only [hJ0, bd1_q]
    rw [q2, bd2_s, if_pos ((nI_ltI (by omega) (by omega)).mpr (by omega)), nI_1]
  | succ n ih =>
    intro fuel y w hf hy
    obtain ⟨m, rfl⟩ : ∃ m, fuel = m + 1 := ⟨fuel - 1, by omega⟩
    have hm2 := mo_le hk (p := 2) hl
    obtain ⟨w1, e1⟩ := M_al56 hr hk hl b2 b3 b4 rec28 (f_M_addsLaw_42 rec28 m) hx (show y ≤ 3 by omega) (mo ρ 2 l + 1) FU 0 w (by unfold FU; omega) (by omega)
    obtain ⟨w2, e2⟩ := ih m (y + 1) w1 (by omega) (by omega)
    refine ⟨w2, ?_⟩
    show f_M_addsLaw_42b rec28 (f_M_addsLaw_42 rec28 m) 100 (nI l) b2 b3 b4 (nI x) (nI y) (bh v w) = _
    unfold f_M_addsLaw_42b
    simp only [hJ0, bd1_q]
    rw [q2, bd2_s, if_neg (fun q => by have := (nI_ltI (by omega) (by omega)).mp q; omega)]
    exact e1.trans e2
theorem M_al28 (hr : MR ρ v) (hk : ROK ρ) {l : Nat} (hl : l < ρ 0 0) (b2 b3 b4 : Int32) : ∀ (n fuel x : Nat) (w : Nat → Nat → Int64), n < fuel → x + n = mo ρ 0 l + 1 → ∃ w', f_M_addsLaw_28 fuel 100 (nI l) b2 b3 b4 (nI x) (bh v w) = some (bh v w') := by
  have hm := mo_le hk (p := 0) hl
  have q2 : ∀ w, f_M_mostOf 100 (0 : Int32) (nI l) (bh v w) = some (nI (mo ρ 0 l), bh v w) := fun w => M_mostOf (w := w) (p := 0) hr hk (by decide) hl
  intro n
  induction n with
  | zero =>
    intro fuel x w hf hx
    obtain ⟨m, rfl⟩ : ∃ m, fuel = m + 1 := ⟨fuel - 1, by omega⟩
    obtain ⟨w1, e1⟩ := M_al172 (v := v) 216 FU 0 w (by decide) (by decide)
    have e1 : f_M_addsLaw_172 FU 100 0 (bh v w) = some (bh v w1) := e1
    refine ⟨w1, ?_⟩
    show f_M_addsLaw_28b (f_M_addsLaw_28 m) 100 (nI l) b2 b3 b4 (nI x) (bh v w) = _
    unfold f_M_addsLaw_28b
    simp only [hJ0, bd1_q]
    rw [q2, bd2_s, if_pos ((nI_ltI (by omega) (by omega)).mpr (by omega))]
    exact e1
  | succ n ih =>
    intro fuel x w hf hx
    obtain ⟨m, rfl⟩ : ∃ m, fuel = m + 1 := ⟨fuel - 1, by omega⟩
    have hm2 := mo_le hk (p := 1) hl
    obtain ⟨w1, e1⟩ := M_al42 hr hk hl b2 b3 b4 (f_M_addsLaw_28 m) (show x ≤ 3 by omega) (mo ρ 1 l + 1) FU 0 w (by unfold FU; omega) (by omega)
    obtain ⟨w2, e2⟩ := ih m (x + 1) w1 (by omega) (by omega)
    refine ⟨w2, ?_⟩
    show f_M_addsLaw_28b (f_M_addsLaw_28 m) 100 (nI l) b2 b3 b4 (nI x) (bh v w) = _
    unfold f_M_addsLaw_28b
    simp only [hJ0, bd1_q]
    rw [q2, bd2_s, if_neg (fun q => by have := (nI_ltI (by omega) (by omega)).mp q; omega)]
    exact e1.trans e2
theorem M_addsLaw (hr : MR ρ v) (hk : ROK ρ) {l : Nat} (hl : l < ρ 0 0) (b2 b3 b4 : Int32) (w : Nat → Nat → Int64) : ∃ w', f_M_addsLaw 100 (nI l) b2 b3 b4 (bh v w) = some (bh v w') := by
  have hm := mo_le hk (p := 0) hl
  have key : ∀ (n fuel k : Nat) (w : Nat → Nat → Int64), n < fuel → k + n = 216 → ∃ w', f_M_addsLaw_3 fuel 100 (nI l) b2 b3 b4 (nI k) (bh v w) = some (bh v w') := by
    intro n
    induction n with
    | zero =>
      intro fuel k w hf hk2
      obtain ⟨m, rfl⟩ : ∃ m, fuel = m + 1 := ⟨fuel - 1, by omega⟩
      obtain ⟨w1, e1⟩ := M_al28 hr hk hl b2 b3 b4 (mo ρ 0 l + 1) FU 0 w (by unfold FU; omega) (by omega)
      have e1 : f_M_addsLaw_28 FU 100 (nI l) b2 b3 b4 0 (bh v w) = some (bh v w1) := e1
      refine ⟨w1, ?_⟩
      show f_M_addsLaw_3b (f_M_addsLaw_3 m) 100 (nI l) b2 b3 b4 (nI k) (bh v w) = _
      unfold f_M_addsLaw_3b
      rw [show (216 : Int32) = nI 216 from rfl, if_pos ((nI_leI (by omega) (by omega)).mpr (by omega))]
      exact e1
    | succ n ih =>
      intro fuel k w hf hk2
      obtain ⟨m, rfl⟩ : ∃ m, fuel = m + 1 := ⟨fuel - 1, by omega⟩
      show ∃ w', f_M_addsLaw_3b (f_M_addsLaw_3 m) 100 (nI l) b2 b3 b4 (nI k) (bh v w) = some (bh v w')
      unfold f_M_addsLaw_3b
      rw [show (216 : Int32) = nI 216 from rfl, if_neg (fun q => by have := (nI_leI (by omega) (by omega)).mp q; omega)]
      simp only [hJ0, bd1_q]
      rw [wrL_nI (by omega) (by decide), bd1_s, nI_1]
      exact ih m (k + 1) _ (by omega) (by omega)
  unfold f_M_addsLaw f_M_addsLaw_0
  rw [show (0 : Int32) = nI 0 from rfl]
  exact key 216 FU 0 w (by decide) (by decide)
theorem M_isTime (hr : MR ρ v) (hk : ROK ρ) {p : Nat} (hp : p < 3) (n : Int32) : ∃ r, f_M_isTime 100 (nI p) n (bh v w) = some (r, bh v w) := by
  have h1 := hk.1.2.1
  obtain ⟨r, e⟩ := M_isSo (w := w) hr hk 0 (nI p) n
  unfold f_M_isTime f_M_isTime_0 f_M_isTime_47
  simp only [hJ0, bd1_q]
  rw [show (12 : Int32) = nI 12 from rfl, nI_add, rd_nI (by omega) (by decide), bd1_s, e, bd2_s]
  split
  · split
    · exact ⟨_, rfl⟩
    · split
      · exact ⟨_, rfl⟩
      · exact ⟨_, rfl⟩
  · split
    · exact ⟨_, rfl⟩
    · exact ⟨_, rfl⟩
theorem M_tablesBy (hr : MR ρ v) (hk : ROK ρ) (a b c : Int32) (w : Nat → Nat → Int64) : ∃ r w', f_M_tablesBy 100 a b c (bh v w) = some (r, bh v w') := by
  have h0 := hk.1.1
  have k67 : ∀ (n fuel k : Nat) (s : Int64) (w : Nat → Nat → Int64), n < fuel → k + n = 216 → ∃ r, f_M_tablesBy_67 fuel 100 s (nI k) (bh v w) = some (r, bh v w) := by
    intro n
    induction n with
    | zero =>
      intro fuel k s w hf hk2
      obtain ⟨m, rfl⟩ : ∃ m, fuel = m + 1 := ⟨fuel - 1, by omega⟩
      show ∃ r, f_M_tablesBy_67b (f_M_tablesBy_67 m) 100 s (nI k) (bh v w) = some (r, bh v w)
      unfold f_M_tablesBy_67b
      rw [show (216 : Int32) = nI 216 from rfl, if_pos ((nI_leI (by omega) (by omega)).mpr (by omega))]
      exact ⟨s, rfl⟩
    | succ n ih =>
      intro fuel k s w hf hk2
      obtain ⟨m, rfl⟩ : ∃ m, fuel = m + 1 := ⟨fuel - 1, by omega⟩
      have nx := fun s => ih m (k + 1) s w (by omega) (by omega)
      obtain ⟨r1, e1⟩ := M_isTime (w := w) (p := 0) hr hk (by decide) (nI k / (36 : Int32))
      obtain ⟨r2, e2⟩ := M_isTime (w := w) (p := 1) hr hk (by decide) ((nI k / (6 : Int32)) - (nI k / (6 : Int32)) / (6 : Int32) * (6 : Int32))
      obtain ⟨r3, e3⟩ := M_isTime (w := w) (p := 2) hr hk (by decide) (nI k - nI k / (6 : Int32) * (6 : Int32))
      have e1 : f_M_isTime 100 (0 : Int32) (nI k / (36 : Int32)) (bh v w) = some (r1, bh v w) := e1
      have e2 : f_M_isTime 100 (1 : Int32) ((nI k / (6 : Int32)) - (nI k / (6 : Int32)) / (6 : Int32) * (6 : Int32)) (bh v w) = some (r2, bh v w) := e2
      have e3 : f_M_isTime 100 (2 : Int32) (nI k - nI k / (6 : Int32) * (6 : Int32)) (bh v w) = some (r3, bh v w) := e3
      show ∃ r, f_M_tablesBy_67b (f_M_tablesBy_67 m) 100 s (nI k) (bh v w) = some (r, bh v w)
      unfold f_M_tablesBy_67b f_M_tablesBy_129 f_M_tablesBy_130
      rw [show (216 : Int32) = nI 216 from rfl, if_neg (fun q => by have := (nI_leI (by omega) (by omega)).mp q; omega)]
      simp only [hJ0, bd1_q]
      rw [e1, bd2_s, nI_1]
      split
      · exact nx _
      · simp only [hJ0, bd1_q]
        rw [e2, bd2_s]
        split
        · exact nx _
        · simp only [hJ0, bd1_q]
          rw [e3, bd2_s]
          split
          · exact nx _
          · simp only [hJ0, bd1_q]
            rw [rd_nI (by omega) (by decide), bd1_s]
            exact nx _
  have k37 : ∀ (n fuel l : Nat) (w : Nat → Nat → Int64), n < fuel → l + n = ρ 0 0 → ∃ r w', f_M_tablesBy_37 fuel 100 a b c (nI l) (bh v w) = some (r, bh v w') := by
    intro n
    induction n with
    | zero =>
      intro fuel l w hf hl
      obtain ⟨m, rfl⟩ : ∃ m, fuel = m + 1 := ⟨fuel - 1, by omega⟩
      obtain ⟨r, e1⟩ := k67 216 FU 0 0 w (by decide) (by decide)
      have e1 : f_M_tablesBy_67 FU 100 0 0 (bh v w) = some (r, bh v w) := e1
      refine ⟨r, w, ?_⟩
      show f_M_tablesBy_37b (f_M_tablesBy_37 m) 100 a b c (nI l) (bh v w) = _
      unfold f_M_tablesBy_37b
      simp only [hJ0, bd1_q]
      rw [hr.1.1, if_pos ((nI_leI (by omega) (by omega)).mpr (by omega))]
      exact e1
    | succ n ih =>
      intro fuel l w hf hl
      obtain ⟨m, rfl⟩ : ∃ m, fuel = m + 1 := ⟨fuel - 1, by omega⟩
      obtain ⟨w1, e1⟩ := M_addsLaw hr hk (show l < ρ 0 0 by omega) a b c w
      show ∃ r w', f_M_tablesBy_37b (f_M_tablesBy_37 m) 100 a b c (nI l) (bh v w) = some (r, bh v w')
      unfold f_M_tablesBy_37b
      simp only [hJ0, bd1_q]
      rw [hr.1.1, if_neg (fun q => by have := (nI_leI (by omega) (by omega)).mp q; omega), e1, bd1_s, nI_1]
      exact ih m (l + 1) w1 (by omega) (by omega)
  have k3 : ∀ (n fuel k : Nat) (w : Nat → Nat → Int64), n < fuel → k + n = 216 → ∃ r w', f_M_tablesBy_3 fuel 100 a b c (nI k) (bh v w) = some (r, bh v w') := by
    intro n
    induction n with
    | zero =>
      intro fuel k w hf hk2
      obtain ⟨m, rfl⟩ : ∃ m, fuel = m + 1 := ⟨fuel - 1, by omega⟩
      obtain ⟨r, w1, e1⟩ := k37 (ρ 0 0) FU 0 w (by unfold FU; omega) (by omega)
      have e1 : f_M_tablesBy_37 FU 100 a b c 0 (bh v w) = some (r, bh v w1) := e1
      refine ⟨r, w1, ?_⟩
      show f_M_tablesBy_3b (f_M_tablesBy_3 m) 100 a b c (nI k) (bh v w) = _
      unfold f_M_tablesBy_3b
      rw [show (216 : Int32) = nI 216 from rfl, if_pos ((nI_leI (by omega) (by omega)).mpr (by omega))]
      exact e1
    | succ n ih =>
      intro fuel k w hf hk2
      obtain ⟨m, rfl⟩ : ∃ m, fuel = m + 1 := ⟨fuel - 1, by omega⟩
      show ∃ r w', f_M_tablesBy_3b (f_M_tablesBy_3 m) 100 a b c (nI k) (bh v w) = some (r, bh v w')
      unfold f_M_tablesBy_3b f_M_tablesBy_27
      rw [show (216 : Int32) = nI 216 from rfl, if_neg (fun q => by have := (nI_leI (by omega) (by omega)).mp q; omega)]
      simp only [hJ0, bd1_q]
      rw [wrL_nI (by omega) (by decide), wrL_nI (by omega) (by decide), bd1_s, bd1_s, nI_1]
      split
      · exact ih m (k + 1) _ (by omega) (by omega)
      · exact ih m (k + 1) _ (by omega) (by omega)
  unfold f_M_tablesBy f_M_tablesBy_0
  rw [show (0 : Int32) = nI 0 from rfl]
  exact k3 216 FU 0 w (by decide) (by decide)
theorem M_books (hr : MR ρ v) (hk : ROK ρ) : ∃ r w', f_M_books 100 (bh v w) = some (r, bh v w') := by
  obtain ⟨r, w1, e⟩ := M_tablesBy hr hk (-4) (-4) 0 w
  unfold f_M_books f_M_books_0
  simp only [hJ0, bd1_q]
  rw [e, bd2_s]
  exact ⟨r, w1, rfl⟩
theorem M_entry (hr : MR ρ v) (hk : ROK ρ) (a b c : Int32) : ∃ r w', f_M_entry 100 a b c (bh v w) = some (r, bh v w') := by
  have key : ∀ (n fuel k : Nat) (x y : Int32) (w : Nat → Nat → Int64), n < fuel → k + n = 4 → ∃ r w', f_M_entry_39 fuel 100 a b c x y (nI k) (bh v w) = some (r, bh v w') := by
    intro n
    induction n with
    | zero =>
      intro fuel k x y w hf hk2
      obtain ⟨m, rfl⟩ : ∃ m, fuel = m + 1 := ⟨fuel - 1, by omega⟩
      show ∃ r w', f_M_entry_39b (f_M_entry_39 m) 100 a b c x y (nI k) (bh v w) = some (r, bh v w')
      unfold f_M_entry_39b
      rw [show (3 : Int32) = nI 3 from rfl, if_pos ((nI_ltI (by omega) (by omega)).mpr (by omega))]
      split
      · exact ⟨_, w, rfl⟩
      · exact ⟨_, w, rfl⟩
    | succ n ih =>
      intro fuel k x y w hf hk2
      obtain ⟨m, rfl⟩ : ∃ m, fuel = m + 1 := ⟨fuel - 1, by omega⟩
      obtain ⟨r, w1, e⟩ := M_tablesBy hr hk a b (nI k) w
      have nx := fun x y => ih m (k + 1) x y w1 (by omega) (by omega)
      show ∃ r w', f_M_entry_39b (f_M_entry_39 m) 100 a b c x y (nI k) (bh v w) = some (r, bh v w')
      unfold f_M_entry_39b f_M_entry_63 f_M_entry_82 f_M_entry_84 f_M_entry_98
      rw [show (3 : Int32) = nI 3 from rfl, if_neg (fun q => by have := (nI_ltI (by omega) (by omega)).mp q; omega)]
      simp only [hJ0, bd1_q]
      rw [e, bd2_s, nI_1]
      repeat' split
      all_goals exact nx _ _
  unfold f_M_entry f_M_entry_0 f_M_entry_26
  simp only [hJ0, bd1_q]
  rw [M_isOne hr.1 hk.1.2.1, bd2_s]
  by_cases c1 : 0 ≤ a.toInt ∧ a.toInt < (ρ 0 1 : Int)
  · rw [if_pos c1, if_neg (by decide)]
    simp only [hJ0, bd1_q]
    rw [M_isLaw hr.1 hk.1.1, bd2_s]
    by_cases c2 : 0 ≤ b.toInt ∧ b.toInt < (ρ 0 0 : Int)
    · rw [if_pos c2, if_neg (by decide), M_in, bd2_s]
      by_cases c3 : (0 : Int64) ≤ c.toInt64 ∧ c.toInt64 ≤ (1 : Int64)
      · rw [if_pos c3, if_neg (by decide)]
        obtain ⟨r, w1, e⟩ := key 4 FU 0 (-4) (-4) w (by decide) (by decide)
        have e : f_M_entry_39 FU 100 a b c (-4) (-4) 0 (bh v w) = some (r, bh v w1) := e
        exact ⟨r, w1, e⟩
      · rw [if_neg c3, if_pos rfl]; exact ⟨_, w, rfl⟩
    · rw [if_neg c2, if_pos rfl]; exact ⟨_, w, rfl⟩
  · rw [if_neg c1, if_pos rfl]; exact ⟨_, w, rfl⟩
end
end
