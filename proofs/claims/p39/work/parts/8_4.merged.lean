/-! 8_10.joined -/
section
/-! 8y1.load.lean.txt -/
section
/-! the class's planner -/
section
variable {ρ : Rho} {v : Nat → Nat → Int32} {w : Nat → Nat → Int64}
/-- laws below l are loaded, of the law l those of the first m people (all: m = 4) -/
def pI (ρ : Rho) (l m : Nat) (v : Nat → Nat → Int32) : Prop :=
  v 40 0 = nI (ρ 0 0) ∧ (∀ p, p < 3 → v 41 p = nI (rL ρ (ρ 6) p)) ∧ (∀ j, j < ρ 0 0 → j < l ∨ j = l ∧ 0 < m → v 42 j = nI (sNeed ρ j)) ∧ (∀ j, j ≤ ρ 0 0 → j ≤ l ∨ j = l + 1 ∧ 0 < m → v 43 j = nI (sumN (sNeed ρ) j)) ∧
  (∀ p j, p < 3 → j < ρ 0 0 → v 44 (5 * p + j) = if j < l ∨ j = l ∧ p + 1 < m then nI (rR ρ p j) else 0) ∧ (∀ p j, p < ρ 0 1 → j < ρ 0 0 → j < l ∨ j = l ∧ p + 1 < m → v 45 (5 * p + j) = nI (rH ρ p j))
def pFr (v v' : Nat → Nat → Int32) : Prop := ∀ q, q < 40 ∨ 46 ≤ q → v' q = v q
theorem CR.fp {v' : Nat → Nat → Int32} (h : CR 3 ρ v) (hq : pFr v v') : CR 3 ρ v' := h.frame (fun p _ _ => hq p (by omega))
theorem C_l96 (hk : ROK ρ) (rec54 : Nat → Nat → Int32 → mH → Option mH) {l : Nat} (hl : l < ρ 0 0) : ∀ (k fuel p : Nat) (v : Nat → Nat → Int32), k < fuel → p + k = ρ 0 1 → CR 3 ρ v → pI ρ l (p + 1) v → ∃ v', f_Planner_load_96 rec54 fuel 40 3 (nI l) (nI p) (bh v w) = rec54 40 3 (nI (l + 1)) (bh v' w) ∧ pI ρ (l + 1) 0 v' ∧ pFr v v' := by
  have h1 := hk.1.1
  have h2 := hk.1.2.1
  intro k
  induction k with
  | zero =>
    intro fuel p v hf hp hr hi
    obtain ⟨n, rfl⟩ : ∃ n, fuel = n + 1 := ⟨fuel - 1, by omega⟩
    obtain ⟨i1, i2, i3, i4, i5, i6⟩ := hi
    refine ⟨v, ?_, ⟨i1, i2, fun j q1 q2 => i3 j q1 (by omega), fun j q1 q2 => i4 j q1 (by omega), fun p' j q1 q2 => ?_, fun p' j q1 q2 q3 => i6 p' j q1 q2 (by omega)⟩, fun _ _ => rfl⟩
    · show f_Planner_load_96b rec54 (f_Planner_load_96 rec54 n) 40 3 (nI l) (nI p) (bh v w) = _
      unfold f_Planner_load_96b
      simp only [hRl rl3 v w, bd1_q]
      rw [hr.1.2.1, if_pos (nI_le (by omega) (by omega)), nI_1]
    · rw [i5 p' j q1 q2]
      by_cases e : j < l ∨ j = l ∧ p' + 1 < p + 1
      · rw [if_pos e, if_pos (by omega)]
      · rw [if_neg e]
        by_cases g : j < l + 1 ∨ j = l + 1 ∧ p' + 1 < 0
        · rw [if_pos g]
          unfold rR
          rw [if_neg (by omega)]
          rfl
        · rw [if_neg g]
  | succ k ih =>
    intro fuel p v hf hp hr hi
    obtain ⟨n, rfl⟩ : ∃ n, fuel = n + 1 := ⟨fuel - 1, by omega⟩
    have hpp : p < ρ 0 1 := by omega
    have ix5 : (nI p * (5 : Int32)) + nI l = nI (5 * p + l) := by rw [show (5 : Int32) = nI 5 from rfl, pk_mul, nI_add, Nat.mul_comm p 5]
    have fr : pFr v (u2 (u2 v 44 (5 * p + l) (nI (sRoom ρ p l))) 45 (5 * p + l) (nI (ρ 3 l + ρ 7 p))) := fun q hq => (u2_o (by omega)).trans (u2_o (by omega))
    have hi' : pI ρ l (p + 1 + 1) (u2 (u2 v 44 (5 * p + l) (nI (sRoom ρ p l))) 45 (5 * p + l) (nI (ρ 3 l + ρ 7 p))) := by
      obtain ⟨i1, i2, i3, i4, i5, i6⟩ := hi
      unfold pI
      rw [u2_o (show 40 ≠ 45 by decide), u2_o (show 40 ≠ 44 by decide), u2_o (show 41 ≠ 45 by decide), u2_o (show 41 ≠ 44 by decide), u2_o (show 42 ≠ 45 by decide), u2_o (show 42 ≠ 44 by decide), u2_o (show 43 ≠ 45 by decide), u2_o (show 43 ≠ 44 by decide)]
      refine ⟨i1, i2, fun j q1 q2 => i3 j q1 (by omega), fun j q1 q2 => i4 j q1 (by omega), fun p' j q1 q2 => ?_, fun p' j q1 q2 q3 => ?_⟩
      · rw [u2_o (show 44 ≠ 45 by decide)]
        by_cases e : 5 * p' + j = 5 * p + l
        · obtain ⟨rfl, rfl⟩ : p' = p ∧ j = l := by omega
          rw [u2_at, if_pos (by omega)]
          unfold rR
          rw [if_pos hpp]
        · rw [u2_n e, i5 p' j q1 q2]
          by_cases g : j < l ∨ j = l ∧ p' + 1 < p + 1
          · rw [if_pos g, if_pos (by omega)]
          · rw [if_neg g, if_neg (by omega)]
      · by_cases e : 5 * p' + j = 5 * p + l
        · obtain ⟨rfl, rfl⟩ : p' = p ∧ j = l := by omega
          rw [u2_at]
          unfold rH
          rw [if_pos hpp]
        · rw [u2_n e, u2_o (show 45 ≠ 44 by decide)]
          exact i6 p' j q1 q2 (by omega)
    obtain ⟨v', e1, p1, q1⟩ := ih n (p + 1) _ (by omega) (by omega) (hr.fp fr) hi'
    refine ⟨v', ?_, p1, fun q hq => (q1 q hq).trans (fr q hq)⟩
    show f_Planner_load_96b rec54 (f_Planner_load_96 rec54 n) 40 3 (nI l) (nI p) (bh v w) = _
    unfold f_Planner_load_96b
    simp only [hRl rl3 v w, hQ v w, bd1_q]
    rw [hr.1.2.1, if_neg (nI_ge (by omega) (by omega)), C_roomOf rl3 hr hk hpp hl, bd2_s, ix5]
    simp only [hQ v w, bd1_q]
    rw [wr_nI (by omega) (by decide), bd1_s]
    simp only [hRl rl3 (u2 v 44 (5 * p + l) (nI (sRoom ρ p l))) w, hQ (u2 v 44 (5 * p + l) (nI (sRoom ρ p l))) w, bd1_q]
    rw [rd_nI (by omega) (by decide), bd1_s, rd_nI (by omega) (by decide), bd1_s, u2_o (show 3 + 3 ≠ 44 by decide), u2_o (show 3 + 7 ≠ 44 by decide), (hr.2.1 l hl).2.2.1, (hr.2.2.1 p hpp).2.1, nI_add, wr_nI (by omega) (by decide), bd1_s, nI_1]
    exact e1
theorem C_l54 (hk : ROK ρ) : ∀ (k fuel l : Nat) (v : Nat → Nat → Int32), k < fuel → l + k = ρ 0 0 → CR 3 ρ v → pI ρ l 0 v → ∃ v', f_Planner_load_54 fuel 40 3 (nI l) (bh v w) = some (bh v' w) ∧ pI ρ (ρ 0 0) 0 v' ∧ pFr v v' := by
  have h1 := hk.1.1
  have h2 := hk.1.2.1
  intro k
  induction k with
  | zero =>
    intro fuel l v hf hl hr hi
    obtain ⟨n, rfl⟩ : ∃ n, fuel = n + 1 := ⟨fuel - 1, by omega⟩
    obtain rfl : l = ρ 0 0 := by omega
    refine ⟨v, ?_, hi, fun _ _ => rfl⟩
    simp only [f_Planner_load_54, f_Planner_load_54b, hQ v w, bd1_q]
    rw [hi.1, if_pos (nI_le (by omega) (by omega))]
  | succ k ih =>
    intro fuel l v hf hl hr hi
    obtain ⟨n, rfl⟩ : ∃ n, fuel = n + 1 := ⟨fuel - 1, by omega⟩
    have hl2 : l < ρ 0 0 := by omega
    have fr : pFr v (u2 (u2 v 42 l (nI (sNeed ρ l))) 43 (l + 1) (nI (sumN (sNeed ρ) l + sNeed ρ l))) := fun q hq => (u2_o (by omega)).trans (u2_o (by omega))
    have hi' : pI ρ l (0 + 1) (u2 (u2 v 42 l (nI (sNeed ρ l))) 43 (l + 1) (nI (sumN (sNeed ρ) l + sNeed ρ l))) := by
      obtain ⟨i1, i2, i3, i4, i5, i6⟩ := hi
      unfold pI
      rw [u2_o (show 40 ≠ 43 by decide), u2_o (show 40 ≠ 42 by decide), u2_o (show 41 ≠ 43 by decide), u2_o (show 41 ≠ 42 by decide), u2_o (show 44 ≠ 43 by decide), u2_o (show 44 ≠ 42 by decide), u2_o (show 45 ≠ 43 by decide), u2_o (show 45 ≠ 42 by decide)]
      refine ⟨i1, i2, fun j q1 q2 => ?_, fun j q1 q2 => ?_, fun p' j q1 q2 => ?_, fun p' j q1 q2 q3 => i6 p' j q1 q2 (by omega)⟩
      · rw [u2_o (show 42 ≠ 43 by decide)]
        by_cases e : j = l
        · subst e; rw [u2_at]
        · rw [u2_n e]; exact i3 j q1 (by omega)
      · by_cases e : j = l + 1
        · subst e; rw [u2_at]; rfl
        · rw [u2_n e, u2_o (show 43 ≠ 42 by decide)]; exact i4 j q1 (by omega)
      · rw [i5 p' j q1 q2]
        by_cases g : j < l ∨ j = l ∧ p' + 1 < 0
        · rw [if_pos g, if_pos (by omega)]
        · rw [if_neg g, if_neg (by omega)]
    obtain ⟨v1, e1, p1, q1⟩ := C_l96 (w := w) hk (f_Planner_load_54 n) hl2 (ρ 0 1) FU 0 _ (by unfold FU; omega) (by omega) (hr.fp fr) hi'
    obtain ⟨v2, e2, p2, q2⟩ := ih n (l + 1) v1 (by omega) (by omega) ((hr.fp fr).fp q1) p1
    refine ⟨v2, ?_, p2, fun q hq => (q2 q hq).trans ((q1 q hq).trans (fr q hq))⟩
    have e43 : v 43 l = nI (sumN (sNeed ρ) l) := hi.2.2.2.1 l (by omega) (by omega)
    show f_Planner_load_54b (f_Planner_load_54 n) 40 3 (nI l) (bh v w) = _
    unfold f_Planner_load_54b
    simp only [hRl rl3 v w, hQ v w, bd1_q]
    rw [hi.1, if_neg (nI_ge (by omega) (by omega)), C_needOf rl3 hr hk hl2, bd2_s]
    simp only [hQ v w, bd1_q]
    rw [wr_nI (by omega) (by decide), bd1_s]
    simp only [hQ (u2 v 42 l (nI (sNeed ρ l))) w, bd1_q]
    rw [rd_nI (by omega) (by decide), bd1_s, rd_nI (by omega) (by decide), bd1_s, u2_at, u2_o (show 43 ≠ 42 by decide), e43, nI_add, nI_1, wr_nI (by omega) (by decide), bd1_s]
    exact e1.trans e2
theorem C_load (hr : CR 3 ρ v) (hk : ROK ρ) (h43 : v 43 0 = 0) : ∃ v', f_Planner_load 40 3 (bh v w) = some (bh v' w) ∧ pI ρ (ρ 0 0) 0 v' ∧ pFr v v' := by
  have h1 := hk.1.1
  have h2 := hk.1.2.1
  obtain ⟨v1, e1, f1, f2, f3⟩ := fill_I (q := 44) (n := 15) (x := 0) (by omega) (fun _ _ => rfl) (fun v w i x => by simp only [hQ v w]) (u2 v 40 0 (nI (ρ 0 0))) w
  have lf : ∀ (k fuel p : Nat) (v2 : Nat → Nat → Int32), k < fuel → p + k = 3 → pFr v v2 → v2 40 0 = nI (ρ 0 0) → v2 43 0 = 0 → (∀ j, j < 15 → v2 44 j = 0) → (∀ j, j < p → v2 41 j = nI (rL ρ (ρ 6) j)) → ∃ v', f_Planner_load_18 fuel 40 3 (nI p) (bh v2 w) = some (bh v' w) ∧ pI ρ (ρ 0 0) 0 v' ∧ pFr v v' := by
    intro k
    induction k with
    | zero =>
      intro fuel p v2 hf hp fr a40 a43 a44 a41
      obtain ⟨n, rfl⟩ : ∃ n, fuel = n + 1 := ⟨fuel - 1, by omega⟩
      obtain ⟨v', b1, b2, b3⟩ := C_l54 (w := w) hk (ρ 0 0) FU 0 v2 (by unfold FU; omega) (by omega) (hr.fp fr) ⟨a40, fun j q => a41 j (by omega), fun j _ q => by omega, fun j _ q => (by rw [show j = 0 by omega]; exact a43), fun p' j q1 q2 => by rw [a44 _ (by omega), if_neg (by omega)], fun p' j _ _ q => by omega⟩
      refine ⟨v', ?_, b2, fun q hq => (b3 q hq).trans (fr q hq)⟩
      simp only [f_Planner_load_18, f_Planner_load_18b]
      rw [show (3 : Int32) = nI 3 from rfl, if_pos ((nI_leI (by omega) (by omega)).mpr (by omega))]
      exact b1
    | succ k ih =>
      intro fuel p v2 hf hp fr a40 a43 a44 a41
      obtain ⟨n, rfl⟩ : ∃ n, fuel = n + 1 := ⟨fuel - 1, by omega⟩
      have nx := ih n (p + 1) (u2 v2 41 p (nI (rL ρ (ρ 6) p))) (by omega) (by omega) (fun q hq => (u2_o (by omega)).trans (fr q hq)) ((congrFun (u2_o (by decide)) 0).trans a40) ((congrFun (u2_o (by decide)) 0).trans a43) (fun j q => (congrFun (u2_o (by decide)) j).trans (a44 j q)) (fun j q => by
        by_cases e : j = p
        · subst e; rw [u2_at]
        · rw [u2_n e]; exact a41 j (by omega))
      have hr2 := hr.fp fr
      simp only [f_Planner_load_18, f_Planner_load_18b, f_Planner_load_45, hRl rl3 v2 w, hQ v2 w, bd1_q]
      rw [show (3 : Int32) = nI 3 from rfl, if_neg (fun z => by have := (nI_leI (by omega) (by omega)).mp z; omega), C_hasOne rl3 hr2 h2, bd2_s]
      by_cases g : p < ρ 0 1
      · rw [if_pos (show 0 ≤ (nI p).toInt ∧ (nI p).toInt < (ρ 0 1 : Int) by rw [nI_toInt (by omega)]; omega), if_neg (by decide)]
        simp only [hRl rl3 v2 w, bd1_q]
        rw [C_timeLeft rl3 hr2 hk g, bd2_s]
        simp only [hQ v2 w, bd1_q]
        rw [wr_nI (by omega) (by decide), bd1_s, nI_1]
        have e : rL ρ (ρ 6) p = sLeft ρ p := by unfold rL; rw [if_pos g]; rfl
        rw [e] at nx
        exact nx
      · rw [if_neg (show ¬ (0 ≤ (nI p).toInt ∧ (nI p).toInt < (ρ 0 1 : Int)) by rw [nI_toInt (by omega)]; omega), if_pos rfl]
        simp only [hQ v2 w, bd1_q]
        rw [wr_nI (by omega) (by decide), bd1_s, nI_1]
        have e : rL ρ (ρ 6) p = 0 := by unfold rL; rw [if_neg g]
        rw [e] at nx
        exact nx
  obtain ⟨v', b1, b2, b3⟩ := lf 3 FU 0 v1 (by decide) (by omega) (fun q hq => (f1 q (by omega)).trans (u2_o (by omega))) (by rw [f1 40 (by decide), u2_at]) (by rw [f1 43 (by decide), u2_o (by decide)]; exact h43) f2 (fun j q => by omega)
  refine ⟨v', ?_, b2, b3⟩
  simp only [f_Planner_load, f_Planner_load_0, hRl rl3 v w, hQ v w, bd1_q]
  rw [hr.1.1]
  simp only [hQ (u2 v 40 0 (nI (ρ 0 0))) w, bd1_q]
  rw [e1, bd1_s]
  exact b1
end
end
/-! 8y2.meet.lean.txt -/
section
theorem hP0 (v : Nat → Nat → Int32) (w : Nat → Nat → Int64) : kC (bh v w) 40 2 = some () ∧ gI (bh v w) 40 2 0 = some (v 40 0) ∧ (∀ x, pV (bh v w) 40 2 0 (.int x) = some (bh (u2 v 40 0 x) w)) ∧ gR (bh v w) 40 2 1 = some 41 ∧ gR (bh v w) 40 2 2 = some 42 ∧ gR (bh v w) 40 2 3 = some 43 ∧ gR (bh v w) 40 2 4 = some 44 ∧ gR (bh v w) 40 2 5 = some 45 ∧ gR (bh v w) 40 2 6 = some 46 ∧ gR (bh v w) 40 2 7 = some 47 ∧ (∀ i, aI (bh v w) 0 41 i = rd (v 41) 3 i) ∧ (∀ i x, sI (bh v w) 0 41 i x = wr v w 41 3 i x) ∧ (∀ i, aI (bh v w) 0 42 i = rd (v 42) 5 i) ∧ (∀ i x, sI (bh v w) 0 42 i x = wr v w 42 5 i x) ∧ (∀ i, aI (bh v w) 0 43 i = rd (v 43) 6 i) ∧ (∀ i x, sI (bh v w) 0 43 i x = wr v w 43 6 i x) ∧ (∀ i, aI (bh v w) 0 44 i = rd (v 44) 15 i) ∧ (∀ i x, sI (bh v w) 0 44 i x = wr v w 44 15 i x) ∧ (∀ i, aI (bh v w) 0 45 i = rd (v 45) 15 i) ∧ (∀ i x, sI (bh v w) 0 45 i x = wr v w 45 15 i x) ∧ (∀ i, aI (bh v w) 0 46 i = rd (v 46) 15 i) ∧ (∀ i x, sI (bh v w) 0 46 i x = wr v w 46 15 i x) ∧ (∀ i, aI (bh v w) 0 47 i = rd (v 47) 216 i) ∧ (∀ i x, sI (bh v w) 0 47 i x = wr v w 47 216 i x) ∧ gR (bh v w) 0 0 6 = some 40 ∧ gR (bh v w) 0 0 1 = some 3 ∧ kC (bh v w) 3 4 = some () ∧ gR (bh v w) 3 4 11 = some 9 ∧ (∀ i, aI (bh v w) 0 9 i = rd (v 9) 3 i) ∧ gI (bh v w) 3 4 4 = some (v 3 4) := ⟨rfl, rfl, (fun _ => pV_bh rfl rfl), rfl, rfl, rfl, rfl, rfl, rfl, rfl, aI_bh rfl, sI_bh rfl, aI_bh rfl, sI_bh rfl, aI_bh rfl, sI_bh rfl, aI_bh rfl, sI_bh rfl, aI_bh rfl, sI_bh rfl, aI_bh rfl, sI_bh rfl, aI_bh rfl, sI_bh rfl, rfl, rfl, rfl, rfl, aI_bh rfl, rfl⟩
theorem hB0 (v : Nat → Nat → Int32) (w : Nat → Nat → Int64) : kC (bh v w) 48 7 = some () ∧ gI (bh v w) 48 7 0 = some (v 48 0) ∧ (∀ x, pV (bh v w) 48 7 0 (.int x) = some (bh (u2 v 48 0 x) w)) ∧ gR (bh v w) 48 7 1 = some 49 ∧ gR (bh v w) 48 7 2 = some 50 ∧ gR (bh v w) 48 7 3 = some 51 ∧ gR (bh v w) 48 7 4 = some 52 ∧ gR (bh v w) 48 7 5 = some 53 ∧ gR (bh v w) 48 7 6 = some 54 ∧ gR (bh v w) 48 7 7 = some 55 ∧ (∀ i, aI (bh v w) 0 49 i = rd (v 49) 15 i) ∧ (∀ i x, sI (bh v w) 0 49 i x = wr v w 49 15 i x) ∧ (∀ i, aI (bh v w) 0 50 i = rd (v 50) 15 i) ∧ (∀ i x, sI (bh v w) 0 50 i x = wr v w 50 15 i x) ∧ (∀ i, aI (bh v w) 0 51 i = rd (v 51) 5 i) ∧ (∀ i x, sI (bh v w) 0 51 i x = wr v w 51 5 i x) ∧ (∀ i, aI (bh v w) 0 52 i = rd (v 52) 3 i) ∧ (∀ i x, sI (bh v w) 0 52 i x = wr v w 52 3 i x) ∧ (∀ i, aI (bh v w) 0 53 i = rd (v 53) 3 i) ∧ (∀ i x, sI (bh v w) 0 53 i x = wr v w 53 3 i x) ∧ (∀ i, aL (bh v w) 54 i = rd (w 54) 18 i) ∧ (∀ i x, sL (bh v w) 54 i x = wrL v w 54 18 i x) ∧ (∀ i, aL (bh v w) 55 i = rd (w 55) 216 i) ∧ (∀ i x, sL (bh v w) 55 i x = wrL v w 55 216 i x) ∧ gR (bh v w) 0 0 7 = some 48 ∧ gR (bh v w) 0 0 1 = some 3 ∧ kC (bh v w) 3 4 = some () := ⟨rfl, rfl, (fun _ => pV_bh rfl rfl), rfl, rfl, rfl, rfl, rfl, rfl, rfl, aI_bh rfl, sI_bh rfl, aI_bh rfl, sI_bh rfl, aI_bh rfl, sI_bh rfl, aI_bh rfl, sI_bh rfl, aI_bh rfl, sI_bh rfl, aL_bh rfl, sL_bh rfl, aL_bh rfl, sL_bh rfl, rfl, rfl, rfl⟩
/-! the class's planner: what it can meet -/
def isub (t s : Nat) : Prop := t &&& (31 - s) = 0
theorem Q_isPart2 {t s : Nat} (ht : t < 32) (hs : s < 32) (h : mH) : f_Q_isPart (nI t) (nI s) h = some (if t &&& (31 - s) = 0 then 1 else 0, h) := by
  unfold f_Q_isPart f_Q_isPart_0
  have hl : t &&& (31 - s) < 2 ^ 31 := Nat.lt_of_le_of_lt Nat.and_le_left (by omega)
  rw [cut_I t ht s hs, ite_iff (nI_eq0 hl)]
  split <;> rfl
/-- of the laws in s: what is needed; what p has room for; what all can give -/
def nA (L : Nat) (nd : Nat → Nat) (s : Nat) : Nat := sumN (fun l => if bit s l = 1 then nd l else 0) L
def oA (L : Nat) (rm : Nat → Nat → Nat) (s p : Nat) : Nat := sumN (fun l => if bit s l = 1 then rm p l else 0) L
def gA (L : Nat) (rm : Nat → Nat → Nat) (lf : Nat → Nat) (s : Nat) : Nat := sumN (fun p => if lf p < oA L rm s p then lf p else oA L rm s p) 3
/-- what the planner holds -/
def pH (L : Nat) (nd : Nat → Nat) (rm : Nat → Nat → Nat) (lf : Nat → Nat) (v : Nat → Nat → Int32) : Prop := L ≤ 5 ∧ v 40 0 = nI L ∧ (∀ l, l < L → v 42 l = nI (nd l) ∧ nd l ≤ 9) ∧ (∀ p l, p < 3 → l < L → v 44 (5 * p + l) = nI (rm p l) ∧ rm p l ≤ 3) ∧ ∀ p, p < 3 → v 41 p = nI (lf p) ∧ lf p ≤ 20
section
variable {L : Nat} {nd lf : Nat → Nat} {rm : Nat → Nat → Nat} {v : Nat → Nat → Int32} {w : Nat → Nat → Int64} {s : Nat}
theorem C_needOfAll (h : pH L nd rm lf v) (hs : s < 32) : f_Planner_needOfAll 40 (nI s) (bh v w) = some (nI (nA L nd s), bh v w) := by
  obtain ⟨h5, h0, hn, -, -⟩ := h
  have key : ∀ (n fuel l : Nat), n < fuel → l + n = L → f_Planner_needOfAll_4 fuel 40 (nI s) (nI (sumN (fun l => if bit s l = 1 then nd l else 0) l)) (nI l) (bh v w) = some (nI (nA L nd s), bh v w) := by
    intro n
    induction n with
    | zero =>
      intro fuel l hf hl
      obtain ⟨m, rfl⟩ : ∃ m, fuel = m + 1 := ⟨fuel - 1, by omega⟩
      show f_Planner_needOfAll_4b (f_Planner_needOfAll_4 m) 40 _ _ _ (bh v w) = _
      unfold f_Planner_needOfAll_4b
      simp only [hP0, bd1_q]
      rw [h0, if_pos ((nI_leI (by omega) (by omega)).mpr (by omega)), show l = L by omega]
      rfl
    | succ n ih =>
      intro fuel l hf hl
      obtain ⟨m, rfl⟩ : ∃ m, fuel = m + 1 := ⟨fuel - 1, by omega⟩
      have nx := ih m (l + 1) (by omega) (by omega)
      have e : sumN (fun l => if bit s l = 1 then nd l else 0) (l + 1) = sumN (fun l => if bit s l = 1 then nd l else 0) l + (if bit s l = 1 then nd l else 0) := rfl
      show f_Planner_needOfAll_4b (f_Planner_needOfAll_4 m) 40 _ _ _ (bh v w) = _
      unfold f_Planner_needOfAll_4b f_Planner_needOfAll_31
      simp only [hP0, bd1_q]
      rw [h0, if_neg (fun z => by have := (nI_leI (by omega) (by omega)).mp z; omega), Q_hasBit (by omega) (by omega), bd2_s]
      rcases bit_01 s l with b | b
      · rw [b, if_pos (show nI 0 = 0 from rfl), nI_1, Int32.add_zero]
        rw [e, b, if_neg (by decide)] at nx
        exact nx
      · rw [b, if_neg (by decide)]
        simp only [hP0, bd1_q]
        rw [rd_nI (by omega) (by decide), bd1_s, (hn l (by omega)).1, nI_add, nI_1]
        rw [e, b, if_pos rfl] at nx
        exact nx
  unfold f_Planner_needOfAll f_Planner_needOfAll_0
  exact key L FU 0 (by unfold FU; omega) (by omega)
theorem C_givenTo (h : pH L nd rm lf v) (hs : s < 32) : f_Planner_givenTo 40 (nI s) (bh v w) = some (nI (gA L rm lf s), bh v w) := by
  obtain ⟨h5, h0, -, hr, hl⟩ := h
  have ob : ∀ (p j : Nat), p < 3 → j ≤ L → sumN (fun l => if bit s l = 1 then rm p l else 0) j ≤ 3 * j := by
    intro p j hp hj
    refine sumN_c (fun i hi => ?_)
    have := (hr p i hp (by omega)).2
    split <;> omega
  have k15 : ∀ (rec4 : Nat → Int32 → Int32 → Int32 → mH → Option (Int32 × mH)) (p : Nat) (g : Int32), p < 3 → ∀ (n fuel l : Nat), n < fuel → l + n = L → f_Planner_givenTo_15 rec4 fuel 40 (nI s) g (nI p) (nI (sumN (fun l => if bit s l = 1 then rm p l else 0) l)) (nI l) (bh v w) = rec4 40 (nI s) (g + nI (if lf p < oA L rm s p then lf p else oA L rm s p)) (nI (p + 1)) (bh v w) := by
    intro rec4 p g hp n
    induction n with
    | zero =>
      intro fuel l hf hll
      obtain ⟨m, rfl⟩ : ∃ m, fuel = m + 1 := ⟨fuel - 1, by omega⟩
      show f_Planner_givenTo_15b rec4 (f_Planner_givenTo_15 rec4 m) 40 _ _ _ _ _ (bh v w) = _
      unfold f_Planner_givenTo_15b
      simp only [hP0, bd1_q]
      have b1 := ob p L hp (Nat.le_refl _)
      have b2 := (hl p hp).2
      rw [h0, if_pos ((nI_leI (by omega) (by omega)).mpr (by omega)), rd_nI hp (by decide), bd1_s, (hl p hp).1, show l = L by omega, ite_iff (nI_ltI (by omega) (by omega)), nI_1]
      congr 2
      unfold oA
      split <;> rfl
    | succ n ih =>
      intro fuel l hf hll
      obtain ⟨m, rfl⟩ : ∃ m, fuel = m + 1 := ⟨fuel - 1, by omega⟩
      have nx := ih m (l + 1) (by omega) (by omega)
      have e : sumN (fun l => if bit s l = 1 then rm p l else 0) (l + 1) = sumN (fun l => if bit s l = 1 then rm p l else 0) l + (if bit s l = 1 then rm p l else 0) := rfl
      show f_Planner_givenTo_15b rec4 (f_Planner_givenTo_15 rec4 m) 40 _ _ _ _ _ (bh v w) = _
      unfold f_Planner_givenTo_15b f_Planner_givenTo_50
      simp only [hP0, bd1_q]
      rw [h0, if_neg (fun z => by have := (nI_leI (by omega) (by omega)).mp z; omega), Q_hasBit (by omega) (by omega), bd2_s]
      rcases bit_01 s l with b | b
      · rw [b, if_pos (show nI 0 = 0 from rfl), nI_1, Int32.add_zero]
        rw [e, b, if_neg (by decide)] at nx
        exact nx
      · rw [b, if_neg (by decide)]
        simp only [hP0, bd1_q]
        rw [show (5 : Int32) = nI 5 from rfl, pk_mul, nI_add, Nat.mul_comm p 5, rd_nI (by omega) (by decide), bd1_s, (hr p l hp (by omega)).1, nI_add, nI_1]
        rw [e, b, if_pos rfl] at nx
        exact nx
  have k4 : ∀ (n fuel p : Nat), n < fuel → p + n = 3 → f_Planner_givenTo_4 fuel 40 (nI s) (nI (sumN (fun p => if lf p < oA L rm s p then lf p else oA L rm s p) p)) (nI p) (bh v w) = some (nI (gA L rm lf s), bh v w) := by
    intro n
    induction n with
    | zero =>
      intro fuel p hf hp
      obtain ⟨m, rfl⟩ : ∃ m, fuel = m + 1 := ⟨fuel - 1, by omega⟩
      show f_Planner_givenTo_4b (f_Planner_givenTo_4 m) 40 _ _ _ (bh v w) = _
      unfold f_Planner_givenTo_4b
      rw [show (3 : Int32) = nI 3 from rfl, if_pos ((nI_leI (by omega) (by omega)).mpr (by omega)), show p = 3 by omega]
      rfl
    | succ n ih =>
      intro fuel p hf hp
      obtain ⟨m, rfl⟩ : ∃ m, fuel = m + 1 := ⟨fuel - 1, by omega⟩
      have nx := ih m (p + 1) (by omega) (by omega)
      show f_Planner_givenTo_4b (f_Planner_givenTo_4 m) 40 _ _ _ (bh v w) = _
      unfold f_Planner_givenTo_4b
      rw [show (3 : Int32) = nI 3 from rfl, if_neg (fun z => by have := (nI_leI (by omega) (by omega)).mp z; omega)]
      refine (k15 _ p _ (by omega) L FU 0 (by unfold FU; omega) (by omega)).trans ?_
      rw [nI_add]
      exact nx
  unfold f_Planner_givenTo f_Planner_givenTo_0
  exact k4 3 FU 0 (by decide) (by decide)
/-- every part of s can be met -/
def cM (L : Nat) (nd : Nat → Nat) (rm : Nat → Nat → Nat) (lf : Nat → Nat) (s : Nat) : Prop := ∀ t, 1 ≤ t → t ≤ s → t &&& (31 - s) = 0 → nA L nd t ≤ gA L rm lf t
theorem C_canMeet (h : pH L nd rm lf v) (hs : s < 32) : ∃ r, f_Planner_canMeet 40 (nI s) (bh v w) = some (r, bh v w) ∧ (r = 1 ∧ cM L nd rm lf s ∨ r = 0 ∧ ¬ cM L nd rm lf s) := by
  have nb : ∀ t, nA L nd t ≤ 9 * L := fun t => sumN_c (fun i hi => by have := (h.2.2.1 i hi).2; split <;> omega)
  have gb : ∀ t, gA L rm lf t ≤ 20 * 3 := fun t => sumN_c (fun i hi => by have := (h.2.2.2.2 i hi).2; split <;> omega)
  have h5 := h.1
  have key : ∀ (n fuel t : Nat), n < fuel → t + n = s + 1 → ∃ r, f_Planner_canMeet_2 fuel 40 (nI s) (nI t) (bh v w) = some (r, bh v w) ∧ (r = 1 ∧ (∀ t', t ≤ t' → t' ≤ s → t' &&& (31 - s) = 0 → nA L nd t' ≤ gA L rm lf t') ∨ r = 0 ∧ ¬ (∀ t', t ≤ t' → t' ≤ s → t' &&& (31 - s) = 0 → nA L nd t' ≤ gA L rm lf t')) := by
    intro n
    induction n with
    | zero =>
      intro fuel t hf ht
      obtain ⟨m, rfl⟩ : ∃ m, fuel = m + 1 := ⟨fuel - 1, by omega⟩
      show ∃ r, f_Planner_canMeet_2b (f_Planner_canMeet_2 m) 40 _ _ (bh v w) = some (r, bh v w) ∧ _
      unfold f_Planner_canMeet_2b
      rw [if_pos ((nI_ltI (by omega) (by omega)).mpr (by omega))]
      exact ⟨1, rfl, Or.inl ⟨rfl, fun t' a b => by omega⟩⟩
    | succ n ih =>
      intro fuel t hf ht
      obtain ⟨m, rfl⟩ : ∃ m, fuel = m + 1 := ⟨fuel - 1, by omega⟩
      obtain ⟨r, er, hr⟩ := ih m (t + 1) (by omega) (by omega)
      have go : (t &&& (31 - s) = 0 → nA L nd t ≤ gA L rm lf t) → (r = 1 ∧ (∀ t', t ≤ t' → t' ≤ s → t' &&& (31 - s) = 0 → nA L nd t' ≤ gA L rm lf t') ∨ r = 0 ∧ ¬ (∀ t', t ≤ t' → t' ≤ s → t' &&& (31 - s) = 0 → nA L nd t' ≤ gA L rm lf t')) := by
        intro ht
        rcases hr with ⟨a, b⟩ | ⟨a, b⟩
        · refine Or.inl ⟨a, fun t' q1 q2 q3 => ?_⟩
          by_cases z : t' = t
          · rw [z]; exact ht (by rw [← z]; exact q3)
          · exact b t' (by omega) q2 q3
        · exact Or.inr ⟨a, fun q => b (fun t' q1 q2 q3 => q t' (by omega) q2 q3)⟩
      show ∃ r, f_Planner_canMeet_2b (f_Planner_canMeet_2 m) 40 _ _ (bh v w) = some (r, bh v w) ∧ _
      unfold f_Planner_canMeet_2b f_Planner_canMeet_30
      rw [if_neg (fun z => by have := (nI_ltI (by omega) (by omega)).mp z; omega), Q_isPart2 (by omega) hs, bd2_s, nI_1]
      by_cases c : t &&& (31 - s) = 0
      · rw [if_pos c, if_neg (by decide)]
        simp only [hP0, bd1_q]
        rw [C_needOfAll h (by omega), bd2_s]
        simp only [hP0, bd1_q]
        have b1 := nb t
        have b2 := gb t
        rw [C_givenTo h (by omega), bd2_s, ite_iff (nI_leI (by omega) (by omega))]
        by_cases d : nA L nd t ≤ gA L rm lf t
        · rw [if_pos d]
          exact ⟨r, er, go (fun _ => d)⟩
        · rw [if_neg d]
          exact ⟨0, rfl, Or.inr ⟨rfl, fun q => d (q t (Nat.le_refl _) (by omega) c)⟩⟩
      · rw [if_neg c, if_pos rfl]
        exact ⟨r, er, go (fun z => absurd z c)⟩
  unfold f_Planner_canMeet f_Planner_canMeet_0
  rw [show (1 : Int32) = nI 1 from rfl]
  exact key s FU 1 (by unfold FU; omega) (by omega)
end
end
/-! 8y3.more.lean.txt -/
section
/-! more -/
def mLst (P : Nat → Prop) (r : Int32) : Prop := (∃ e, e ≤ 9 ∧ r = nI e ∧ P e ∧ ∀ e', e' < e → ¬ P e') ∨ (r = -4 ∧ ∀ e, e ≤ 9 → ¬ P e)
def lfe (ρ : Rho) (p e : Nat) : Nat → Nat := fun q => if q = p then ρ 6 p + e - sAll ρ p else rL ρ (ρ 6) q
def Tme (ρ : Rho) (p e : Nat) : Nat → Nat := fun q => if q = p then ρ 6 p + e else ρ 6 q
section
variable {ρ : Rho} {v : Nat → Nat → Int32} {w : Nat → Nat → Int64}
theorem rL_le (hk : ROK ρ) {T : Nat → Nat} {m : Nat} (hT : ∀ p, p < ρ 0 1 → T p ≤ m) (p : Nat) : rL ρ T p ≤ m := by
  unfold rL
  split
  · next h => have := hT p h; omega
  · omega
theorem pI_pH (hk : ROK ρ) (h : pI ρ (ρ 0 0) 0 v) : pH (ρ 0 0) (sNeed ρ) (rR ρ) (rL ρ (ρ 6)) v := by
  obtain ⟨i1, i2, i3, i4, i5, i6⟩ := h
  refine ⟨hk.1.1, i1, fun l hl => ⟨i3 l hl (Or.inl hl), sNeed_le hk hl⟩, fun p l hp hl => ⟨?_, rR_le hk hl⟩, fun p hp => ⟨i2 p hp, Nat.le_trans (rL_le hk (fun p hp => (hk.2.2.1 p hp).1) p) (by decide)⟩⟩
  rw [i5 p l hp hl, if_pos (Or.inl hl)]
theorem C_moreL (hk : ROK ρ) {p : Nat} (hp : p < ρ 0 1) : ∀ (n fuel e : Nat) (lf : Nat → Nat) (v : Nat → Nat → Int32), n < fuel → e + n = 10 → CR 3 ρ v → pH (ρ 0 0) (sNeed ρ) (rR ρ) lf v → (∀ q, q ≠ p → lf q = rL ρ (ρ 6) q) → (∀ e', e' < e → ¬ cM (ρ 0 0) (sNeed ρ) (rR ρ) (lfe ρ p e') (ρ 0 4)) → ∃ r v', f_Q_more_26 fuel 0 (nI p) (nI e) (bh v w) = some (r, bh v' w) ∧ (∀ q, q ≠ 41 → v' q = v q) ∧ mLst (fun e => cM (ρ 0 0) (sNeed ρ) (rR ρ) (lfe ρ p e) (ρ 0 4)) r := by
  have h2 := hk.1.2.1
  have hst := hk.st
  have hs5 : sAll ρ p ≤ 5 := (hk.2.2.1 p hp).2.2.2.2.2.2
  have ht5 : ρ 6 p ≤ 5 := (hk.2.2.1 p hp).1
  intro n
  induction n with
  | zero =>
    intro fuel e lf v hf he hr hH hl hn
    obtain ⟨m, rfl⟩ : ∃ m, fuel = m + 1 := ⟨fuel - 1, by omega⟩
    show ∃ r v', f_Q_more_26b (f_Q_more_26 m) 0 (nI p) (nI e) (bh v w) = some (r, bh v' w) ∧ _
    unfold f_Q_more_26b
    rw [show (9 : Int32) = nI 9 from rfl, if_pos ((nI_ltI (by omega) (by omega)).mpr (by omega))]
    exact ⟨-4, v, rfl, fun _ _ => rfl, Or.inr ⟨rfl, fun e' h => hn e' (by omega)⟩⟩
  | succ n ih =>
    intro fuel e lf v hf he hr hH hl hn
    obtain ⟨m, rfl⟩ : ∃ m, fuel = m + 1 := ⟨fuel - 1, by omega⟩
    have c9 : v 9 p = nI (ρ 6 p) := (hr.2.2.1 p hp).1
    have cz : nI (ρ 6 p) + nI e - nI (sAll ρ p) = zI ((ρ 6 p : Int) + e - sAll ρ p) := by rw [nI_add, ← zI_n, zI_subn]; rfl
    have cn : ((ρ 6 p : Int) + e - sAll ρ p).toNat = ρ 6 p + e - sAll ρ p := by omega
    have H1 : pH (ρ 0 0) (sNeed ρ) (rR ρ) (lfe ρ p e) (u2 v 41 p (nI (ρ 6 p + e - sAll ρ p))) := by
      obtain ⟨a1, a2, a3, a4, a5⟩ := hH
      refine ⟨a1, (congrFun (u2_o (by decide)) 0).trans a2, fun l h => ⟨(congrFun (u2_o (by decide)) l).trans (a3 l h).1, (a3 l h).2⟩, fun q l h h' => ⟨(congrFun (u2_o (by decide)) _).trans (a4 q l h h').1, (a4 q l h h').2⟩, fun q h => ?_⟩
      unfold lfe
      by_cases z : q = p
      · rw [if_pos z, z, u2_at]
        exact ⟨rfl, by omega⟩
      · rw [if_neg z, u2_n z, (a5 q h).1, hl q z]
        exact ⟨rfl, by rw [← hl q z]; exact (a5 q h).2⟩
    have R1 : CR 3 ρ (u2 v 41 p (nI (ρ 6 p + e - sAll ρ p))) := hr.frame (fun q h1 h2 => u2_o (by omega))
    obtain ⟨r, er, hrr⟩ := C_canMeet (w := w) (s := ρ 0 4) H1 hst
    have go : f_Q_more_26 (m + 1) 0 (nI p) (nI e) (bh v w) = if r = 0 then f_Q_more_26 m 0 (nI p) (nI (e + 1)) (bh (u2 v 41 p (nI (ρ 6 p + e - sAll ρ p))) w) else some (nI e, bh (u2 v 41 p (nI (ρ 6 p + e - sAll ρ p))) w) := by
      show f_Q_more_26b (f_Q_more_26 m) 0 (nI p) (nI e) (bh v w) = _
      unfold f_Q_more_26b f_Planner_grant f_Planner_grant_0
      rw [show (9 : Int32) = nI 9 from rfl, if_neg (fun z => by have := (nI_ltI (by omega) (by omega)).mp z; omega)]
      simp only [hP0, bd1_q]
      rw [rd_nI (by omega) (by decide), bd1_s, c9, C_brokenByOne rl3 hr hk hp, bd2_s]
      simp only [hP0, bd1_q]
      rw [cz, max0 (by omega) (by omega), cn, wr_nI (by omega) (by decide), bd1_s, bd1_s]
      simp only [hP0, bd1_q]
      rw [R1.1.2.2.2.2.1, er, bd2_s, nI_1]
    rw [go]
    rcases hrr with ⟨a, b⟩ | ⟨a, b⟩
    · rw [a, if_neg (by decide)]
      exact ⟨nI e, _, rfl, fun q hq => u2_o hq, Or.inl ⟨e, by omega, rfl, b, hn⟩⟩
    · rw [a, if_pos rfl]
      obtain ⟨r', v', e1, e2, e3⟩ := ih m (e + 1) (lfe ρ p e) _ (by omega) (by omega) R1 H1 (fun q hq => by unfold lfe; rw [if_neg hq]) (fun e' h => by
        by_cases z : e' = e
        · rw [z]; exact b
        · exact hn e' (by omega))
      exact ⟨r', v', e1, fun q hq => (e2 q hq).trans (u2_o hq), e3⟩
theorem C_more (hr : CR 3 ρ v) (hk : ROK ρ) (h43 : v 43 0 = 0) {p : Nat} (hp : p < ρ 0 1) : ∃ r v', f_Q_more 0 (nI p) (bh v w) = some (r, bh v' w) ∧ pFr v v' ∧ v' 43 0 = 0 ∧ mLst (fun e => cM (ρ 0 0) (sNeed ρ) (rR ρ) (lfe ρ p e) (ρ 0 4)) r := by
  have h2 := hk.1.2.1
  obtain ⟨v1, e1, i1, f1⟩ := C_load (w := w) hr hk h43
  obtain ⟨r, v2, e2, f2, m2⟩ := C_moreL (w := w) hk hp 10 FU 0 _ v1 (by decide) (by decide) (hr.fp f1) (pI_pH hk i1) (fun q _ => rfl) (fun e' h => by omega)
  have e2 : f_Q_more_26 FU 0 (nI p) 0 (bh v1 w) = some (r, bh v2 w) := e2
  refine ⟨r, v2, ?_, fun q hq => (f2 q (by omega)).trans (f1 q hq), ?_, m2⟩
  · unfold f_Q_more f_Q_more_0
    simp only [hP0, bd1_q]
    rw [C_hasOne rl3 hr h2, bd2_s, if_pos (show 0 ≤ (nI p).toInt ∧ (nI p).toInt < (ρ 0 1 : Int) by rw [nI_toInt (by omega)]; omega), if_neg (by decide)]
    simp only [hP0, bd1_q]
    rw [e1, bd1_s]
    exact e2
  · rw [f2 43 (by decide)]
    exact i1.2.2.2.1 0 (Nat.zero_le _) (Or.inl (Nat.zero_le _))
/-! the reference's more -/
theorem hV0 (v : Nat → Nat → Int32) (w : Nat → Nat → Int64) : (∀ i, aI (bh v w) 0 101 i = rd (v 101) 198 i) ∧ (∀ i x, sI (bh v w) 0 101 i x = wr v w 101 198 i x) := ⟨aI_bh rfl, sI_bh rfl⟩
theorem MRt_time {T : Nat → Nat} {p x : Nat} (h : MRt T ρ v) (hk : ROK ρ) (hp : p < ρ 0 1) : MRt (fun q => if q = p then x else T q) ρ (u2 v 101 (12 + p) (nI x)) := by
  have h0 := hk.1.1
  have h2 := hk.1.2.1
  obtain ⟨hf, b1, b2, b3, b4, b5, b6, b7, b8, b9, b10, b11, b12, b13⟩ := h
  refine ⟨?_, fun l hl => ?_, fun l hl => ?_, ?_, ?_, fun q hq => ?_, fun q hq => ?_, fun q hq => ?_, fun q hq => ?_, fun q l hq hl => ?_, ?_, ?_, ?_, fun i hi => ?_⟩
  · unfold MF at hf ⊢
    rw [u2_o (by decide), u2_o (by decide), u2_o (by decide), u2_o (by decide), u2_o (by decide), u2_o (by decide)]
    exact hf
  · rw [u2_n (by omega)]; exact b1 l hl
  · rw [u2_n (by omega)]; exact b2 l hl
  · rw [u2_n (by omega)]; exact b3
  · rw [u2_n (by omega)]; exact b4
  · show _ = nI (if q = p then x else T q)
    by_cases z : q = p
    · rw [if_pos z, z, show 0 + 12 + p = 12 + p by omega, u2_at]
    · rw [if_neg z, u2_n (by omega)]; exact b5 q hq
  · rw [u2_n (by omega)]; exact b6 q hq
  · rw [u2_n (by omega)]; exact b7 q hq
  · rw [u2_n (by omega)]; exact b8 q hq
  · rw [u2_n (by omega)]; exact b9 q l hq hl
  · rw [u2_n (by omega)]; exact b10
  · rw [u2_n (by omega)]; exact b11
  · rw [u2_n (by omega)]; exact b12
  · have := hk.1.2.2.2.2.2.2
    rw [u2_n (by omega), u2_n (by omega), u2_n (by omega)]; exact b13 i hi
theorem FAR_ne {x : Nat} (h : x ≤ FAR) : (nI x = (1000000 : Int32)) ↔ x = FAR := by
  have : FAR = 1000000 := rfl
  exact nI_eqI (a := x) (b := 1000000) (by omega) (by omega)
theorem rBst_le (ρ : Rho) (s : Nat) : ∀ k a b c, rBst ρ s k a b c ≤ FAR
  | 0, _, _, _ => Nat.zero_le _
  | k + 1, a, b, c => rMin_le _ 16
def moM (ρ : Rho) (p e : Nat) : Prop := rBst ρ (ρ 0 4) (ρ 0 0) (rL ρ (Tme ρ p e) 0) (rL ρ (Tme ρ p e) 1) (rL ρ (Tme ρ p e) 2) ≠ FAR
theorem M_more86 {p : Nat} (hp : p < 3) {x y : Int32} : f_M_more_86 100 (nI p) x y (bh v w) = some (y, bh (u2 v 101 (12 + p) x) w) := by
  unfold f_M_more_86
  simp only [hN0, hV0, bd1_q]
  rw [show (12 : Int32) = nI 12 from rfl, nI_add, wr_nI (by omega) (by decide), bd1_s]
theorem M_moreF {p : Nat} (hp : p < 3) {x y : Int32} (hy : y ≠ -4) (m : Nat) (e : Int32) : f_M_more_26 (m + 1) 100 (nI p) x y e (bh v w) = some (y, bh (u2 v 101 (12 + p) x) w) := by
  show f_M_more_26b (f_M_more_26 m) 100 (nI p) x y e (bh v w) = _
  unfold f_M_more_26b
  by_cases c : (9 : Int32) < e
  · rw [if_pos c, M_more86 hp]
  · rw [if_neg c, if_neg hy, M_more86 hp]
theorem M_moreL (hk : ROK ρ) {p : Nat} (hp : p < ρ 0 1) : ∀ (n fuel e : Nat) (T : Nat → Nat) (v : Nat → Nat → Int32), n + 1 < fuel → e + n = 10 → MRt T ρ v → (∀ q, q ≠ p → T q = ρ 6 q) → (∀ e', e' < e → ¬ moM ρ p e') → ∃ r v', f_M_more_26 fuel 100 (nI p) (nI (ρ 6 p)) (-4) (nI e) (bh v w) = some (r, bh v' w) ∧ (∀ q, q ≠ 101 → q < 115 ∨ 117 < q → v' q = v q) ∧ (∀ j, j ≠ 12 + p → v' 101 j = v 101 j) ∧ v' 101 (12 + p) = nI (ρ 6 p) ∧ mLst (moM ρ p) r := by
  have h2 := hk.1.2.1
  have hst := hk.st
  have ht5 : ∀ q, q < ρ 0 1 → ρ 6 q ≤ 5 := fun q hq => (hk.2.2.1 q hq).1
  intro n
  induction n with
  | zero =>
    intro fuel e T v hf he hr hT hn
    obtain ⟨m, rfl⟩ : ∃ m, fuel = m + 1 := ⟨fuel - 1, by omega⟩
    show ∃ r v', f_M_more_26b (f_M_more_26 m) 100 (nI p) (nI (ρ 6 p)) (-4) (nI e) (bh v w) = some (r, bh v' w) ∧ _
    unfold f_M_more_26b
    rw [show (9 : Int32) = nI 9 from rfl, if_pos ((nI_ltI (by omega) (by omega)).mpr (by omega)), M_more86 (by omega)]
    exact ⟨-4, _, rfl, fun q a _ => u2_o a, fun j a => u2_n a, u2_at _ _ _ _, Or.inr ⟨rfl, fun e' h => hn e' (by omega)⟩⟩
  | succ n ih =>
    intro fuel e T v hf he hr hT hn
    obtain ⟨m, rfl⟩ : ∃ m, fuel = m + 1 + 1 := ⟨fuel - 2, by omega⟩
    have R1 : MRt (fun q => if q = p then ρ 6 p + e else T q) ρ (u2 v 101 (12 + p) (nI (ρ 6 p + e))) := MRt_time hr hk hp
    have eT : (fun q => if q = p then ρ 6 p + e else T q) = Tme ρ p e := by
      funext q
      unfold Tme
      by_cases z : q = p
      · rw [if_pos z, if_pos z]
      · rw [if_neg z, if_neg z, hT q z]
    rw [eT] at R1
    have hTe : ∀ q, q < ρ 0 1 → Tme ρ p e q ≤ 14 := by
      intro q hq
      have a := ht5 q hq
      have b := ht5 p hp
      unfold Tme
      split <;> omega
    obtain ⟨v2, e2, B2, f2⟩ := M_startsRota (w := w) R1 hk (fun q hq => Nat.le_trans (hTe q hq) (by decide)) hst
    obtain ⟨v3, e3, -, f3⟩ := M_findRota (w := w) hk (Nat.lt_of_le_of_lt (rL_le hk hTe 0) (by decide)) (Nat.lt_of_le_of_lt (rL_le hk hTe 1) (by decide)) (Nat.lt_of_le_of_lt (rL_le hk hTe 2) (by decide)) B2
    have fr : ∀ q, q ≠ 101 → q < 115 ∨ 117 < q → v3 q = v q := fun q a b => (f3 q (by omega)).trans ((f2 q (by omega) (by omega)).trans (u2_o a))
    have fj : ∀ j, j ≠ 12 + p → v3 101 j = v 101 j := fun j a => (congrFun ((f3 101 (by decide)).trans (f2 101 (by decide) (by decide))) j).trans (u2_n a)
    have R3 : MRt (Tme ρ p e) ρ v3 := B2.1.frame (fun q h => f3 q (by omega))
    have a10 : u2 v 101 (12 + p) (nI (ρ 6 p + e)) 101 10 = nI (ρ 0 4) := (u2_n (by omega)).trans hr.2.2.2.1
    have go : f_M_more_26 (m + 1 + 1) 100 (nI p) (nI (ρ 6 p)) (-4) (nI e) (bh v w) = if nI (rBst ρ (ρ 0 4) (ρ 0 0) (rL ρ (Tme ρ p e) 0) (rL ρ (Tme ρ p e) 1) (rL ρ (Tme ρ p e) 2)) = (1000000 : Int32) then f_M_more_26 (m + 1) 100 (nI p) (nI (ρ 6 p)) (-4) (nI (e + 1)) (bh v3 w) else f_M_more_26 (m + 1) 100 (nI p) (nI (ρ 6 p)) (nI e) (nI (e + 1)) (bh v3 w) := by
      show f_M_more_26b (f_M_more_26 (m + 1)) 100 (nI p) (nI (ρ 6 p)) (-4) (nI e) (bh v w) = _
      unfold f_M_more_26b f_M_more_79
      rw [show (9 : Int32) = nI 9 from rfl, if_neg (fun z => by have := (nI_ltI (by omega) (by omega)).mp z; omega), if_pos rfl]
      simp only [hN0, hV0, bd1_q]
      rw [show (12 : Int32) = nI 12 from rfl, nI_add, nI_add, wr_nI (by omega) (by decide), bd1_s]
      simp only [hN0, hV0, bd1_q]
      rw [show (10 : Int32) = nI 10 from rfl, rd_nI (by decide) (by decide), bd1_s, a10, e2]
      simp only [hN0, hV0, bd1_q]
      rw [e3, bd2_s, nI_1]
    rw [go, ite_iff (FAR_ne (rBst_le ρ _ _ _ _ _))]
    by_cases c : rBst ρ (ρ 0 4) (ρ 0 0) (rL ρ (Tme ρ p e) 0) (rL ρ (Tme ρ p e) 1) (rL ρ (Tme ρ p e) 2) = FAR
    · rw [if_pos c]
      obtain ⟨r', v', e1, g1, g2, g3, g4⟩ := ih (m + 1) (e + 1) (Tme ρ p e) v3 (by omega) (by omega) R3 (fun q hq => by unfold Tme; rw [if_neg hq]) (fun e' h => by
        by_cases z : e' = e
        · rw [z]; exact fun q => q c
        · exact hn e' (by omega))
      exact ⟨r', v', e1, fun q a b => (g1 q a b).trans (fr q a b), fun j a => (g2 j a).trans (fj j a), g3, g4⟩
    · have ne4 : nI e ≠ -4 := fun z => by
        have := congrArg Int32.toInt z
        rw [nI_toInt (by omega), show (-4 : Int32).toInt = -4 by decide] at this
        omega
      rw [if_neg c, M_moreF (by omega) ne4]
      exact ⟨nI e, _, rfl, fun q a b => (u2_o a).trans (fr q a b), fun j a => (u2_n a).trans (fj j a), u2_at _ _ _ _, Or.inl ⟨e, by omega, rfl, c, hn⟩⟩
theorem M_more (hr : MR ρ v) (hk : ROK ρ) {p : Nat} (hp : p < ρ 0 1) : ∃ r v', f_M_more 100 (nI p) (bh v w) = some (r, bh v' w) ∧ (∀ q, q < 115 ∨ 117 < q → v' q = v q) ∧ mLst (moM ρ p) r := by
  have h2 := hk.1.2.1
  have a12 : v 101 (12 + p) = nI (ρ 6 p) := by have := hr.2.2.2.2.2.1 p hp; rwa [show 0 + 12 + p = 12 + p by omega] at this
  obtain ⟨r, v1, e1, g1, g2, g3, g4⟩ := M_moreL (w := w) hk hp 10 FU 0 (ρ 6) v (by decide) (by decide) (MRt_of hr) (fun _ _ => rfl) (fun e' h => by omega)
  have e1 : f_M_more_26 FU 100 (nI p) (nI (ρ 6 p)) (-4) 0 (bh v w) = some (r, bh v1 w) := e1
  refine ⟨r, v1, ?_, fun q hq => ?_, g4⟩
  · unfold f_M_more f_M_more_0
    simp only [hN0, bd1_q]
    rw [M_isOne hr.1 h2, bd2_s, if_pos (show 0 ≤ (nI p).toInt ∧ (nI p).toInt < (ρ 0 1 : Int) by rw [nI_toInt (by omega)]; omega), if_neg (by decide)]
    simp only [hN0, hV0, bd1_q]
    rw [show (12 : Int32) = nI 12 from rfl, nI_add, rd_nI (by omega) (by decide), bd1_s, a12]
    exact e1
  · by_cases z : q = 101
    · subst z
      funext j
      by_cases y : j = 12 + p
      · rw [y, g3, a12]
      · exact g2 j y
    · exact g1 q z hq
end
end
/-! 8y4.tog.lean.txt -/
section
/-! together: both come to an end -/
section
variable {ρ : Rho} {v : Nat → Nat → Int32} {w : Nat → Nat → Int64}
theorem C_togL (hr : CR 3 ρ v) (hk : ROK ρ) (h : pH (ρ 0 0) (sNeed ρ) (rR ρ) (rL ρ (ρ 6)) v) (x : Int32) : ∀ (n fuel s b : Nat), n < fuel → s + n = ρ 0 4 + 1 → b < 32 → ∃ r, f_Q_together_26 fuel 0 x (nI b) (nI s) (bh v w) = some (r, bh v w) := by
  have hst := hk.st
  have e4 : v 3 4 = nI (ρ 0 4) := hr.1.2.2.2.2.1
  intro n
  induction n with
  | zero =>
    intro fuel s b hf hs hb
    obtain ⟨m, rfl⟩ : ∃ m, fuel = m + 1 := ⟨fuel - 1, by omega⟩
    show ∃ r, f_Q_together_26b (f_Q_together_26 m) 0 x (nI b) (nI s) (bh v w) = some (r, bh v w)
    unfold f_Q_together_26b
    simp only [hP0, bd1_q]
    rw [e4, if_pos ((nI_ltI (by omega) (by omega)).mpr (by omega)), bitCount_I b hb, bd2_s]
    split
    · exact ⟨_, rfl⟩
    · exact ⟨_, rfl⟩
  | succ n ih =>
    intro fuel s b hf hs hb
    obtain ⟨m, rfl⟩ : ∃ m, fuel = m + 1 := ⟨fuel - 1, by omega⟩
    obtain ⟨r1, g1⟩ := ih m (s + 1) b (by omega) (by omega) hb
    obtain ⟨r2, g2⟩ := ih m (s + 1) s (by omega) (by omega) (by omega)
    obtain ⟨r3, g3, -⟩ := C_canMeet (w := w) (s := s) h (by omega)
    show ∃ r, f_Q_together_26b (f_Q_together_26 m) 0 x (nI b) (nI s) (bh v w) = some (r, bh v w)
    unfold f_Q_together_26b f_Q_together_53 f_Q_together_87
    simp only [hP0, bd1_q]
    rw [e4, if_neg (fun z => by have := (nI_ltI (by omega) (by omega)).mp z; omega), bitCount_I s (by omega), bd2_s, bitCount_I b hb, bd2_s, nI_1]
    split
    · rw [if_pos trivial]; exact ⟨r1, g1⟩
    · rw [if_neg (by decide)]
      simp only [hP0, bd1_q]
      rw [e4, Q_isPart2 (by omega) hst, bd2_s]
      by_cases c : s &&& (31 - ρ 0 4) = 0
      · rw [if_pos c, if_neg (by decide)]
        simp only [hP0, bd1_q]
        rw [g3, bd2_s]
        by_cases d : r3 = 0
        · rw [if_pos d]; exact ⟨r1, g1⟩
        · rw [if_neg d]; exact ⟨r2, g2⟩
      · rw [if_neg c, if_pos rfl]; exact ⟨r1, g1⟩
theorem C_together (hr : CR 3 ρ v) (hk : ROK ρ) (h43 : v 43 0 = 0) (x : Int32) : ∃ r v', f_Q_together 0 x (bh v w) = some (r, bh v' w) ∧ pFr v v' ∧ v' 43 0 = 0 := by
  unfold f_Q_together f_Q_together_0
  rw [Q_isWithin, bd2_s]
  by_cases c : (0 : Int32).toInt ≤ x.toInt ∧ x.toInt ≤ (1 : Int32).toInt
  · rw [if_pos c, if_neg (by decide)]
    simp only [hP0, bd1_q]
    obtain ⟨v1, e1, i1, f1⟩ := C_load (w := w) hr hk h43
    obtain ⟨r, e2⟩ := C_togL (w := w) (hr.fp f1) hk (pI_pH hk i1) x (ρ 0 4 + 1) FU 0 0 (by have := hk.st; unfold FU; omega) (by omega) (by decide)
    have e2 : f_Q_together_26 FU 0 x 0 0 (bh v1 w) = some (r, bh v1 w) := e2
    rw [e1, bd1_s, e2]
    exact ⟨r, v1, rfl, f1, i1.2.2.2.1 0 (Nat.zero_le _) (Or.inl (Nat.zero_le _))⟩
  · rw [if_neg c, if_pos rfl]
    exact ⟨-1, v, rfl, fun _ _ => rfl, h43⟩
theorem M_togL (hk : ROK ρ) (x : Int32) : ∀ (n fuel s : Nat) (b c : Int32) (v : Nat → Nat → Int32), n < fuel → s + n = 2 ^ ρ 0 0 → MR ρ v → ∃ r v', f_M_together_19 fuel 100 x b c (nI s) (bh v w) = some (r, bh v' w) ∧ ∀ q, q < 115 ∨ 117 < q → v' q = v q := by
  have h0 := hk.1.1
  have hst := hk.st
  have hpw : 2 ^ ρ 0 0 ≤ 32 := Nat.le_trans (Nat.pow_le_pow_right (by decide) h0) (by decide)
  have ht5 : ∀ q, q < ρ 0 1 → ρ 6 q ≤ 5 := fun q hq => (hk.2.2.1 q hq).1
  intro n
  induction n with
  | zero =>
    intro fuel s b c v hf hs hr
    obtain ⟨m, rfl⟩ : ∃ m, fuel = m + 1 := ⟨fuel - 1, by omega⟩
    show ∃ r v', f_M_together_19b (f_M_together_19 m) 100 x b c (nI s) (bh v w) = some (r, bh v' w) ∧ _
    unfold f_M_together_19b
    simp only [hN0, bd1_q]
    rw [hr.1.1, shl_I (by omega), if_pos ((nI_leI (by omega) (by omega)).mpr (by omega))]
    split
    · exact ⟨_, v, rfl, fun _ _ => rfl⟩
    · exact ⟨_, v, rfl, fun _ _ => rfl⟩
  | succ n ih =>
    intro fuel s b c v hf hs hr
    obtain ⟨m, rfl⟩ : ∃ m, fuel = m + 1 := ⟨fuel - 1, by omega⟩
    obtain ⟨v2, e2, B2, f2⟩ := M_startsRota (w := w) (s := s) (MRt_of hr) hk (fun q hq => Nat.le_trans (ht5 q hq) (by decide)) (by omega)
    obtain ⟨v3, e3, -, f3⟩ := M_findRota (w := w) hk (Nat.lt_of_le_of_lt (rL_le hk ht5 0) (by decide)) (Nat.lt_of_le_of_lt (rL_le hk ht5 1) (by decide)) (Nat.lt_of_le_of_lt (rL_le hk ht5 2) (by decide)) B2
    have R2 : MR ρ v2 := B2.1
    have R3 : MR ρ v3 := B2.1.frame (fun q h => f3 q (by omega))
    have fr2 : ∀ q, q < 115 ∨ 117 < q → v2 q = v q := fun q h => f2 q (by omega) (by omega)
    have fr3 : ∀ q, q < 115 ∨ 117 < q → v3 q = v q := fun q h => (f3 q (by omega)).trans (fr2 q h)
    have nx2 : ∀ b c : Int32, ∃ r v', f_M_together_19 m 100 x b c (nI (s + 1)) (bh v2 w) = some (r, bh v' w) ∧ ∀ q, q < 115 ∨ 117 < q → v' q = v q := fun b c => by
      obtain ⟨r, v', g1, g2⟩ := ih m (s + 1) b c v2 (by omega) (by omega) R2
      exact ⟨r, v', g1, fun q h => (g2 q h).trans (fr2 q h)⟩
    have nx3 : ∀ b c : Int32, ∃ r v', f_M_together_19 m 100 x b c (nI (s + 1)) (bh v3 w) = some (r, bh v' w) ∧ ∀ q, q < 115 ∨ 117 < q → v' q = v q := fun b c => by
      obtain ⟨r, v', g1, g2⟩ := ih m (s + 1) b c v3 (by omega) (by omega) R3
      exact ⟨r, v', g1, fun q h => (g2 q h).trans (fr3 q h)⟩
    show ∃ r v', f_M_together_19b (f_M_together_19 m) 100 x b c (nI s) (bh v w) = some (r, bh v' w) ∧ _
    unfold f_M_together_19b f_M_together_73 f_M_together_74 f_M_together_87 f_M_together_102
    simp only [hN0, bd1_q]
    rw [hr.1.1, shl_I (by omega), if_neg (fun z => by have := (nI_leI (by omega) (by omega)).mp z; omega), e2]
    simp only [hN0, hV0, bd1_q]
    rw [show (10 : Int32) = nI 10 from rfl, rd_nI (by decide) (by decide), bd1_s, nI_1, M_bitsOf (by omega), bd2_s]
    split
    · split
      · rw [if_pos trivial, if_pos trivial]; exact nx2 _ _
      · simp only [hN0, bd1_q]
        rw [e3, bd2_s]
        split
        · rw [if_pos trivial, if_pos trivial]; exact nx3 _ _
        · rw [if_neg (by decide), if_neg (by decide), M_bitsOf (by omega), bd2_s]; exact nx3 _ _
    · rw [if_pos trivial, if_pos trivial]; exact nx2 _ _
theorem M_together (hr : MR ρ v) (hk : ROK ρ) (x : Int32) : ∃ r v', f_M_together 100 x (bh v w) = some (r, bh v' w) ∧ ∀ q, q < 115 ∨ 117 < q → v' q = v q := by
  have hpw : 2 ^ ρ 0 0 ≤ 32 := Nat.le_trans (Nat.pow_le_pow_right (by decide) hk.1.1) (by decide)
  unfold f_M_together f_M_together_0
  rw [M_in, bd2_s]
  by_cases c : (0 : Int64) ≤ x.toInt64 ∧ x.toInt64 ≤ (1 : Int64)
  · rw [if_pos c, if_neg (by decide)]
    obtain ⟨r, v', e1, f1⟩ := M_togL (w := w) hk x (2 ^ ρ 0 0) FU 0 (-1) 0 v (by unfold FU; omega) (by omega) hr
    have e1 : f_M_together_19 FU 100 x (-1) 0 0 (bh v w) = some (r, bh v' w) := e1
    exact ⟨r, v', e1, f1⟩
  · rw [if_neg c, if_pos rfl]
    exact ⟨-1, v, rfl, fun _ _ => rfl⟩
end
section
variable {S : Sg} {v : Nat → Nat → Int32} {w : Nat → Nat → Int64}
/-- both come to an end; the planner of the class, the tables of the reference may change -/
theorem FiT.pl {α : Type} {fq fm : mH → Option (α × mH)} {r r' : α} {v1 v2 : Nat → Nat → Int32} {w1 w2 : Nat → Nat → Int64} (hs : SOK S) (hc : CI S v) (hm : MI S v) (h1 : fq (bh v w) = some (r, bh v1 w1)) (f1 : pFr v v1 ∨ ∀ q, q < 40 ∨ 58 ≤ q → v1 q = v q) (a43 : v1 43 0 = 0) (h2 : fm (bh v1 w1) = some (r', bh v2 w2)) (f2 : ∀ q, q < 115 ∨ 122 < q → v2 q = v1 q) : FiT S v w fq fm := by
  have g1 : ∀ q, q < 40 ∨ 58 ≤ q → v1 q = v q := by
    rcases f1 with f1 | f1
    · exact fun q hq => f1 q (by omega)
    · exact f1
  have e : v2 100 = v 100 := (f2 100 (by omega)).trans (g1 100 (by omega))
  refine ⟨r, r', v1, w1, v2, w2, S, h1, h2, hs, hc.fr0 (fun p hp => (f2 p (by unfold pC0 at hp; omega)).trans (g1 p (by unfold pC0 at hp; omega))) (by rw [f2 43 (by omega)]; exact a43), hm.fr (fun p hp => (f2 p (by unfold pM at hp; omega)).trans (g1 p (by unfold pM at hp; omega))) ?_⟩
  rw [e]
  exact ⟨rfl, rfl, rfl, rfl, rfl⟩
theorem MR.fr1 {ρ : Rho} {v1 : Nat → Nat → Int32} (h : MR ρ v) (f : ∀ q, 100 ≤ q ∧ q < 108 → v1 q = v q) : MR ρ v1 := MRt.frame (T := ρ 6) h f
theorem Fi_together (x : Int32) (hs : SOK S) (hc : CI S v) (hm : MI S v) : FiT S v w (f_Q_together 0 x) (f_M_together 100 x) := by
  obtain ⟨r, v1, e1, f1, a1⟩ := C_together (w := w) hc.1 hs.1 hc.2.2.2.2.2.2.2 x
  obtain ⟨r', v2, e2, f2⟩ := M_together (w := w) (hm.1.fr1 (fun q h => f1 q (by omega))) hs.1 x
  exact FiT.pl hs hc hm e1 (Or.inl f1) a1 e2 (fun q h => f2 q (by omega))
theorem Fi_more (x : Int32) (hs : SOK S) (hc : CI S v) (hm : MI S v) : FiT S v w (f_Q_more 0 x) (f_M_more 100 x) := by
  have h2 := hs.1.1.2.1
  by_cases hp : 0 ≤ x.toInt ∧ x.toInt < (S.1 0 1 : Int)
  · obtain ⟨p, hp2, rfl⟩ := ix (by omega) hp
    obtain ⟨r, v1, e1, f1, a1, -⟩ := C_more (w := w) hc.1 hs.1 hc.2.2.2.2.2.2.2 hp2
    obtain ⟨r', v2, e2, f2, -⟩ := M_more (w := w) (hm.1.fr1 (fun q h => f1 q (by omega))) hs.1 hp2
    exact FiT.pl hs hc hm e1 (Or.inl f1) a1 e2 (fun q h => f2 q (by omega))
  · refine EqT.fi (EqT.q (r := -1) (v1 := v) (v2 := v) (w1 := w) (w2 := w) hs hc hm ?_ (fun _ _ => rfl) ?_ (fun _ _ => rfl))
    · unfold f_Q_more f_Q_more_0
      simp only [hP0, bd1_q]
      rw [C_hasOne rl3 hc.1 h2, bd2_s, if_neg hp, if_pos rfl]
    · unfold f_M_more f_M_more_0
      simp only [hN0, bd1_q]
      rw [M_isOne hm.1.1 h2, bd2_s, if_neg hp, if_pos rfl]
end
end
/-! 8z1.booksm.lean.txt -/
section
/-! books, entry: the reference comes to an end -/
theorem hJ0 (v : Nat → Nat → Int32) (w : Nat → Nat → Int64) : kC (bh v w) 100 8 = some () ∧ gI (bh v w) 100 8 2 = some (v 100 2) ∧ gI (bh v w) 100 8 3 = some (v 100 3) ∧ gR (bh v w) 100 8 0 = some 101 ∧ gR (bh v w) 100 8 4 = some 103 ∧ gR (bh v w) 100 8 33 = some 121 ∧ gR (bh v w) 100 8 34 = some 122 ∧ (∀ i, aI (bh v w) 0 101 i = rd (v 101) 198 i) ∧ (∀ i, aI (bh v w) 0 103 i = rd (v 103) 5 i) ∧ (∀ i, aL (bh v w) 121 i = rd (w 121) 216 i) ∧ (∀ i x, sL (bh v w) 121 i x = wrL v w 121 216 i x) ∧ (∀ i, aL (bh v w) 122 i = rd (w 122) 216 i) ∧ (∀ i x, sL (bh v w) 122 i x = wrL v w 122 216 i x) := ⟨rfl, rfl, rfl, rfl, rfl, rfl, rfl, aI_bh rfl, aI_bh rfl, aL_bh rfl, sL_bh rfl, aL_bh rfl, sL_bh rfl⟩
def mo (ρ : Rho) (p l : Nat) : Nat := if p < ρ 0 1 ∧ bit (ρ 10 p) l = 0 then ρ 2 l else 0
theorem div_I : ∀ k, k < 216 → nI k / (36 : Int32) = nI (k / 36) ∧ (nI k / (6 : Int32)) - (nI k / (6 : Int32)) / (6 : Int32) * (6 : Int32) = nI (k / 6 % 6) ∧ nI k - nI k / (6 : Int32) * (6 : Int32) = nI (k % 6) := by decide +kernel
section
variable {ρ : Rho} {v : Nat → Nat → Int32} {w : Nat → Nat → Int64}
theorem mo_le (hk : ROK ρ) {p l : Nat} (hl : l < ρ 0 0) : mo ρ p l ≤ 3 := by
  unfold mo
  have := (hk.2.1 l hl).2.2.1
  split <;> omega
theorem M_mostOf (hr : MR ρ v) (hk : ROK ρ) {p l : Nat} (hp : p < 3) (hl : l < ρ 0 0) : f_M_mostOf 100 (nI p) (nI l) (bh v w) = some (nI (mo ρ p l), bh v w) := by
  have h0 := hk.1.1
  have h1 := hk.1.2.1
  unfold f_M_mostOf f_M_mostOf_0 f_M_mostOf_33 mo
  simp only [hJ0, bd1_q]
  rw [hr.1.2.1, ite_iff (nI_leI (by omega) (by omega))]
  by_cases c : p < ρ 0 1
  · have h10 : ρ 10 p < 32 := pw_le h0 (hk.2.2.1 p c).2.2.2.2.1
    have e1 := hr.2.2.2.2.2.2.2.1 p c
    rw [show 0 + 18 + p = 18 + p by omega] at e1
    rw [if_neg (by omega), show (18 : Int32) = nI 18 from rfl, nI_add, rd_nI (by omega) (by decide), bd1_s, e1, bit_I (by omega) (by omega), ite_iff (nI_eq0 (by have := bit_lt (ρ 10 p) l; omega))]
    by_cases d : bit (ρ 10 p) l = 0
    · rw [if_pos d, rd_nI (by omega) (by decide), bd1_s, (hr.1.2.2.1 l hl).1, if_pos ⟨c, d⟩]
    · rw [if_neg d, if_neg (fun z => d z.2)]; rfl
  · rw [if_pos (by omega), if_neg (fun z => c z.1)]; rfl
theorem M_isSo (hr : MR ρ v) (hk : ROK ρ) (a b c : Int32) : ∃ r, f_M_isSo 100 a b c (bh v w) = some (r, bh v w) := by
  have h6 := hk.1.2.2.2.2.2.2
  have e41 : v 101 41 = nI (ρ 0 6) := hr.2.2.2.2.2.2.2.2.2.2.2.2.1
  have key : ∀ (n fuel k : Nat) (s : Int32), n < fuel → k + n = ρ 0 6 → s = 0 ∨ s = 1 → ∃ r, f_M_isSo_6 fuel 100 a b c s (nI k) (bh v w) = some (r, bh v w) := by
    intro n
    induction n with
    | zero =>
      intro fuel k s hf hk2 hs
      obtain ⟨m, rfl⟩ : ∃ m, fuel = m + 1 := ⟨fuel - 1, by omega⟩
      show ∃ r, f_M_isSo_6b (f_M_isSo_6 m) 100 a b c s (nI k) (bh v w) = some (r, bh v w)
      unfold f_M_isSo_6b
      simp only [hJ0, bd1_q]
      rw [show (41 : Int32) = nI 41 from rfl, rd_nI (by decide) (by decide), bd1_s, e41, if_pos ((nI_leI (by omega) (by omega)).mpr (by omega)), if_pos hs]
      exact ⟨s, rfl⟩
    | succ n ih =>
      intro fuel k s hf hk2 hs
      obtain ⟨m, rfl⟩ : ∃ m, fuel = m + 1 := ⟨fuel - 1, by omega⟩
      have n0 := ih m (k + 1) 0 (by omega) (by omega) (Or.inl rfl)
      have n1 := ih m (k + 1) 1 (by omega) (by omega) (Or.inr rfl)
      show ∃ r, f_M_isSo_6b (f_M_isSo_6 m) 100 a b c s (nI k) (bh v w) = some (r, bh v w)
      unfold f_M_isSo_6b f_M_isSo_73 f_M_isSo_69 f_M_isSo_74
      simp only [hJ0, bd1_q]
      rw [show (41 : Int32) = nI 41 from rfl, rd_nI (by decide) (by decide), bd1_s, e41, if_neg (fun z => by have := (nI_leI (by omega) (by omega)).mp z; omega), nI_1, show (42 : Int32) = nI 42 from rfl, show (3 : Int32) = nI 3 from rfl, pk_mul, nI_add, rd_nI (by omega) (by decide), bd1_s, nI_1, rd_nI (by omega) (by decide), bd1_s, show nI (42 + 3 * k) + (2 : Int32) = nI (42 + 3 * k + 2) from nI_add _ 2, rd_nI (by omega) (by decide), bd1_s]
      split
      · exact n0
      · split
        · split
          · split
            · exact n1
            · exact n0
          · exact n1
        · exact n1
  unfold f_M_isSo f_M_isSo_0
  exact key (ρ 0 6) FU 0 1 (by unfold FU; omega) (by omega) (Or.inr rfl)
theorem M_isAsked (a b c d e f : Int32) : ∃ r, ∀ h : mH, f_M_isAsked 100 a b c d e f h = some (r, h) := by
  unfold f_M_isAsked f_M_isAsked_0 f_M_isAsked_18
  by_cases c1 : a = d
  · by_cases c2 : b = e
    · by_cases c3 : c = f
      · exact ⟨1, fun h => by rw [if_pos c1, if_pos c2, if_pos c3]⟩
      · exact ⟨0, fun h => by rw [if_pos c1, if_pos c2, if_neg c3]⟩
    · exact ⟨1, fun h => by rw [if_pos c1, if_neg c2]⟩
  · exact ⟨1, fun h => by rw [if_neg c1]⟩
theorem M_addsTables {x y z : Nat} (hx : x ≤ 3) (hy : y ≤ 3) (hz : z ≤ 3) (w : Nat → Nat → Int64) : ∃ w', f_M_addsTables 100 (nI x) (nI y) (nI z) (bh v w) = some (bh v w') := by
  have key : ∀ (n fuel k : Nat) (w : Nat → Nat → Int64), n < fuel → k + n = 216 → ∃ w', f_M_addsTables_3 fuel 100 (nI x) (nI y) (nI z) (nI k) (bh v w) = some (bh v w') := by
    intro n
    induction n with
    | zero =>
      intro fuel k w hf hk
      obtain ⟨m, rfl⟩ : ∃ m, fuel = m + 1 := ⟨fuel - 1, by omega⟩
      show ∃ w', f_M_addsTables_3b (f_M_addsTables_3 m) 100 (nI x) (nI y) (nI z) (nI k) (bh v w) = some (bh v w')
      unfold f_M_addsTables_3b
      rw [show (216 : Int32) = nI 216 from rfl, if_pos ((nI_leI (by omega) (by omega)).mpr (by omega))]
      exact ⟨w, rfl⟩
    | succ n ih =>
      intro fuel k w hf hk
      obtain ⟨m, rfl⟩ : ∃ m, fuel = m + 1 := ⟨fuel - 1, by omega⟩
      obtain ⟨d1, d2, d3⟩ := div_I k (by omega)
      have nx := fun w => ih m (k + 1) w (by omega) (by omega)
      have b1 : k / 36 < 6 := by omega
      have b2 : k / 6 % 6 < 6 := by omega
      have b3 : k % 6 < 6 := by omega
      show ∃ w', f_M_addsTables_3b (f_M_addsTables_3 m) 100 (nI x) (nI y) (nI z) (nI k) (bh v w) = some (bh v w')
      unfold f_M_addsTables_3b f_M_addsTables_91
      rw [show (216 : Int32) = nI 216 from rfl, if_neg (fun q => by have := (nI_leI (by omega) (by omega)).mp q; omega), d1, d2, d3, nI_add, nI_add, nI_add, nI_1]
      generalize k / 36 = a at b1
      generalize k / 6 % 6 = b at b2
      generalize k % 6 = c at b3
      have q6 : ∀ t : Nat, t < 100 → ((6 : Int32) ≤ nI t ↔ 6 ≤ t) := fun t ht => nI_leI (a := 6) (by decide) (by omega)
      rw [ite_iff (q6 (a + x) (by omega)), ite_iff (q6 (b + y) (by omega)), ite_iff (q6 (c + z) (by omega))]
      by_cases c1 : 6 ≤ a + x
      · rw [if_pos c1]; exact nx w
      · rw [if_neg c1]
        by_cases c2 : 6 ≤ b + y
        · rw [if_pos c2]; exact nx w
        · rw [if_neg c2]
          by_cases c3 : 6 ≤ c + z
          · rw [if_pos c3]; exact nx w
          · rw [if_neg c3]
            simp only [hJ0, bd1_q]
            rw [show (36 : Int32) = nI 36 from rfl, show (6 : Int32) = nI 6 from rfl, pk_mul, pk_mul, nI_add, nI_add, rd_nI (by omega) (by decide), bd1_s, rd_nI (by omega) (by decide), bd1_s, wrL_nI (by omega) (by decide), bd1_s]
            exact nx _
  unfold f_M_addsTables f_M_addsTables_0
  rw [show (0 : Int32) = nI 0 from rfl]
  exact key 216 FU 0 w (by decide) (by decide)
theorem M_al172 : ∀ (n fuel k : Nat) (w : Nat → Nat → Int64), n < fuel → k + n = 216 → ∃ w', f_M_addsLaw_172 fuel 100 (nI k) (bh v w) = some (bh v w') := by
  intro n
  induction n with
  | zero =>
    intro fuel k w hf hk
    obtain ⟨m, rfl⟩ : ∃ m, fuel = m + 1 := ⟨fuel - 1, by omega⟩
    show ∃ w', f_M_addsLaw_172b (f_M_addsLaw_172 m) 100 (nI k) (bh v w) = some (bh v w')
    unfold f_M_addsLaw_172b
    rw [show (216 : Int32) = nI 216 from rfl, if_pos ((nI_leI (by omega) (by omega)).mpr (by omega))]
    exact ⟨w, rfl⟩
  | succ n ih =>
    intro fuel k w hf hk
    obtain ⟨m, rfl⟩ : ∃ m, fuel = m + 1 := ⟨fuel - 1, by omega⟩
    show ∃ w', f_M_addsLaw_172b (f_M_addsLaw_172 m) 100 (nI k) (bh v w) = some (bh v w')
    unfold f_M_addsLaw_172b
    rw [show (216 : Int32) = nI 216 from rfl, if_neg (fun q => by have := (nI_leI (by omega) (by omega)).mp q; omega)]
    simp only [hJ0, bd1_q]
    rw [rd_nI (by omega) (by decide), bd1_s, wrL_nI (by omega) (by decide), bd1_s, nI_1]
    exact ih m (k + 1) _ (by omega) (by omega)
theorem M_al56 (hr : MR ρ v) (hk : ROK ρ) {l : Nat} (hl : l < ρ 0 0) (b2 b3 b4 : Int32) (rec28 : Nat → Int32 → Int32 → Int32 → Int32 → Int32 → mH → Option mH) (rec42 : Nat → Int32 → Int32 → Int32 → Int32 → Int32 → Int32 → mH → Option mH) {x y : Nat} (hx : x ≤ 3) (hy : y ≤ 3) : ∀ (n fuel z : Nat) (w : Nat → Nat → Int64), n < fuel → z + n = mo ρ 2 l + 1 → ∃ w', f_M_addsLaw_56 rec28 rec42 fuel 100 (nI l) b2 b3 b4 (nI x) (nI y) (nI z) (bh v w) = rec42 100 (nI l) b2 b3 b4 (nI x) (nI (y + 1)) (bh v w') := by
  have hm := mo_le hk (p := 2) hl
  have q2 : ∀ w, f_M_mostOf 100 (2 : Int32) (nI l) (bh v w) = some (nI (mo ρ 2 l), bh v w) := fun w => M_mostOf (w := w) (p := 2) hr hk (by decide) hl
  intro n
  induction n with
  | zero =>
    intro fuel z w hf hz
    obtain ⟨m, rfl⟩ : ∃ m, fuel = m + 1 := ⟨fuel - 1, by omega⟩
    refine ⟨w, ?_⟩
    show f_M_addsLaw_56b rec28 rec42 (f_M_addsLaw_56 rec28 rec42 m) 100 (nI l) b2 b3 b4 (nI x) (nI y) (nI z) (bh v w) = _
    unfold f_M_addsLaw_56b
    simp only [hJ0, bd1_q]
    rw [q2, bd2_s, if_pos ((nI_ltI (by omega) (by omega)).mpr (by omega)), nI_1]
  | succ n ih =>
    intro fuel z w hf hz
    obtain ⟨m, rfl⟩ : ∃ m, fuel = m + 1 := ⟨fuel - 1, by omega⟩
    obtain ⟨r1, s1⟩ := M_isSo (w := w) hr hk 1 (nI l) ((nI x + nI y) + nI z)
    obtain ⟨r2, s2⟩ := M_isAsked 0 (nI l) (nI x) b2 b3 b4
    obtain ⟨r3, s3⟩ := M_isAsked 1 (nI l) (nI y) b2 b3 b4
    obtain ⟨r4, s4⟩ := M_isAsked 2 (nI l) (nI z) b2 b3 b4
    obtain ⟨w2, e2⟩ := M_addsTables (v := v) hx hy (show z ≤ 3 by omega) w
    have n1 := ih m (z + 1) w (by omega) (by omega)
    have n2 := ih m (z + 1) w2 (by omega) (by omega)
    show ∃ w', f_M_addsLaw_56b rec28 rec42 (f_M_addsLaw_56 rec28 rec42 m) 100 (nI l) b2 b3 b4 (nI x) (nI y) (nI z) (bh v w) = _
    unfold f_M_addsLaw_56b f_M_addsLaw_133 f_M_addsLaw_134 f_M_addsLaw_151
    simp only [hJ0, bd1_q]
    rw [q2, bd2_s, if_neg (fun q => by have := (nI_ltI (by omega) (by omega)).mp q; omega), nI_1]
    simp only [hJ0, bd1_q]
    rw [s1, bd2_s]
    split
    · rw [if_pos trivial]; exact n1
    · simp only [hJ0, bd1_q]
      rw [s2, bd2_s]
      split
      · rw [if_pos trivial]; exact n1
      · simp only [hJ0, bd1_q]
        rw [s3, bd2_s]
        split
        · rw [if_pos trivial]; exact n1
        · simp only [hJ0, bd1_q]
          rw [s4, bd2_s]
          split
          · rw [if_pos trivial]; exact n1
          · rw [if_neg (by decide)]
            simp only [hJ0, bd1_q]
            rw [e2, bd1_s]
            exact n2
theorem M_al42 (hr : MR ρ v) (hk : ROK ρ) {l : Nat} (hl : l < ρ 0 0) (b2 b3 b4 : Int32) (rec28 : Nat → Int32 → Int32 → Int32 → Int32 → Int32 → mH → Option mH) {x : Nat} (hx : x ≤ 3) : ∀ (n fuel y : Nat) (w : Nat → Nat → Int64), n < fuel → y + n = mo ρ 1 l + 1 → ∃ w', f_M_addsLaw_42 rec28 fuel 100 (nI l) b2 b3 b4 (nI x) (nI y) (bh v w) = rec28 100 (nI l) b2 b3 b4 (nI (x + 1)) (bh v w') := by
  have hm := mo_le hk (p := 1) hl
  have q2 : ∀ w, f_M_mostOf 100 (1 : Int32) (nI l) (bh v w) = some (nI (mo ρ 1 l), bh v w) := fun w => M_mostOf (w := w) (p := 1) hr hk (by decide) hl
  intro n
  induction n with
  | zero =>
    intro fuel y w hf hy
    obtain ⟨m, rfl⟩ : ∃ m, fuel = m + 1 := ⟨fuel - 1, by omega⟩
    refine ⟨w, ?_⟩
    show f_M_addsLaw_42b rec28 (f_M_addsLaw_42 rec28 m) 100 (nI l) b2 b3 b4 (nI x) (nI y) (bh v w) = _
    unfold f_M_addsLaw_42b
    simp only [hJ0, bd1_q]
    rw [q2, bd2_s, if_pos ((nI_ltI (by omega) (by omega)).mpr (by omega)), nI_1]
  | succ n ih =>
    intro fuel y w hf hy
    obtain ⟨m, rfl⟩ : ∃ m, fuel = m + 1 := ⟨fuel - 1, by omega⟩
    have hm2 := mo_le hk (p := 2) hl
    obtain ⟨w1, e1⟩ := M_al56 hr hk hl b2 b3 b4 rec28 (f_M_addsLaw_42 rec28 m) hx (show y ≤ 3 by omega) (mo ρ 2 l + 1) FU 0 w (by unfold FU; omega) (by omega)
    obtain ⟨w2, e2⟩ := ih m (y + 1) w1 (by omega) (by omega)
    refine ⟨w2, ?_⟩
    show f_M_addsLaw_42b rec28 (f_M_addsLaw_42 rec28 m) 100 (nI l) b2 b3 b4 (nI x) (nI y) (bh v w) = _
    unfold f_M_addsLaw_42b
    simp only [hJ0, bd1_q]
    rw [q2, bd2_s, if_neg (fun q => by have := (nI_ltI (by omega) (by omega)).mp q; omega)]
    exact e1.trans e2
theorem M_al28 (hr : MR ρ v) (hk : ROK ρ) {l : Nat} (hl : l < ρ 0 0) (b2 b3 b4 : Int32) : ∀ (n fuel x : Nat) (w : Nat → Nat → Int64), n < fuel → x + n = mo ρ 0 l + 1 → ∃ w', f_M_addsLaw_28 fuel 100 (nI l) b2 b3 b4 (nI x) (bh v w) = some (bh v w') := by
  have hm := mo_le hk (p := 0) hl
  have q2 : ∀ w, f_M_mostOf 100 (0 : Int32) (nI l) (bh v w) = some (nI (mo ρ 0 l), bh v w) := fun w => M_mostOf (w := w) (p := 0) hr hk (by decide) hl
  intro n
  induction n with
  | zero =>
    intro fuel x w hf hx
    obtain ⟨m, rfl⟩ : ∃ m, fuel = m + 1 := ⟨fuel - 1, by omega⟩
    obtain ⟨w1, e1⟩ := M_al172 (v := v) 216 FU 0 w (by decide) (by decide)
    have e1 : f_M_addsLaw_172 FU 100 0 (bh v w) = some (bh v w1) := e1
    refine ⟨w1, ?_⟩
    show f_M_addsLaw_28b (f_M_addsLaw_28 m) 100 (nI l) b2 b3 b4 (nI x) (bh v w) = _
    unfold f_M_addsLaw_28b
    simp only [hJ0, bd1_q]
    rw [q2, bd2_s, if_pos ((nI_ltI (by omega) (by omega)).mpr (by omega))]
    exact e1
  | succ n ih =>
    intro fuel x w hf hx
    obtain ⟨m, rfl⟩ : ∃ m, fuel = m + 1 := ⟨fuel - 1, by omega⟩
    have hm2 := mo_le hk (p := 1) hl
    obtain ⟨w1, e1⟩ := M_al42 hr hk hl b2 b3 b4 (f_M_addsLaw_28 m) (show x ≤ 3 by omega) (mo ρ 1 l + 1) FU 0 w (by unfold FU; omega) (by omega)
    obtain ⟨w2, e2⟩ := ih m (x + 1) w1 (by omega) (by omega)
    refine ⟨w2, ?_⟩
    show f_M_addsLaw_28b (f_M_addsLaw_28 m) 100 (nI l) b2 b3 b4 (nI x) (bh v w) = _
    unfold f_M_addsLaw_28b
    simp only [hJ0, bd1_q]
    rw [q2, bd2_s, if_neg (fun q => by have := (nI_ltI (by omega) (by omega)).mp q; omega)]
    exact e1.trans e2
theorem M_addsLaw (hr : MR ρ v) (hk : ROK ρ) {l : Nat} (hl : l < ρ 0 0) (b2 b3 b4 : Int32) (w : Nat → Nat → Int64) : ∃ w', f_M_addsLaw 100 (nI l) b2 b3 b4 (bh v w) = some (bh v w') := by
  have hm := mo_le hk (p := 0) hl
  have key : ∀ (n fuel k : Nat) (w : Nat → Nat → Int64), n < fuel → k + n = 216 → ∃ w', f_M_addsLaw_3 fuel 100 (nI l) b2 b3 b4 (nI k) (bh v w) = some (bh v w') := by
    intro n
    induction n with
    | zero =>
      intro fuel k w hf hk2
      obtain ⟨m, rfl⟩ : ∃ m, fuel = m + 1 := ⟨fuel - 1, by omega⟩
      obtain ⟨w1, e1⟩ := M_al28 hr hk hl b2 b3 b4 (mo ρ 0 l + 1) FU 0 w (by unfold FU; omega) (by omega)
      have e1 : f_M_addsLaw_28 FU 100 (nI l) b2 b3 b4 0 (bh v w) = some (bh v w1) := e1
      refine ⟨w1, ?_⟩
      show f_M_addsLaw_3b (f_M_addsLaw_3 m) 100 (nI l) b2 b3 b4 (nI k) (bh v w) = _
      unfold f_M_addsLaw_3b
      rw [show (216 : Int32) = nI 216 from rfl, if_pos ((nI_leI (by omega) (by omega)).mpr (by omega))]
      exact e1
    | succ n ih =>
      intro fuel k w hf hk2
      obtain ⟨m, rfl⟩ : ∃ m, fuel = m + 1 := ⟨fuel - 1, by omega⟩
      show ∃ w', f_M_addsLaw_3b (f_M_addsLaw_3 m) 100 (nI l) b2 b3 b4 (nI k) (bh v w) = some (bh v w')
      unfold f_M_addsLaw_3b
      rw [show (216 : Int32) = nI 216 from rfl, if_neg (fun q => by have := (nI_leI (by omega) (by omega)).mp q; omega)]
      simp only [hJ0, bd1_q]
      rw [wrL_nI (by omega) (by decide), bd1_s, nI_1]
      exact ih m (k + 1) _ (by omega) (by omega)
  unfold f_M_addsLaw f_M_addsLaw_0
  rw [show (0 : Int32) = nI 0 from rfl]
  exact key 216 FU 0 w (by decide) (by decide)
theorem M_isTime (hr : MR ρ v) (hk : ROK ρ) {p : Nat} (hp : p < 3) (n : Int32) : ∃ r, f_M_isTime 100 (nI p) n (bh v w) = some (r, bh v w) := by
  have h1 := hk.1.2.1
  obtain ⟨r, e⟩ := M_isSo (w := w) hr hk 0 (nI p) n
  unfold f_M_isTime f_M_isTime_0 f_M_isTime_47
  simp only [hJ0, bd1_q]
  rw [show (12 : Int32) = nI 12 from rfl, nI_add, rd_nI (by omega) (by decide), bd1_s, e, bd2_s]
  split
  · split
    · exact ⟨_, rfl⟩
    · split
      · exact ⟨_, rfl⟩
      · exact ⟨_, rfl⟩
  · split
    · exact ⟨_, rfl⟩
    · exact ⟨_, rfl⟩
theorem M_tablesBy (hr : MR ρ v) (hk : ROK ρ) (a b c : Int32) (w : Nat → Nat → Int64) : ∃ r w', f_M_tablesBy 100 a b c (bh v w) = some (r, bh v w') := by
  have h0 := hk.1.1
  have k67 : ∀ (n fuel k : Nat) (s : Int64) (w : Nat → Nat → Int64), n < fuel → k + n = 216 → ∃ r, f_M_tablesBy_67 fuel 100 s (nI k) (bh v w) = some (r, bh v w) := by
    intro n
    induction n with
    | zero =>
      intro fuel k s w hf hk2
      obtain ⟨m, rfl⟩ : ∃ m, fuel = m + 1 := ⟨fuel - 1, by omega⟩
      show ∃ r, f_M_tablesBy_67b (f_M_tablesBy_67 m) 100 s (nI k) (bh v w) = some (r, bh v w)
      unfold f_M_tablesBy_67b
      rw [show (216 : Int32) = nI 216 from rfl, if_pos ((nI_leI (by omega) (by omega)).mpr (by omega))]
      exact ⟨s, rfl⟩
    | succ n ih =>
      intro fuel k s w hf hk2
      obtain ⟨m, rfl⟩ : ∃ m, fuel = m + 1 := ⟨fuel - 1, by omega⟩
      have nx := fun s => ih m (k + 1) s w (by omega) (by omega)
      obtain ⟨r1, e1⟩ := M_isTime (w := w) (p := 0) hr hk (by decide) (nI k / (36 : Int32))
      obtain ⟨r2, e2⟩ := M_isTime (w := w) (p := 1) hr hk (by decide) ((nI k / (6 : Int32)) - (nI k / (6 : Int32)) / (6 : Int32) * (6 : Int32))
      obtain ⟨r3, e3⟩ := M_isTime (w := w) (p := 2) hr hk (by decide) (nI k - nI k / (6 : Int32) * (6 : Int32))
      have e1 : f_M_isTime 100 (0 : Int32) (nI k / (36 : Int32)) (bh v w) = some (r1, bh v w) := e1
      have e2 : f_M_isTime 100 (1 : Int32) ((nI k / (6 : Int32)) - (nI k / (6 : Int32)) / (6 : Int32) * (6 : Int32)) (bh v w) = some (r2, bh v w) := e2
      have e3 : f_M_isTime 100 (2 : Int32) (nI k - nI k / (6 : Int32) * (6 : Int32)) (bh v w) = some (r3, bh v w) := e3
      show ∃ r, f_M_tablesBy_67b (f_M_tablesBy_67 m) 100 s (nI k) (bh v w) = some (r, bh v w)
      unfold f_M_tablesBy_67b f_M_tablesBy_129 f_M_tablesBy_130
      rw [show (216 : Int32) = nI 216 from rfl, if_neg (fun q => by have := (nI_leI (by omega) (by omega)).mp q; omega)]
      simp only [hJ0, bd1_q]
      rw [e1, bd2_s, nI_1]
      split
      · exact nx _
      · simp only [hJ0, bd1_q]
        rw [e2, bd2_s]
        split
        · exact nx _
        · simp only [hJ0, bd1_q]
          rw [e3, bd2_s]
          split
          · exact nx _
          · simp only [hJ0, bd1_q]
            rw [rd_nI (by omega) (by decide), bd1_s]
            exact nx _
  have k37 : ∀ (n fuel l : Nat) (w : Nat → Nat → Int64), n < fuel → l + n = ρ 0 0 → ∃ r w', f_M_tablesBy_37 fuel 100 a b c (nI l) (bh v w) = some (r, bh v w') := by
    intro n
    induction n with
    | zero =>
      intro fuel l w hf hl
      obtain ⟨m, rfl⟩ : ∃ m, fuel = m + 1 := ⟨fuel - 1, by omega⟩
      obtain ⟨r, e1⟩ := k67 216 FU 0 0 w (by decide) (by decide)
      have e1 : f_M_tablesBy_67 FU 100 0 0 (bh v w) = some (r, bh v w) := e1
      refine ⟨r, w, ?_⟩
      show f_M_tablesBy_37b (f_M_tablesBy_37 m) 100 a b c (nI l) (bh v w) = _
      unfold f_M_tablesBy_37b
      simp only [hJ0, bd1_q]
      rw [hr.1.1, if_pos ((nI_leI (by omega) (by omega)).mpr (by omega))]
      exact e1
    | succ n ih =>
      intro fuel l w hf hl
      obtain ⟨m, rfl⟩ : ∃ m, fuel = m + 1 := ⟨fuel - 1, by omega⟩
      obtain ⟨w1, e1⟩ := M_addsLaw hr hk (show l < ρ 0 0 by omega) a b c w
      show ∃ r w', f_M_tablesBy_37b (f_M_tablesBy_37 m) 100 a b c (nI l) (bh v w) = some (r, bh v w')
      unfold f_M_tablesBy_37b
      simp only [hJ0, bd1_q]
      rw [hr.1.1, if_neg (fun q => by have := (nI_leI (by omega) (by omega)).mp q; omega), e1, bd1_s, nI_1]
      exact ih m (l + 1) w1 (by omega) (by omega)
  have k3 : ∀ (n fuel k : Nat) (w : Nat → Nat → Int64), n < fuel → k + n = 216 → ∃ r w', f_M_tablesBy_3 fuel 100 a b c (nI k) (bh v w) = some (r, bh v w') := by
    intro n
    induction n with
    | zero =>
      intro fuel k w hf hk2
      obtain ⟨m, rfl⟩ : ∃ m, fuel = m + 1 := ⟨fuel - 1, by omega⟩
      obtain ⟨r, w1, e1⟩ := k37 (ρ 0 0) FU 0 w (by unfold FU; omega) (by omega)
      have e1 : f_M_tablesBy_37 FU 100 a b c 0 (bh v w) = some (r, bh v w1) := e1
      refine ⟨r, w1, ?_⟩
      show f_M_tablesBy_3b (f_M_tablesBy_3 m) 100 a b c (nI k) (bh v w) = _
      unfold f_M_tablesBy_3b
      rw [show (216 : Int32) = nI 216 from rfl, if_pos ((nI_leI (by omega) (by omega)).mpr (by omega))]
      exact e1
    | succ n ih =>
      intro fuel k w hf hk2
      obtain ⟨m, rfl⟩ : ∃ m, fuel = m + 1 := ⟨fuel - 1, by omega⟩
      show ∃ r w', f_M_tablesBy_3b (f_M_tablesBy_3 m) 100 a b c (nI k) (bh v w) = some (r, bh v w')
      unfold f_M_tablesBy_3b f_M_tablesBy_27
      rw [show (216 : Int32) = nI 216 from rfl, if_neg (fun q => by have := (nI_leI (by omega) (by omega)).mp q; omega)]
      simp only [hJ0, bd1_q]
      rw [wrL_nI (by omega) (by decide), wrL_nI (by omega) (by decide), bd1_s, bd1_s, nI_1]
      split
      · exact ih m (k + 1) _ (by omega) (by omega)
      · exact ih m (k + 1) _ (by omega) (by omega)
  unfold f_M_tablesBy f_M_tablesBy_0
  rw [show (0 : Int32) = nI 0 from rfl]
  exact k3 216 FU 0 w (by decide) (by decide)
theorem M_books (hr : MR ρ v) (hk : ROK ρ) : ∃ r w', f_M_books 100 (bh v w) = some (r, bh v w') := by
  obtain ⟨r, w1, e⟩ := M_tablesBy hr hk (-4) (-4) 0 w
  unfold f_M_books f_M_books_0
  simp only [hJ0, bd1_q]
  rw [e, bd2_s]
  exact ⟨r, w1, rfl⟩
theorem M_entry (hr : MR ρ v) (hk : ROK ρ) (a b c : Int32) : ∃ r w', f_M_entry 100 a b c (bh v w) = some (r, bh v w') := by
  have key : ∀ (n fuel k : Nat) (x y : Int32) (w : Nat → Nat → Int64), n < fuel → k + n = 4 → ∃ r w', f_M_entry_39 fuel 100 a b c x y (nI k) (bh v w) = some (r, bh v w') := by
    intro n
    induction n with
    | zero =>
      intro fuel k x y w hf hk2
      obtain ⟨m, rfl⟩ : ∃ m, fuel = m + 1 := ⟨fuel - 1, by omega⟩
      show ∃ r w', f_M_entry_39b (f_M_entry_39 m) 100 a b c x y (nI k) (bh v w) = some (r, bh v w')
      unfold f_M_entry_39b
      rw [show (3 : Int32) = nI 3 from rfl, if_pos ((nI_ltI (by omega) (by omega)).mpr (by omega))]
      split
      · exact ⟨_, w, rfl⟩
      · exact ⟨_, w, rfl⟩
    | succ n ih =>
      intro fuel k x y w hf hk2
      obtain ⟨m, rfl⟩ : ∃ m, fuel = m + 1 := ⟨fuel - 1, by omega⟩
      obtain ⟨r, w1, e⟩ := M_tablesBy hr hk a b (nI k) w
      have nx := fun x y => ih m (k + 1) x y w1 (by omega) (by omega)
      show ∃ r w', f_M_entry_39b (f_M_entry_39 m) 100 a b c x y (nI k) (bh v w) = some (r, bh v w')
      unfold f_M_entry_39b f_M_entry_63 f_M_entry_82 f_M_entry_84 f_M_entry_98
      rw [show (3 : Int32) = nI 3 from rfl, if_neg (fun q => by have := (nI_ltI (by omega) (by omega)).mp q; omega)]
      simp only [hJ0, bd1_q]
      rw [e, bd2_s, nI_1]
      repeat' split
      all_goals exact nx _ _
  unfold f_M_entry f_M_entry_0 f_M_entry_26
  simp only [hJ0, bd1_q]
  rw [M_isOne hr.1 hk.1.2.1, bd2_s]
  by_cases c1 : 0 ≤ a.toInt ∧ a.toInt < (ρ 0 1 : Int)
  · rw [if_pos c1, if_neg (by decide)]
    simp only [hJ0, bd1_q]
    rw [M_isLaw hr.1 hk.1.1, bd2_s]
    by_cases c2 : 0 ≤ b.toInt ∧ b.toInt < (ρ 0 0 : Int)
    · rw [if_pos c2, if_neg (by decide), M_in, bd2_s]
      by_cases c3 : (0 : Int64) ≤ c.toInt64 ∧ c.toInt64 ≤ (1 : Int64)
      · rw [if_pos c3, if_neg (by decide)]
        obtain ⟨r, w1, e⟩ := key 4 FU 0 (-4) (-4) w (by decide) (by decide)
        have e : f_M_entry_39 FU 100 a b c (-4) (-4) 0 (bh v w) = some (r, bh v w1) := e
        exact ⟨r, w1, e⟩
      · rw [if_neg c3, if_pos rfl]; exact ⟨_, w, rfl⟩
    · rw [if_neg c2, if_pos rfl]; exact ⟨_, w, rfl⟩
  · rw [if_neg c1, if_pos rfl]; exact ⟨_, w, rfl⟩
end
end
end
/-! 8_11.joined -/
section
/-! 8z2.booksc.lean.txt -/
section
/-! books, entry: the class comes to an end -/
def tH (L : Nat) (v : Nat → Nat → Int32) : Prop := L ≤ 5 ∧ v 48 0 = nI L ∧ (∀ p, p < 3 → ∃ t, t ≤ 5 ∧ v 53 p = nI t) ∧ (∀ i, i < 15 → ∃ a, a ≤ 3 ∧ v 49 i = nI a) ∧ ∀ i, i < 15 → ∃ b, b ≤ 3 ∧ v 50 i = nI b
theorem m1_0 : nI 0 + (-1 : Int32) = -1 := by decide
theorem st_I (a b c : Nat) (h : mH) : f_Tables_stateOf (nI a) (nI b) (nI c) h = some (nI ((a * 6 + b) * 6 + c), h) := by
  unfold f_Tables_stateOf f_Tables_stateOf_0
  rw [show (6 : Int32) = nI 6 from rfl, pk_mul, nI_add, pk_mul, nI_add]
theorem ite_I {a b : Nat} (ha : a < 2 ^ 31) (hb : b < 2 ^ 31) : (if nI a < nI b then nI a else nI b) = nI (if a < b then a else b) := by
  rw [ite_iff (nI_ltI ha hb)]
  split <;> rfl
section
variable {L : Nat} {v : Nat → Nat → Int32} {w : Nat → Nat → Int64}
theorem T_sa42 {p a b s : Nat} (hp : p < 3) (ha : a ≤ 3) (hb : b ≤ 3) (hs : s ≤ 5) (rec31 : Nat → Int32 → Int32 → Int32 → Int32 → mH → Option mH) : ∀ (k fuel n : Nat) (x : Int64), k < fuel → s + 1 ≤ n + k → n ≤ 20 → ∃ w', f_Tables_spendAlone_42 rec31 fuel 48 (nI p) (nI a) (nI b) (nI s) x (nI n) (bh v w) = rec31 48 (nI p) (nI a) (nI b) (nI s + -1) (bh v w') := by
  have e82 : ∀ x : Int64, ∃ w', f_Tables_spendAlone_82 rec31 48 (nI p) (nI a) (nI b) (nI s) x (bh v w) = rec31 48 (nI p) (nI a) (nI b) (nI s + -1) (bh v w') := by
    intro x
    unfold f_Tables_spendAlone_82
    simp only [hB0, bd1_q]
    rw [show (6 : Int32) = nI 6 from rfl, pk_mul, nI_add, wrL_nI (by omega) (by decide), bd1_s]
    exact ⟨_, rfl⟩
  intro k
  induction k with
  | zero =>
    intro fuel n x hf hn hn2
    obtain ⟨m, rfl⟩ : ∃ m, fuel = m + 1 := ⟨fuel - 1, by omega⟩
    show ∃ w', f_Tables_spendAlone_42b rec31 (f_Tables_spendAlone_42 rec31 m) 48 (nI p) (nI a) (nI b) (nI s) x (nI n) (bh v w) = _
    unfold f_Tables_spendAlone_42b
    rw [if_pos (show nI s < nI n from nI_lt (by omega) (by omega))]
    split
    · exact e82 x
    · exact e82 x
  | succ k ih =>
    intro fuel n x hf hn hn2
    obtain ⟨m, rfl⟩ : ∃ m, fuel = m + 1 := ⟨fuel - 1, by omega⟩
    show ∃ w', f_Tables_spendAlone_42b rec31 (f_Tables_spendAlone_42 rec31 m) 48 (nI p) (nI a) (nI b) (nI s) x (nI n) (bh v w) = _
    unfold f_Tables_spendAlone_42b
    rw [ite_iff (nI_ltI (a := b) (b := n) (by omega) (by omega)), ite_iff (nI_ltI (a := s) (b := n) (by omega) (by omega))]
    by_cases c1 : b < n
    · rw [if_pos c1]; exact e82 x
    · rw [if_neg c1]
      by_cases c2 : s < n
      · rw [if_pos c2]; exact e82 x
      · rw [if_neg c2]
        simp only [hB0, bd1_q]
        rw [show (6 : Int32) = nI 6 from rfl, pk_mul, nI_add, pk_sub (by omega), rd_nI (by omega) (by decide), bd1_s, nI_1]
        exact ih m (n + 1) _ (by omega) (by omega) (by omega)
theorem T_spendAlone (h : tH L v) {p l : Nat} (hp : p < 3) (hl : l < L) (w : Nat → Nat → Int64) : ∃ w', f_Tables_spendAlone 48 (nI p) (nI l) (bh v w) = some (bh v w') := by
  obtain ⟨h5, h0, ht, ha, hb⟩ := h
  obtain ⟨a, a3, ea⟩ := ha (5 * p + l) (by omega)
  obtain ⟨b, b3, eb⟩ := hb (5 * p + l) (by omega)
  obtain ⟨t, t5, et⟩ := ht p hp
  have key : ∀ (s fuel : Nat) (w : Nat → Nat → Int64), s + 1 < fuel → s ≤ 5 → ∃ w', f_Tables_spendAlone_31 fuel 48 (nI p) (nI a) (nI b) (nI s) (bh v w) = some (bh v w') := by
    have z : ∀ (m : Nat) (w : Nat → Nat → Int64), f_Tables_spendAlone_31 (m + 1) 48 (nI p) (nI a) (nI b) (-1) (bh v w) = some (bh v w) := by
      intro m w
      show f_Tables_spendAlone_31b (f_Tables_spendAlone_31 m) 48 (nI p) (nI a) (nI b) (-1) (bh v w) = _
      unfold f_Tables_spendAlone_31b
      rw [if_pos (by decide)]
    intro s
    induction s with
    | zero =>
      intro fuel w hf hs
      obtain ⟨m, rfl⟩ : ∃ m, fuel = m + 1 + 1 := ⟨fuel - 2, by omega⟩
      obtain ⟨w1, e1⟩ := T_sa42 (v := v) (w := w) hp a3 b3 hs (f_Tables_spendAlone_31 (m + 1)) 30 FU a 0 (by decide) (by omega) (by omega)
      rw [m1_0, z] at e1
      refine ⟨w1, ?_⟩
      show f_Tables_spendAlone_31b (f_Tables_spendAlone_31 (m + 1)) 48 (nI p) (nI a) (nI b) (nI 0) (bh v w) = _
      unfold f_Tables_spendAlone_31b
      rw [if_neg (nI_pos (by omega))]
      exact e1
    | succ s ih =>
      intro fuel w hf hs
      obtain ⟨m, rfl⟩ : ∃ m, fuel = m + 1 := ⟨fuel - 1, by omega⟩
      obtain ⟨w1, e1⟩ := T_sa42 (v := v) (w := w) hp a3 b3 hs (f_Tables_spendAlone_31 m) 30 FU a 0 (by decide) (by omega) (by omega)
      obtain ⟨w2, e2⟩ := ih m w1 (by omega) (by omega)
      rw [m1_I s (by omega), e2] at e1
      refine ⟨w2, ?_⟩
      show f_Tables_spendAlone_31b (f_Tables_spendAlone_31 m) 48 (nI p) (nI a) (nI b) (nI (s + 1)) (bh v w) = _
      unfold f_Tables_spendAlone_31b
      rw [if_neg (nI_pos (by omega))]
      exact e1
  unfold f_Tables_spendAlone f_Tables_spendAlone_0
  simp only [hB0, bd1_q]
  rw [show (5 : Int32) = nI 5 from rfl, pk_mul, nI_add, Nat.mul_comm p 5, rd_nI (by omega) (by decide), bd1_s, rd_nI (by omega) (by decide), bd1_s, rd_nI hp (by decide), bd1_s, ea, eb, et]
  exact key t FU w (by unfold FU; omega) t5
theorem rd3 {f : Nat → Int32} : rd f 3 (0 : Int32) = some (f 0) ∧ rd f 3 (1 : Int32) = some (f 1) ∧ rd f 3 (2 : Int32) = some (f 2) := ⟨rfl, rfl, rfl⟩
theorem T_joinAll (h : tH L v) (w : Nat → Nat → Int64) : ∃ w', f_Tables_joinAll 48 (bh v w) = some (bh v w') := by
  obtain ⟨h5, h0, ht, -, -⟩ := h
  obtain ⟨t0, q0, e0⟩ := ht 0 (by decide)
  obtain ⟨t1, q1, e1⟩ := ht 1 (by decide)
  obtain ⟨t2, q2, e2⟩ := ht 2 (by decide)
  have k26 : ∀ (rec2 : Nat → Int32 → mH → Option mH) (rec14 : Nat → Int32 → Int32 → mH → Option mH) (a b : Nat), a ≤ 5 → b ≤ 5 → ∀ (k fuel c : Nat) (w : Nat → Nat → Int64), k < fuel → c + k = t2 + 1 → ∃ w', f_Tables_joinAll_26 rec2 rec14 fuel 48 (nI a) (nI b) (nI c) (bh v w) = rec14 48 (nI a) (nI (b + 1)) (bh v w') := by
    intro rec2 rec14 a b ha hb k
    induction k with
    | zero =>
      intro fuel c w hf hc
      obtain ⟨m, rfl⟩ : ∃ m, fuel = m + 1 := ⟨fuel - 1, by omega⟩
      refine ⟨w, ?_⟩
      show f_Tables_joinAll_26b rec2 rec14 (f_Tables_joinAll_26 rec2 rec14 m) 48 (nI a) (nI b) (nI c) (bh v w) = _
      unfold f_Tables_joinAll_26b
      simp only [hB0, bd1_q]
      rw [rd3.2.2, bd1_s, e2, if_pos (nI_lt (by omega) (by omega)), nI_1]
    | succ k ih =>
      intro fuel c w hf hc
      obtain ⟨m, rfl⟩ : ∃ m, fuel = m + 1 := ⟨fuel - 1, by omega⟩
      show ∃ w', f_Tables_joinAll_26b rec2 rec14 (f_Tables_joinAll_26 rec2 rec14 m) 48 (nI a) (nI b) (nI c) (bh v w) = _
      unfold f_Tables_joinAll_26b
      simp only [hB0, bd1_q]
      rw [rd3.2.2, bd1_s, e2, if_neg (nI_nlt (by omega) (by omega)), st_I, bd2_s]
      simp only [hB0, bd1_q]
      rw [show (6 : Int32) = nI 6 from rfl, show (12 : Int32) = nI 12 from rfl, nI_add, nI_add, rd_nI (by omega) (by decide), bd1_s, rd_nI (by omega) (by decide), bd1_s, rd_nI (by omega) (by decide), bd1_s, wrL_nI (by omega) (by decide), bd1_s, nI_1]
      exact ih m (c + 1) _ (by omega) (by omega)
  have k14 : ∀ (rec2 : Nat → Int32 → mH → Option mH) (a : Nat), a ≤ 5 → ∀ (k fuel b : Nat) (w : Nat → Nat → Int64), k < fuel → b + k = t1 + 1 → ∃ w', f_Tables_joinAll_14 rec2 fuel 48 (nI a) (nI b) (bh v w) = rec2 48 (nI (a + 1)) (bh v w') := by
    intro rec2 a ha k
    induction k with
    | zero =>
      intro fuel b w hf hc
      obtain ⟨m, rfl⟩ : ∃ m, fuel = m + 1 := ⟨fuel - 1, by omega⟩
      refine ⟨w, ?_⟩
      show f_Tables_joinAll_14b rec2 (f_Tables_joinAll_14 rec2 m) 48 (nI a) (nI b) (bh v w) = _
      unfold f_Tables_joinAll_14b
      simp only [hB0, bd1_q]
      rw [rd3.2.1, bd1_s, e1, if_pos (nI_lt (by omega) (by omega)), nI_1]
    | succ k ih =>
      intro fuel b w hf hc
      obtain ⟨m, rfl⟩ : ∃ m, fuel = m + 1 := ⟨fuel - 1, by omega⟩
      obtain ⟨w1, g1⟩ := k26 rec2 (f_Tables_joinAll_14 rec2 m) a b ha (by omega) (t2 + 1) FU 0 w (by unfold FU; omega) (by omega)
      obtain ⟨w2, g2⟩ := ih m (b + 1) w1 (by omega) (by omega)
      refine ⟨w2, ?_⟩
      show f_Tables_joinAll_14b rec2 (f_Tables_joinAll_14 rec2 m) 48 (nI a) (nI b) (bh v w) = _
      unfold f_Tables_joinAll_14b
      simp only [hB0, bd1_q]
      rw [rd3.2.1, bd1_s, e1, if_neg (nI_nlt (by omega) (by omega))]
      exact g1.trans g2
  have k2 : ∀ (k fuel a : Nat) (w : Nat → Nat → Int64), k < fuel → a + k = t0 + 1 → ∃ w', f_Tables_joinAll_2 fuel 48 (nI a) (bh v w) = some (bh v w') := by
    intro k
    induction k with
    | zero =>
      intro fuel a w hf hc
      obtain ⟨m, rfl⟩ : ∃ m, fuel = m + 1 := ⟨fuel - 1, by omega⟩
      refine ⟨w, ?_⟩
      show f_Tables_joinAll_2b (f_Tables_joinAll_2 m) 48 (nI a) (bh v w) = _
      unfold f_Tables_joinAll_2b
      simp only [hB0, bd1_q]
      rw [rd3.1, bd1_s, e0, if_pos (nI_lt (by omega) (by omega))]
    | succ k ih =>
      intro fuel a w hf hc
      obtain ⟨m, rfl⟩ : ∃ m, fuel = m + 1 := ⟨fuel - 1, by omega⟩
      obtain ⟨w1, g1⟩ := k14 (f_Tables_joinAll_2 m) a (by omega) (t1 + 1) FU 0 w (by unfold FU; omega) (by omega)
      obtain ⟨w2, g2⟩ := ih m (a + 1) w1 (by omega) (by omega)
      refine ⟨w2, ?_⟩
      show f_Tables_joinAll_2b (f_Tables_joinAll_2 m) 48 (nI a) (bh v w) = _
      unfold f_Tables_joinAll_2b
      simp only [hB0, bd1_q]
      rw [rd3.1, bd1_s, e0, if_neg (nI_nlt (by omega) (by omega))]
      exact g1.trans g2
  obtain ⟨w1, g⟩ := k2 (t0 + 1) FU 0 w (by unfold FU; omega) (by omega)
  exact ⟨w1, g⟩
theorem T_waysTo (h : tH L v) {a b c l : Nat} (ha : a ≤ 5) (hb : b ≤ 5) (hc : c ≤ 5) (hl : l < L) : ∃ r, f_Tables_waysTo 48 (nI a) (nI b) (nI c) (nI l) (bh v w) = some (r, bh v w) := by
  obtain ⟨h5, h0, -, hlo, hhi⟩ := h
  obtain ⟨a0, b0, c0⟩ := hlo l (by omega)
  obtain ⟨a1, b1, c1⟩ := hlo (5 + l) (by omega)
  obtain ⟨a2, b2, c2⟩ := hlo (10 + l) (by omega)
  obtain ⟨d0, g0, i0⟩ := hhi l (by omega)
  obtain ⟨d1, g1, i1⟩ := hhi (5 + l) (by omega)
  obtain ⟨d2, g2, i2⟩ := hhi (10 + l) (by omega)
  have m0 : (if a < d0 then a else d0) ≤ a ∧ (if a < d0 then a else d0) ≤ 3 := by split <;> omega
  have m1 : (if b < d1 then b else d1) ≤ b ∧ (if b < d1 then b else d1) ≤ 3 := by split <;> omega
  have m2 : (if c < d2 then c else d2) ≤ c ∧ (if c < d2 then c else d2) ≤ 3 := by split <;> omega
  generalize hM0 : (if a < d0 then a else d0) = M0 at m0
  generalize hM1 : (if b < d1 then b else d1) = M1 at m1
  generalize hM2 : (if c < d2 then c else d2) = M2 at m2
  have k74 : ∀ (rec56 : Nat → Int32 → Int32 → Int32 → Int32 → Int32 → Int32 → Int32 → Int64 → Int32 → mH → Option (Int64 × mH)) (n : Nat), n ≤ M0 → ∀ (k fuel j : Nat) (x : Int64), k < fuel → M1 + 1 ≤ j + k → j ≤ 20 → ∃ y, f_Tables_waysTo_74 rec56 fuel 48 (nI a) (nI b) (nI c) (nI l) (nI M0) (nI M1) (nI M2) x (nI n) (nI j) (bh v w) = rec56 48 (nI a) (nI b) (nI c) (nI l) (nI M0) (nI M1) (nI M2) y (nI (n + 1)) (bh v w) := by
    intro rec56 n hn k
    induction k with
    | zero =>
      intro fuel j x hf hj hj2
      obtain ⟨m, rfl⟩ : ∃ m, fuel = m + 1 := ⟨fuel - 1, by omega⟩
      refine ⟨x, ?_⟩
      show f_Tables_waysTo_74b rec56 (f_Tables_waysTo_74 rec56 m) 48 (nI a) (nI b) (nI c) (nI l) (nI M0) (nI M1) (nI M2) x (nI n) (nI j) (bh v w) = _
      unfold f_Tables_waysTo_74b
      rw [if_pos (nI_lt (by omega) (by omega)), nI_1]
    | succ k ih =>
      intro fuel j x hf hj hj2
      obtain ⟨m, rfl⟩ : ∃ m, fuel = m + 1 := ⟨fuel - 1, by omega⟩
      show ∃ y, f_Tables_waysTo_74b rec56 (f_Tables_waysTo_74 rec56 m) 48 (nI a) (nI b) (nI c) (nI l) (nI M0) (nI M1) (nI M2) x (nI n) (nI j) (bh v w) = _
      unfold f_Tables_waysTo_74b f_Tables_waysTo_141
      by_cases z : M1 < j
      · rw [if_pos (nI_lt z (by omega)), nI_1]
        exact ⟨x, rfl⟩
      · have nx := fun x => ih m (j + 1) x (by omega) (by omega) (by omega)
        rw [if_neg (nI_nlt (by omega) (by omega))]
        simp only [hB0, bd1_q]
        rw [rd_nI (by omega) (by decide), bd1_s, show (10 : Int32) = nI 10 from rfl, nI_add, rd_nI (by omega) (by decide), bd1_s, c2, Q_isWithin, bd2_s, nI_1]
        generalize v 51 l - nI n - nI j = y
        by_cases q : (nI a2).toInt ≤ y.toInt ∧ y.toInt ≤ (nI M2).toInt
        · rw [if_pos q, if_neg (by decide)]
          rw [nI_toInt (by omega), nI_toInt (by omega)] at q
          obtain ⟨t, ht, rfl⟩ := ix (x := y) (n := M2 + 1) (by omega) (by omega)
          simp only [hB0, bd1_q]
          rw [pk_sub (by omega), pk_sub (by omega), pk_sub (by omega), st_I, bd2_s]
          simp only [hB0, bd1_q]
          rw [rd_nI (by omega) (by decide), bd1_s]
          exact nx _
        · rw [if_neg q, if_pos rfl]
          exact nx _
  have k56 : ∀ (k fuel n : Nat) (x : Int64), k < fuel → M0 + 1 ≤ n + k → n ≤ 20 → ∃ r, f_Tables_waysTo_56 fuel 48 (nI a) (nI b) (nI c) (nI l) (nI M0) (nI M1) (nI M2) x (nI n) (bh v w) = some (r, bh v w) := by
    intro k
    induction k with
    | zero =>
      intro fuel n x hf hn hn2
      obtain ⟨m, rfl⟩ : ∃ m, fuel = m + 1 := ⟨fuel - 1, by omega⟩
      refine ⟨x, ?_⟩
      show f_Tables_waysTo_56b (f_Tables_waysTo_56 m) 48 (nI a) (nI b) (nI c) (nI l) (nI M0) (nI M1) (nI M2) x (nI n) (bh v w) = _
      unfold f_Tables_waysTo_56b
      rw [if_pos (nI_lt (by omega) (by omega))]
    | succ k ih =>
      intro fuel n x hf hn hn2
      obtain ⟨m, rfl⟩ : ∃ m, fuel = m + 1 := ⟨fuel - 1, by omega⟩
      show ∃ r, f_Tables_waysTo_56b (f_Tables_waysTo_56 m) 48 (nI a) (nI b) (nI c) (nI l) (nI M0) (nI M1) (nI M2) x (nI n) (bh v w) = some (r, bh v w)
      unfold f_Tables_waysTo_56b
      by_cases z : M0 < n
      · rw [if_pos (nI_lt z (by omega))]
        exact ⟨x, rfl⟩
      · rw [if_neg (nI_nlt (by omega) (by omega))]
        simp only [hB0, bd1_q]
        rw [show (5 : Int32) = nI 5 from rfl, nI_add, rd_nI (by omega) (by decide), bd1_s, c1]
        obtain ⟨y, e⟩ := k74 (f_Tables_waysTo_56 m) n (by omega) 30 FU a1 x (by decide) (by omega) (by omega)
        rw [e]
        exact ih m (n + 1) y (by omega) (by omega) (by omega)
  unfold f_Tables_waysTo f_Tables_waysTo_0
  simp only [hB0, bd1_q]
  rw [show (5 : Int32) = nI 5 from rfl, show (10 : Int32) = nI 10 from rfl, nI_add, nI_add, rd_nI (by omega) (by decide), bd1_s, rd_nI (by omega) (by decide), bd1_s, rd_nI (by omega) (by decide), bd1_s, rd_nI (by omega) (by decide), bd1_s, i0, i1, i2, c0, ite_I (by omega) (by omega), ite_I (by omega) (by omega), ite_I (by omega) (by omega), hM0, hM1, hM2]
  exact k56 30 FU a0 0 (by decide) (by omega) (by omega)
theorem T_spendTogether (h : tH L v) {l : Nat} (hl : l < L) (w : Nat → Nat → Int64) : ∃ w', f_Tables_spendTogether 48 (nI l) (bh v w) = some (bh v w') := by
  have h' := h
  obtain ⟨h5, h0, ht, -, -⟩ := h'
  obtain ⟨t0, q0, e0⟩ := ht 0 (by decide)
  obtain ⟨t1, q1, e1⟩ := ht 1 (by decide)
  obtain ⟨t2, q2, e2⟩ := ht 2 (by decide)
  have k30 : ∀ (rec7 : Nat → Int32 → Int32 → mH → Option mH) (rec18 : Nat → Int32 → Int32 → Int32 → mH → Option mH) (a b : Nat), a ≤ 5 → b ≤ 5 → ∀ (c fuel : Nat) (w : Nat → Nat → Int64), c + 1 < fuel → c ≤ 5 → ∃ w', f_Tables_spendTogether_30 rec7 rec18 fuel 48 (nI l) (nI a) (nI b) (nI c) (bh v w) = rec18 48 (nI l) (nI a) (nI b + -1) (bh v w') := by
    intro rec7 rec18 a b ha hb c
    have st : ∀ (m c : Nat) (w : Nat → Nat → Int64), c ≤ 5 → ∃ w', f_Tables_spendTogether_30 rec7 rec18 (m + 1) 48 (nI l) (nI a) (nI b) (nI c) (bh v w) = f_Tables_spendTogether_30 rec7 rec18 m 48 (nI l) (nI a) (nI b) (nI c + -1) (bh v w') := by
      intro m c w hc
      obtain ⟨r, er⟩ := T_waysTo (w := w) h ha hb hc hl
      show ∃ w', f_Tables_spendTogether_30b rec7 rec18 (f_Tables_spendTogether_30 rec7 rec18 m) 48 (nI l) (nI a) (nI b) (nI c) (bh v w) = _
      unfold f_Tables_spendTogether_30b
      rw [if_neg (nI_pos (by omega))]
      simp only [hB0, bd1_q]
      rw [st_I, bd2_s]
      simp only [hB0, bd1_q]
      rw [er, bd2_s]
      simp only [hB0, bd1_q]
      rw [wrL_nI (by omega) (by decide), bd1_s]
      exact ⟨_, rfl⟩
    have z : ∀ (m : Nat) (w : Nat → Nat → Int64), f_Tables_spendTogether_30 rec7 rec18 (m + 1) 48 (nI l) (nI a) (nI b) (-1) (bh v w) = rec18 48 (nI l) (nI a) (nI b + -1) (bh v w) := by
      intro m w
      show f_Tables_spendTogether_30b rec7 rec18 (f_Tables_spendTogether_30 rec7 rec18 m) 48 (nI l) (nI a) (nI b) (-1) (bh v w) = _
      unfold f_Tables_spendTogether_30b
      rw [if_pos (by decide)]
    induction c with
    | zero =>
      intro fuel w hf hc
      obtain ⟨m, rfl⟩ : ∃ m, fuel = m + 1 + 1 := ⟨fuel - 2, by omega⟩
      obtain ⟨w1, g1⟩ := st (m + 1) 0 w hc
      rw [m1_0, z] at g1
      exact ⟨w1, g1⟩
    | succ c ih =>
      intro fuel w hf hc
      obtain ⟨m, rfl⟩ : ∃ m, fuel = m + 1 := ⟨fuel - 1, by omega⟩
      obtain ⟨w1, g1⟩ := st m (c + 1) w hc
      rw [m1_I c (by omega)] at g1
      obtain ⟨w2, g2⟩ := ih m w1 (by omega) (by omega)
      exact ⟨w2, g1.trans g2⟩
  have k18 : ∀ (rec7 : Nat → Int32 → Int32 → mH → Option mH) (a : Nat), a ≤ 5 → ∀ (b fuel : Nat) (w : Nat → Nat → Int64), b + 1 < fuel → b ≤ 5 → ∃ w', f_Tables_spendTogether_18 rec7 fuel 48 (nI l) (nI a) (nI b) (bh v w) = rec7 48 (nI l) (nI a + -1) (bh v w') := by
    intro rec7 a ha b
    have st : ∀ (m b : Nat) (w : Nat → Nat → Int64), b ≤ 5 → ∃ w', f_Tables_spendTogether_18 rec7 (m + 1) 48 (nI l) (nI a) (nI b) (bh v w) = f_Tables_spendTogether_18 rec7 m 48 (nI l) (nI a) (nI b + -1) (bh v w') := by
      intro m b w hb
      obtain ⟨w1, g1⟩ := k30 rec7 (f_Tables_spendTogether_18 rec7 m) a b ha hb t2 FU w (by unfold FU; omega) q2
      refine ⟨w1, ?_⟩
      show f_Tables_spendTogether_18b rec7 (f_Tables_spendTogether_18 rec7 m) 48 (nI l) (nI a) (nI b) (bh v w) = _
      unfold f_Tables_spendTogether_18b
      rw [if_neg (nI_pos (by omega))]
      simp only [hB0, bd1_q]
      rw [rd3.2.2, bd1_s, e2]
      exact g1
    have z : ∀ (m : Nat) (w : Nat → Nat → Int64), f_Tables_spendTogether_18 rec7 (m + 1) 48 (nI l) (nI a) (-1) (bh v w) = rec7 48 (nI l) (nI a + -1) (bh v w) := by
      intro m w
      show f_Tables_spendTogether_18b rec7 (f_Tables_spendTogether_18 rec7 m) 48 (nI l) (nI a) (-1) (bh v w) = _
      unfold f_Tables_spendTogether_18b
      rw [if_pos (by decide)]
    induction b with
    | zero =>
      intro fuel w hf hc
      obtain ⟨m, rfl⟩ : ∃ m, fuel = m + 1 + 1 := ⟨fuel - 2, by omega⟩
      obtain ⟨w1, g1⟩ := st (m + 1) 0 w hc
      rw [m1_0, z] at g1
      exact ⟨w1, g1⟩
    | succ c ih =>
      intro fuel w hf hc
      obtain ⟨m, rfl⟩ : ∃ m, fuel = m + 1 := ⟨fuel - 1, by omega⟩
      obtain ⟨w1, g1⟩ := st m (c + 1) w hc
      rw [m1_I c (by omega)] at g1
      obtain ⟨w2, g2⟩ := ih m w1 (by omega) (by omega)
      exact ⟨w2, g1.trans g2⟩
  have k7 : ∀ (a fuel : Nat) (w : Nat → Nat → Int64), a + 1 < fuel → a ≤ 5 → ∃ w', f_Tables_spendTogether_7 fuel 48 (nI l) (nI a) (bh v w) = some (bh v w') := by
    intro a
    have st : ∀ (m a : Nat) (w : Nat → Nat → Int64), a ≤ 5 → ∃ w', f_Tables_spendTogether_7 (m + 1) 48 (nI l) (nI a) (bh v w) = f_Tables_spendTogether_7 m 48 (nI l) (nI a + -1) (bh v w') := by
      intro m a w ha
      obtain ⟨w1, g1⟩ := k18 (f_Tables_spendTogether_7 m) a ha t1 FU w (by unfold FU; omega) q1
      refine ⟨w1, ?_⟩
      show f_Tables_spendTogether_7b (f_Tables_spendTogether_7 m) 48 (nI l) (nI a) (bh v w) = _
      unfold f_Tables_spendTogether_7b
      rw [if_neg (nI_pos (by omega))]
      simp only [hB0, bd1_q]
      rw [rd3.2.1, bd1_s, e1]
      exact g1
    have z : ∀ (m : Nat) (w : Nat → Nat → Int64), f_Tables_spendTogether_7 (m + 1) 48 (nI l) (-1) (bh v w) = some (bh v w) := by
      intro m w
      show f_Tables_spendTogether_7b (f_Tables_spendTogether_7 m) 48 (nI l) (-1) (bh v w) = _
      unfold f_Tables_spendTogether_7b
      rw [if_pos (by decide)]
    induction a with
    | zero =>
      intro fuel w hf hc
      obtain ⟨m, rfl⟩ : ∃ m, fuel = m + 1 + 1 := ⟨fuel - 2, by omega⟩
      obtain ⟨w1, g1⟩ := st (m + 1) 0 w hc
      rw [m1_0, z] at g1
      exact ⟨w1, g1⟩
    | succ c ih =>
      intro fuel w hf hc
      obtain ⟨m, rfl⟩ : ∃ m, fuel = m + 1 := ⟨fuel - 1, by omega⟩
      obtain ⟨w1, g1⟩ := st m (c + 1) w hc
      rw [m1_I c (by omega)] at g1
      obtain ⟨w2, g2⟩ := ih m w1 (by omega) (by omega)
      exact ⟨w2, g1.trans g2⟩
  unfold f_Tables_spendTogether f_Tables_spendTogether_0
  simp only [hB0, bd1_q]
  rw [rd3.1, bd1_s, e0]
  exact k7 t0 FU w (by unfold FU; omega) q0
end
end
/-! 8z3.booksd.lean.txt -/
section
theorem hS0 (v : Nat → Nat → Int32) (w : Nat → Nat → Int64) : kC (bh v w) 16 6 = some () ∧ gI (bh v w) 16 6 0 = some (v 16 0) ∧ gR (bh v w) 16 6 1 = some 17 ∧ gR (bh v w) 16 6 2 = some 18 ∧ gR (bh v w) 16 6 3 = some 19 ∧ (∀ i, aI (bh v w) 0 17 i = rd (v 17) 8 i) ∧ (∀ i, aI (bh v w) 0 18 i = rd (v 18) 8 i) ∧ (∀ i, aI (bh v w) 0 19 i = rd (v 19) 8 i) ∧ kC (bh v w) 3 4 = some () ∧ gI (bh v w) 3 4 0 = some (v 3 0) ∧ gR (bh v w) 3 4 7 = some 5 ∧ gR (bh v w) 3 4 11 = some 9 ∧ gR (bh v w) 3 4 15 = some 13 ∧ gR (bh v w) 3 4 18 = some 16 ∧ (∀ i, aI (bh v w) 0 5 i = rd (v 5) 5 i) ∧ (∀ i, aI (bh v w) 0 9 i = rd (v 9) 3 i) ∧ (∀ i, aI (bh v w) 0 13 i = rd (v 13) 3 i) := ⟨rfl, rfl, rfl, rfl, rfl, aI_bh rfl, aI_bh rfl, aI_bh rfl, rfl, rfl, rfl, rfl, rfl, rfl, aI_bh rfl, aI_bh rfl, aI_bh rfl⟩
section
variable {L : Nat} {ρ : Rho} {v : Nat → Nat → Int32} {w : Nat → Nat → Int64}
theorem T_isDueOf (p : Nat) (hp : p < 3) (n : Int32) : ∃ r, f_Tables_isDueOf 48 (nI p) n (bh v w) = some (r, bh v w) := by
  unfold f_Tables_isDueOf f_Tables_isDueOf_0 f_Tables_isDueOf_20
  simp only [hB0, bd1_q]
  rw [rd_nI hp (by decide), bd1_s, bd1_s]
  split
  · exact ⟨_, rfl⟩
  · split
    · exact ⟨_, rfl⟩
    · exact ⟨_, rfl⟩
theorem T_sumOfDue (h : tH L v) : ∃ r, f_Tables_sumOfDue 48 (bh v w) = some (r, bh v w) := by
  obtain ⟨h5, h0, ht, -, -⟩ := h
  obtain ⟨t0, q0, e0⟩ := ht 0 (by decide)
  obtain ⟨t1, q1, e1⟩ := ht 1 (by decide)
  obtain ⟨t2, q2, e2⟩ := ht 2 (by decide)
  have k31 : ∀ (rec4 : Nat → Int64 → Int32 → mH → Option (Int64 × mH)) (rec17 : Nat → Int64 → Int32 → Int32 → mH → Option (Int64 × mH)) (a b : Nat), a ≤ 5 → b ≤ 5 → ∀ (k fuel c : Nat) (x : Int64), k < fuel → c + k = t2 + 1 → ∃ y, f_Tables_sumOfDue_31 rec4 rec17 fuel 48 x (nI a) (nI b) (nI c) (bh v w) = rec17 48 y (nI a) (nI (b + 1)) (bh v w) := by
    intro rec4 rec17 a b ha hb k
    induction k with
    | zero =>
      intro fuel c x hf hc
      obtain ⟨m, rfl⟩ : ∃ m, fuel = m + 1 := ⟨fuel - 1, by omega⟩
      refine ⟨x, ?_⟩
      show f_Tables_sumOfDue_31b rec4 rec17 (f_Tables_sumOfDue_31 rec4 rec17 m) 48 x (nI a) (nI b) (nI c) (bh v w) = _
      unfold f_Tables_sumOfDue_31b
      simp only [hB0, bd1_q]
      rw [rd3.2.2, bd1_s, e2, if_pos (nI_lt (by omega) (by omega)), nI_1]
    | succ k ih =>
      intro fuel c x hf hc
      obtain ⟨m, rfl⟩ : ∃ m, fuel = m + 1 := ⟨fuel - 1, by omega⟩
      have nx := fun x => ih m (c + 1) x (by omega) (by omega)
      obtain ⟨r0, g0⟩ := T_isDueOf (v := v) (w := w) 0 (by decide) (nI a)
      obtain ⟨r1, g1⟩ := T_isDueOf (v := v) (w := w) 1 (by decide) (nI b)
      obtain ⟨r2, g2⟩ := T_isDueOf (v := v) (w := w) 2 (by decide) (nI c)
      have g0 : f_Tables_isDueOf 48 (0 : Int32) (nI a) (bh v w) = some (r0, bh v w) := g0
      have g1 : f_Tables_isDueOf 48 (1 : Int32) (nI b) (bh v w) = some (r1, bh v w) := g1
      have g2 : f_Tables_isDueOf 48 (2 : Int32) (nI c) (bh v w) = some (r2, bh v w) := g2
      show ∃ y, f_Tables_sumOfDue_31b rec4 rec17 (f_Tables_sumOfDue_31 rec4 rec17 m) 48 x (nI a) (nI b) (nI c) (bh v w) = _
      unfold f_Tables_sumOfDue_31b f_Tables_sumOfDue_87
      simp only [hB0, bd1_q]
      rw [rd3.2.2, bd1_s, e2, if_neg (nI_nlt (by omega) (by omega)), g0, bd2_s, nI_1]
      split
      · exact nx _
      · simp only [hB0, bd1_q]
        rw [g1, bd2_s]
        split
        · exact nx _
        · simp only [hB0, bd1_q]
          rw [g2, bd2_s]
          split
          · exact nx _
          · simp only [hB0, bd1_q]
            rw [st_I, bd2_s]
            simp only [hB0, bd1_q]
            rw [rd_nI (by omega) (by decide), bd1_s]
            exact nx _
  have k17 : ∀ (rec4 : Nat → Int64 → Int32 → mH → Option (Int64 × mH)) (a : Nat), a ≤ 5 → ∀ (k fuel b : Nat) (x : Int64), k < fuel → b + k = t1 + 1 → ∃ y, f_Tables_sumOfDue_17 rec4 fuel 48 x (nI a) (nI b) (bh v w) = rec4 48 y (nI (a + 1)) (bh v w) := by
    intro rec4 a ha k
    induction k with
    | zero =>
      intro fuel b x hf hc
      obtain ⟨m, rfl⟩ : ∃ m, fuel = m + 1 := ⟨fuel - 1, by omega⟩
      refine ⟨x, ?_⟩
      show f_Tables_sumOfDue_17b rec4 (f_Tables_sumOfDue_17 rec4 m) 48 x (nI a) (nI b) (bh v w) = _
      unfold f_Tables_sumOfDue_17b
      simp only [hB0, bd1_q]
      rw [rd3.2.1, bd1_s, e1, if_pos (nI_lt (by omega) (by omega)), nI_1]
    | succ k ih =>
      intro fuel b x hf hc
      obtain ⟨m, rfl⟩ : ∃ m, fuel = m + 1 := ⟨fuel - 1, by omega⟩
      obtain ⟨y1, g1⟩ := k31 rec4 (f_Tables_sumOfDue_17 rec4 m) a b ha (by omega) (t2 + 1) FU 0 x (by unfold FU; omega) (by omega)
      obtain ⟨y2, g2⟩ := ih m (b + 1) y1 (by omega) (by omega)
      refine ⟨y2, ?_⟩
      show f_Tables_sumOfDue_17b rec4 (f_Tables_sumOfDue_17 rec4 m) 48 x (nI a) (nI b) (bh v w) = _
      unfold f_Tables_sumOfDue_17b
      simp only [hB0, bd1_q]
      rw [rd3.2.1, bd1_s, e1, if_neg (nI_nlt (by omega) (by omega))]
      exact g1.trans g2
  have k4 : ∀ (k fuel a : Nat) (x : Int64), k < fuel → a + k = t0 + 1 → ∃ r, f_Tables_sumOfDue_4 fuel 48 x (nI a) (bh v w) = some (r, bh v w) := by
    intro k
    induction k with
    | zero =>
      intro fuel a x hf hc
      obtain ⟨m, rfl⟩ : ∃ m, fuel = m + 1 := ⟨fuel - 1, by omega⟩
      refine ⟨x, ?_⟩
      show f_Tables_sumOfDue_4b (f_Tables_sumOfDue_4 m) 48 x (nI a) (bh v w) = _
      unfold f_Tables_sumOfDue_4b
      simp only [hB0, bd1_q]
      rw [rd3.1, bd1_s, e0, if_pos (nI_lt (by omega) (by omega))]
    | succ k ih =>
      intro fuel a x hf hc
      obtain ⟨m, rfl⟩ : ∃ m, fuel = m + 1 := ⟨fuel - 1, by omega⟩
      obtain ⟨y1, g1⟩ := k17 (f_Tables_sumOfDue_4 m) a (by omega) (t1 + 1) FU 0 x (by unfold FU; omega) (by omega)
      obtain ⟨y2, g2⟩ := ih m (a + 1) y1 (by omega) (by omega)
      refine ⟨y2, ?_⟩
      show f_Tables_sumOfDue_4b (f_Tables_sumOfDue_4 m) 48 x (nI a) (bh v w) = _
      unfold f_Tables_sumOfDue_4b
      simp only [hB0, bd1_q]
      rw [rd3.1, bd1_s, e0, if_neg (nI_nlt (by omega) (by omega))]
      exact g1.trans g2
  obtain ⟨r, g⟩ := k4 (t0 + 1) FU 0 0 (by unfold FU; omega) (by omega)
  exact ⟨r, g⟩
theorem T_fillJ (x : Int64) (v : Nat → Nat → Int32) (w : Nat → Nat → Int64) : ∃ w1, f_Arrays_fillJ 54 x (bh v w) = some (bh v w1) := by
  have key : ∀ (k fuel i : Nat) (w : Nat → Nat → Int64), k < fuel → i + k = 18 → ∃ w1, f_Arrays_fillJ_6 fuel 54 x (nI i) (nI 18) (bh v w) = some (bh v w1) := by
    intro k
    induction k with
    | zero =>
      intro fuel i w hf hi
      obtain ⟨m, rfl⟩ : ∃ m, fuel = m + 1 := ⟨fuel - 1, by omega⟩
      show ∃ w1, f_Arrays_fillJ_6b (f_Arrays_fillJ_6 m) 54 x (nI i) (nI 18) (bh v w) = some (bh v w1)
      unfold f_Arrays_fillJ_6b
      rw [if_pos ((nI_leI (by omega) (by omega)).mpr (by omega))]
      exact ⟨w, rfl⟩
    | succ k ih =>
      intro fuel i w hf hi
      obtain ⟨m, rfl⟩ : ∃ m, fuel = m + 1 := ⟨fuel - 1, by omega⟩
      show ∃ w1, f_Arrays_fillJ_6b (f_Arrays_fillJ_6 m) 54 x (nI i) (nI 18) (bh v w) = some (bh v w1)
      unfold f_Arrays_fillJ_6b
      simp only [hB0]
      rw [if_neg (fun z => by have := (nI_leI (by omega) (by omega)).mp z; omega), wrL_nI (by omega) (by omega), bd1_s, nI_1]
      exact ih m (i + 1) _ (by omega) (by omega)
  unfold f_Arrays_fillJ f_Arrays_fillJ_0
  rw [show aN (bh v w) 3 54 = some (nI 18) from rfl, bd1_s, show (0 : Int32) = nI 0 from rfl]
  exact key 18 FU 0 w (by decide) (by decide)
theorem T_fitting (h : tH L v) (w : Nat → Nat → Int64) : ∃ r w', f_Tables_fitting 48 (bh v w) = some (r, bh v w') := by
  have h' := h
  obtain ⟨h5, h0, -, -, -⟩ := h'
  have k69 : ∀ (k fuel l : Nat) (w : Nat → Nat → Int64), k < fuel → l + k = L → ∃ r w', f_Tables_fitting_69 fuel 48 (nI l) (bh v w) = some (r, bh v w') := by
    intro k
    induction k with
    | zero =>
      intro fuel l w hf hl
      obtain ⟨m, rfl⟩ : ∃ m, fuel = m + 1 := ⟨fuel - 1, by omega⟩
      obtain ⟨r, e⟩ := T_sumOfDue (w := w) h
      show ∃ r w', f_Tables_fitting_69b (f_Tables_fitting_69 m) 48 (nI l) (bh v w) = some (r, bh v w')
      unfold f_Tables_fitting_69b
      simp only [hB0, bd1_q]
      rw [h0, if_pos ((nI_leI (by omega) (by omega)).mpr (by omega)), e, bd2_s]
      exact ⟨r, w, rfl⟩
    | succ k ih =>
      intro fuel l w hf hl
      obtain ⟨m, rfl⟩ : ∃ m, fuel = m + 1 := ⟨fuel - 1, by omega⟩
      obtain ⟨w1, e1⟩ := T_spendTogether h (show l < L by omega) w
      show ∃ r w', f_Tables_fitting_69b (f_Tables_fitting_69 m) 48 (nI l) (bh v w) = some (r, bh v w')
      unfold f_Tables_fitting_69b f_Tables_fitting_92
      simp only [hB0, bd1_q]
      rw [h0, if_neg (fun q => by have := (nI_leI (by omega) (by omega)).mp q; omega), rd_nI (by omega) (by decide), bd1_s, nI_1, e1, bd1_s]
      split
      · exact ih m (l + 1) w (by omega) (by omega)
      · exact ih m (l + 1) w1 (by omega) (by omega)
  have k27 : ∀ (rec10 : Nat → Int32 → mH → Option (Int64 × mH)) (p : Nat), p < 3 → ∀ (k fuel l : Nat) (w : Nat → Nat → Int64), k < fuel → l + k = L → ∃ w', f_Tables_fitting_27 rec10 fuel 48 (nI p) (nI l) (bh v w) = rec10 48 (nI (p + 1)) (bh v w') := by
    intro rec10 p hp k
    induction k with
    | zero =>
      intro fuel l w hf hl
      obtain ⟨m, rfl⟩ : ∃ m, fuel = m + 1 := ⟨fuel - 1, by omega⟩
      refine ⟨w, ?_⟩
      show f_Tables_fitting_27b rec10 (f_Tables_fitting_27 rec10 m) 48 (nI p) (nI l) (bh v w) = _
      unfold f_Tables_fitting_27b
      simp only [hB0, bd1_q]
      rw [h0, if_pos ((nI_leI (by omega) (by omega)).mpr (by omega)), nI_1]
    | succ k ih =>
      intro fuel l w hf hl
      obtain ⟨m, rfl⟩ : ∃ m, fuel = m + 1 := ⟨fuel - 1, by omega⟩
      obtain ⟨w1, e1⟩ := T_spendAlone h hp (show l < L by omega) w
      show ∃ w', f_Tables_fitting_27b rec10 (f_Tables_fitting_27 rec10 m) 48 (nI p) (nI l) (bh v w) = _
      unfold f_Tables_fitting_27b f_Tables_fitting_51
      simp only [hB0, bd1_q]
      rw [h0, if_neg (fun q => by have := (nI_leI (by omega) (by omega)).mp q; omega), rd_nI (by omega) (by decide), bd1_s, nI_1, e1, bd1_s]
      split
      · exact ih m (l + 1) w1 (by omega) (by omega)
      · exact ih m (l + 1) w (by omega) (by omega)
  have k10 : ∀ (k fuel p : Nat) (w : Nat → Nat → Int64), k < fuel → p + k = 3 → ∃ r w', f_Tables_fitting_10 fuel 48 (nI p) (bh v w) = some (r, bh v w') := by
    intro k
    induction k with
    | zero =>
      intro fuel p w hf hp
      obtain ⟨m, rfl⟩ : ∃ m, fuel = m + 1 := ⟨fuel - 1, by omega⟩
      obtain ⟨w1, e1⟩ := T_joinAll h w
      obtain ⟨r, w2, e2⟩ := k69 L FU 0 w1 (by unfold FU; omega) (by omega)
      have e2 : f_Tables_fitting_69 FU 48 0 (bh v w1) = some (r, bh v w2) := e2
      show ∃ r w', f_Tables_fitting_10b (f_Tables_fitting_10 m) 48 (nI p) (bh v w) = some (r, bh v w')
      unfold f_Tables_fitting_10b
      rw [show (3 : Int32) = nI 3 from rfl, if_pos ((nI_leI (by omega) (by omega)).mpr (by omega))]
      simp only [hB0, bd1_q]
      rw [e1, bd1_s, e2]
      exact ⟨r, w2, rfl⟩
    | succ k ih =>
      intro fuel p w hf hp
      obtain ⟨m, rfl⟩ : ∃ m, fuel = m + 1 := ⟨fuel - 1, by omega⟩
      show ∃ r w', f_Tables_fitting_10b (f_Tables_fitting_10 m) 48 (nI p) (bh v w) = some (r, bh v w')
      unfold f_Tables_fitting_10b
      rw [show (3 : Int32) = nI 3 from rfl, if_neg (fun q => by have := (nI_leI (by omega) (by omega)).mp q; omega)]
      simp only [hB0, bd1_q]
      rw [show (6 : Int32) = nI 6 from rfl, pk_mul, wrL_nI (by omega) (by decide), bd1_s]
      obtain ⟨w1, e1⟩ := k27 (f_Tables_fitting_10 m) p (by omega) L FU 0 (u2L w 54 (p * 6) 1) (by unfold FU; omega) (by omega)
      have e1 : f_Tables_fitting_27 (f_Tables_fitting_10 m) FU 48 (nI p) 0 (bh v (u2L w 54 (p * 6) 1)) = f_Tables_fitting_10 m 48 (nI (p + 1)) (bh v w1) := e1
      rw [e1]
      exact ih m (p + 1) w1 (by omega) (by omega)
  unfold f_Tables_fitting f_Tables_fitting_0
  simp only [hB0, bd1_q]
  obtain ⟨w1, e1⟩ := T_fillJ 0 v w
  rw [e1, bd1_s, show (0 : Int32) = nI 0 from rfl]
  exact k10 3 FU 0 w1 (by decide) (by decide)
theorem T_sumDue (hr : CR 3 ρ v) (hk : ROK ρ) (a b : Int32) : ∃ r, f_Sightings_sumDue 16 a b (bh v w) = some (r, bh v w) := by
  have h6 := hk.1.2.2.2.2.2.2
  have e0 : v 16 0 = nI (ρ 0 6) := hr.1.2.2.2.2.2.2
  have key : ∀ (n fuel k : Nat) (s : Int32), n < fuel → k + n = ρ 0 6 → ∃ r, f_Sightings_sumDue_5 fuel 16 a b s (nI k) (bh v w) = some (r, bh v w) := by
    intro n
    induction n with
    | zero =>
      intro fuel k s hf hk2
      obtain ⟨m, rfl⟩ : ∃ m, fuel = m + 1 := ⟨fuel - 1, by omega⟩
      show ∃ r, f_Sightings_sumDue_5b (f_Sightings_sumDue_5 m) 16 a b s (nI k) (bh v w) = some (r, bh v w)
      unfold f_Sightings_sumDue_5b
      simp only [hS0, bd1_q]
      rw [e0, if_pos ((nI_leI (by omega) (by omega)).mpr (by omega))]
      exact ⟨s, rfl⟩
    | succ n ih =>
      intro fuel k s hf hk2
      obtain ⟨m, rfl⟩ : ∃ m, fuel = m + 1 := ⟨fuel - 1, by omega⟩
      have nx := fun s => ih m (k + 1) s (by omega) (by omega)
      show ∃ r, f_Sightings_sumDue_5b (f_Sightings_sumDue_5 m) 16 a b s (nI k) (bh v w) = some (r, bh v w)
      unfold f_Sightings_sumDue_5b f_Sightings_sumDue_52 f_Sightings_sumDue_64 f_Sightings_sumDue_65
      simp only [hS0, bd1_q]
      rw [e0, if_neg (fun z => by have := (nI_leI (by omega) (by omega)).mp z; omega), rd_nI (by omega) (by decide), bd1_s, rd_nI (by omega) (by decide), bd1_s, rd_nI (by omega) (by decide), bd1_s, bd1_s, nI_1]
      repeat' split
      all_goals exact nx _
  unfold f_Sightings_sumDue f_Sightings_sumDue_0
  rw [show (0 : Int32) = nI 0 from rfl]
  exact key (ρ 0 6) FU 0 _ (by unfold FU; omega) (by omega)
end
end
/-! 8z4.bookse.lean.txt -/
section
section
variable {ρ : Rho} {v : Nat → Nat → Int32} {w : Nat → Nat → Int64}
def tFr (v v' : Nat → Nat → Int32) : Prop := ∀ q, q < 48 ∨ 54 ≤ q → v' q = v q
def tI (ρ : Rho) (v : Nat → Nat → Int32) : Prop := CR 3 ρ v ∧ v 48 0 = nI (ρ 0 0) ∧ (∀ i, i < 15 → ∃ a, a ≤ 3 ∧ v 49 i = nI a) ∧ ∀ i, i < 15 → ∃ b, b ≤ 3 ∧ v 50 i = nI b
theorem tI.put {o k : Nat} {x : Int32} (h : tI ρ v) (ho : 51 ≤ o ∧ o ≤ 53) : tI ρ (u2 v o k x) := by
  obtain ⟨a, b, c, d⟩ := h
  refine ⟨a.frame (fun p _ _ => u2_o (by omega)), ?_, ?_, ?_⟩
  · rw [u2_o (by omega)]; exact b
  · rw [u2_o (by omega)]; exact c
  · rw [u2_o (by omega)]; exact d
theorem tI.w50 {k x : Nat} (h : tI ρ v) (hx : x ≤ 3) : tI ρ (u2 v 50 k (nI x)) := by
  obtain ⟨a, b, c, d⟩ := h
  refine ⟨a.frame (fun p _ _ => u2_o (by omega)), ?_, ?_, fun i hi => ?_⟩
  · rw [u2_o (by omega)]; exact b
  · rw [u2_o (by omega)]; exact c
  · by_cases z : i = k
    · rw [z, u2_at]; exact ⟨x, hx, rfl⟩
    · rw [u2_n z]; exact d i hi
theorem hasBit_any (x y : Int32) : ∃ r, ∀ h : mH, f_Q_hasBit x y h = some (r, h) := by
  unfold f_Q_hasBit f_Q_hasBit_0
  by_cases c : ((x >>> (y &&& 31)) &&& (1 : Int32)) = 0
  · exact ⟨0, fun h => by rw [if_pos c]⟩
  · exact ⟨1, fun h => by rw [if_neg c]⟩
theorem T_ld114 (hk : ROK ρ) (rec57 : Nat → Nat → Int32 → mH → Option mH) {p : Nat} (hp : p < 3) (b3 : Int32) : ∀ (k fuel l : Nat) (v : Nat → Nat → Int32), k < fuel → l + k = ρ 0 0 → tI ρ v → ∃ v', f_Tables_load_114 rec57 fuel 48 3 (nI p) b3 (nI l) (bh v w) = rec57 48 3 (nI (p + 1)) (bh v' w) ∧ tI ρ v' ∧ ∀ q, q ≠ 50 → v' q = v q := by
  have h0 := hk.1.1
  intro k
  induction k with
  | zero =>
    intro fuel l v hf hl hi
    obtain ⟨m, rfl⟩ : ∃ m, fuel = m + 1 := ⟨fuel - 1, by omega⟩
    refine ⟨v, ?_, hi, fun _ _ => rfl⟩
    show f_Tables_load_114b rec57 (f_Tables_load_114 rec57 m) 48 3 (nI p) b3 (nI l) (bh v w) = _
    unfold f_Tables_load_114b
    simp only [hB0, bd1_q]
    rw [hi.2.1, if_pos ((nI_leI (by omega) (by omega)).mpr (by omega)), nI_1]
  | succ k ih =>
    intro fuel l v hf hl hi
    obtain ⟨m, rfl⟩ : ∃ m, fuel = m + 1 := ⟨fuel - 1, by omega⟩
    have c5 : v 5 l = nI (ρ 2 l) := (hi.1.2.1 l (by omega)).2.1
    have c3 : ρ 2 l ≤ 3 := (hk.2.1 l (by omega)).2.2.1
    have nx : ∀ x : Nat, x ≤ 3 → ∃ v', f_Tables_load_114 rec57 m 48 3 (nI p) b3 (nI (l + 1)) (bh (u2 v 50 (5 * p + l) (nI x)) w) = rec57 48 3 (nI (p + 1)) (bh v' w) ∧ tI ρ v' ∧ ∀ q, q ≠ 50 → v' q = v q := by
      intro x hx
      obtain ⟨v', e1, e2, e3⟩ := ih m (l + 1) _ (by omega) (by omega) (hi.w50 (k := 5 * p + l) hx)
      exact ⟨v', e1, e2, fun q hq => (e3 q hq).trans (u2_o hq)⟩
    have n0 := nx 0 (by decide)
    obtain ⟨r, er⟩ := hasBit_any (v 13 p) (nI l)
    show ∃ v', f_Tables_load_114b rec57 (f_Tables_load_114 rec57 m) 48 3 (nI p) b3 (nI l) (bh v w) = _ ∧ _
    unfold f_Tables_load_114b f_Tables_load_145 f_Tables_load_146 f_Tables_load_174
    simp only [hB0, hS0, bd1_q]
    rw [hi.2.1, if_neg (fun q => by have := (nI_leI (by omega) (by omega)).mp q; omega), show (5 : Int32) = nI 5 from rfl, pk_mul, nI_add, Nat.mul_comm p 5, rd_nI (by omega) (by decide), bd1_s, wr_nI (by omega) (by decide), bd1_s, nI_1, rd_nI hp (by decide), bd1_s, er, bd2_s, c5]
    have nc := nx (ρ 2 l) c3
    by_cases z : b3 = 0
    · rw [if_pos z, if_pos trivial]; exact n0
    · rw [if_neg z]
      by_cases y : r = 0
      · rw [if_pos y]
        simp only [hB0, hS0, bd1_q]
        rw [if_neg (by decide), rd_nI (by omega) (by decide), bd1_s, c5, wr_nI (by omega) (by decide), bd1_s]
        exact nc
      · rw [if_neg y]
        simp only [hB0, hS0, bd1_q]
        rw [if_pos trivial, wr_nI (by omega) (by decide), bd1_s]
        exact n0
theorem T_load (hr : CR 3 ρ v) (hk : ROK ρ) : ∃ v', f_Tables_load 48 3 (bh v w) = some (bh v' w) ∧ tH (ρ 0 0) v' ∧ tFr v v' := by
  have h0 := hk.1.1
  have h1 := hk.1.2.1
  have k57 : ∀ (k fuel p : Nat) (v : Nat → Nat → Int32), k < fuel → p + k = 3 → tI ρ v → (∀ j, j < p → ∃ t, t ≤ 5 ∧ v 53 j = nI t) → ∃ v', f_Tables_load_57 fuel 48 3 (nI p) (bh v w) = some (bh v' w) ∧ tH (ρ 0 0) v' ∧ tFr v v' := by
    intro k
    induction k with
    | zero =>
      intro fuel p v hf hp hi ht
      obtain ⟨m, rfl⟩ : ∃ m, fuel = m + 1 := ⟨fuel - 1, by omega⟩
      refine ⟨v, ?_, ⟨h0, hi.2.1, fun j hj => ht j (by omega), hi.2.2.1, hi.2.2.2⟩, fun _ _ => rfl⟩
      show f_Tables_load_57b (f_Tables_load_57 m) 48 3 (nI p) (bh v w) = _
      unfold f_Tables_load_57b
      rw [show (3 : Int32) = nI 3 from rfl, if_pos ((nI_leI (by omega) (by omega)).mpr (by omega))]
    | succ k ih =>
      intro fuel p v hf hp hi ht
      obtain ⟨m, rfl⟩ : ∃ m, fuel = m + 1 := ⟨fuel - 1, by omega⟩
      obtain ⟨r, er⟩ := T_sumDue (w := w) hi.1 hk 0 (nI p)
      have nx : ∀ (x b3 : Int32) (t : Nat), t ≤ 5 → ∃ v', f_Tables_load_114 (f_Tables_load_57 m) FU 48 3 (nI p) b3 0 (bh (u2 (u2 v 52 p x) 53 p (nI t)) w) = some (bh v' w) ∧ tH (ρ 0 0) v' ∧ tFr v v' := by
        intro x b3 t h5
        obtain ⟨v1, e1, i1, f1⟩ := T_ld114 (w := w) hk (f_Tables_load_57 m) (show p < 3 by omega) b3 (ρ 0 0) FU 0 (u2 (u2 v 52 p x) 53 p (nI t)) (by unfold FU; omega) (by omega) ((hi.put (by decide)).put (by decide))
        have e1 : f_Tables_load_114 (f_Tables_load_57 m) FU 48 3 (nI p) b3 0 (bh (u2 (u2 v 52 p x) 53 p (nI t)) w) = f_Tables_load_57 m 48 3 (nI (p + 1)) (bh v1 w) := e1
        obtain ⟨v2, e2, t2, f2⟩ := ih m (p + 1) v1 (by omega) (by omega) i1 (fun j hj => by
          rw [f1 53 (by decide)]
          by_cases z : j = p
          · rw [z, u2_at]; exact ⟨t, h5, rfl⟩
          · rw [u2_n z, u2_o (by decide)]; exact ht j (by omega))
        exact ⟨v2, e1.trans e2, t2, fun q hq => (f2 q hq).trans ((f1 q (by omega)).trans ((u2_o (by omega)).trans (u2_o (by omega))))⟩
      show ∃ v', f_Tables_load_57b (f_Tables_load_57 m) 48 3 (nI p) (bh v w) = _ ∧ _
      unfold f_Tables_load_57b f_Tables_load_90 f_Tables_load_110
      rw [show (3 : Int32) = nI 3 from rfl, if_neg (fun q => by have := (nI_leI (by omega) (by omega)).mp q; omega)]
      simp only [hB0, hS0, bd1_q]
      rw [C_hasOne rl3 hi.1 h1, bd2_s]
      by_cases c : 0 ≤ (nI p).toInt ∧ (nI p).toInt < (ρ 0 1 : Int)
      · have hpp : p < ρ 0 1 := by rw [nI_toInt (by omega)] at c; omega
        have c9 : u2 v 52 p r 9 p = nI (ρ 6 p) := (congrFun (u2_o (by decide)) p).trans (hi.1.2.2.1 p hpp).1
        rw [if_pos c]
        simp only [hB0, hS0, bd1_q]
        rw [if_neg (by decide), er, bd2_s]
        simp only [hB0, hS0, bd1_q]
        rw [wr_nI (by omega) (by decide), bd1_s]
        simp only [hB0, hS0, bd1_q]
        rw [if_neg (by decide), rd_nI (by omega) (by decide), bd1_s, c9, wr_nI (by omega) (by decide), bd1_s]
        exact nx r 1 (ρ 6 p) (hk.2.2.1 p hpp).1
      · rw [if_neg c]
        simp only [hB0, hS0, bd1_q]
        rw [if_pos trivial, wr_nI (by omega) (by decide), bd1_s]
        simp only [hB0, hS0, bd1_q]
        rw [if_pos trivial, wr_nI (by omega) (by decide), bd1_s]
        exact nx (-1) 0 0 (by decide)
  have k26 : ∀ (k fuel l : Nat) (v : Nat → Nat → Int32), k < fuel → l + k = ρ 0 0 → tI ρ v → ∃ v', f_Tables_load_26 fuel 48 3 (nI l) (bh v w) = some (bh v' w) ∧ tH (ρ 0 0) v' ∧ tFr v v' := by
    intro k
    induction k with
    | zero =>
      intro fuel l v hf hl hi
      obtain ⟨m, rfl⟩ : ∃ m, fuel = m + 1 := ⟨fuel - 1, by omega⟩
      obtain ⟨v', e1, e2⟩ := k57 3 FU 0 v (by decide) (by decide) hi (fun j hj => by omega)
      have e1 : f_Tables_load_57 FU 48 3 0 (bh v w) = some (bh v' w) := e1
      refine ⟨v', ?_, e2⟩
      show f_Tables_load_26b (f_Tables_load_26 m) 48 3 (nI l) (bh v w) = _
      unfold f_Tables_load_26b
      simp only [hB0, bd1_q]
      rw [hi.2.1, if_pos ((nI_leI (by omega) (by omega)).mpr (by omega))]
      exact e1
    | succ k ih =>
      intro fuel l v hf hl hi
      obtain ⟨m, rfl⟩ : ∃ m, fuel = m + 1 := ⟨fuel - 1, by omega⟩
      obtain ⟨r, er⟩ := T_sumDue (w := w) hi.1 hk 1 (nI l)
      obtain ⟨v', e1, e2, e3⟩ := ih m (l + 1) (u2 v 51 l r) (by omega) (by omega) (hi.put (by decide))
      refine ⟨v', ?_, e2, fun q hq => (e3 q hq).trans (u2_o (by omega))⟩
      show f_Tables_load_26b (f_Tables_load_26 m) 48 3 (nI l) (bh v w) = _
      unfold f_Tables_load_26b
      simp only [hB0, hS0, bd1_q]
      rw [hi.2.1, if_neg (fun q => by have := (nI_leI (by omega) (by omega)).mp q; omega), er, bd2_s]
      simp only [hB0, hS0, bd1_q]
      rw [wr_nI (by omega) (by decide), bd1_s, nI_1]
      exact e1
  unfold f_Tables_load f_Tables_load_0
  simp only [hB0, hS0, bd1_q]
  obtain ⟨v1, e1, g1, h1', -⟩ := fill_I (q := 49) (n := 15) (x := 0) (by omega) (fun _ _ => rfl) (fun v w i x => sI_bh rfl i x) (u2 v 48 0 (v 3 0)) w
  rw [e1]
  simp only [hB0, hS0, bd1_q]
  obtain ⟨v2, e2, g2, h2', -⟩ := fill_I (q := 50) (n := 15) (x := 0) (by omega) (fun _ _ => rfl) (fun v w i x => sI_bh rfl i x) v1 w
  rw [e2, bd1_s]
  have fr : ∀ q, q ≠ 48 → q ≠ 49 → q ≠ 50 → v2 q = v q := fun q a b c => (g2 q c).trans ((g1 q b).trans (u2_o a))
  have i2 : tI ρ v2 := ⟨hr.frame (fun p _ _ => fr p (by omega) (by omega) (by omega)), by rw [g2 48 (by decide), g1 48 (by decide), u2_at]; exact hr.1.1, fun i hi => ⟨0, by decide, by rw [g2 49 (by decide)]; exact h1' i hi⟩, fun i hi => ⟨0, by decide, h2' i hi⟩⟩
  obtain ⟨v3, e3, t3, f3⟩ := k26 (ρ 0 0) FU 0 v2 (by unfold FU; omega) (by omega) i2
  have e3 : f_Tables_load_26 FU 48 3 0 (bh v2 w) = some (bh v3 w) := e3
  exact ⟨v3, e3, t3, fun q hq => (f3 q hq).trans (fr q (by omega) (by omega) (by omega))⟩
theorem T_books (hr : CR 3 ρ v) (hk : ROK ρ) : ∃ r v' w', f_Q_books 0 (bh v w) = some (r, bh v' w') ∧ tFr v v' := by
  obtain ⟨v1, e1, t1, f1⟩ := T_load (w := w) hr hk
  obtain ⟨r, w2, e2⟩ := T_fitting t1 w
  unfold f_Q_books f_Q_books_0
  simp only [hB0, bd1_q]
  rw [e1]
  simp only [hB0, bd1_q]
  rw [e2, bd2_s]
  exact ⟨r, v1, w2, rfl, f1⟩
theorem T_first {L : Nat} (h : tH L v) {p l : Nat} (hp : p < 3) (hl : l < L) (x : Int32) (w : Nat → Nat → Int64) : ∃ r v' w', f_Tables_firstThatFits 48 (nI p) (nI l) x (bh v w) = some (r, bh v' w') ∧ tFr v v' := by
  have h5 := h.1
  obtain ⟨T, hT, eT⟩ := h.2.2.2.2 (5 * p + l) (by omega)
  have key : ∀ (k fuel i : Nat) (v : Nat → Nat → Int32) (w : Nat → Nat → Int64), k < fuel → i + k = T + 1 → tH L v → ∃ r v' w', f_Tables_firstThatFits_19 fuel 48 x (nI (5 * p + l)) (nI T) (nI i) (bh v w) = some (r, bh v' w') ∧ tFr v v' := by
    intro k
    induction k with
    | zero =>
      intro fuel i v w hf hi ht
      obtain ⟨m, rfl⟩ : ∃ m, fuel = m + 1 := ⟨fuel - 1, by omega⟩
      show ∃ r v' w', f_Tables_firstThatFits_19b (f_Tables_firstThatFits_19 m) 48 x (nI (5 * p + l)) (nI T) (nI i) (bh v w) = some (r, bh v' w') ∧ _
      unfold f_Tables_firstThatFits_19b
      rw [if_pos (nI_lt (by omega) (by omega))]
      exact ⟨_, v, w, rfl, fun _ _ => rfl⟩
    | succ k ih =>
      intro fuel i v w hf hi ht
      obtain ⟨m, rfl⟩ : ∃ m, fuel = m + 1 := ⟨fuel - 1, by omega⟩
      have go : ∀ y : Nat, y ≤ 3 → ∃ r v' w', f_Tables_firstThatFits_40 (f_Tables_firstThatFits_19 m) 48 x (nI (5 * p + l)) (nI T) (nI i) (nI y) (bh v w) = some (r, bh v' w') ∧ tFr v v' := by
        intro y hy
        have t1 : tH L (u2 (u2 v 49 (5 * p + l) (nI y)) 50 (5 * p + l) (nI y)) := by
          obtain ⟨a1, a2, a3, a4, a5⟩ := ht
          refine ⟨a1, ?_, ?_, fun j hj => ?_, fun j hj => ?_⟩
          · rw [u2_o (by decide), u2_o (by decide)]; exact a2
          · rw [u2_o (by decide), u2_o (by decide)]; exact a3
          · rw [u2_o (by decide)]
            by_cases z : j = 5 * p + l
            · rw [z, u2_at]; exact ⟨y, hy, rfl⟩
            · rw [u2_n z]; exact a4 j hj
          · by_cases z : j = 5 * p + l
            · rw [z, u2_at]; exact ⟨y, hy, rfl⟩
            · rw [u2_n z, u2_o (by decide)]; exact a5 j hj
        obtain ⟨r, w2, e2⟩ := T_fitting t1 w
        obtain ⟨r3, v3, w3, e3, f3⟩ := ih m (i + 1) _ w2 (by omega) (by omega) t1
        unfold f_Tables_firstThatFits_40
        simp only [hB0, bd1_q]
        rw [wr_nI (by omega) (by decide), bd1_s]
        simp only [hB0, bd1_q]
        rw [wr_nI (by omega) (by decide), bd1_s]
        simp only [hB0, bd1_q]
        rw [e2, bd2_s, nI_1]
        have ff : tFr v (u2 (u2 v 49 (5 * p + l) (nI y)) 50 (5 * p + l) (nI y)) := fun q hq => (u2_o (by omega)).trans (u2_o (by omega))
        split
        · exact ⟨r3, v3, w3, e3, fun q hq => (f3 q hq).trans (ff q hq)⟩
        · exact ⟨_, _, w2, rfl, ff⟩
      show ∃ r v' w', f_Tables_firstThatFits_19b (f_Tables_firstThatFits_19 m) 48 x (nI (5 * p + l)) (nI T) (nI i) (bh v w) = some (r, bh v' w') ∧ _
      unfold f_Tables_firstThatFits_19b
      rw [if_neg (nI_nlt (by omega) (by omega)), pk_sub (by omega)]
      split
      · exact go i (by omega)
      · exact go (T - i) (by omega)
  unfold f_Tables_firstThatFits f_Tables_firstThatFits_0
  simp only [hB0, bd1_q]
  rw [show (5 : Int32) = nI 5 from rfl, pk_mul, nI_add, Nat.mul_comm p 5, rd_nI (by omega) (by decide), bd1_s, eT, show (0 : Int32) = nI 0 from rfl]
  exact key (T + 1) FU 0 v w (by unfold FU; omega) (by omega) h
theorem T_entry (hr : CR 3 ρ v) (hk : ROK ρ) (a b c : Int32) : ∃ r v' w', f_Q_entry 0 a b c (bh v w) = some (r, bh v' w') ∧ tFr v v' := by
  have h0 := hk.1.1
  have h1 := hk.1.2.1
  have bad : ∀ h : mH, f_Q_entry_21 h = some (-1, h) := fun h => rfl
  unfold f_Q_entry f_Q_entry_0 f_Realm_hasBoth f_Realm_hasBoth_0 f_Realm_hasBoth_20 f_Q_entry_50
  simp only [hB0, bd1_q, bad]
  rw [C_hasOne rl3 hr h1, bd2_s]
  by_cases c1 : 0 ≤ a.toInt ∧ a.toInt < (ρ 0 1 : Int)
  · rw [if_pos c1, if_neg (by decide)]
    simp only [hB0, bd1_q]
    rw [C_hasLaw rl3 hr h0, bd2_s]
    by_cases c2 : 0 ≤ b.toInt ∧ b.toInt < (ρ 0 0 : Int)
    · rw [if_pos c2, if_neg (by decide), bd2_s, if_neg (by decide), Q_isWithin, bd2_s]
      by_cases c3 : (0 : Int32).toInt ≤ c.toInt ∧ c.toInt ≤ (1 : Int32).toInt
      · rw [if_pos c3, if_neg (by decide)]
        obtain ⟨p, hp, rfl⟩ := ix (by omega) c1
        obtain ⟨l, hl, rfl⟩ := ix (by omega) c2
        obtain ⟨v1, e1, t1, f1⟩ := T_load (w := w) hr hk
        simp only [hB0, bd1_q]
        rw [e1]
        simp only [hB0, bd1_q]
        split
        · obtain ⟨r, v2, w2, e2, f2⟩ := T_first t1 (show p < 3 by omega) hl 1 w
          rw [e2, bd2_s]
          exact ⟨r, v2, w2, rfl, fun q hq => (f2 q hq).trans (f1 q hq)⟩
        · obtain ⟨r, v2, w2, e2, f2⟩ := T_first t1 (show p < 3 by omega) hl 0 w
          rw [e2, bd2_s]
          exact ⟨r, v2, w2, rfl, fun q hq => (f2 q hq).trans (f1 q hq)⟩
      · rw [if_neg c3, if_pos rfl]
        exact ⟨_, v, w, rfl, fun _ _ => rfl⟩
    · rw [if_neg c2, if_pos rfl, bd2_s, if_pos rfl]
      exact ⟨_, v, w, rfl, fun _ _ => rfl⟩
  · rw [if_neg c1, if_pos rfl, bd2_s, if_pos rfl]
    exact ⟨_, v, w, rfl, fun _ _ => rfl⟩
end
section
variable {S : Sg} {v : Nat → Nat → Int32} {w : Nat → Nat → Int64}
theorem Fi_books (hs : SOK S) (hc : CI S v) (hm : MI S v) : FiT S v w (f_Q_books 0) (f_M_books 100) := by
  obtain ⟨r, v1, w1, e1, f1⟩ := T_books (w := w) hc.1 hs.1
  obtain ⟨r', w2, e2⟩ := M_books (w := w1) (hm.1.fr1 (fun q h => f1 q (by omega))) hs.1
  exact FiT.pl hs hc hm e1 (Or.inr (fun q h => f1 q (by omega))) (by rw [f1 43 (by omega)]; exact hc.2.2.2.2.2.2.2) e2 (fun _ _ => rfl)
theorem Fi_entry (x y z : Int32) (hs : SOK S) (hc : CI S v) (hm : MI S v) : FiT S v w (f_Q_entry 0 x y z) (f_M_entry 100 x y z) := by
  obtain ⟨r, v1, w1, e1, f1⟩ := T_entry (w := w) hc.1 hs.1 x y z
  obtain ⟨r', w2, e2⟩ := M_entry (w := w1) (hm.1.fr1 (fun q h => f1 q (by omega))) hs.1 x y z
  exact FiT.pl hs hc hm e1 (Or.inr (fun q h => f1 q (by omega))) (by rw [f1 43 (by omega)]; exact hc.2.2.2.2.2.2.2) e2 (fun _ _ => rfl)
end
end
/-! 8zr1.rota.lean.txt -/
section
/-! rota: the class's search -/
def rArg (f : Nat → Nat → Nat) : Nat → Nat
  | 0 => 0
  | t + 1 => if f (t / 4) (t % 4) < rMin f t then t else rArg f t
theorem rMin_s (f : Nat → Nat → Nat) (x y : Nat) (hy : y < 4) : rMin f (4 * x + (y + 1)) = if f x y < rMin f (4 * x + y) then f x y else rMin f (4 * x + y) := by
  show (if f ((4 * x + y) / 4) ((4 * x + y) % 4) < rMin f (4 * x + y) then f ((4 * x + y) / 4) ((4 * x + y) % 4) else rMin f (4 * x + y)) = _
  rw [show (4 * x + y) / 4 = x by omega, show (4 * x + y) % 4 = y by omega]
theorem rArg_s (f : Nat → Nat → Nat) (x y : Nat) (hy : y < 4) : rArg f (4 * x + (y + 1)) = if f x y < rMin f (4 * x + y) then 4 * x + y else rArg f (4 * x + y) := by
  show (if f ((4 * x + y) / 4) ((4 * x + y) % 4) < rMin f (4 * x + y) then 4 * x + y else rArg f (4 * x + y)) = _
  rw [show (4 * x + y) / 4 = x by omega, show (4 * x + y) % 4 = y by omega]
/-- options that are FAR change nothing -/
theorem rMin_far (f : Nat → Nat → Nat) (t : Nat) : ∀ n, (∀ u, t ≤ u → u < t + n → f (u / 4) (u % 4) = FAR) → rMin f (t + n) = rMin f t ∧ rArg f (t + n) = rArg f t
  | 0, _ => ⟨rfl, rfl⟩
  | n + 1, h => by
    have ih := rMin_far f t n (fun u a b => h u a (by omega))
    have hm := rMin_le f (t + n)
    have e := h (t + n) (by omega) (by omega)
    refine ⟨?_, ?_⟩
    · show (if f ((t + n) / 4) ((t + n) % 4) < rMin f (t + n) then f ((t + n) / 4) ((t + n) % 4) else rMin f (t + n)) = _
      rw [e, if_neg (by omega)]
      exact ih.1
    · show (if f ((t + n) / 4) ((t + n) % 4) < rMin f (t + n) then t + n else rArg f (t + n)) = _
      rw [e, if_neg (by omega)]
      exact ih.2
theorem rArg_ok (f : Nat → Nat → Nat) : ∀ t, rMin f t < FAR → rArg f t < t ∧ f (rArg f t / 4) (rArg f t % 4) = rMin f t ∧ ∀ u, u < rArg f t → f (u / 4) (u % 4) ≠ rMin f t
  | 0, h => absurd h (Nat.lt_irrefl _)
  | t + 1, h => by
    have eM : rMin f (t + 1) = if f (t / 4) (t % 4) < rMin f t then f (t / 4) (t % 4) else rMin f t := rfl
    have eA : rArg f (t + 1) = if f (t / 4) (t % 4) < rMin f t then t else rArg f t := rfl
    rw [eM] at h
    rw [eA, eM]
    by_cases c : f (t / 4) (t % 4) < rMin f t
    · rw [if_pos c] at h
      rw [if_pos c, if_pos c]
      refine ⟨Nat.lt_succ_self t, rfl, fun u hu => ?_⟩
      have lb : ∀ t u, u < t → rMin f t ≤ f (u / 4) (u % 4) := by
        intro t
        induction t with
        | zero => intro u hu; omega
        | succ t ih =>
          intro u hu
          unfold rMin
          by_cases z : u = t
          · subst z; split <;> omega
          · have := ih u (by omega)
            split <;> omega
      have := lb t u hu
      omega
    · rw [if_neg c] at h
      rw [if_neg c, if_neg c]
      obtain ⟨a, b, d⟩ := rArg_ok f t h
      exact ⟨by omega, b, d⟩
section
variable {ρ : Rho} {v : Nat → Nat → Int32} {w : Nat → Nat → Int64}
theorem rN_st (ρ : Rho) (l : Nat) : rN ρ (ρ 0 4) l = sNeed ρ l := by
  unfold rN
  split
  · rfl
  · next h =>
    unfold sNeed
    rw [if_neg h]
/-- what the planner holds, whole -/
def pJ (ρ : Rho) (v : Nat → Nat → Int32) : Prop := v 40 0 = nI (ρ 0 0) ∧ (∀ p, p < 3 → v 41 p = nI (rL ρ (ρ 6) p)) ∧ (∀ l, l < ρ 0 0 → v 42 l = nI (sNeed ρ l)) ∧ (∀ j, j ≤ ρ 0 0 → v 43 j = nI (sumN (sNeed ρ) j)) ∧ (∀ p l, p < 3 → l < ρ 0 0 → v 44 (5 * p + l) = nI (rR ρ p l)) ∧ ∀ p l, p < ρ 0 1 → l < ρ 0 0 → v 45 (5 * p + l) = nI (rH ρ p l)
theorem pI_pJ (h : pI ρ (ρ 0 0) 0 v) : pJ ρ v := by
  obtain ⟨i1, i2, i3, i4, i5, i6⟩ := h
  exact ⟨i1, i2, fun l hl => i3 l hl (Or.inl hl), fun j hj => i4 j hj (Or.inl hj), fun p l hp hl => by rw [i5 p l hp hl, if_pos (Or.inl hl)], fun p l hp hl => i6 p l hp hl (Or.inl hl)⟩
theorem pJ.fr {v' : Nat → Nat → Int32} (h : pJ ρ v) (hq : ∀ q, 40 ≤ q ∧ q ≤ 45 → v' q = v q) : pJ ρ v' := by
  unfold pJ
  rw [hq 40 (by omega), hq 41 (by omega), hq 42 (by omega), hq 43 (by omega), hq 44 (by omega), hq 45 (by omega)]
  exact h
/-- the third one's time -/
def c3v (ρ : Rho) (l a b : Nat) : Int := (rL ρ (ρ 6) 2 : Int) - sumN (sNeed ρ) l + rL ρ (ρ 6) 0 - a + rL ρ (ρ 6) 1 - b
theorem sN_le (hk : ROK ρ) {l : Nat} (hl : l ≤ ρ 0 0) : sumN (sNeed ρ) l ≤ 9 * l := sumN_c (fun i hi => sNeed_le hk (by omega))
theorem rL5 (hk : ROK ρ) (p : Nat) : rL ρ (ρ 6) p ≤ 5 := rL_le hk (fun p hp => (hk.2.2.1 p hp).1) p
theorem C_left (hJ : pJ ρ v) (hk : ROK ρ) {l a b : Nat} (hl : l ≤ ρ 0 0) (ha : a ≤ 5) (hb : b ≤ 5) : f_Planner_leftToLast 40 (nI l) (nI a) (nI b) (bh v w) = some (zI (c3v ρ l a b), bh v w) := by
  have h0 := hk.1.1
  unfold f_Planner_leftToLast f_Planner_leftToLast_0
  simp only [hP0, bd1_q]
  rw [rd3.2.2, bd1_s, rd_nI (by omega) (by decide), bd1_s, rd3.1, bd1_s, rd3.2.1, bd1_s, hJ.2.1 0 (by decide), hJ.2.1 1 (by decide), hJ.2.1 2 (by decide), hJ.2.2.2.1 l hl]
  rw [← zI_n (rL ρ (ρ 6) 2), zI_subn, ← zI_n (rL ρ (ρ 6) 0), zI_add, zI_subn, ← zI_n (rL ρ (ρ 6) 1), zI_add, zI_subn]
  rfl
theorem c3v_b (hk : ROK ρ) {l a b : Nat} (hl : l ≤ ρ 0 0) (ha : a ≤ 5) (hb : b ≤ 5) : -100 ≤ c3v ρ l a b ∧ c3v ρ l a b ≤ 15 := by
  have h0 := hk.1.1
  have := sN_le hk hl
  have a0 := rL5 hk 0
  have a1 := rL5 hk 1
  have a2 := rL5 hk 2
  unfold c3v
  omega
theorem pst_I (l a b : Nat) (h : mH) : f_Planner_stateOf (nI l) (nI a) (nI b) h = some (nI ((l * 6 + a) * 6 + b), h) := by
  unfold f_Planner_stateOf f_Planner_stateOf_0
  rw [show (6 : Int32) = nI 6 from rfl, pk_mul, nI_add, pk_mul, nI_add]
/-- what the class's table holds -/
def kT (ρ : Rho) (l a b : Nat) : Nat := if 0 ≤ c3v ρ l a b then rBst ρ (ρ 0 4) (ρ 0 0 - l) a b (c3v ρ l a b).toNat else FAR
theorem kT_le (ρ : Rho) (l a b : Nat) : kT ρ l a b ≤ FAR := by
  unfold kT
  split
  · exact rBst_le _ _ _ _ _ _
  · exact Nat.le_refl _
theorem p_term (hJ : pJ ρ v) {p l x : Nat} (hl : l < ρ 0 0) (hx : x ≤ rR ρ p l) : nI x * v 45 (5 * p + l) = nI (x * rH ρ p l) := by
  by_cases h : p < ρ 0 1
  · rw [hJ.2.2.2.2.2 p l h hl, pk_mul]
  · unfold rR at hx
    rw [if_neg h] at hx
    obtain rfl : x = 0 := by omega
    rw [Nat.zero_mul]
    exact Int32.zero_mul
/-- first holds the first of the least, if any -/
def fOK (ρ : Rho) (f : Nat → Nat → Nat) (l t : Nat) (v : Nat → Nat → Int32) : Prop := rMin f t < FAR → v 46 l = nI (rArg f t / 4) ∧ v 46 (5 + l) = nI (rArg f t % 4) ∧ v 46 (10 + l) = nI (sNeed ρ l - rArg f t / 4 - rArg f t % 4)
theorem C_search (hJ : pJ ρ v) (hk : ROK ρ) {l a b : Nat} (hl : l < ρ 0 0) (ha : a ≤ 5) (hb : b ≤ 5) (hc : 0 ≤ c3v ρ l a b) (ht : ∀ a' b', a' ≤ a → b' ≤ b → v 47 (((l + 1) * 6 + a') * 6 + b') = nI (kT ρ (l + 1) a' b')) : ∃ v', f_Planner_search 40 (nI l) (nI a) (nI b) (bh v w) = some (nI (kT ρ l a b), bh v' w) ∧ (∀ q, q ≠ 46 → v' q = v q) ∧ fOK ρ (rOpt ρ (ρ 0 4) (rBst ρ (ρ 0 4) (ρ 0 0 - (l + 1))) l a b (c3v ρ l a b).toNat) l 16 v' := by
  have h0 := hk.1.1
  have hcb := c3v_b hk (Nat.le_of_lt hl) ha hb
  obtain ⟨c, ec⟩ : ∃ c : Nat, c3v ρ l a b = c := ⟨(c3v ρ l a b).toNat, by omega⟩
  have ek : kT ρ l a b = rMin (rOpt ρ (ρ 0 4) (rBst ρ (ρ 0 4) (ρ 0 0 - (l + 1))) l a b c) 16 := by
    unfold kT
    rw [if_pos hc, ec, rBst_s hl]
    rfl
  rw [ek, ec, show ((c : Int)).toNat = c from rfl]
  have r0 := rR_le hk (p := 0) hl
  have r1 := rR_le hk (p := 1) hl
  have r2 := rR_le hk (p := 2) hl
  have hN := sNeed_le hk hl
  generalize hf : rOpt ρ (ρ 0 4) (rBst ρ (ρ 0 4) (ρ 0 0 - (l + 1))) l a b c = f
  have m0 : (if a < rR ρ 0 l then a else rR ρ 0 l) ≤ a ∧ (if a < rR ρ 0 l then a else rR ρ 0 l) ≤ rR ρ 0 l := by split <;> omega
  have m0' : ∀ x, (if a < rR ρ 0 l then a else rR ρ 0 l) < x → ¬ (x ≤ a ∧ x ≤ rR ρ 0 l) := by intro x hx; split at hx <;> omega
  have m1 : (if b < rR ρ 1 l then b else rR ρ 1 l) ≤ b ∧ (if b < rR ρ 1 l then b else rR ρ 1 l) ≤ rR ρ 1 l := by split <;> omega
  have m1' : ∀ x, (if b < rR ρ 1 l then b else rR ρ 1 l) < x → ¬ (x ≤ b ∧ x ≤ rR ρ 1 l) := by intro x hx; split at hx <;> omega
  have m2 : (if c < rR ρ 2 l then c else rR ρ 2 l) ≤ c ∧ (if c < rR ρ 2 l then c else rR ρ 2 l) ≤ rR ρ 2 l := by split <;> omega
  have m2' : ∀ x, (if c < rR ρ 2 l then c else rR ρ 2 l) < x → ¬ (x ≤ c ∧ x ≤ rR ρ 2 l) := by intro x hx; split at hx <;> omega
  generalize hM0 : (if a < rR ρ 0 l then a else rR ρ 0 l) = M0 at m0 m0'
  generalize hM1 : (if b < rR ρ 1 l then b else rR ρ 1 l) = M1 at m1 m1'
  generalize hM2 : (if c < rR ρ 2 l then c else rR ρ 2 l) = M2 at m2 m2'
  have fv : ∀ x y, f x y = if x + y ≤ sNeed ρ l ∧ sNeed ρ l - x - y ≤ 3 then rVal ρ l a b c x y (sNeed ρ l - x - y) (rBst ρ (ρ 0 4) (ρ 0 0 - (l + 1)) (a - x) (b - y) (c - (sNeed ρ l - x - y))) else FAR := by
    intro x y
    rw [← hf]
    unfold rOpt
    rw [rN_st]
  have far : ∀ x y, ¬ (x ≤ M0 ∧ y ≤ M1) → f x y = FAR := by
    intro x y h
    rw [fv]
    split
    · unfold rVal
      rw [if_neg]
      rintro ⟨z1, z2, z3, z4, z5, z6, z7⟩
      refine h ⟨?_, ?_⟩
      · rcases Nat.lt_or_ge M0 x with q | q
        · exact absurd ⟨z1, z4⟩ (m0' x q)
        · exact q
      · rcases Nat.lt_or_ge M1 y with q | q
        · exact absurd ⟨z2, z5⟩ (m1' y q)
        · exact q
    · rfl
  have fle : ∀ x y, f x y ≤ FAR ∨ f x y < 2000000 := by
    intro x y
    rw [fv]
    split
    · unfold rVal
      split
      · next z =>
        have := rCost_le hk (x := x) (y := y) (z := sNeed ρ l - x - y) hl (by omega) (by omega) (by omega)
        have : FAR = 1000000 := rfl
        right
        omega
      · exact Or.inl (Nat.le_refl _)
    · exact Or.inl (Nat.le_refl _)
  have FR : FAR = 1000000 := rfl
  have k64 : ∀ (rec54 : Nat → Int32 → Int32 → Int32 → Int32 → Int32 → Int32 → Int32 → Int32 → mH → Option (Int32 × mH)) (x : Nat), x ≤ M0 → ∀ (k fuel y : Nat) (v : Nat → Nat → Int32), k < fuel → y + k = M1 + 1 → pJ ρ v → (∀ a' b', a' ≤ a → b' ≤ b → v 47 (((l + 1) * 6 + a') * 6 + b') = nI (kT ρ (l + 1) a' b')) → fOK ρ f l (4 * x + y) v → ∃ v', f_Planner_search_64 rec54 fuel 40 (nI l) (nI a) (nI b) (nI (rMin f (4 * x + y))) (nI M0) (nI M1) (nI M2) (nI x) (nI y) (bh v w) = rec54 40 (nI l) (nI a) (nI b) (nI (rMin f (4 * (x + 1)))) (nI M0) (nI M1) (nI M2) (nI (x + 1)) (bh v' w) ∧ (∀ q, q ≠ 46 → v' q = v q) ∧ fOK ρ f l (4 * (x + 1)) v' := by
    intro rec54 x hx k
    induction k with
    | zero =>
      intro fuel y v hfu hy hJ ht ho
      obtain ⟨m, rfl⟩ : ∃ m, fuel = m + 1 := ⟨fuel - 1, by omega⟩
      have fr := rMin_far f (4 * x + y) (4 - y) (fun u h1 h2 => far _ _ (by omega))
      rw [show 4 * x + y + (4 - y) = 4 * (x + 1) by omega] at fr
      refine ⟨v, ?_, fun _ _ => rfl, ?_⟩
      · show f_Planner_search_64b rec54 (f_Planner_search_64 rec54 m) 40 (nI l) (nI a) (nI b) (nI (rMin f (4 * x + y))) (nI M0) (nI M1) (nI M2) (nI x) (nI y) (bh v w) = _
        unfold f_Planner_search_64b
        rw [if_pos (nI_lt (by omega) (by omega)), nI_1, fr.1]
      · unfold fOK at ho ⊢
        rw [fr.1, fr.2]
        exact ho
    | succ k ih =>
      intro fuel y v hfu hy hJ ht ho
      obtain ⟨m, rfl⟩ : ∃ m, fuel = m + 1 := ⟨fuel - 1, by omega⟩
      have hm := rMin_le f (4 * x + y)
      have e1 := rMin_s f x y (by omega)
      have e2 := rArg_s f x y (by omega)
      have skip : ¬ f x y < rMin f (4 * x + y) → ∃ v', f_Planner_search_64 rec54 m 40 (nI l) (nI a) (nI b) (nI (rMin f (4 * x + y))) (nI M0) (nI M1) (nI M2) (nI x) (nI (y + 1)) (bh v w) = rec54 40 (nI l) (nI a) (nI b) (nI (rMin f (4 * (x + 1)))) (nI M0) (nI M1) (nI M2) (nI (x + 1)) (bh v' w) ∧ (∀ q, q ≠ 46 → v' q = v q) ∧ fOK ρ f l (4 * (x + 1)) v' := by
        intro hn
        have nx := ih m (y + 1) v (by omega) (by omega) hJ ht (by unfold fOK; rw [e1, e2, if_neg hn, if_neg hn]; exact ho)
        rw [e1, if_neg hn] at nx
        exact nx
      show ∃ v', f_Planner_search_64b rec54 (f_Planner_search_64 rec54 m) 40 (nI l) (nI a) (nI b) (nI (rMin f (4 * x + y))) (nI M0) (nI M1) (nI M2) (nI x) (nI y) (bh v w) = _ ∧ _
      unfold f_Planner_search_64b f_Planner_search_192
      rw [if_neg (nI_nlt (by omega) (by omega))]
      simp only [hP0, bd1_q]
      rw [rd_nI (by omega) (by decide), bd1_s, hJ.2.2.1 l hl, Q_isWithin, bd2_s, nI_1, show nI (sNeed ρ l) - nI x - nI y = zI ((sNeed ρ l : Int) - x - y) by rw [← zI_n (sNeed ρ l), zI_subn, zI_subn], zI_t (by omega) (by omega), nI_toInt (show M2 < 2 ^ 31 by omega)]
      by_cases q : (0 : Int32).toInt ≤ (sNeed ρ l : Int) - x - y ∧ (sNeed ρ l : Int) - x - y ≤ (M2 : Int)
      · rw [if_pos q, if_neg (by decide)]
        have q0 : (0 : Int32).toInt = 0 := rfl
        obtain ⟨z, hz⟩ : ∃ z : Nat, (sNeed ρ l : Int) - x - y = z := ⟨((sNeed ρ l : Int) - x - y).toNat, by omega⟩
        have ez : sNeed ρ l - x - y = z := by omega
        have hcv : c3v ρ (l + 1) (a - x) (b - y) = ((c - z : Nat) : Int) := by
          have : c3v ρ (l + 1) (a - x) (b - y) = c3v ρ l a b - sNeed ρ l + x + y := by
            unfold c3v
            show (rL ρ (ρ 6) 2 : Int) - ((sumN (sNeed ρ) l + sNeed ρ l : Nat) : Int) + _ - ((a - x : Nat) : Int) + _ - ((b - y : Nat) : Int) = _
            omega
          omega
        have eB : kT ρ (l + 1) (a - x) (b - y) = rBst ρ (ρ 0 4) (ρ 0 0 - (l + 1)) (a - x) (b - y) (c - z) := by
          unfold kT
          rw [hcv, if_pos (by omega)]
          rfl
        have hB := kT_le ρ (l + 1) (a - x) (b - y)
        have cost := rCost_le hk (x := x) (y := y) (z := z) hl (by omega) (by omega) (by omega)
        have fz : f x y = if kT ρ (l + 1) (a - x) (b - y) < FAR then rCost ρ l x y z + kT ρ (l + 1) (a - x) (b - y) else FAR := by
          rw [fv, if_pos (by omega), ez, ← eB]
          unfold rVal
          by_cases g : kT ρ (l + 1) (a - x) (b - y) < FAR
          · rw [if_pos ⟨by omega, by omega, by omega, by omega, by omega, by omega, g⟩, if_pos g]
          · rw [if_neg (fun w => g w.2.2.2.2.2.2), if_neg g]
        rw [hz, zI_n]
        simp only [hP0, bd1_q]
        have t0 : nI x * v 45 l = nI (x * rH ρ 0 l) := by have := p_term hJ (p := 0) (l := l) (x := x) hl (by omega); rwa [show 5 * 0 + l = l by omega] at this
        have t1 : nI y * v 45 (5 + l) = nI (y * rH ρ 1 l) := p_term hJ (p := 1) (l := l) (x := y) hl (by omega)
        have t2 : nI z * v 45 (10 + l) = nI (z * rH ρ 2 l) := p_term hJ (p := 2) (l := l) (x := z) hl (by omega)
        rw [rd_nI (by omega) (by decide), bd1_s, show (5 : Int32) = nI 5 from rfl, show (10 : Int32) = nI 10 from rfl, nI_add, nI_add, rd_nI (by omega) (by decide), bd1_s, rd_nI (by omega) (by decide), bd1_s, nI_1, pk_sub (by omega), pk_sub (by omega), pst_I, bd2_s]
        simp only [hP0, bd1_q]
        rw [rd_nI (by omega) (by decide), bd1_s, ht _ _ (by omega) (by omega), t0, t1, t2, nI_add, nI_add, nI_add]
        have eS : x * rH ρ 0 l + y * rH ρ 1 l + z * rH ρ 2 l = rCost ρ l x y z := rfl
        rw [eS, ite_iff (nI_leI (by omega) (by omega))]
        by_cases g : rMin f (4 * x + y) ≤ rCost ρ l x y z + kT ρ (l + 1) (a - x) (b - y)
        · rw [if_pos g]
          refine skip ?_
          rw [fz]
          split <;> omega
        · have gk : kT ρ (l + 1) (a - x) (b - y) < FAR := by omega
          have fe : f x y = rCost ρ l x y z + kT ρ (l + 1) (a - x) (b - y) := by rw [fz, if_pos gk]
          have lt : f x y < rMin f (4 * x + y) := by omega
          rw [if_neg g, wr_nI (by omega) (by decide), bd1_s]
          simp only [hP0, bd1_q]
          rw [wr_nI (by omega) (by decide), bd1_s]
          simp only [hP0, bd1_q]
          rw [wr_nI (by omega) (by decide), bd1_s]
          have ff : ∀ q, q ≠ 46 → u2 (u2 (u2 v 46 l (nI x)) 46 (5 + l) (nI y)) 46 (10 + l) (nI z) q = v q := fun q hq => (u2_o hq).trans ((u2_o hq).trans (u2_o hq))
          have nx := ih m (y + 1) (u2 (u2 (u2 v 46 l (nI x)) 46 (5 + l) (nI y)) 46 (10 + l) (nI z)) (by omega) (by omega) (hJ.fr (fun q hq => ff q (by omega))) (fun a' b' h1 h2 => by rw [ff 47 (by decide)]; exact ht a' b' h1 h2) (by
            unfold fOK
            rw [e1, e2, if_pos lt, if_pos lt]
            intro _
            rw [show (4 * x + y) / 4 = x by omega, show (4 * x + y) % 4 = y by omega, ez]
            refine ⟨?_, ?_, u2_at _ _ _ _⟩
            · rw [u2_n (by omega), u2_n (by omega), u2_at]
            · rw [u2_n (by omega), u2_at])
          rw [e1, if_pos lt, fe] at nx
          obtain ⟨v', n1, n2, n3⟩ := nx
          exact ⟨v', n1, fun q hq => (n2 q hq).trans (ff q hq), n3⟩
      · rw [if_neg q, if_pos rfl]
        refine skip ?_
        have : f x y = FAR := by
          rw [fv]
          split
          · next z =>
            unfold rVal
            rw [if_neg]
            rintro ⟨z1, z2, z3, z4, z5, z6, z7⟩
            have q0 : (0 : Int32).toInt = 0 := rfl
            exact m2' (sNeed ρ l - x - y) (by omega) ⟨z3, z6⟩
          · rfl
        omega
  have k54 : ∀ (k fuel x : Nat) (v : Nat → Nat → Int32), k < fuel → x + k = M0 + 1 → pJ ρ v → (∀ a' b', a' ≤ a → b' ≤ b → v 47 (((l + 1) * 6 + a') * 6 + b') = nI (kT ρ (l + 1) a' b')) → fOK ρ f l (4 * x) v → ∃ v', f_Planner_search_54 fuel 40 (nI l) (nI a) (nI b) (nI (rMin f (4 * x))) (nI M0) (nI M1) (nI M2) (nI x) (bh v w) = some (nI (rMin f 16), bh v' w) ∧ (∀ q, q ≠ 46 → v' q = v q) ∧ fOK ρ f l 16 v' := by
    intro k
    induction k with
    | zero =>
      intro fuel x v hfu hx hJ ht ho
      obtain ⟨m, rfl⟩ : ∃ m, fuel = m + 1 := ⟨fuel - 1, by omega⟩
      have fr := rMin_far f (4 * x) (16 - 4 * x) (fun u h1 h2 => far _ _ (by omega))
      rw [show 4 * x + (16 - 4 * x) = 16 by omega] at fr
      refine ⟨v, ?_, fun _ _ => rfl, ?_⟩
      · show f_Planner_search_54b (f_Planner_search_54 m) 40 (nI l) (nI a) (nI b) (nI (rMin f (4 * x))) (nI M0) (nI M1) (nI M2) (nI x) (bh v w) = _
        unfold f_Planner_search_54b
        rw [if_pos (nI_lt (by omega) (by omega)), fr.1]
      · unfold fOK at ho ⊢
        rw [fr.1, fr.2]
        exact ho
    | succ k ih =>
      intro fuel x v hfu hx hJ ht ho
      obtain ⟨m, rfl⟩ : ∃ m, fuel = m + 1 := ⟨fuel - 1, by omega⟩
      obtain ⟨v1, e1, f1, o1⟩ := k64 (f_Planner_search_54 m) x (by omega) (M1 + 1) FU 0 v (by unfold FU; omega) (by omega) hJ ht ho
      have e1 : f_Planner_search_64 (f_Planner_search_54 m) FU 40 (nI l) (nI a) (nI b) (nI (rMin f (4 * x))) (nI M0) (nI M1) (nI M2) (nI x) 0 (bh v w) = f_Planner_search_54 m 40 (nI l) (nI a) (nI b) (nI (rMin f (4 * (x + 1)))) (nI M0) (nI M1) (nI M2) (nI (x + 1)) (bh v1 w) := e1
      obtain ⟨v2, e2, f2, o2⟩ := ih m (x + 1) v1 (by omega) (by omega) (hJ.fr (fun q hq => f1 q (by omega))) (fun a' b' h1 h2 => by rw [f1 47 (by decide)]; exact ht a' b' h1 h2) o1
      refine ⟨v2, ?_, fun q hq => (f2 q hq).trans (f1 q hq), o2⟩
      show f_Planner_search_54b (f_Planner_search_54 m) 40 (nI l) (nI a) (nI b) (nI (rMin f (4 * x))) (nI M0) (nI M1) (nI M2) (nI x) (bh v w) = _
      unfold f_Planner_search_54b
      rw [if_neg (nI_nlt (by omega) (by omega))]
      exact e1.trans e2
  obtain ⟨v', e1, f1, o1⟩ := k54 (M0 + 1) FU 0 v (by unfold FU; omega) (by omega) hJ ht (fun h => absurd h (Nat.lt_irrefl _))
  have e1 : f_Planner_search_54 FU 40 (nI l) (nI a) (nI b) (1000000 : Int32) (nI M0) (nI M1) (nI M2) 0 (bh v w) = some (nI (rMin f 16), bh v' w) := e1
  refine ⟨v', ?_, f1, o1⟩
  have g0 := hJ.2.2.2.2.1 0 l (by decide) hl
  have g1 := hJ.2.2.2.2.1 1 l (by decide) hl
  have g2 := hJ.2.2.2.2.1 2 l (by decide) hl
  rw [show 5 * 0 + l = l by omega] at g0
  rw [show 5 * 1 + l = 5 + l by omega] at g1
  rw [show 5 * 2 + l = 10 + l by omega] at g2
  unfold f_Planner_search f_Planner_search_0
  simp only [hP0, bd1_q]
  rw [show (5 : Int32) = nI 5 from rfl, show (10 : Int32) = nI 10 from rfl, nI_add, nI_add, rd_nI (by omega) (by decide), bd1_s, rd_nI (by omega) (by decide), bd1_s, rd_nI (by omega) (by decide), bd1_s, C_left hJ hk (by omega) ha hb, bd2_s, g0, g1, g2, ec, zI_n, ite_I (by omega) (by omega), ite_I (by omega) (by omega), ite_I (by omega) (by omega), hM0, hM1, hM2]
  exact e1
end
end
end
/-! 8_12.joined -/
section
/-! 8zr2.rota.lean.txt -/
section
/-! rota: the class's table, the first rota -/
section
variable {ρ : Rho} {v : Nat → Nat → Int32} {w : Nat → Nat → Int64}
theorem zI_lt0 {z : Int} (h1 : -2 ^ 31 ≤ z) (h2 : z < 2 ^ 31) : zI z < (0 : Int32) ↔ z < 0 := by
  rw [Int32.lt_iff_toInt_lt, zI_t h1 h2]; rfl
def kP (ρ : Rho) (l0 a0 b0 : Nat) (v : Nat → Nat → Int32) : Prop := ∀ l a b, l ≤ ρ 0 0 → a ≤ rL ρ (ρ 6) 0 → b ≤ rL ρ (ρ 6) 1 → v 47 ((l * 6 + a) * 6 + b) = nI (if l0 < l ∨ l = l0 ∧ (a < a0 ∨ a = a0 ∧ b < b0) then kT ρ l a b else FAR)
def pF2 (v v' : Nat → Nat → Int32) : Prop := ∀ q, q ≠ 46 → q ≠ 47 → v' q = v q
theorem C_lh32 (hk : ROK ρ) (rec14 : Nat → Int32 → mH → Option (Int32 × mH)) (rec20 : Nat → Int32 → Int32 → mH → Option (Int32 × mH)) {l a : Nat} (hl : l ≤ ρ 0 0) (ha : a ≤ rL ρ (ρ 6) 0) : ∀ (k fuel b : Nat) (v : Nat → Nat → Int32), k < fuel → b + k = rL ρ (ρ 6) 1 + 1 → pJ ρ v → kP ρ l a b v → ∃ v', f_Planner_leastHarm_32 rec14 rec20 fuel 40 (nI l) (nI a) (nI b) (bh v w) = rec20 40 (nI l) (nI (a + 1)) (bh v' w) ∧ kP ρ l (a + 1) 0 v' ∧ pF2 v v' := by
  have h0 := hk.1.1
  have a5 := rL5 hk 0
  have b5 := rL5 hk 1
  intro k
  induction k with
  | zero =>
    intro fuel b v hf hb hJ hP
    obtain ⟨m, rfl⟩ : ∃ m, fuel = m + 1 := ⟨fuel - 1, by omega⟩
    refine ⟨v, ?_, fun l' a' b' q1 q2 q3 => ?_, fun _ _ _ => rfl⟩
    · show f_Planner_leastHarm_32b rec14 rec20 (f_Planner_leastHarm_32 rec14 rec20 m) 40 (nI l) (nI a) (nI b) (bh v w) = _
      unfold f_Planner_leastHarm_32b
      simp only [hP0, bd1_q]
      rw [rd3.2.1, bd1_s, hJ.2.1 1 (by decide), if_pos (nI_lt (by omega) (by omega)), nI_1]
    · rw [hP l' a' b' q1 q2 q3]
      by_cases z : l < l' ∨ l' = l ∧ (a' < a ∨ a' = a ∧ b' < b)
      · rw [if_pos z, if_pos (by omega)]
      · rw [if_neg z, if_neg (by omega)]
  | succ k ih =>
    intro fuel b v hf hb hJ hP
    obtain ⟨m, rfl⟩ : ∃ m, fuel = m + 1 := ⟨fuel - 1, by omega⟩
    have hb5 : b ≤ 5 := by omega
    have cb := c3v_b hk hl (show a ≤ 5 by omega) hb5
    have wr1 : ∀ (v1 : Nat → Nat → Int32), pF2 v v1 → v1 47 = v 47 → ∃ v', f_Planner_leastHarm_32 rec14 rec20 m 40 (nI l) (nI a) (nI (b + 1)) (bh (u2 v1 47 ((l * 6 + a) * 6 + b) (nI (kT ρ l a b))) w) = rec20 40 (nI l) (nI (a + 1)) (bh v' w) ∧ kP ρ l (a + 1) 0 v' ∧ pF2 v v' := by
      intro v1 f1 e47
      obtain ⟨v', g1, g2, g3⟩ := ih m (b + 1) (u2 v1 47 ((l * 6 + a) * 6 + b) (nI (kT ρ l a b))) (by omega) (by omega) (hJ.fr (fun q hq => (u2_o (by omega)).trans (f1 q (by omega) (by omega)))) (fun l' a' b' q1 q2 q3 => by
        by_cases z : (l' * 6 + a') * 6 + b' = (l * 6 + a) * 6 + b
        · obtain ⟨rfl, rfl, rfl⟩ : l' = l ∧ a' = a ∧ b' = b := by omega
          rw [u2_at, if_pos (by omega)]
        · rw [u2_n z, e47, hP l' a' b' q1 q2 q3]
          have : ¬ (l' = l ∧ a' = a ∧ b' = b) := fun y => z (by rw [y.1, y.2.1, y.2.2])
          by_cases y : l < l' ∨ l' = l ∧ (a' < a ∨ a' = a ∧ b' < b)
          · rw [if_pos y, if_pos (by omega)]
          · rw [if_neg y, if_neg (by omega)])
      exact ⟨v', g1, g2, fun q h1 h2 => (g3 q h1 h2).trans ((u2_o h2).trans (f1 q h1 h2))⟩
    show ∃ v', f_Planner_leastHarm_32b rec14 rec20 (f_Planner_leastHarm_32 rec14 rec20 m) 40 (nI l) (nI a) (nI b) (bh v w) = _ ∧ _
    unfold f_Planner_leastHarm_32b f_Planner_leastHarm_81 f_Planner_leastHarm_82
    simp only [hP0, bd1_q]
    rw [rd3.2.1, bd1_s, hJ.2.1 1 (by decide), if_neg (nI_nlt (by omega) (by omega)), C_left hJ hk hl (by omega) hb5, bd2_s, nI_1, ite_iff (zI_lt0 (by omega) (by omega))]
    by_cases c : c3v ρ l a b < 0
    · rw [if_pos c]
      refine ih m (b + 1) v (by omega) (by omega) hJ (fun l' a' b' q1 q2 q3 => ?_)
      rw [hP l' a' b' q1 q2 q3]
      by_cases y : l < l' ∨ l' = l ∧ (a' < a ∨ a' = a ∧ b' < b)
      · rw [if_pos y, if_pos (by omega)]
      · rw [if_neg y]
        by_cases z : l < l' ∨ l' = l ∧ (a' < a ∨ a' = a ∧ b' < b + 1)
        · obtain ⟨rfl, rfl, rfl⟩ : l' = l ∧ a' = a ∧ b' = b := by omega
          rw [if_pos z]
          unfold kT
          rw [if_neg (by omega)]
        · rw [if_neg z]
    · rw [if_neg c]
      simp only [hP0, bd1_q]
      rw [pst_I, bd2_s]
      simp only [hP0, bd1_q]
      rw [hJ.1, ite_iff (nI_eqI (by omega) (by omega))]
      by_cases e : l = ρ 0 0
      · have ez : kT ρ l a b = 0 := by
          unfold kT
          rw [if_pos (by omega), e, Nat.sub_self]
          rfl
        have nx := wr1 v (fun _ _ _ => rfl) rfl
        rw [ez] at nx
        rw [if_pos e, wr_nI (by omega) (by decide), bd1_s]
        exact nx
      · rw [if_neg e]
        obtain ⟨v1, e1, f1, -⟩ := C_search (w := w) hJ hk (show l < ρ 0 0 by omega) (show a ≤ 5 by omega) hb5 (by omega) (fun a' b' h1 h2 => by
          rw [hP (l + 1) a' b' (by omega) (by omega) (by omega), if_pos (by omega)])
        rw [e1, bd2_s]
        simp only [hP0, bd1_q]
        rw [wr_nI (by omega) (by decide), bd1_s]
        exact wr1 v1 (fun q h1 _ => f1 q h1) (f1 47 (by decide))
theorem C_lh20 (hk : ROK ρ) (rec14 : Nat → Int32 → mH → Option (Int32 × mH)) {l : Nat} (hl : l ≤ ρ 0 0) : ∀ (k fuel a : Nat) (v : Nat → Nat → Int32), k < fuel → a + k = rL ρ (ρ 6) 0 + 1 → pJ ρ v → kP ρ l a 0 v → ∃ v', f_Planner_leastHarm_20 rec14 fuel 40 (nI l) (nI a) (bh v w) = rec14 40 (nI l + -1) (bh v' w) ∧ kP ρ l (rL ρ (ρ 6) 0 + 1) 0 v' ∧ pF2 v v' := by
  have a5 := rL5 hk 0
  have b5 := rL5 hk 1
  intro k
  induction k with
  | zero =>
    intro fuel a v hf ha hJ hP
    obtain ⟨m, rfl⟩ : ∃ m, fuel = m + 1 := ⟨fuel - 1, by omega⟩
    refine ⟨v, ?_, ?_, fun _ _ _ => rfl⟩
    · show f_Planner_leastHarm_20b rec14 (f_Planner_leastHarm_20 rec14 m) 40 (nI l) (nI a) (bh v w) = _
      unfold f_Planner_leastHarm_20b
      simp only [hP0, bd1_q]
      rw [rd3.1, bd1_s, hJ.2.1 0 (by decide), if_pos (nI_lt (by omega) (by omega))]
    · rw [show rL ρ (ρ 6) 0 + 1 = a by omega]; exact hP
  | succ k ih =>
    intro fuel a v hf ha hJ hP
    obtain ⟨m, rfl⟩ : ∃ m, fuel = m + 1 := ⟨fuel - 1, by omega⟩
    obtain ⟨v1, e1, p1, f1⟩ := C_lh32 (w := w) hk rec14 (f_Planner_leastHarm_20 rec14 m) hl (show a ≤ rL ρ (ρ 6) 0 by omega) (rL ρ (ρ 6) 1 + 1) FU 0 v (by unfold FU; omega) (by omega) hJ hP
    have e1 : f_Planner_leastHarm_32 rec14 (f_Planner_leastHarm_20 rec14 m) FU 40 (nI l) (nI a) 0 (bh v w) = f_Planner_leastHarm_20 rec14 m 40 (nI l) (nI (a + 1)) (bh v1 w) := e1
    obtain ⟨v2, e2, p2, f2⟩ := ih m (a + 1) v1 (by omega) (by omega) (hJ.fr (fun q hq => f1 q (by omega) (by omega))) p1
    refine ⟨v2, ?_, p2, fun q h1 h2 => (f2 q h1 h2).trans (f1 q h1 h2)⟩
    show f_Planner_leastHarm_20b rec14 (f_Planner_leastHarm_20 rec14 m) 40 (nI l) (nI a) (bh v w) = _
    unfold f_Planner_leastHarm_20b
    simp only [hP0, bd1_q]
    rw [rd3.1, bd1_s, hJ.2.1 0 (by decide), if_neg (nI_nlt (by omega) (by omega))]
    exact e1.trans e2
def kA (ρ : Rho) (v : Nat → Nat → Int32) : Prop := ∀ l a b, l ≤ ρ 0 0 → a ≤ rL ρ (ρ 6) 0 → b ≤ rL ρ (ρ 6) 1 → v 47 ((l * 6 + a) * 6 + b) = nI (kT ρ l a b)
/-- the least harm of a rota -/
def rBest (ρ : Rho) : Nat := rBst ρ (ρ 0 4) (ρ 0 0) (rL ρ (ρ 6) 0) (rL ρ (ρ 6) 1) (rL ρ (ρ 6) 2)
theorem kT_0 (ρ : Rho) : kT ρ 0 (rL ρ (ρ 6) 0) (rL ρ (ρ 6) 1) = rBest ρ := by
  have e : c3v ρ 0 (rL ρ (ρ 6) 0) (rL ρ (ρ 6) 1) = (rL ρ (ρ 6) 2 : Nat) := by
    unfold c3v
    show (rL ρ (ρ 6) 2 : Int) - ((0 : Nat) : Int) + _ - _ + _ - _ = _
    omega
  unfold kT rBest
  rw [e, if_pos (by omega)]
  rfl
theorem C_leastHarm (hJ : pJ ρ v) (hk : ROK ρ) : ∃ v', f_Planner_leastHarm 40 (bh v w) = some (if rBest ρ < FAR then nI (rBest ρ) else -4, bh v' w) ∧ kA ρ v' ∧ pF2 v v' := by
  have h0 := hk.1.1
  have a5 := rL5 hk 0
  have b5 := rL5 hk 1
  have FR : FAR = 1000000 := rfl
  have last : ∀ (m : Nat) (v : Nat → Nat → Int32), pJ ρ v → kP ρ 0 (rL ρ (ρ 6) 0 + 1) 0 v → f_Planner_leastHarm_14 (m + 1) 40 (-1) (bh v w) = some (if rBest ρ < FAR then nI (rBest ρ) else -4, bh v w) ∧ kA ρ v := by
    intro m v hJ hP
    have kA1 : kA ρ v := fun l a b q1 q2 q3 => by rw [hP l a b q1 q2 q3, if_pos (by omega)]
    refine ⟨?_, kA1⟩
    have kb := kA1 0 (rL ρ (ρ 6) 0) (rL ρ (ρ 6) 1) (Nat.zero_le _) (Nat.le_refl _) (Nat.le_refl _)
    rw [kT_0] at kb
    have hle : rBest ρ ≤ FAR := rBst_le _ _ _ _ _ _
    show f_Planner_leastHarm_14b (f_Planner_leastHarm_14 m) 40 (-1) (bh v w) = _
    unfold f_Planner_leastHarm_14b
    rw [if_pos (by decide)]
    simp only [hP0, bd1_q]
    rw [rd3.1, bd1_s, rd3.2.1, bd1_s, hJ.2.1 0 (by decide), hJ.2.1 1 (by decide), show (0 : Int32) = nI 0 from rfl, pst_I, bd2_s]
    simp only [hP0, bd1_q]
    rw [rd_nI (by omega) (by decide), bd1_s, kb, show (1000000 : Int32) = nI 1000000 from rfl, ite_iff (nI_leI (by omega) (by omega))]
    by_cases c : rBest ρ < FAR
    · rw [if_neg (by omega), if_pos c]
    · rw [if_pos (by omega), if_neg c]
  have key : ∀ (l fuel : Nat) (v : Nat → Nat → Int32), l + 1 < fuel → l ≤ ρ 0 0 → pJ ρ v → kP ρ l 0 0 v → ∃ v', f_Planner_leastHarm_14 fuel 40 (nI l) (bh v w) = some (if rBest ρ < FAR then nI (rBest ρ) else -4, bh v' w) ∧ kA ρ v' ∧ pF2 v v' := by
    intro l
    induction l with
    | zero =>
      intro fuel v hf hl hJ hP
      obtain ⟨m, rfl⟩ : ∃ m, fuel = m + 1 + 1 := ⟨fuel - 2, by omega⟩
      obtain ⟨v1, e1, p1, f1⟩ := C_lh20 (w := w) hk (f_Planner_leastHarm_14 (m + 1)) hl (rL ρ (ρ 6) 0 + 1) FU 0 v (by unfold FU; omega) (by omega) hJ hP
      obtain ⟨g1, g2⟩ := last m v1 (hJ.fr (fun q hq => f1 q (by omega) (by omega))) p1
      rw [m1_0, g1] at e1
      have e1 : f_Planner_leastHarm_20 (f_Planner_leastHarm_14 (m + 1)) FU 40 (nI 0) 0 (bh v w) = some (if rBest ρ < FAR then nI (rBest ρ) else -4, bh v1 w) := e1
      refine ⟨v1, ?_, g2, f1⟩
      show f_Planner_leastHarm_14b (f_Planner_leastHarm_14 (m + 1)) 40 (nI 0) (bh v w) = _
      unfold f_Planner_leastHarm_14b
      rw [if_neg (nI_pos (by omega))]
      exact e1
    | succ l ih =>
      intro fuel v hf hl hJ hP
      obtain ⟨m, rfl⟩ : ∃ m, fuel = m + 1 := ⟨fuel - 1, by omega⟩
      obtain ⟨v1, e1, p1, f1⟩ := C_lh20 (w := w) hk (f_Planner_leastHarm_14 m) hl (rL ρ (ρ 6) 0 + 1) FU 0 v (by unfold FU; omega) (by omega) hJ hP
      obtain ⟨v2, e2, k2, f2⟩ := ih m v1 (by omega) (by omega) (hJ.fr (fun q hq => f1 q (by omega) (by omega))) (fun l' a b q1 q2 q3 => by
        rw [p1 l' a b q1 q2 q3]
        by_cases z : l + 1 < l' ∨ l' = l + 1 ∧ (a < rL ρ (ρ 6) 0 + 1 ∨ a = rL ρ (ρ 6) 0 + 1 ∧ b < 0)
        · rw [if_pos z, if_pos (by omega)]
        · rw [if_neg z, if_neg (by omega)])
      rw [m1_I l (by omega), e2] at e1
      have e1 : f_Planner_leastHarm_20 (f_Planner_leastHarm_14 m) FU 40 (nI (l + 1)) 0 (bh v w) = some (if rBest ρ < FAR then nI (rBest ρ) else -4, bh v2 w) := e1
      refine ⟨v2, ?_, k2, fun q h1 h2 => (f2 q h1 h2).trans (f1 q h1 h2)⟩
      show f_Planner_leastHarm_14b (f_Planner_leastHarm_14 m) 40 (nI (l + 1)) (bh v w) = _
      unfold f_Planner_leastHarm_14b
      rw [if_neg (nI_pos (by omega))]
      exact e1
  obtain ⟨v1, e1, g1, h1, -⟩ := fill_I (q := 47) (n := 216) (x := 1000000) (by omega) (fun _ _ => rfl) (fun v w i x => sI_bh rfl i x) v w
  have J1 : pJ ρ v1 := hJ.fr (fun q hq => g1 q (by omega))
  obtain ⟨v2, e2, k2, f2⟩ := key (ρ 0 0) FU v1 (by unfold FU; omega) (Nat.le_refl _) J1 (fun l a b q1 q2 q3 => by
    rw [h1 _ (by omega), if_neg (by omega)]
    rfl)
  refine ⟨v2, ?_, k2, fun q a b => (f2 q a b).trans (g1 q b)⟩
  unfold f_Planner_leastHarm f_Planner_leastHarm_0
  simp only [hP0, bd1_q]
  rw [e1]
  simp only [hP0, bd1_q]
  rw [J1.1]
  exact e2
/-- the way of the first rota -/
def rOp (ρ : Rho) (i : Nat) (P : Nat × Nat × Nat) : Nat → Nat → Nat := rOpt ρ (ρ 0 4) (rBst ρ (ρ 0 4) (ρ 0 0 - (i + 1))) i P.1 P.2.1 P.2.2
def rPth (ρ : Rho) : Nat → Nat × Nat × Nat
  | 0 => (rL ρ (ρ 6) 0, rL ρ (ρ 6) 1, rL ρ (ρ 6) 2)
  | i + 1 => ((rPth ρ i).1 - rArg (rOp ρ i (rPth ρ i)) 16 / 4, (rPth ρ i).2.1 - rArg (rOp ρ i (rPth ρ i)) 16 % 4, (rPth ρ i).2.2 - (sNeed ρ i - rArg (rOp ρ i (rPth ρ i)) 16 / 4 - rArg (rOp ρ i (rPth ρ i)) 16 % 4))
def tAt (ρ : Rho) (i : Nat) : Nat := rArg (rOp ρ i (rPth ρ i)) 16
theorem rPth_ok (hk : ROK ρ) (hb : rBest ρ < FAR) : ∀ i, i ≤ ρ 0 0 → ((rPth ρ i).1 ≤ rL ρ (ρ 6) 0 ∧ (rPth ρ i).2.1 ≤ rL ρ (ρ 6) 1 ∧ (rPth ρ i).2.2 ≤ rL ρ (ρ 6) 2) ∧ c3v ρ i (rPth ρ i).1 (rPth ρ i).2.1 = ((rPth ρ i).2.2 : Nat) ∧ rBst ρ (ρ 0 4) (ρ 0 0 - i) (rPth ρ i).1 (rPth ρ i).2.1 (rPth ρ i).2.2 < FAR
  | 0, _ => by
    refine ⟨⟨Nat.le_refl _, Nat.le_refl _, Nat.le_refl _⟩, ?_, hb⟩
    show c3v ρ 0 (rL ρ (ρ 6) 0) (rL ρ (ρ 6) 1) = (rL ρ (ρ 6) 2 : Nat)
    unfold c3v
    show (rL ρ (ρ 6) 2 : Int) - ((0 : Nat) : Int) + _ - _ + _ - _ = _
    omega
  | i + 1, hi => by
    obtain ⟨⟨a1, a2, a3⟩, a4, a5⟩ := rPth_ok hk hb i (by omega)
    rw [rBst_s (show i < ρ 0 0 by omega)] at a5
    obtain ⟨t1, t2, -⟩ := rArg_ok (rOp ρ i (rPth ρ i)) 16 a5
    have lt : rOp ρ i (rPth ρ i) (tAt ρ i / 4) (tAt ρ i % 4) < FAR := by
      show rOp ρ i (rPth ρ i) (rArg (rOp ρ i (rPth ρ i)) 16 / 4) (rArg (rOp ρ i (rPth ρ i)) 16 % 4) < FAR
      rw [t2]; exact a5
    have e1 : (rPth ρ (i + 1)).1 = (rPth ρ i).1 - tAt ρ i / 4 := rfl
    have e2 : (rPth ρ (i + 1)).2.1 = (rPth ρ i).2.1 - tAt ρ i % 4 := rfl
    have e3 : (rPth ρ (i + 1)).2.2 = (rPth ρ i).2.2 - (sNeed ρ i - tAt ρ i / 4 - tAt ρ i % 4) := rfl
    rw [e1, e2, e3]
    generalize tAt ρ i / 4 = x at lt
    generalize tAt ρ i % 4 = y at lt
    unfold rOp rOpt at lt
    rw [rN_st] at lt
    split at lt
    · next c =>
      unfold rVal at lt
      split at lt
      · next d =>
        obtain ⟨d1, d2, d3, d4, d5, d6, d7⟩ := d
        refine ⟨⟨by omega, by omega, by omega⟩, ?_, d7⟩
        have : c3v ρ (i + 1) ((rPth ρ i).1 - x) ((rPth ρ i).2.1 - y) = c3v ρ i (rPth ρ i).1 (rPth ρ i).2.1 - sNeed ρ i + x + y := by
          unfold c3v
          show (rL ρ (ρ 6) 2 : Int) - ((sumN (sNeed ρ) i + sNeed ρ i : Nat) : Int) + _ - (((rPth ρ i).1 - x : Nat) : Int) + _ - (((rPth ρ i).2.1 - y : Nat) : Int) = _
          omega
        omega
      · exact absurd lt (Nat.lt_irrefl _)
    · exact absurd lt (Nat.lt_irrefl _)
/-- how often p breaks the law l in the first rota -/
def rSh (ρ : Rho) (l p : Nat) : Nat := if p = 0 then tAt ρ l / 4 else if p = 1 then tAt ρ l % 4 else sNeed ρ l - tAt ρ l / 4 - tAt ρ l % 4
theorem C_timesL (hk : ROK ρ) (hb : rBest ρ < FAR) {p l : Nat} (hp : p < 3) (hl : l < ρ 0 0) : ∀ (k fuel i : Nat) (v : Nat → Nat → Int32), k < fuel → i + k = l + 1 → pJ ρ v → kA ρ v → (∀ j, i = j + 1 → v 46 j = nI (rSh ρ j 0) ∧ v 46 (5 + j) = nI (rSh ρ j 1) ∧ v 46 (10 + j) = nI (rSh ρ j 2)) → ∃ v', f_Planner_timesInFirst_18 fuel 40 (nI p) (nI l) (nI (rPth ρ i).1) (nI (rPth ρ i).2.1) (nI i) (bh v w) = some (nI (rSh ρ l p), bh v' w) ∧ ∀ q, q ≠ 46 → v' q = v q := by
  have h0 := hk.1.1
  have a5 := rL5 hk 0
  have b5 := rL5 hk 1
  intro k
  induction k with
  | zero =>
    intro fuel i v hf hi hJ hA ho
    obtain ⟨m, rfl⟩ : ∃ m, fuel = m + 1 := ⟨fuel - 1, by omega⟩
    obtain ⟨o1, o2, o3⟩ := ho l (by omega)
    refine ⟨v, ?_, fun _ _ => rfl⟩
    show f_Planner_timesInFirst_18b (f_Planner_timesInFirst_18 m) 40 (nI p) (nI l) _ _ (nI i) (bh v w) = _
    unfold f_Planner_timesInFirst_18b
    rw [if_pos (nI_lt (by omega) (by omega))]
    simp only [hP0, bd1_q]
    rw [show (5 : Int32) = nI 5 from rfl, pk_mul, nI_add, Nat.mul_comm p 5, rd_nI (by omega) (by decide), bd1_s]
    rcases (show p = 0 ∨ p = 1 ∨ p = 2 by omega) with rfl | rfl | rfl
    · rw [show 5 * 0 + l = l by omega, o1]
    · rw [show 5 * 1 + l = 5 + l by omega, o2]
    · rw [show 5 * 2 + l = 10 + l by omega, o3]
  | succ k ih =>
    intro fuel i v hf hi hJ hA ho
    obtain ⟨m, rfl⟩ : ∃ m, fuel = m + 1 := ⟨fuel - 1, by omega⟩
    obtain ⟨⟨p1, p2, p3⟩, p4, p5⟩ := rPth_ok hk hb i (by omega)
    obtain ⟨⟨n1, n2, n3⟩, -, -⟩ := rPth_ok hk hb (i + 1) (by omega)
    obtain ⟨v1, e1, f1, o1⟩ := C_search (w := w) (l := i) (a := (rPth ρ i).1) (b := (rPth ρ i).2.1) hJ hk (by omega) (by omega) (by omega) (by omega) (fun a' b' h1 h2 => hA (i + 1) a' b' (by omega) (by omega) (by omega))
    have p5' := p5
    rw [rBst_s (show i < ρ 0 0 by omega)] at p5'
    have er : rOpt ρ (ρ 0 4) (rBst ρ (ρ 0 4) (ρ 0 0 - (i + 1))) i (rPth ρ i).1 (rPth ρ i).2.1 (c3v ρ i (rPth ρ i).1 (rPth ρ i).2.1).toNat = rOp ρ i (rPth ρ i) := by
      unfold rOp
      rw [p4]
      rfl
    rw [er] at o1
    obtain ⟨s1, s2, s3⟩ := o1 p5'
    obtain ⟨tb, tf, -⟩ := rArg_ok (rOp ρ i (rPth ρ i)) 16 p5'
    have le : tAt ρ i / 4 ≤ (rPth ρ i).1 ∧ tAt ρ i % 4 ≤ (rPth ρ i).2.1 := by
      have lt : rOp ρ i (rPth ρ i) (tAt ρ i / 4) (tAt ρ i % 4) < FAR := by
        show rOp ρ i (rPth ρ i) (rArg (rOp ρ i (rPth ρ i)) 16 / 4) (rArg (rOp ρ i (rPth ρ i)) 16 % 4) < FAR
        rw [tf]; exact p5'
      unfold rOp rOpt at lt
      split at lt
      · unfold rVal at lt
        split at lt
        · next d => exact ⟨d.1, d.2.1⟩
        · exact absurd lt (Nat.lt_irrefl _)
      · exact absurd lt (Nat.lt_irrefl _)
    have s1 : v1 46 i = nI (tAt ρ i / 4) := s1
    have s2 : v1 46 (5 + i) = nI (tAt ρ i % 4) := s2
    have s3 : v1 46 (10 + i) = nI (sNeed ρ i - tAt ρ i / 4 - tAt ρ i % 4) := s3
    obtain ⟨v2, e2, f2⟩ := ih m (i + 1) v1 (by omega) (by omega) (hJ.fr (fun q hq => f1 q (by omega))) (fun l' a b q1 q2 q3 => by rw [f1 47 (by decide)]; exact hA l' a b q1 q2 q3) (fun j hj => by
      obtain rfl : j = i := by omega
      exact ⟨s1, s2, s3⟩)
    refine ⟨v2, ?_, fun q hq => (f2 q hq).trans (f1 q hq)⟩
    show f_Planner_timesInFirst_18b (f_Planner_timesInFirst_18 m) 40 (nI p) (nI l) _ _ (nI i) (bh v w) = _
    unfold f_Planner_timesInFirst_18b
    rw [if_neg (nI_nlt (by omega) (by omega))]
    simp only [hP0, bd1_q]
    rw [e1, bd2_s]
    simp only [hP0, bd1_q]
    rw [rd_nI (by omega) (by decide), bd1_s, show (5 : Int32) = nI 5 from rfl, nI_add, rd_nI (by omega) (by decide), bd1_s, s1, s2, pk_sub le.1, pk_sub le.2, nI_1]
    exact e2
theorem C_times (hJ : pJ ρ v) (hA : kA ρ v) (hk : ROK ρ) (hb : rBest ρ < FAR) {p l : Nat} (hp : p < 3) (hl : l < ρ 0 0) : ∃ v', f_Planner_timesInFirst 40 (nI p) (nI l) (bh v w) = some (nI (rSh ρ l p), bh v' w) ∧ ∀ q, q ≠ 46 → v' q = v q := by
  have h0 := hk.1.1
  obtain ⟨v', e1, f1⟩ := C_timesL (w := w) hk hb hp hl (l + 1) FU 0 v (by unfold FU; omega) (by omega) hJ hA (fun j hj => by omega)
  have e1 : f_Planner_timesInFirst_18 FU 40 (nI p) (nI l) (nI (rL ρ (ρ 6) 0)) (nI (rL ρ (ρ 6) 1)) 0 (bh v w) = some (nI (rSh ρ l p), bh v' w) := e1
  refine ⟨v', ?_, f1⟩
  unfold f_Planner_timesInFirst f_Planner_timesInFirst_0
  simp only [hP0, bd1_q]
  rw [rd3.1, bd1_s, rd3.2.1, bd1_s, hJ.2.1 0 (by decide), hJ.2.1 1 (by decide)]
  exact e1
end
end
/-! 8zr3.rota.lean.txt -/
section
/-! rota: the reference's shares; both answer alike -/
theorem hW0 (v : Nat → Nat → Int32) (w : Nat → Nat → Int64) : kC (bh v w) 100 8 = some () ∧ gR (bh v w) 100 8 0 = some 101 ∧ gR (bh v w) 100 8 27 = some 115 ∧ gR (bh v w) 100 8 28 = some 116 ∧ gR (bh v w) 100 8 29 = some 117 ∧ gR (bh v w) 100 8 30 = some 118 ∧ (∀ i, aI (bh v w) 0 101 i = rd (v 101) 198 i) ∧ (∀ i, aI (bh v w) 0 115 i = rd (v 115) 24576 i) ∧ (∀ i, aI (bh v w) 0 116 i = rd (v 116) 5 i) ∧ (∀ i, aI (bh v w) 0 117 i = rd (v 117) 3 i) ∧ (∀ i, aI (bh v w) 0 118 i = rd (v 118) 3 i) ∧ (∀ i x, sI (bh v w) 0 118 i x = wr v w 118 3 i x) := ⟨rfl, rfl, rfl, rfl, rfl, rfl, aI_bh rfl, aI_bh rfl, aI_bh rfl, aI_bh rfl, aI_bh rfl, sI_bh rfl⟩
section
variable {ρ : Rho} {v : Nat → Nat → Int32} {w : Nat → Nat → Int64}
/-- the reference's tables of a rota -/
def rT (ρ : Rho) (v : Nat → Nat → Int32) : Prop := rBase ρ (ρ 0 4) (ρ 6) (rL ρ (ρ 6) 0) (rL ρ (ρ 6) 1) (rL ρ (ρ 6) 2) v ∧ rAll ρ (ρ 0 4) (rL ρ (ρ 6) 0) (rL ρ (ρ 6) 1) (rL ρ (ρ 6) 2) v
theorem rT.fr {v' : Nat → Nat → Int32} (h : rT ρ v) (hq : ∀ q, q ≠ 118 → v' q = v q) : rT ρ v' := by
  obtain ⟨⟨h1, h2, h3, h4, h5⟩, h6⟩ := h
  unfold rT rBase rAll
  rw [hq 115 (by decide), hq 116 (by decide), hq 117 (by decide)]
  exact ⟨⟨h1.frame (fun q z => hq q (by omega)), h2, h3, h4, h5⟩, h6⟩
def sF (t need u : Nat) (fl : Int32) (v : Nat → Nat → Int32) : Prop := u ≤ t ∧ fl = 0 ∨ t < u ∧ fl = 1 ∧ v 118 0 = nI (t / 4) ∧ v 118 1 = nI (t % 4) ∧ v 118 2 = nI (need - t / 4 - t % 4)
theorem M_sharesOf (hT : rT ρ v) (hk : ROK ρ) {l a b c : Nat} (hl : l < ρ 0 0) (ha : a ≤ rL ρ (ρ 6) 0) (hb : b ≤ rL ρ (ρ 6) 1) (hc : c ≤ rL ρ (ρ 6) 2) (hB : rBst ρ (ρ 0 4) (ρ 0 0 - l) a b c < FAR) : ∃ v', f_M_sharesOf 100 (nI l) (nI a) (nI b) (nI c) (bh v w) = some (bh v' w) ∧ (v' 118 0 = nI (rArg (rOp ρ l (a, b, c)) 16 / 4) ∧ v' 118 1 = nI (rArg (rOp ρ l (a, b, c)) 16 % 4) ∧ v' 118 2 = nI (sNeed ρ l - rArg (rOp ρ l (a, b, c)) 16 / 4 - rArg (rOp ρ l (a, b, c)) 16 % 4)) ∧ ∀ q, q ≠ 118 → v' q = v q := by
  have h0 := hk.1.1
  have a5 := rL5 hk 0
  have b5 := rL5 hk 1
  have c5 := rL5 hk 2
  have hN := sNeed_le hk hl
  have FR : FAR = 1000000 := rfl
  have eb := rBst_s (ρ := ρ) (s := ρ 0 4) hl a b c
  have hf : rOpt ρ (ρ 0 4) (rBst ρ (ρ 0 4) (ρ 0 0 - (l + 1))) l a b c = rOp ρ l (a, b, c) := rfl
  rw [hf] at eb
  have hM : rMin (rOp ρ l (a, b, c)) 16 < FAR := by rw [← eb]; exact hB
  obtain ⟨t1, t2, t3⟩ := rArg_ok (rOp ρ l (a, b, c)) 16 hM
  generalize ht : rArg (rOp ρ l (a, b, c)) 16 = t at t1 t2 t3
  have fv : ∀ x y, rOp ρ l (a, b, c) x y = if x + y ≤ sNeed ρ l ∧ sNeed ρ l - x - y ≤ 3 then rVal ρ l a b c x y (sNeed ρ l - x - y) (rBst ρ (ρ 0 4) (ρ 0 0 - (l + 1)) (a - x) (b - y) (c - (sNeed ρ l - x - y))) else FAR := by
    intro x y
    unfold rOp rOpt
    rw [rN_st]
  generalize hg : rOp ρ l (a, b, c) = f at fv t2 t3 hM eb
  generalize hbest : rMin f 16 = best at t2 t3 hM eb
  have k30 : ∀ (rec21 : Nat → Int32 → Int32 → Int32 → Int32 → Int32 → Int32 → Int32 → mH → Option mH) (x : Nat), x ≤ 3 → ∀ (k fuel y : Nat) (fl : Int32) (v : Nat → Nat → Int32), k < fuel → y + k = 4 → rT ρ v → sF t (sNeed ρ l) (4 * x + y) fl v → ∃ fl' v', f_M_sharesOf_30 rec21 fuel 100 (nI l) (nI a) (nI b) (nI c) (nI best) fl (nI x) (nI y) (bh v w) = rec21 100 (nI l) (nI a) (nI b) (nI c) (nI best) fl' (nI (x + 1)) (bh v' w) ∧ sF t (sNeed ρ l) (4 * (x + 1)) fl' v' ∧ ∀ q, q ≠ 118 → v' q = v q := by
    intro rec21 x hx k
    induction k with
    | zero =>
      intro fuel y fl v hfu hy hT hs
      obtain ⟨m, rfl⟩ : ∃ m, fuel = m + 1 := ⟨fuel - 1, by omega⟩
      refine ⟨fl, v, ?_, by rw [show 4 * (x + 1) = 4 * x + y by omega]; exact hs, fun _ _ => rfl⟩
      show f_M_sharesOf_30b rec21 (f_M_sharesOf_30 rec21 m) 100 (nI l) (nI a) (nI b) (nI c) (nI best) fl (nI x) (nI y) (bh v w) = _
      unfold f_M_sharesOf_30b
      rw [show (3 : Int32) = nI 3 from rfl, if_pos (nI_lt (by omega) (by omega)), nI_1]
    | succ k ih =>
      intro fuel y fl v hfu hy hT hs
      obtain ⟨m, rfl⟩ : ∃ m, fuel = m + 1 := ⟨fuel - 1, by omega⟩
      have go : ∀ (fo : Int32) (v1 : Nat → Nat → Int32), (∀ q, q ≠ 118 → v1 q = v q) → sF t (sNeed ρ l) (4 * x + (y + 1)) fo v1 → ∃ fl' v', f_M_sharesOf_30 rec21 m 100 (nI l) (nI a) (nI b) (nI c) (nI best) fo (nI x) (nI (y + 1)) (bh v1 w) = rec21 100 (nI l) (nI a) (nI b) (nI c) (nI best) fl' (nI (x + 1)) (bh v' w) ∧ sF t (sNeed ρ l) (4 * (x + 1)) fl' v' ∧ ∀ q, q ≠ 118 → v' q = v q := by
        intro fo v1 f1 s1
        obtain ⟨fl2, v2, e2, s2, f2⟩ := ih m (y + 1) fo v1 (by omega) (by omega) (hT.fr f1) s1
        exact ⟨fl2, v2, e2, s2, fun q hq => (f2 q hq).trans (f1 q hq)⟩
      have n116 : v 116 l = nI (sNeed ρ l) := by rw [hT.1.2.1 l hl, rN_st]
      show ∃ fl' v', f_M_sharesOf_30b rec21 (f_M_sharesOf_30 rec21 m) 100 (nI l) (nI a) (nI b) (nI c) (nI best) fl (nI x) (nI y) (bh v w) = _ ∧ _
      unfold f_M_sharesOf_30b f_M_sharesOf_115
      rw [show (3 : Int32) = nI 3 from rfl, if_neg (nI_nlt (by omega) (by omega))]
      simp only [hW0, bd1_q]
      rw [rd_nI (by omega) (by decide), bd1_s, n116, nI_1]
      rcases hs with ⟨hu, rfl⟩ | ⟨hu, rfl, w0, w1, w2⟩
      · rw [if_pos rfl, show nI (sNeed ρ l) - nI x - nI y = zI ((sNeed ρ l : Int) - x - y) by rw [← zI_n (sNeed ρ l), zI_subn, zI_subn], M_in, bd2_s, show (3 : Int64) = (zI 3).toInt64 from rfl]
        have ne : f x y ≠ best → 4 * x + (y + 1) ≤ t := by
          intro h
          rcases Nat.lt_or_ge (4 * x + y) t with q | q
          · omega
          · have : t = 4 * x + y := by omega
            rw [this, show (4 * x + y) / 4 = x by omega, show (4 * x + y) % 4 = y by omega] at t2
            exact absurd t2 h
        by_cases g : 0 ≤ (sNeed ρ l : Int) - x - y ∧ (sNeed ρ l : Int) - x - y ≤ 3
        · rw [if_pos ((in_lay (by decide) (by decide)).mpr (by rw [zI_t (by omega) (by omega)]; exact g)), if_neg (by decide)]
          simp only [hW0, bd1_q]
          obtain ⟨z, hz⟩ : ∃ z : Nat, (sNeed ρ l : Int) - x - y = z := ⟨((sNeed ρ l : Int) - x - y).toNat, by omega⟩
          have ez : sNeed ρ l - x - y = z := by omega
          have hBo := rBst_or hk (ρ 0 4) (ρ 0 0 - (l + 1)) (a - x) (b - y) (c - z) (by omega)
          have ef : f x y = rVal ρ l a b c x y z (rBst ρ (ρ 0 4) (ρ 0 0 - (l + 1)) (a - x) (b - y) (c - z)) := by rw [fv, if_pos (by omega), ez]
          have hv := rVal_or hk (a := a) (b := b) (c := c) (x := x) (y := y) (z := z) hl hBo
          rw [← ef] at hv
          rw [hz, zI_n, M_harmBy hT.1.1 hk (B := rBst ρ (ρ 0 4) (ρ 0 0 - (l + 1)) (a - x) (b - y) (c - z)) hl (by omega) (by omega) (by omega) hx (by omega) (by omega) (by omega) (fun _ _ _ => hT.2 (l + 1) _ _ _ (by omega) (by omega) (by omega) (by omega)), bd2_s, ← ef, ite_iff (nI_eqI (by omega) (by omega))]
          by_cases e : f x y = best
          · have te : t = 4 * x + y := by
              rcases Nat.lt_or_ge (4 * x + y) t with q | q
              · have := t3 (4 * x + y) q
                rw [show (4 * x + y) / 4 = x by omega, show (4 * x + y) % 4 = y by omega] at this
                exact absurd e this
              · omega
            rw [if_pos e]
            simp only [hW0, bd1_q]
            rw [show (0 : Int32) = nI 0 from rfl, wr_nI (by decide) (by decide), bd1_s]
            simp only [hW0, bd1_q]
            rw [show (1 : Int32) = nI 1 from rfl, wr_nI (by decide) (by decide), bd1_s]
            simp only [hW0, bd1_q]
            rw [show (2 : Int32) = nI 2 from rfl, wr_nI (by decide) (by decide), bd1_s]
            refine go (nI 1) (u2 (u2 (u2 v 118 0 (nI x)) 118 1 (nI y)) 118 2 (nI z)) (fun q hq => (u2_o hq).trans ((u2_o hq).trans (u2_o hq))) (Or.inr ⟨by omega, rfl, ?_, ?_, ?_⟩)
            · rw [u2_n (by decide), u2_n (by decide), u2_at, te, show (4 * x + y) / 4 = x by omega]
            · rw [u2_n (by decide), u2_at, te, show (4 * x + y) % 4 = y by omega]
            · rw [u2_at, te, show (4 * x + y) / 4 = x by omega, show (4 * x + y) % 4 = y by omega, ez]
          · rw [if_neg e]
            exact go 0 v (fun _ _ => rfl) (Or.inl ⟨ne e, rfl⟩)
        · have gi : ¬ ((0 : Int64) ≤ (zI ((sNeed ρ l : Int) - x - y)).toInt64 ∧ (zI ((sNeed ρ l : Int) - x - y)).toInt64 ≤ (zI 3).toInt64) := fun q => g (by
            have := (in_lay (y := zI ((sNeed ρ l : Int) - x - y)) (m := 3) (by decide) (by decide)).mp q
            rwa [zI_t (by omega) (by omega)] at this)
          have ef : f x y = FAR := by rw [fv, if_neg (by omega)]
          rw [if_neg gi, if_pos rfl]
          exact go 0 v (fun _ _ => rfl) (Or.inl ⟨ne (by omega), rfl⟩)
      · rw [if_neg (by decide)]
        exact go 1 v (fun _ _ => rfl) (Or.inr ⟨by omega, rfl, w0, w1, w2⟩)
  have k21 : ∀ (k fuel x : Nat) (fl : Int32) (v : Nat → Nat → Int32), k < fuel → x + k = 4 → rT ρ v → sF t (sNeed ρ l) (4 * x) fl v → ∃ v', f_M_sharesOf_21 fuel 100 (nI l) (nI a) (nI b) (nI c) (nI best) fl (nI x) (bh v w) = some (bh v' w) ∧ (v' 118 0 = nI (t / 4) ∧ v' 118 1 = nI (t % 4) ∧ v' 118 2 = nI (sNeed ρ l - t / 4 - t % 4)) ∧ ∀ q, q ≠ 118 → v' q = v q := by
    intro k
    induction k with
    | zero =>
      intro fuel x fl v hfu hx hT hs
      obtain ⟨m, rfl⟩ : ∃ m, fuel = m + 1 := ⟨fuel - 1, by omega⟩
      rcases hs with ⟨hu, -⟩ | ⟨hu, -, w0⟩
      · omega
      · refine ⟨v, ?_, w0, fun _ _ => rfl⟩
        show f_M_sharesOf_21b (f_M_sharesOf_21 m) 100 (nI l) (nI a) (nI b) (nI c) (nI best) fl (nI x) (bh v w) = _
        unfold f_M_sharesOf_21b
        rw [show (3 : Int32) = nI 3 from rfl, if_pos (nI_lt (by omega) (by omega))]
    | succ k ih =>
      intro fuel x fl v hfu hx hT hs
      obtain ⟨m, rfl⟩ : ∃ m, fuel = m + 1 := ⟨fuel - 1, by omega⟩
      obtain ⟨fl1, v1, e1, s1, f1⟩ := k30 (f_M_sharesOf_21 m) x (by omega) 4 FU 0 fl v (by decide) (by decide) hT hs
      have e1 : f_M_sharesOf_30 (f_M_sharesOf_21 m) FU 100 (nI l) (nI a) (nI b) (nI c) (nI best) fl (nI x) 0 (bh v w) = f_M_sharesOf_21 m 100 (nI l) (nI a) (nI b) (nI c) (nI best) fl1 (nI (x + 1)) (bh v1 w) := e1
      obtain ⟨v2, e2, s2, f2⟩ := ih m (x + 1) fl1 v1 (by omega) (by omega) (hT.fr f1) s1
      refine ⟨v2, ?_, s2, fun q hq => (f2 q hq).trans (f1 q hq)⟩
      show f_M_sharesOf_21b (f_M_sharesOf_21 m) 100 (nI l) (nI a) (nI b) (nI c) (nI best) fl (nI x) (bh v w) = _
      unfold f_M_sharesOf_21b
      rw [show (3 : Int32) = nI 3 from rfl, if_neg (nI_nlt (by omega) (by omega))]
      exact e1.trans e2
  obtain ⟨v', e1, s1, f1⟩ := k21 4 FU 0 0 v (by decide) (by decide) hT (Or.inl ⟨Nat.zero_le _, rfl⟩)
  have e1 : f_M_sharesOf_21 FU 100 (nI l) (nI a) (nI b) (nI c) (nI best) 0 0 (bh v w) = some (bh v' w) := e1
  refine ⟨v', ?_, s1, f1⟩
  unfold f_M_sharesOf f_M_sharesOf_0
  simp only [hW0, bd1_q]
  rw [M_at, bd2_s]
  simp only [hW0, bd1_q]
  rw [rd_nI (by unfold atN; omega) (by decide), bd1_s, hT.2 l a b c (by omega) ha hb hc, eb]
  exact e1
theorem M_rotaL (hk : ROK ρ) (hb : rBest ρ < FAR) {p l : Nat} {x : Int32} (hp : p < 3) (hl : l < ρ 0 0) (e1 : (x - (10 : Int32)) / (3 : Int32) = nI l) (e2 : (x - (10 : Int32)) - nI l * (3 : Int32) = nI p) : ∀ (k fuel i : Nat) (v : Nat → Nat → Int32), k < fuel → i + k = l + 1 → rT ρ v → (∀ j, i = j + 1 → v 118 0 = nI (rSh ρ j 0) ∧ v 118 1 = nI (rSh ρ j 1) ∧ v 118 2 = nI (rSh ρ j 2)) → ∃ v', f_M_rota_103 fuel 100 x (nI (rPth ρ i).1) (nI (rPth ρ i).2.1) (nI (rPth ρ i).2.2) (nI i) (bh v w) = some (nI (rSh ρ l p), bh v' w) ∧ ∀ q, q ≠ 118 → v' q = v q := by
  have h0 := hk.1.1
  intro k
  induction k with
  | zero =>
    intro fuel i v hf hi hT ho
    obtain ⟨m, rfl⟩ : ∃ m, fuel = m + 1 := ⟨fuel - 1, by omega⟩
    obtain ⟨o1, o2, o3⟩ := ho l (by omega)
    refine ⟨v, ?_, fun _ _ => rfl⟩
    show f_M_rota_103b (f_M_rota_103 m) 100 x _ _ _ (nI i) (bh v w) = _
    unfold f_M_rota_103b
    rw [e1, if_pos (nI_lt (by omega) (by omega))]
    simp only [hW0, bd1_q]
    rw [e2, rd_nI hp (by decide), bd1_s]
    rcases (show p = 0 ∨ p = 1 ∨ p = 2 by omega) with rfl | rfl | rfl
    · rw [o1]
    · rw [o2]
    · rw [o3]
  | succ k ih =>
    intro fuel i v hf hi hT ho
    obtain ⟨m, rfl⟩ : ∃ m, fuel = m + 1 := ⟨fuel - 1, by omega⟩
    obtain ⟨⟨p1, p2, p3⟩, p4, p5⟩ := rPth_ok hk hb i (by omega)
    obtain ⟨v1, g1, ⟨s1, s2, s3⟩, f1⟩ := M_sharesOf (w := w) (l := i) (a := (rPth ρ i).1) (b := (rPth ρ i).2.1) (c := (rPth ρ i).2.2) hT hk (by omega) p1 p2 p3 p5
    have s1 : v1 118 0 = nI (tAt ρ i / 4) := s1
    have s2 : v1 118 1 = nI (tAt ρ i % 4) := s2
    have s3 : v1 118 2 = nI (sNeed ρ i - tAt ρ i / 4 - tAt ρ i % 4) := s3
    have p5' := p5
    rw [rBst_s (show i < ρ 0 0 by omega)] at p5'
    obtain ⟨tb, tf, -⟩ := rArg_ok (rOp ρ i (rPth ρ i)) 16 p5'
    have le : tAt ρ i / 4 ≤ (rPth ρ i).1 ∧ tAt ρ i % 4 ≤ (rPth ρ i).2.1 ∧ sNeed ρ i - tAt ρ i / 4 - tAt ρ i % 4 ≤ (rPth ρ i).2.2 := by
      have lt : rOp ρ i (rPth ρ i) (tAt ρ i / 4) (tAt ρ i % 4) < FAR := by
        show rOp ρ i (rPth ρ i) (rArg (rOp ρ i (rPth ρ i)) 16 / 4) (rArg (rOp ρ i (rPth ρ i)) 16 % 4) < FAR
        rw [tf]; exact p5'
      unfold rOp rOpt at lt
      rw [rN_st] at lt
      split at lt
      · unfold rVal at lt
        split at lt
        · next d => exact ⟨d.1, d.2.1, d.2.2.1⟩
        · exact absurd lt (Nat.lt_irrefl _)
      · exact absurd lt (Nat.lt_irrefl _)
    obtain ⟨v2, g2, f2⟩ := ih m (i + 1) v1 (by omega) (by omega) (hT.fr f1) (fun j hj => by
      obtain rfl : j = i := by omega
      exact ⟨s1, s2, s3⟩)
    refine ⟨v2, ?_, fun q hq => (f2 q hq).trans (f1 q hq)⟩
    show f_M_rota_103b (f_M_rota_103 m) 100 x _ _ _ (nI i) (bh v w) = _
    unfold f_M_rota_103b
    rw [e1, if_neg (nI_nlt (by omega) (by omega))]
    simp only [hW0, bd1_q]
    rw [g1]
    simp only [hW0, bd1_q]
    rw [rd3.1, bd1_s, rd3.2.1, bd1_s, rd3.2.2, bd1_s, s1, s2, s3, pk_sub le.1, pk_sub le.2.1, pk_sub le.2.2, nI_1]
    exact g2
/-- what rota answers, once what is asked is right -/
def rAns (ρ : Rho) (x : Int32) (l p : Nat) : Int32 := if rBest ρ < FAR then (if x = 0 then nI (rBest ρ) else nI (rSh ρ l p)) else -4
theorem nI_n4 {n : Nat} (h : n < 2 ^ 31) : ¬ nI n = (-4 : Int32) := fun z => by
  have := congrArg Int32.toInt z
  rw [nI_toInt h, show (-4 : Int32).toInt = -4 by decide] at this
  omega
theorem M_rota38 (hr : MR ρ v) (hk : ROK ρ) {x : Int32} {p l : Nat} (h : x = 0 ∨ p < 3 ∧ l < ρ 0 0 ∧ (x - (10 : Int32)) / (3 : Int32) = nI l ∧ (x - (10 : Int32)) - nI l * (3 : Int32) = nI p) : ∃ v', f_M_rota_38 100 x (bh v w) = some (rAns ρ x l p, bh v' w) ∧ ∀ q, q < 115 ∨ 118 < q → v' q = v q := by
  have ht5 : ∀ q, q < ρ 0 1 → ρ 6 q ≤ 5 := fun q hq => (hk.2.2.1 q hq).1
  have a10 : v 101 10 = nI (ρ 0 4) := hr.2.2.2.1
  have FR : FAR = 1000000 := rfl
  obtain ⟨v2, e2, B2, f2⟩ := M_startsRota (w := w) (s := ρ 0 4) (MRt_of hr) hk (fun q hq => Nat.le_trans (ht5 q hq) (by decide)) hk.st
  obtain ⟨v3, e3, A3, f3⟩ := M_findRota (w := w) hk (Nat.lt_of_le_of_lt (rL5 hk 0) (by decide)) (Nat.lt_of_le_of_lt (rL5 hk 1) (by decide)) (Nat.lt_of_le_of_lt (rL5 hk 2) (by decide)) B2
  have T3 : rT ρ v3 := ⟨B2.frame f3, A3⟩
  have fr : ∀ q, q < 115 ∨ 118 < q → v3 q = v q := fun q hq => (f3 q (by omega)).trans (f2 q (by omega) (by omega))
  have hle : rBest ρ ≤ FAR := rBst_le _ _ _ _ _ _
  have e3 : f_M_findRota 100 (bh v2 w) = some (nI (rBest ρ), bh v3 w) := e3
  unfold f_M_rota_38 f_M_rota_64 rAns
  simp only [hW0, bd1_q]
  rw [show (10 : Int32) = nI 10 from rfl, rd_nI (by decide) (by decide), bd1_s, a10, e2]
  simp only [hW0, bd1_q]
  rw [e3, bd2_s, ite_iff (FAR_ne hle)]
  by_cases c : rBest ρ = FAR
  · rw [if_pos c, if_pos ((FAR_ne hle).mpr c), if_neg (by omega)]
    exact ⟨v3, rfl, fr⟩
  · rw [if_neg c, if_pos (show rBest ρ < FAR by omega)]
    by_cases z : x = 0
    · rw [if_pos z, if_neg (fun q => c ((FAR_ne hle).mp q)), if_pos z]
      exact ⟨v3, rfl, fr⟩
    · rw [if_neg z, if_neg z]
      obtain ⟨hp, hl, q1, q2⟩ := h.resolve_left z
      simp only [hW0, bd1_q]
      rw [rd3.1, bd1_s, rd3.2.1, bd1_s, rd3.2.2, bd1_s, T3.1.2.2.1, T3.1.2.2.2.1, T3.1.2.2.2.2]
      obtain ⟨v4, e4, f4⟩ := M_rotaL (w := w) hk (show rBest ρ < FAR by omega) hp hl q1 q2 (l + 1) FU 0 v3 (by have := hk.1.1; unfold FU; omega) (by omega) T3 (fun j hj => by omega)
      have e4 : f_M_rota_103 FU 100 x (nI (rL ρ (ρ 6) 0)) (nI (rL ρ (ρ 6) 1)) (nI (rL ρ (ρ 6) 2)) 0 (bh v3 w) = some (nI (rSh ρ l p), bh v4 w) := e4
      exact ⟨v4, e4, fun q hq => (f4 q (by omega)).trans (fr q hq)⟩
theorem C_rota43 (hr : CR 3 ρ v) (hk : ROK ρ) (h43 : v 43 0 = 0) {x y : Int32} {p l : Nat} (h : x = 0 ∨ p < 3 ∧ l < ρ 0 0 ∧ y / (3 : Int32) = nI l ∧ y - nI l * (3 : Int32) = nI p) : ∃ v', f_Q_rota_43 0 x y (bh v w) = some (rAns ρ x l p, bh v' w) ∧ (∀ q, q < 40 ∨ 48 ≤ q → v' q = v q) ∧ v' 43 0 = 0 := by
  have FR : FAR = 1000000 := rfl
  obtain ⟨v1, e1, i1, f1⟩ := C_load (w := w) hr hk h43
  have J1 := pI_pJ i1
  obtain ⟨v2, e2, k2, f2⟩ := C_leastHarm (w := w) J1 hk
  have J2 : pJ ρ v2 := J1.fr (fun q hq => f2 q (by omega) (by omega))
  have fr : ∀ q, q < 40 ∨ 48 ≤ q → v2 q = v q := fun q hq => (f2 q (by omega) (by omega)).trans (f1 q (by omega))
  have a43 : v2 43 0 = 0 := J2.2.2.2.1 0 (Nat.zero_le _)
  unfold f_Q_rota_43 f_Q_rota_74 rAns
  simp only [hP0, bd1_q]
  rw [e1]
  simp only [hP0, bd1_q]
  rw [e2, bd2_s]
  by_cases c : rBest ρ < FAR
  · rw [if_pos c, if_pos c, if_neg (nI_n4 (by omega))]
    by_cases z : x = 0
    · rw [if_pos z, if_pos z]
      exact ⟨v2, rfl, fr, a43⟩
    · rw [if_neg z, if_neg z]
      obtain ⟨hp, hl, q1, q2⟩ := h.resolve_left z
      simp only [hP0, bd1_q]
      obtain ⟨v3, e3, f3⟩ := C_times (w := w) J2 k2 hk c hp hl
      rw [q1, q2, e3, bd2_s]
      exact ⟨v3, rfl, fun q hq => (f3 q (by omega)).trans (fr q hq), by rw [f3 43 (by decide)]; exact a43⟩
  · rw [if_neg c, if_neg c, if_pos rfl]
    exact ⟨v2, rfl, fr, a43⟩
end
section
variable {S : Sg} {v : Nat → Nat → Int32} {w : Nat → Nat → Int64}
theorem EqT.pl {α : Type} {fq fm : mH → Option (α × mH)} {r : α} {v1 v2 : Nat → Nat → Int32} {w1 w2 : Nat → Nat → Int64} (hs : SOK S) (hc : CI S v) (hm : MI S v) (h1 : fq (bh v w) = some (r, bh v1 w1)) (f1 : ∀ q, q < 40 ∨ 58 ≤ q → v1 q = v q) (a43 : v1 43 0 = 0) (h2 : fm (bh v1 w1) = some (r, bh v2 w2)) (f2 : ∀ q, q < 115 ∨ 122 < q → v2 q = v1 q) : EqT S v w fq fm := by
  have e : v2 100 = v 100 := (f2 100 (by omega)).trans (f1 100 (by omega))
  refine ⟨r, v1, w1, v2, w2, S, h1, h2, hs, hc.fr0 (fun p hp => (f2 p (by unfold pC0 at hp; omega)).trans (f1 p (by unfold pC0 at hp; omega))) (by rw [f2 43 (by omega)]; exact a43), hm.fr (fun p hp => (f2 p (by unfold pM at hp; omega)).trans (f1 p (by unfold pM at hp; omega))) ?_⟩
  rw [e]
  exact ⟨rfl, rfl, rfl, rfl, rfl⟩
theorem E_rota (x : Int32) (hs : SOK S) (hc : CI S v) (hm : MI S v) : EqT S v w (f_Q_rota 0 x) (f_M_rota 100 x) := by
  have h0 := hs.1.1.1
  have h1 := hs.1.1.2.1
  have h43 := hc.2.2.2.2.2.2.2
  have nil : f_Q_rota 0 x (bh v w) = some (-1, bh v w) → f_M_rota 100 x (bh v w) = some (-1, bh v w) → EqT S v w (f_Q_rota 0 x) (f_M_rota 100 x) := fun a b => EqT.q hs hc hm a (fun _ _ => rfl) b (fun _ _ => rfl)
  have both : ∀ (y : Int32) (p l : Nat), f_Q_rota 0 x (bh v w) = f_Q_rota_43 0 x y (bh v w) → (∀ v' w', MR S.1 v' → f_M_rota 100 x (bh v' w') = f_M_rota_38 100 x (bh v' w')) → (x = 0 ∨ p < 3 ∧ l < S.1 0 0 ∧ y / (3 : Int32) = nI l ∧ y - nI l * (3 : Int32) = nI p) → y = x - (10 : Int32) → EqT S v w (f_Q_rota 0 x) (f_M_rota 100 x) := by
    intro y p l eq em hh ey
    obtain ⟨v1, e1, f1, a1⟩ := C_rota43 (w := w) hc.1 hs.1 h43 hh
    have R1 : MR S.1 v1 := hm.1.fr1 (fun q h => f1 q (by omega))
    rw [ey] at hh
    obtain ⟨v2, e2, f2⟩ := M_rota38 (w := w) R1 hs.1 hh
    exact EqT.pl hs hc hm (eq.trans e1) (fun q hq => f1 q (by omega)) a1 ((em v1 w R1).trans e2) (fun q hq => f2 q (by omega))
  by_cases z : x = 0
  · refine both (x - 10) 0 0 ?_ (fun v' w' _ => ?_) (Or.inl z) rfl
    · unfold f_Q_rota f_Q_rota_0 f_Q_rota_31 f_Q_rota_32
      rw [if_pos (by rw [z]; decide), if_pos z]
    · unfold f_M_rota f_M_rota_0
      rw [if_pos z]
  · by_cases c : x < (10 : Int32)
    · refine nil ?_ ?_
      · unfold f_Q_rota f_Q_rota_0 f_Q_rota_31 f_Q_rota_32
        rw [if_pos c, if_neg z, if_pos rfl]
      · unfold f_M_rota f_M_rota_0 f_M_rota_36
        rw [if_neg z, if_pos c]
    · have x10 : (10 : Int) ≤ x.toInt := by
        have := Int32.not_lt.mp c
        rw [Int32.le_iff_toInt_le] at this
        exact this
      obtain ⟨n, hn, ex⟩ := nI_of (x := x) (fun q => by rw [Int32.lt_iff_toInt_lt] at q; have : (0 : Int32).toInt = 0 := rfl; omega)
      have n10 : 10 ≤ n := by rw [ex, nI_toInt hn] at x10; omega
      have y1 : x - (10 : Int32) = nI (n - 10) := by rw [ex]; exact pk_sub n10
      have y2 : (x - (10 : Int32)) / (3 : Int32) = nI ((n - 10) / 3) := by rw [y1]; exact pk_div (by omega) (by decide) (by decide)
      have y3 : (x - (10 : Int32)) - nI ((n - 10) / 3) * (3 : Int32) = nI ((n - 10) % 3) := by
        rw [y1, show (3 : Int32) = nI 3 from rfl, pk_mul, pk_sub (by omega)]
        congr 1
        omega
      have i1 : (nI ((n - 10) / 3)).toInt = ((n - 10) / 3 : Nat) := nI_toInt (by omega)
      have i2 : (nI ((n - 10) % 3)).toInt = ((n - 10) % 3 : Nat) := nI_toInt (by omega)
      have cm : ∀ v' w', MR S.1 v' → f_M_rota 100 x (bh v' w') = if (n - 10) / 3 < S.1 0 0 ∧ (n - 10) % 3 < S.1 0 1 then f_M_rota_38 100 x (bh v' w') else some (-1, bh v' w') := by
        intro v' w' hr
        unfold f_M_rota f_M_rota_0 f_M_rota_36
        rw [if_neg z, if_neg c]
        simp only [hW0, bd1_q]
        rw [y2, y3, M_isLaw hr.1 h0, bd2_s, i1]
        by_cases a : (n - 10) / 3 < S.1 0 0
        · rw [if_pos (show (0 : Int) ≤ (((n - 10) / 3 : Nat) : Int) ∧ (((n - 10) / 3 : Nat) : Int) < (S.1 0 0 : Int) by omega), if_neg (by decide)]
          simp only [hW0, bd1_q]
          rw [M_isOne hr.1 h1, bd2_s, i2]
          by_cases b : (n - 10) % 3 < S.1 0 1
          · rw [if_pos (show (0 : Int) ≤ (((n - 10) % 3 : Nat) : Int) ∧ (((n - 10) % 3 : Nat) : Int) < (S.1 0 1 : Int) by omega), if_neg (by decide), if_pos ⟨a, b⟩]
          · rw [if_neg (show ¬ ((0 : Int) ≤ (((n - 10) % 3 : Nat) : Int) ∧ (((n - 10) % 3 : Nat) : Int) < (S.1 0 1 : Int)) by omega), if_pos rfl, if_neg (fun q => b q.2)]
        · rw [if_neg (show ¬ ((0 : Int) ≤ (((n - 10) / 3 : Nat) : Int) ∧ (((n - 10) / 3 : Nat) : Int) < (S.1 0 0 : Int)) by omega), if_pos rfl, if_neg (fun q => a q.1)]
      have cq : f_Q_rota 0 x (bh v w) = if (n - 10) / 3 < S.1 0 0 ∧ (n - 10) % 3 < S.1 0 1 then f_Q_rota_43 0 x (x - (10 : Int32)) (bh v w) else some (-1, bh v w) := by
        unfold f_Q_rota f_Q_rota_0 f_Q_rota_31 f_Q_rota_32 f_Realm_hasBoth f_Realm_hasBoth_0 f_Realm_hasBoth_20
        rw [if_neg c]
        simp only [hP0, bd1_q]
        rw [y2, y3, C_hasOne rl3 hc.1 h1, bd2_s, i2]
        by_cases b : (n - 10) % 3 < S.1 0 1
        · rw [if_pos (show (0 : Int) ≤ (((n - 10) % 3 : Nat) : Int) ∧ (((n - 10) % 3 : Nat) : Int) < (S.1 0 1 : Int) by omega), if_neg (by decide)]
          simp only [hP0, bd1_q]
          rw [C_hasLaw rl3 hc.1 h0, bd2_s, i1]
          by_cases a : (n - 10) / 3 < S.1 0 0
          · rw [if_pos (show (0 : Int) ≤ (((n - 10) / 3 : Nat) : Int) ∧ (((n - 10) / 3 : Nat) : Int) < (S.1 0 0 : Int) by omega), if_neg (by decide), bd2_s, if_neg (by decide), if_neg z, if_neg (by decide), if_pos ⟨a, b⟩]
          · rw [if_neg (show ¬ ((0 : Int) ≤ (((n - 10) / 3 : Nat) : Int) ∧ (((n - 10) / 3 : Nat) : Int) < (S.1 0 0 : Int)) by omega), if_pos rfl, bd2_s, if_pos rfl, if_neg z, if_pos trivial, if_neg (fun q => a q.1)]
        · rw [if_neg (show ¬ ((0 : Int) ≤ (((n - 10) % 3 : Nat) : Int) ∧ (((n - 10) % 3 : Nat) : Int) < (S.1 0 1 : Int)) by omega), if_pos rfl, bd2_s, if_pos rfl, if_neg z, if_pos trivial, if_neg (fun q => b q.2)]
      by_cases g : (n - 10) / 3 < S.1 0 0 ∧ (n - 10) % 3 < S.1 0 1
      · rw [if_pos g] at cq
        exact both (x - 10) ((n - 10) % 3) ((n - 10) / 3) cq (fun v' w' hr => by rw [cm v' w' hr, if_pos g]) (Or.inr ⟨by omega, g.1, y2, y3⟩) rfl
      · rw [if_neg g] at cq
        exact nil cq (by rw [cm v w hm.1, if_neg g])
end
end
end
