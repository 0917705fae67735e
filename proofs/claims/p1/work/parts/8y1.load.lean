/-! the class's planner -/
section
variable {ρ : Rho} {v : Nat → Nat → Int32} {w : Nat → Nat → Int64}
/-- laws below l are loaded, of the law l those of the first m people (all: m = 4) -/
def pI (ρ : Rho) (l m : Nat) (v : Nat → Nat → Int32) : Prop :=
  v 40 0 = nI (ρ 0 0) ∧ (∀ p, p < 3 → v 41 p = nI (rL ρ (ρ 6) p)) ∧ (∀ j, j < ρ 0 0 → j < l ∨ j = l ∧ 0 < m → v 42 j = nI (sNeed ρ j)) ∧ (∀ j, j ≤ ρ 0 0 → j ≤ l ∨ j = l + 1 ∧ 0 < m → v 43 j = nI (sumN (sNeed ρ) j)) ∧
  (∀ p j, p < 3 → j < ρ 0 0 → v 44 (5 * p + j) = if j < l ∨ j = l ∧ p + 1 < m then nI (rR ρ p j) else 0) ∧ (∀ p j, p < ρ 0 1 → j < ρ 0 0 → j < l ∨ j = l ∧ p + 1 < m → v 45 (5 * p + j) = nI (rH ρ p j))
def pFr (v v' : Nat → Nat → Int32) : Prop := ∀ q, q < 40 ∨ 46 ≤ q → v' q = v q
theorem CR.fp {v' : Nat → Nat → Int32} (h : CR 3 ρ v) (hq : pFr v v') : CR 3 ρ v' := h.frame (fun p _ _ => hq p (by omega))
theorem C_l96 (hk : ROK ρ) (rec54 : Nat → Nat → Int32 → mH → Option mH) {l : Nat} (hl : l < ρ 0 0) : ∀ (k fuel p : Nat) (v : Nat → Nat → Int32), k < fuel → p + k = ρ 0 1 → CR 3 ρ v → pI ρ l (p + 1) v → ∃ v', f_Planner_load_96 rec54 fuel 40 3 (nI l) (nI p) (bh v w) = rec54 40 3 (nI (l + 1)) (bh v' w) ∧ pI ρ (l + 1) 0 v' ∧ pFr v v' := by
  have h1 := hk.1.1
  have h2 := hk.1.2.1
  intro k
  induction k with
  | zero =>
    intro fuel p v hf hp hr hi
    obtain ⟨n, rfl⟩ : ∃ n, fuel = n + 1 := ⟨fuel - 1, by omega⟩
    obtain ⟨i1, i2, i3, i4, i5, i6⟩ := hi
    refine ⟨v, ?_, ⟨i1, i2, fun j q1 q2 => i3 j q1 (by omega), fun j q1 q2 => i4 j q1 (by omega), fun p' j q1 q2 => ?_, fun p' j q1 q2 q3 => i6 p' j q1 q2 (by omega)⟩, fun _ _ => rfl⟩
    · show f_Planner_load_96b rec54 (f_Planner_load_96 rec54 n) 40 3 (nI l) (nI p) (bh v w) = _
      unfold f_Planner_load_96b
      simp only [hRl rl3 v w, bd1_q]
      rw [hr.1.2.1, if_pos (nI_le (by omega) (by omega)), nI_1]
    · rw [i5 p' j q1 q2]
      by_cases e : j < l ∨ j = l ∧ p' + 1 < p + 1
      · rw [if_pos e, if_pos (by omega)]
      · rw [if_neg e]
        by_cases g : j < l + 1 ∨ j = l + 1 ∧ p' + 1 < 0
        · rw [if_pos g]
          unfold rR
          rw [if_neg (by omega)]
          rfl
        · rw [if_neg g]
  | succ k ih =>
    intro fuel p v hf hp hr hi
    obtain ⟨n, rfl⟩ : ∃ n, fuel = n + 1 := ⟨fuel - 1, by omega⟩
    have hpp : p < ρ 0 1 := by omega
    have ix5 : (nI p * (5 : Int32)) + nI l = nI (5 * p + l) := by rw [show (5 : Int32) = nI 5 from rfl, pk_mul, nI_add, Nat.mul_comm p 5]
    have fr : pFr v (u2 (u2 v 44 (5 * p + l) (nI (sRoom ρ p l))) 45 (5 * p + l) (nI (ρ 3 l + ρ 7 p))) := fun q hq => (u2_o (by omega)).trans (u2_o (by omega))
    have hi' : pI ρ l (p + 1 + 1) (u2 (u2 v 44 (5 * p + l) (nI (sRoom ρ p l))) 45 (5 * p + l) (nI (ρ 3 l + ρ 7 p))) := by
      obtain ⟨i1, i2, i3, i4, i5, i6⟩ := hi
      unfold pI
      rw [u2_o (show 40 ≠ 45 by decide), u2_o (show 40 ≠ 44 by decide), u2_o (show 41 ≠ 45 by decide), u2_o (show 41 ≠ 44 by decide), u2_o (show 42 ≠ 45 by decide), u2_o (show 42 ≠ 44 by decide), u2_o (show 43 ≠ 45 by decide), u2_o (show 43 ≠ 44 by decide)]
      refine ⟨i1, i2, fun j q1 q2 => i3 j q1 (by omega), fun j q1 q2 => i4 j q1 (by omega), fun p' j q1 q2 => ?_, fun p' j q1 q2 q3 => ?_⟩
      · rw [u2_o (show 44 ≠ 45 by decide)]
        by_cases e : 5 * p' + j = 5 * p + l
        · obtain ⟨rfl, rfl⟩ : p' = p ∧ j = l := by omega
          rw [u2_at, if_pos (by omega)]
          unfold rR
          rw [if_pos hpp]
        · rw [u2_n e, i5 p' j q1 q2]
          by_cases g : j < l ∨ j = l ∧ p' + 1 < p + 1
          · rw [if_pos g, if_pos (by omega)]
          · rw [if_neg g, if_neg (by omega)]
      · by_cases e : 5 * p' + j = 5 * p + l
        · obtain ⟨rfl, rfl⟩ : p' = p ∧ j = l := by omega
          rw [u2_at]
          unfold rH
          rw [if_pos hpp]
        · rw [u2_n e, u2_o (show 45 ≠ 44 by decide)]
          exact i6 p' j q1 q2 (by omega)
    obtain ⟨v', e1, p1, q1⟩ := ih n (p + 1) _ (by omega) (by omega) (hr.fp fr) hi'
    refine ⟨v', ?_, p1, fun q hq => (q1 q hq).trans (fr q hq)⟩
    show f_Planner_load_96b rec54 (f_Planner_load_96 rec54 n) 40 3 (nI l) (nI p) (bh v w) = _
    unfold f_Planner_load_96b
    simp only [hRl rl3 v w, hQ v w, bd1_q]
    rw [hr.1.2.1, if_neg (nI_ge (by omega) (by omega)), C_roomOf rl3 hr hk hpp hl, bd2_s, ix5]
    simp only [hQ v w, bd1_q]
    rw [wr_nI (by omega) (by decide), bd1_s]
    simp only [hRl rl3 (u2 v 44 (5 * p + l) (nI (sRoom ρ p l))) w, hQ (u2 v 44 (5 * p + l) (nI (sRoom ρ p l))) w, bd1_q]
    rw [rd_nI (by omega) (by decide), bd1_s, rd_nI (by omega) (by decide), bd1_s, u2_o (show 3 + 3 ≠ 44 by decide), u2_o (show 3 + 7 ≠ 44 by decide), (hr.2.1 l hl).2.2.1, (hr.2.2.1 p hpp).2.1, nI_add, wr_nI (by omega) (by decide), bd1_s, nI_1]
    exact e1
theorem C_l54 (hk : ROK ρ) : ∀ (k fuel l : Nat) (v : Nat → Nat → Int32), k < fuel → l + k = ρ 0 0 → CR 3 ρ v → pI ρ l 0 v → ∃ v', f_Planner_load_54 fuel 40 3 (nI l) (bh v w) = some (bh v' w) ∧ pI ρ (ρ 0 0) 0 v' ∧ pFr v v' := by
  have h1 := hk.1.1
  have h2 := hk.1.2.1
  intro k
  induction k with
  | zero =>
    intro fuel l v hf hl hr hi
    obtain ⟨n, rfl⟩ : ∃ n, fuel = n + 1 := ⟨fuel - 1, by omega⟩
    obtain rfl : l = ρ 0 0 := by omega
    refine ⟨v, ?_, hi, fun _ _ => rfl⟩
    simp only [f_Planner_load_54, f_Planner_load_54b, hQ v w, bd1_q]
    rw [hi.1, if_pos (nI_le (by omega) (by omega))]
  | succ k ih =>
    intro fuel l v hf hl hr hi
    obtain ⟨n, rfl⟩ : ∃ n, fuel = n + 1 := ⟨fuel - 1, by omega⟩
    have hl2 : l < ρ 0 0 := by omega
    have fr : pFr v (u2 (u2 v 42 l (nI (sNeed ρ l))) 43 (l + 1) (nI (sumN (sNeed ρ) l + sNeed ρ l))) := fun q hq => (u2_o (by omega)).trans (u2_o (by omega))
    have hi' : pI ρ l (0 + 1) (u2 (u2 v 42 l (nI (sNeed ρ l))) 43 (l + 1) (nI (sumN (sNeed ρ) l + sNeed ρ l))) := by
      obtain ⟨i1, i2, i3, i4, i5, i6⟩ := hi
      unfold pI
      rw [u2_o (show 40 ≠ 43 by decide), u2_o (show 40 ≠ 42 by decide), u2_o (show 41 ≠ 43 by decide), u2_o (show 41 ≠ 42 by decide), u2_o (show 44 ≠ 43 by decide), u2_o (show 44 ≠ 42 by decide), u2_o (show 45 ≠ 43 by decide), u2_o (show 45 ≠ 42 by decide)]
      refine ⟨i1, i2, fun j q1 q2 => ?_, fun j q1 q2 => ?_, fun p' j q1 q2 => ?_, fun p' j q1 q2 q3 => i6 p' j q1 q2 (by omega)⟩
      · rw [u2_o (show 42 ≠ 43 by decide)]
        by_cases e : j = l
        · subst e; rw [u2_at]
        · rw [u2_n e]; exact i3 j q1 (by omega)
      · by_cases e : j = l + 1
        · subst e; rw [u2_at]; rfl
        · rw [u2_n e, u2_o (show 43 ≠ 42 by decide)]; exact i4 j q1 (by omega)
      · rw [i5 p' j q1 q2]
        by_cases g : j < l ∨ j = l ∧ p' + 1 < 0
        · rw [if_pos g, if_pos (by omega)]
        · rw [if_neg g, if_neg (by omega)]
    obtain ⟨v1, e1, p1, q1⟩ := C_l96 (w := w) hk (f_Planner_load_54 n) hl2 (ρ 0 1) FU 0 _ (by unfold FU; omega) (by omega) (hr.fp fr) hi'
    obtain ⟨v2, e2, p2, q2⟩ := ih n (l + 1) v1 (by omega) (by omega) ((hr.fp fr).fp q1) p1
    refine ⟨v2, ?_, p2, fun q hq => (q2 q hq).trans ((q1 q hq).trans (fr q hq))⟩
    have e43 : v 43 l = nI (sumN (sNeed ρ) l) := hi.2.2.2.1 l (by omega) (by omega)
    show f_Planner_load_54b (f_Planner_load_54 n) 40 3 (nI l) (bh v w) = _
    unfold f_Planner_load_54b
    simp only [hRl rl3 v w, hQ v w, bd1_q]
    rw [hi.1, if_neg (nI_ge (by omega) (by omega)), C_needOf rl3 hr hk hl2, bd2_s]
    simp only [hQ v w, bd1_q]
    rw [wr_nI (by omega) (by decide), bd1_s]
    simp only [hQ (u2 v 42 l (nI (sNeed ρ l))) w, bd1_q]
    rw [rd_nI (by omega) (by decide), bd1_s, rd_nI (by omega) (by decide), bd1_s, u2_at, u2_o (show 43 ≠ 42 by decide), e43, nI_add, nI_1, wr_nI (by omega) (by decide), bd1_s]
    exact e1.trans e2
theorem C_load (hr : CR 3 ρ v) (hk : ROK ρ) (h43 : v 43 0 = 0) : ∃ v', f_Planner_load 40 3 (bh v w) = some (bh v' w) ∧ pI ρ (ρ 0 0) 0 v' ∧ pFr v v' := by
  have h1 := hk.1.1
  have h2 := hk.1.2.1
  obtain ⟨v1, e1, f1, f2, f3⟩ := fill_I (q := 44) (n := 15) (x := 0) (by omega) (fun _ _ => rfl) (fun v w i x => by simp only [hQ v w]) (u2 v 40 0 (nI (ρ 0 0))) w
  have lf : ∀ (k fuel p : Nat) (v2 : Nat → Nat → Int32), k < fuel → p + k = 3 → pFr v v2 → v2 40 0 = nI (ρ 0 0) → v2 43 0 = 0 → (∀ j, j < 15 → v2 44 j = 0) → (∀ j, j < p → v2 41 j = nI (rL ρ (ρ 6) j)) → ∃ v', f_Planner_load_18 fuel 40 3 (nI p) (bh v2 w) = some (bh v' w) ∧ pI ρ (ρ 0 0) 0 v' ∧ pFr v v' := by
    intro k
    induction k with
    | zero =>
      intro fuel p v2 hf hp fr a40 a43 a44 a41
      obtain ⟨n, rfl⟩ : ∃ n, fuel = n + 1 := ⟨fuel - 1, by omega⟩
      obtain ⟨v', b1, b2, b3⟩ := C_l54 (w := w) hk (ρ 0 0) FU 0 v2 (by unfold FU; omega) (by omega) (hr.fp fr) ⟨a40, fun j q => a41 j (by omega), fun j _ q => by omega, fun j _ q => (by rw [show j = 0 by omega]; exact a43), fun p' j q1 q2 => by rw [a44 _ (by omega), if_neg (by omega)], fun p' j _ _ q => by omega⟩
      refine ⟨v', ?_, b2, fun q hq => (b3 q hq).trans (fr q hq)⟩
      simp only [f_Planner_load_18, f_Planner_load_18b]
      rw [show (3 : Int32) = nI 3 from rfl, if_pos ((nI_leI (by omega) (by omega)).mpr (by omega))]
      exact b1
    | succ k ih =>
      intro fuel p v2 hf hp fr a40 a43 a44 a41
      obtain ⟨n, rfl⟩ : ∃ n, fuel = n + 1 := ⟨fuel - 1, by omega⟩
      have nx := ih n (p + 1) (u2 v2 41 p (nI (rL ρ (ρ 6) p))) (by omega) (by omega) (fun q hq => (u2_o (by omega)).trans (fr q hq)) ((congrFun (u2_o (by decide)) 0).trans a40) ((congrFun (u2_o (by decide)) 0).trans a43) (fun j q => (congrFun (u2_o (by decide)) j).trans (a44 j q)) (fun j q => by
        by_cases e : j = p
        · subst e; rw [u2_at]
        · rw [u2_n e]; exact a41 j (by omega))
      have hr2 := hr.fp fr
      simp only [f_Planner_load_18, f_Planner_load_18b, f_Planner_load_45, hRl rl3 v2 w, hQ v2 w, bd1_q]
      rw [show (3 : Int32) = nI 3 from rfl, if_neg (fun z => by have := (nI_leI (by omega) (by omega)).mp z; omega), C_hasOne rl3 hr2 h2, bd2_s]
      by_cases g : p < ρ 0 1
      · rw [if_pos (show 0 ≤ (nI p).toInt ∧ (nI p).toInt < (ρ 0 1 : Int) by rw [nI_toInt (by omega)]; omega), if_neg (by decide)]
        simp only [hRl rl3 v2 w, bd1_q]
        rw [C_timeLeft rl3 hr2 hk g, bd2_s]
        simp only [hQ v2 w, bd1_q]
        rw [wr_nI (by omega) (by decide), bd1_s, nI_1]
        have e : rL ρ (ρ 6) p = sLeft ρ p := by unfold rL; rw [if_pos g]; rfl
        rw [e] at nx
        exact nx
      · rw [if_neg (show ¬ (0 ≤ (nI p).toInt ∧ (nI p).toInt < (ρ 0 1 : Int)) by rw [nI_toInt (by omega)]; omega), if_pos rfl]
        simp only [hQ v2 w, bd1_q]
        rw [wr_nI (by omega) (by decide), bd1_s, nI_1]
        have e : rL ρ (ρ 6) p = 0 := by unfold rL; rw [if_neg g]
        rw [e] at nx
        exact nx
  obtain ⟨v', b1, b2, b3⟩ := lf 3 FU 0 v1 (by decide) (by omega) (fun q hq => (f1 q (by omega)).trans (u2_o (by omega))) (by rw [f1 40 (by decide), u2_at]) (by rw [f1 43 (by decide), u2_o (by decide)]; exact h43) f2 (fun j q => by omega)
  refine ⟨v', ?_, b2, b3⟩
  simp only [f_Planner_load, f_Planner_load_0, hRl rl3 v w, hQ v w, bd1_q]
  rw [hr.1.1]
  simp only [hQ (u2 v 40 0 (nI (ρ 0 0))) w, bd1_q]
  rw [e1, bd1_s]
  exact b1
end
