/-! 8zr2.rota.lean.txt -/
section
/-! rota: the class's table, the first rota -/
section
variable {ρ : Rho} {v : Nat → Nat → Int32} {w : Nat → Nat → Int64}
theorem zI_lt0 {z : Int} (h1 : -2 ^ 31 ≤ z) (h2 : z < 2 ^ 31) : zI z < (0 : Int32) ↔ z < 0 := by
  rw [Int32.lt_iff_toInt_lt, zI_t h1 h2]; rfl
def kP (ρ : Rho) (l0 a0 b0 : Nat) (v : Nat → Nat → Int32) : Prop := ∀ l a b, l ≤ ρ 0 0 → a ≤ rL ρ (ρ 6) 0 → b ≤ rL ρ (ρ 6) 1 → v 47 ((l * 6 + a) * 6 + b) = nI (if l0 < l ∨ l = l0 ∧ (a < a0 ∨ a = a0 ∧ b < b0) then kT ρ l a b else FAR)
def pF2 (v v' : Nat → Nat → Int32) : Prop := ∀ q, q ≠ 46 → q ≠ 47 → v' q = v q
theorem C_lh32 (hk : ROK ρ) (rec14 : Nat → Int32 → mH → Option (Int32 × mH)) (rec20 : Nat → Int32 → Int32 → mH → Option (Int32 × mH)) {l a : Nat} (hl : l ≤ ρ 0 0) (ha : a ≤ rL ρ (ρ 6) 0) : ∀ (k fuel b : Nat) (v : Nat → Nat → Int32), k < fuel → b + k = rL ρ (ρ 6) 1 + 1 → pJ ρ v → kP ρ l a b v → ∃ v', f_Planner_leastHarm_32 rec14 rec20 fuel 40 (nI l) (nI a) (nI b) (bh v w) = rec20 40 (nI l) (nI (a + 1)) (bh v' w) ∧ kP ρ l (a + 1) 0 v' ∧ pF2 v v' := by
  have h0 := hk.1.1
  have a5 := rL5 hk 0
  have b5 := rL5 hk 1
  intro k
  induction k with
  | zero =>
    intro fuel b v hf hb hJ hP
    obtain ⟨m, rfl⟩ : ∃ m, fuel = m + 1 := ⟨fuel - 1, by omega⟩
    refine ⟨v, ?_, fun l' a' b' q1 q2 q3 => ?_, fun _ _ _ => rfl⟩
    · show f_Planner_leastHarm_32b rec14 rec20 (f_Planner_leastHarm_32 rec14 rec20 m) 40 (nI l) (nI a) (nI b) (bh v w) = _
      unfold f_Planner_leastHarm_32b
      simp only [hP0, bd1_q]
      rw [rd3.2.1, bd1_s, hJ.2.1 1 (by decide), if_pos (nI_lt (by omega) (by omega)), nI_1]
    · rw [hP l' a' b' q1 q2 q3]
      by_cases z : l < l' ∨ l' = l ∧ (a' < a ∨ a' = a ∧ b' < b)
      · rw [if_pos z, if_pos (by omega)]
      · rw [if_neg z, if_neg (by omega)]
  | succ k ih =>
    intro fuel b v hf hb hJ hP
    obtain ⟨m, rfl⟩ : ∃ m, fuel = m + 1 := ⟨fuel - 1, by omega⟩
    have hb5 : b ≤ 5 := by omega
    have cb := c3v_b hk hl (show a ≤ 5 by omega) hb5
    have wr1 : ∀ (v1 : Nat → Nat → Int32), pF2 v v1 → v1 47 = v 47 → ∃ v', f_Planner_leastHarm_32 rec14 rec20 m 40 (nI l) (nI a) (nI (b + 1)) (bh (u2 v1 47 ((l * 6 + a) * 6 + b) (nI (kT ρ l a b))) w) = rec20 40 (nI l) (nI (a + 1)) (bh v' w) ∧ kP ρ l (a + 1) 0 v' ∧ pF2 v v' := by
      intro v1 f1 e47
      obtain ⟨v', g1, g2, g3⟩ := ih m (b + 1) (u2 v1 47 ((l * 6 + a) * 6 + b) (nI (kT ρ l a b))) (by omega) (by omega) (hJ.fr (fun q hq => (u2_o (by omega)).trans (f1 q (by omega) (by omega)))) (fun l' a' b' q1 q2 q3 => by
        by_cases z : (l' * 6 + a') * 6 + b' = (l * 6 + a) * 6 + b
        · obtain ⟨rfl, rfl, rfl⟩ : l' = l ∧ a' = a ∧ b' = b := by omega
          rw [u2_at, if_pos (by omega)]
        · rw [u2_n z, e47, hP l' a' b' q1 q2 q3]
          have : ¬ (l' = l ∧ a' = a ∧ b' = b) := fun y => z (by rw [y.1, y.2.1, y.2.2])
          by_cases y : l < l' ∨ l' = l ∧ (a' < a ∨ a' = a ∧ b' < b)
          · rw [if_pos y, if_pos (by omega)]
          · rw [if_neg y, if_neg (by omega)])
      exact ⟨v', g1, g2, fun q h1 h2 => (g3 q h1 h2).trans ((u2_o h2).trans (f1 q h1 h2))⟩
    show ∃ v', f_Planner_leastHarm_32b rec14 rec20 (f_Planner_leastHarm_32 rec14 rec20 m) 40 (nI l) (nI a) (nI b) (bh v w) = _ ∧ _
    unfold f_Planner_leastHarm_32b f_Planner_leastHarm_81 f_Planner_leastHarm_82
    simp only [hP0, bd1_q]
    rw [rd3.2.1, bd1_s, hJ.2.1 1 (by decide), if_neg (nI_nlt (by omega) (by omega)), C_left hJ hk hl (by omega) hb5, bd2_s, nI_1, ite_iff (zI_lt0 (by omega) (by omega))]
    by_cases c : c3v ρ l a b < 0
    · rw [if_pos c]
      refine ih m (b + 1) v (by omega) (by omega) hJ (fun l' a' b' q1 q2 q3 => ?_)
      rw [hP l' a' b' q1 q2 q3]
      by_cases y : l < l' ∨ l' = l ∧ (a' < a ∨ a' = a ∧ b' < b)
      · rw [if_pos y, if_pos (by omega)]
      · rw [if_neg y]
        by_cases z : l < l' ∨ l' = l ∧ (a' < a ∨ a' = a ∧ b' < b + 1)
        · obtain ⟨rfl, rfl, rfl⟩ : l' = l ∧ a' = a ∧ b' = b := by omega
          rw [if_pos z]
          unfold kT
          rw [if_neg (by omega)]
        · rw [if_neg z]
    · rw [if_neg c]
      simp only [hP0, bd1_q]
      rw [pst_I, bd2_s]
      simp only [hP0, bd1_q]
      rw [hJ.1, ite_iff (nI_eqI (by omega) (by omega))]
      by_cases e : l = ρ 0 0
      · have ez : kT ρ l a b = 0 := by
          unfold kT
          rw [if_pos (by omega), e, Nat.sub_self]
          rfl
        have nx := wr1 v (fun _ _ _ => rfl) rfl
        rw [ez] at nx
        rw [if_pos e, wr_nI (by omega) (by decide), bd1_s]
        exact nx
      · rw [if_neg e]
        obtain ⟨v1, e1, f1, -⟩ := C_search (w := w) hJ hk (show l < ρ 0 0 by omega) (show a ≤ 5 by omega) hb5 (by omega) (fun a' b' h1 h2 => by
          rw [hP (l + 1) a' b' (by omega) (by omega) (by omega), if_pos (by omega)])
        rw [e1, bd2_s]
        simp only [hP0, bd1_q]
        rw [wr_nI (by omega) (by decide), bd1_s]
        exact wr1 v1 (fun q h1 _ => f1 q h1) (f1 47 (by decide))
theorem C_lh20 (hk : ROK ρ) (rec14 : Nat → Int32 → mH → Option (Int32 × mH)) {l : Nat} (hl : l ≤ ρ 0 0) : ∀ (k fuel a : Nat) (v : Nat → Nat → Int32), k < fuel → a + k = rL ρ (ρ 6) 0 + 1 → pJ ρ v → kP ρ l a 0 v → ∃ v', f_Planner_leastHarm_20 rec14 fuel 40 (nI l) (nI a) (bh v w) = rec14 40 (nI l + -1) (bh v' w) ∧ kP ρ l (rL ρ (ρ 6) 0 + 1) 0 v' ∧ pF2 v v' := by
  have a5 := rL5 hk 0
  have b5 := rL5 hk 1
  intro k
  induction k with
  | zero =>
    intro fuel a v hf ha hJ hP
    obtain ⟨m, rfl⟩ : ∃ m, fuel = m + 1 := ⟨fuel - 1, by omega⟩
    refine ⟨v, ?_, ?_, fun _ _ _ => rfl⟩
    · show f_Planner_leastHarm_20b rec14 (f_Planner_leastHarm_20 rec14 m) 40 (nI l) (nI a) (bh v w) = _
      unfold f_Planner_leastHarm_20b
      simp only [hP0, bd1_q]
      rw [rd3.1, bd1_s, hJ.2.1 0 (by decide), if_pos (nI_lt (by omega) (by omega))]
    · rw [show rL ρ (ρ 6) 0 + 1 = a by omega]; exact hP
  | succ k ih =>
    intro fuel a v hf ha hJ hP
    obtain ⟨m, rfl⟩ : ∃ m, fuel = m + 1 := ⟨fuel - 1, by omega⟩
    obtain ⟨v1, e1, p1, f1⟩ := C_lh32 (w := w) hk rec14 (f_Planner_leastHarm_20 rec14 m) hl (show a ≤ rL ρ (ρ 6) 0 by omega) (rL ρ (ρ 6) 1 + 1) FU 0 v (by unfold FU; omega) (by omega) hJ hP
    have e1 : f_Planner_leastHarm_32 rec14 (f_Planner_leastHarm_20 rec14 m) FU 40 (nI l) (nI a) 0 (bh v w) = f_Planner_leastHarm_20 rec14 m 40 (nI l) (nI (a + 1)) (bh v1 w) := e1
    obtain ⟨v2, e2, p2, f2⟩ := ih m (a + 1) v1 (by omega) (by omega) (hJ.fr (fun q hq => f1 q (by omega) (by omega))) p1
    refine ⟨v2, ?_, p2, fun q h1 h2 => (f2 q h1 h2).trans (f1 q h1 h2)⟩
    show f_Planner_leastHarm_20b rec14 (f_Planner_leastHarm_20 rec14 m) 40 (nI l) (nI a) (bh v w) = _
    unfold f_Planner_leastHarm_20b
    simp only [hP0, bd1_q]
    rw [rd3.1, bd1_s, hJ.2.1 0 (by decide), if_neg (nI_nlt (by omega) (by omega))]
    exact e1.trans e2
def kA (ρ : Rho) (v : Nat → Nat → Int32) : Prop := ∀ l a b, l ≤ ρ 0 0 → a ≤ rL ρ (ρ 6) 0 → b ≤ rL ρ (ρ 6) 1 → v 47 ((l * 6 + a) * 6 + b) = nI (kT ρ l a b)
/-- the least harm of a rota -/
def rBest (ρ : Rho) : Nat := rBst ρ (ρ 0 4) (ρ 0 0) (rL ρ (ρ 6) 0) (rL ρ (ρ 6) 1) (rL ρ (ρ 6) 2)
theorem kT_0 (ρ : Rho) : kT ρ 0 (rL ρ (ρ 6) 0) (rL ρ (ρ 6) 1) = rBest ρ := by
  have e : c3v ρ 0 (rL ρ (ρ 6) 0) (rL ρ (ρ 6) 1) = (rL ρ (ρ 6) 2 : Nat) := by
    unfold c3v
    show (rL ρ (ρ 6) 2 : Int) - ((0 : Nat) : Int) + _ - _ + _ - _ = _
    omega
  unfold kT rBest
  rw [e, if_pos (by omega)]
  rfl
theorem C_leastHarm (hJ : pJ ρ v) (hk : ROK ρ) : ∃ v', f_Planner_leastHarm 40 (bh v w) = some (if rBest ρ < FAR then nI (rBest ρ) else -4, bh v' w) ∧ kA ρ v' ∧ pF2 v v' := by
  have h0 := hk.1.1
  have a5 := rL5 hk 0
  have b5 := rL5 hk 1
  have FR : FAR = 1000000 := rfl
  have last : ∀ (m : Nat) (v : Nat → Nat → Int32), pJ ρ v → kP ρ 0 (rL ρ (ρ 6) 0 + 1) 0 v → f_Planner_leastHarm_14 (m + 1) 40 (-1) (bh v w) = some (if rBest ρ < FAR then nI (rBest ρ) else -4, bh v w) ∧ kA ρ v := by
    intro m v hJ hP
    have kA1 : kA ρ v := fun l a b q1 q2 q3 => by rw [hP l a b q1 q2 q3, if_pos (by omega)]
    refine ⟨?_, kA1⟩
    have kb := kA1 0 (rL ρ (ρ 6) 0) (rL ρ (ρ 6) 1) (Nat.zero_le _) (Nat.le_refl _) (Nat.le_refl _)
    rw [kT_0] at kb
    have hle : rBest ρ ≤ FAR := rBst_le _ _ _ _ _ _
    show f_Planner_leastHarm_14b (f_Planner_leastHarm_14 m) 40 (-1) (bh v w) = _
    unfold f_Planner_leastHarm_14b
    rw [if_pos (by decide)]
    simp only [hP0, bd1_q]
    rw [rd3.1, bd1_s, rd3.2.1, bd1_s, hJ.2.1 0 (by decide), hJ.2.1 1 (by decide), show (0 : Int32) = nI 0 from rfl, pst_I, bd2_s]
    simp only [hP0, bd1_q]
    rw [rd_nI (by omega) (by decide), bd1_s, kb, show (1000000 : Int32) = nI 1000000 from rfl, ite_iff (nI_leI (by omega) (by omega))]
    by_cases c : rBest ρ < FAR
    · rw [if_neg (by omega), if_pos c]
    · rw [if_pos (by omega), if_neg c]
  have key : ∀ (l fuel : Nat) (v : Nat → Nat → Int32), l + 1 < fuel → l ≤ ρ 0 0 → pJ ρ v → kP ρ l 0 0 v → ∃ v', f_Planner_leastHarm_14 fuel 40 (nI l) (bh v w) = some (if rBest ρ < FAR then nI (rBest ρ) else -4, bh v' w) ∧ kA ρ v' ∧ pF2 v v' := by
    intro l
    induction l with
    | zero =>
      intro fuel v hf hl hJ hP
      obtain ⟨m, rfl⟩ : ∃ m, fuel = m + 1 + 1 := ⟨fuel - 2, by omega⟩
      obtain ⟨v1, e1, p1, f1⟩ := C_lh20 (w := w) hk (f_Planner_leastHarm_14 (m + 1)) hl (rL ρ (ρ 6) 0 + 1) FU 0 v (by unfold FU; omega) (by omega) hJ hP
      obtain ⟨g1, g2⟩ := last m v1 (hJ.fr (fun q hq => f1 q (by omega) (by omega))) p1
      rw [m1_0, g1] at e1
      have e1 : f_Planner_leastHarm_20 (f_Planner_leastHarm_14 (m + 1)) FU 40 (nI 0) 0 (bh v w) = some (if rBest ρ < FAR then nI (rBest ρ) else -4, bh v1 w) := e1
      refine ⟨v1, ?_, g2, f1⟩
      show f_Planner_leastHarm_14b (f_Planner_leastHarm_14 (m + 1)) 40 (nI 0) (bh v w) = _
      unfold f_Planner_leastHarm_14b
      rw [if_neg (nI_pos (by omega))]
      exact e1
    | succ l ih =>
      intro fuel v hf hl hJ hP
      obtain ⟨m, rfl⟩ : ∃ m, fuel = m + 1 := ⟨fuel - 1, by omega⟩
      obtain ⟨v1, e1, p1, f1⟩ := C_lh20 (w := w) hk (f_Planner_leastHarm_14 m) hl (rL ρ (ρ 6) 0 + 1) FU 0 v (by unfold FU; omega) (by omega) hJ hP
      obtain ⟨v2, e2, k2, f2⟩ := ih m v1 (by omega) (by omega) (hJ.fr (fun q hq => f1 q (by omega) (by omega))) (fun l' a b q1 q2 q3 => by
        rw [p1 l' a b q1 q2 q3]
        by_cases z : l + 1 < l' ∨ l' = l + 1 ∧ (a < rL ρ (ρ 6) 0 + 1 ∨ a = rL ρ (ρ 6) 0 + 1 ∧ b < 0)
        · rw [if_pos z, if_pos (by omega)]
        · rw [if_neg z, if_neg (by omega)])
      rw [m1_I l (by omega), e2] at e1
      have e1 : f_Planner_leastHarm_20 (f_Planner_leastHarm_14 m) FU 40 (nI (l + 1)) 0 (bh v w) = some (if rBest ρ < FAR then nI (rBest ρ) else -4, bh v2 w) := e1
      refine ⟨v2, ?_, k2, fun q h1 h2 => (f2 q h1 h2).trans (f1 q h1 h2)⟩
      show f_Planner_leastHarm_14b (f_Planner_leastHarm_14 m) 40 (nI (l + 1)) (bh v w) = _
      unfold f_Planner_leastHarm_14b
      rw [if_neg (nI_pos (by omega))]
      exact e1
  obtain ⟨v1, e1, g1, h1, -⟩ := fill_I (q := 47) (n := 216) (x := 1000000) (by omega) (fun _ _ => rfl) (fun v w i x => sI_bh rfl i x) v w
  have J1 : pJ ρ v1 := hJ.fr (fun q hq => g1 q (by omega))
  obtain ⟨v2, e2, k2, f2⟩ := key (ρ 0 0) FU v1 (by unfold FU; omega) (Nat.le_refl _) J1 (fun l a b q1 q2 q3 => by
    rw [h1 _ (by omega), if_neg (by omega)]
    rfl)
  refine ⟨v2, ?_, k2, fun q a b => (f2 q a b).trans (g1 q b)⟩
  unfold f_Planner_leastHarm f_Planner_leastHarm_0
  simp only [hP0, bd1_q]
  rw [e1]
  simp only [hP0, bd1_q]
  rw [J1.1]
  exact e2
/-- the way of the first rota -/
def rOp (ρ : Rho) (i : Nat) (P : Nat × Nat × Nat) : Nat → Nat → Nat := rOpt ρ (ρ 0 4) (rBst ρ (ρ 0 4) (ρ 0 0 - (i + 1))) i P.1 P.2.1 P.2.2
def rPth (ρ : Rho) : Nat → Nat × Nat × Nat
  | 0 => (rL ρ (ρ 6) 0, rL ρ (ρ 6) 1, rL ρ (ρ 6) 2)
  | i + 1 => ((rPth ρ i).1 - rArg (rOp ρ i (rPth ρ i)) 16 / 4, (rPth ρ i).2.1 - rArg (rOp ρ i (rPth ρ i)) 16 % 4, (rPth ρ i).2.2 - (sNeed ρ i - rArg (rOp ρ i (rPth ρ i)) 16 / 4 - rArg (rOp ρ i (rPth ρ i)) 16 % 4))
def tAt (ρ : Rho) (i : Nat) : Nat := rArg (rOp ρ i (rPth ρ i)) 16
theorem rPth_ok (hk : ROK ρ) (hb : rBest ρ < FAR) : ∀ i, i ≤ ρ 0 0 → ((rPth ρ i).1 ≤ rL ρ (ρ 6) 0 ∧ (rPth ρ i).2.1 ≤ rL ρ (ρ 6) 1 ∧ (rPth ρ i).2.2 ≤ rL ρ (ρ 6) 2) ∧ c3v ρ i (rPth ρ i).1 (rPth ρ i).2.1 = ((rPth ρ i).2.2 : Nat) ∧ rBst ρ (ρ 0 4) (ρ 0 0 - i) (rPth ρ i).1 (rPth ρ i).2.1 (rPth ρ i).2.2 < FAR
  | 0, _ => by
    refine ⟨⟨Nat.le_refl _, Nat.le_refl _, Nat.le_refl _⟩, ?_, hb⟩
    show c3v ρ 0 (rL ρ (ρ 6) 0) (rL ρ (ρ 6) 1) = (rL ρ (ρ 6) 2 : Nat)
    unfold c3v
    show (rL ρ (ρ 6) 2 : Int) - ((0 : Nat) : Int) + _ - _ + _ - _ = _
    omega
  | i + 1, hi => by
    obtain ⟨⟨a1, a2, a3⟩, a4, a5⟩ := rPth_ok hk hb i (by omega)
    rw [rBst_s (show i < ρ 0 0 by omega)] at a5
    obtain ⟨t1, t2, -⟩ := rArg_ok (rOp ρ i (rPth ρ i)) 16 a5
    have lt : rOp ρ i (rPth ρ i) (tAt ρ i / 4) (tAt ρ i % 4) < FAR := by
      show rOp ρ i (rPth ρ i) (rArg (rOp ρ i (rPth ρ i)) 16 / 4) (rArg (rOp ρ i (rPth ρ i)) 16 % 4) < FAR
      rw [t2]; exact a5
    have e1 : (rPth ρ (i + 1)).1 = (rPth ρ i).1 - tAt ρ i / 4 := rfl
    have e2 : (rPth ρ (i + 1)).2.1 = (rPth ρ i).2.1 - tAt ρ i % 4 := rfl
    have e3 : (rPth ρ (i + 1)).2.2 = (rPth ρ i).2.2 - (sNeed ρ i - tAt ρ i / 4 - tAt ρ i % 4) := rfl
    rw [e1, e2, e3]
    generalize tAt ρ i / 4 = x at lt
    generalize tAt ρ i % 4 = y at lt
    unfold rOp rOpt at lt
    rw [rN_st] at lt
    split at lt
    · next c =>
      unfold rVal at lt
      split at lt
      · next d =>
        obtain ⟨d1, d2, d3, d4, d5, d6, d7⟩ := d
        refine ⟨⟨by omega, by omega, by omega⟩, ?_, d7⟩
        have : c3v ρ (i + 1) ((rPth ρ i).1 - x) ((rPth ρ i).2.1 - y) = c3v ρ i (rPth ρ i).1 (rPth ρ i).2.1 - sNeed ρ i + x + y := by
          unfold c3v
          show (rL ρ (ρ 6) 2 : Int) - ((sumN (sNeed ρ) i + sNeed ρ i : Nat) : Int) + _ - (((rPth ρ i).1 - x : Nat) : Int) + _ - (((rPth ρ i).2.1 - y : Nat) : Int) = _
          omega
        omega
      · exact absurd lt (Nat.lt_irrefl _)
    · exact absurd lt (Nat.lt_irrefl _)
/-- how often p breaks the law l in the first rota -/
def rSh (ρ : Rho) (l p : Nat) : Nat := if p = 0 then tAt ρ l / 4 else if p = 1 then tAt ρ l % 4 else sNeed ρ l - tAt ρ l / 4 - tAt ρ l % 4
theorem C_timesL (hk : ROK ρ) (hb : rBest ρ < FAR) {p l : Nat} (hp : p < 3) (hl : l < ρ 0 0) : ∀ (k fuel i : Nat) (v : Nat → Nat → Int32), k < fuel → i + k = l + 1 → pJ ρ v → kA ρ v → (∀ j, i = j + 1 → v 46 j = nI (rSh ρ j 0) ∧ v 46 (5 + j) = nI (rSh ρ j 1) ∧ v 46 (10 + j) = nI (rSh ρ j 2)) → ∃ v', f_Planner_timesInFirst_18 fuel 40 (nI p) (nI l) (nI (rPth ρ i).1) (nI (rPth ρ i).2.1) (nI i) (bh v w) = some (nI (rSh ρ l p), bh v' w) ∧ ∀ q, q ≠ 46 → v' q = v q := by
  have h0 := hk.1.1
  have a5 := rL5 hk 0
  have b5 := rL5 hk 1
  intro k
  induction k with
  | zero =>
    intro fuel i v hf hi hJ hA ho
    obtain ⟨m, rfl⟩ : ∃ m, fuel = m + 1 := ⟨fuel - 1, by omega⟩
    obtain ⟨o1, o2, o3⟩ := ho l (by omega)
    refine ⟨v, ?_, fun _ _ => rfl⟩
    show f_Planner_timesInFirst_18b (f_Planner_timesInFirst_18 m) 40 (nI p) (nI l) _ _ (nI i) (bh v w) = _
    unfold f_Planner_timesInFirst_18b
    rw [if_pos (nI_lt (by omega) (by omega))]
    simp only [hP0, bd1_q]
    rw [show (5 : Int32) = nI 5 from rfl, pk_mul, nI_add, Nat.mul_comm p 5, rd_nI (by omega) (by decide), bd1_s]
    rcases (show p = 0 ∨ p = 1 ∨ p = 2 by omega) with rfl | rfl | rfl
    · rw [show 5 * 0 + l = l by omega, o1]
    · rw [show 5 * 1 + l = 5 + l by omega, o2]
    · rw [show 5 * 2 + l = 10 + l by omega, o3]
  | succ k ih =>
    intro fuel i v hf hi hJ hA ho
    obtain ⟨m, rfl⟩ : ∃ m, fuel = m + 1 := ⟨fuel - 1, by omega⟩
    obtain ⟨⟨p1, p2, p3⟩, p4, p5⟩ := rPth_ok hk hb i (by omega)
    obtain ⟨⟨n1, n2, n3⟩, -, -⟩ := rPth_ok hk hb (i + 1) (by omega)
    obtain ⟨v1, e1, f1, o1⟩ := C_search (w := w) (l := i) (a := (rPth ρ i).1) (b := (rPth ρ i).2.1) hJ hk (by omega) (by omega) (by omega) (by omega) (fun a' b' h1 h2 => hA (i + 1) a' b' (by omega) (by omega) (by omega))
    have p5' := p5
    rw [rBst_s (show i < ρ 0 0 by omega)] at p5'
    have er : rOpt ρ (ρ 0 4) (rBst ρ (ρ 0 4) (ρ 0 0 - (i + 1))) i (rPth ρ i).1 (rPth ρ i).2.1 (c3v ρ i (rPth ρ i).1 (rPth ρ i).2.1).toNat = rOp ρ i (rPth ρ i) := by
      unfold rOp
      rw [p4]
      rfl
    rw [er] at o1
    obtain ⟨s1, s2, s3⟩ := o1 p5'
    obtain ⟨tb, tf, -⟩ := rArg_ok (rOp ρ i (rPth ρ i)) 16 p5'
    have le : tAt ρ i / 4 ≤ (rPth ρ i).1 ∧ tAt ρ i % 4 ≤ (rPth ρ i).2.1 := by
      have lt : rOp ρ i (rPth ρ i) (tAt ρ i / 4) (tAt ρ i % 4) < FAR := by
        show rOp ρ i (rPth ρ i) (rArg (rOp ρ i (rPth ρ i)) 16 / 4) (rArg (rOp ρ i (rPth ρ i)) 16 % 4) < FAR
        rw [tf]; exact p5'
      unfold rOp rOpt at lt
      split at lt
      · unfold rVal at lt
        split at lt
        · next d => exact ⟨d.1, d.2.1⟩
        · exact absurd lt (Nat.lt_irrefl _)
      · exact absurd lt (Nat.lt_irrefl _)
    have s1 : v1 46 i = nI (tAt ρ i / 4) := s1
    have s2 : v1 46 (5 + i) = nI (tAt ρ i % 4) := s2
    have s3 : v1 46 (10 + i) = nI (sNeed ρ i - tAt ρ i / 4 - tAt ρ i % 4) := s3
    obtain ⟨v2, e2, f2⟩ := ih m (i + 1) v1 (by omega) (by omega) (hJ.fr (fun q hq => f1 q (by omega))) (fun l' a b q1 q2 q3 => by rw [f1 47 (by decide)]; exact hA l' a b q1 q2 q3) (fun j hj => by
      obtain rfl : j = i := by omega
      exact ⟨s1, s2, s3⟩)
    refine ⟨v2, ?_, fun q hq => (f2 q hq).trans (f1 q hq)⟩
    show f_Planner_timesInFirst_18b (f_Planner_timesInFirst_18 m) 40 (nI p) (nI l) _ _ (nI i) (bh v w) = _
    unfold f_Planner_timesInFirst_18b
    rw [if_neg (nI_nlt (by omega) (by omega))]
    simp only [hP0, bd1_q]
    rw [e1, bd2_s]
    simp only [hP0, bd1_q]
    rw [rd_nI (by omega) (by decide), bd1_s, show (5 : Int32) = nI 5 from rfl, nI_add, rd_nI (by omega) (by decide), bd1_s, s1, s2, pk_sub le.1, pk_sub le.2, nI_1]
    exact e2
theorem C_times (hJ : pJ ρ v) (hA : kA ρ v) (hk : ROK ρ) (hb : rBest ρ < FAR) {p l : Nat} (hp : p < 3) (hl : l < ρ 0 0) : ∃ v', f_Planner_timesInFirst 40 (nI p) (nI l) (bh v w) = some (nI (rSh ρ l p), bh v' w) ∧ ∀ q, q ≠ 46 → v' q = v q := by
  have h0 := hk.1.1
  obtain ⟨v', e1, f1⟩ := C_timesL (w := w) hk hb hp hl (l + 1) FU 0 v (by unfold FU; omega) (by omega) hJ hA (fun j hj => by omega)
  have e1 : f_Planner_timesInFirst_18 FU 40 (nI p) (nI l) (nI (rL ρ (ρ 6) 0)) (nI (rL ρ (ρ 6) 1)) 0 (bh v w) = some (nI (rSh ρ l p), bh v' w) := e1
  refine ⟨v', ?_, f1⟩
  unfold f_Planner_timesInFirst f_Planner_timesInFirst_0
  simp only [hP0, bd1_q]
  rw [rd3.1, bd1_s, rd3.2.1, bd1_s, hJ.2.1 0 (by decide), hJ.2.1 1 (by decide)]
  exact e1
end
end
/-! 8zr3.rota.lean.txt -/
section
/-! rota: the reference's shares; both answer alike -/
theorem hW0 (v : Nat → Nat → Int32) (w : Nat → Nat → Int64) : kC (bh v w) 100 8 = some () ∧ gR (bh v w) 100 8 0 = some 101 ∧ gR (bh v w) 100 8 27 = some 115 ∧ gR (bh v w) 100 8 28 = some 116 ∧ gR (bh v w) 100 8 29 = some 117 ∧ gR (bh v w) 100 8 30 = some 118 ∧ (∀ i, aI (bh v w) 0 101 i = rd (v 101) 198 i) ∧ (∀ i, aI (bh v w) 0 115 i = rd (v 115) 24576 i) ∧ (∀ i, aI (bh v w) 0 116 i = rd (v 116) 5 i) ∧ (∀ i, aI (bh v w) 0 117 i = rd (v 117) 3 i) ∧ (∀ i, aI (bh v w) 0 118 i = rd (v 118) 3 i) ∧ (∀ i x, sI (bh v w) 0 118 i x = wr v w 118 3 i x) := ⟨rfl, rfl, rfl, rfl, rfl, rfl, aI_bh rfl, aI_bh rfl, aI_bh rfl, aI_bh rfl, aI_bh rfl, sI_bh rfl⟩
section
variable {ρ : Rho} {v : Nat → Nat → Int32} {w : Nat → Nat → Int64}
/-- the reference's tables of a rota -/
def rT (ρ : Rho) (v : Nat → Nat → Int32) : Prop := rBase ρ (ρ 0 4) (ρ 6) (rL ρ (ρ 6) 0) (rL ρ (ρ 6) 1) (rL ρ (ρ 6) 2) v ∧ rAll ρ (ρ 0 4) (rL ρ (ρ 6) 0) (rL ρ (ρ 6) 1) (rL ρ (ρ 6) 2) v
theorem rT.fr {v' : Nat → Nat → Int32} (h : rT ρ v) (hq : ∀ q, q ≠ 118 → v' q = v q) : rT ρ v' := by
  obtain ⟨⟨h1, h2, h3, h4, h5⟩, h6⟩ := h
  unfold rT rBase rAll
  rw [hq 115 (by decide), hq 116 (by decide), hq 117 (by decide)]
  exact ⟨⟨h1.frame (fun q z => hq q (by omega)), h2, h3, h4, h5⟩, h6⟩
def sF (t need u : Nat) (fl : Int32) (v : Nat → Nat → Int32) : Prop := u ≤ t ∧ fl = 0 ∨ t < u ∧ fl = 1 ∧ v 118 0 = nI (t / 4) ∧ v 118 1 = nI (t % 4) ∧ v 118 2 = nI (need - t / 4 - t % 4)
theorem M_sharesOf (hT : rT ρ v) (hk : ROK ρ) {l a b c : Nat} (hl : l < ρ 0 0) (ha : a ≤ rL ρ (ρ 6) 0) (hb : b ≤ rL ρ (ρ 6) 1) (hc : c ≤ rL ρ (ρ 6) 2) (hB : rBst ρ (ρ 0 4) (ρ 0 0 - l) a b c < FAR) : ∃ v', f_M_sharesOf 100 (nI l) (nI a) (nI b) (nI c) (bh v w) = some (bh v' w) ∧ (v' 118 0 = nI (rArg (rOp ρ l (a, b, c)) 16 / 4) ∧ v' 118 1 = nI (rArg (rOp ρ l (a, b, c)) 16 % 4) ∧ v' 118 2 = nI (sNeed ρ l - rArg (rOp ρ l (a, b, c)) 16 / 4 - rArg (rOp ρ l (a, b, c)) 16 % 4)) ∧ ∀ q, q ≠ 118 → v' q = v q := by
  have h0 := hk.1.1
  have a5 := rL5 hk 0
  have b5 := rL5 hk 1
  have c5 := rL5 hk 2
  have hN := sNeed_le hk hl
  have FR : FAR = 1000000 := rfl
  have eb := rBst_s (ρ := ρ) (s := ρ 0 4) hl a b c
  have hf : rOpt ρ (ρ 0 4) (rBst ρ (ρ 0 4) (ρ 0 0 - (l + 1))) l a b c = rOp ρ l (a, b, c) := rfl
  rw [hf] at eb
  have hM : rMin (rOp ρ l (a, b, c)) 16 < FAR := by rw [← eb]; exact hB
  obtain ⟨t1, t2, t3⟩ := rArg_ok (rOp ρ l (a, b, c)) 16 hM
  generalize ht : rArg (rOp ρ l (a, b, c)) 16 = t at t1 t2 t3
  have fv : ∀ x y, rOp ρ l (a, b, c) x y = if x + y ≤ sNeed ρ l ∧ sNeed ρ l - x - y ≤ 3 then rVal ρ l a b c x y (sNeed ρ l - x - y) (rBst ρ (ρ 0 4) (ρ 0 0 - (l + 1)) (a - x) (b - y) (c - (sNeed ρ l - x - y))) else FAR := by
    intro x y
    unfold rOp rOpt
    rw [rN_st]
  generalize hg : rOp ρ l (a, b, c) = f at fv t2 t3 hM eb
  generalize hbest : rMin f 16 = best at t2 t3 hM eb
  have k30 : ∀ (rec21 : Nat → Int32 → Int32 → Int32 → Int32 → Int32 → Int32 → Int32 → mH → Option mH) (x : Nat), x ≤ 3 → ∀ (k fuel y : Nat) (fl : Int32) (v : Nat → Nat → Int32), k < fuel → y + k = 4 → rT ρ v → sF t (sNeed ρ l) (4 * x + y) fl v → ∃ fl' v', f_M_sharesOf_30 rec21 fuel 100 (nI l) (nI a) (nI b) (nI c) (nI best) fl (nI x) (nI y) (bh v w) = rec21 100 (nI l) (nI a) (nI b) (nI c) (nI best) fl' (nI (x + 1)) (bh v' w) ∧ sF t (sNeed ρ l) (4 * (x + 1)) fl' v' ∧ ∀ q, q ≠ 118 → v' q = v q := by
    intro rec21 x hx k
    induction k with
    | zero =>
      intro fuel y fl v hfu hy hT hs
      obtain ⟨m, rfl⟩ : ∃ m, fuel = m + 1 := ⟨fuel - 1, by omega⟩
      refine ⟨fl, v, ?_, by rw [show 4 * (x + 1) = 4 * x + y by omega]; exact hs, fun _ _ => rfl⟩
      show f_M_sharesOf_30b rec21 (f_M_sharesOf_30 rec21 m) 100 (nI l) (nI a) (nI b) (nI c) (nI best) fl (nI x) (nI y) (bh v w) = _
      unfold f_M_sharesOf_30b
      rw [show (3 : Int32) = nI 3 from rfl, if_pos (nI_lt (by omega) (by omega)), nI_1]
    | succ k ih =>
      intro fuel y fl v hfu hy hT hs
      obtain ⟨m, rfl⟩ : ∃ m, fuel = m + 1 := ⟨fuel - 1, by omega⟩
      have go : ∀ (fo : Int32) (v1 : Nat → Nat → Int32), (∀ q, q ≠ 118 → v1 q = v q) → sF t (sNeed ρ l) (4 * x + (y + 1)) fo v1 → ∃ fl' v', f_M_sharesOf_30 rec21 m 100 (nI l) (nI a) (nI b) (nI c) (nI best) fo (nI x) (nI (y + 1)) (bh v1 w) = rec21 100 (nI l) (nI a) (nI b) (nI c) (nI best) fl' (nI (x + 1)) (bh v' w) ∧ sF t (sNeed ρ l) (4 * (x + 1)) fl' v' ∧ ∀ q, q ≠ 118 → v' q = v q := by
        intro fo v1 f1 s1
        obtain ⟨fl2, v2, e2, s2, f2⟩ := ih m (y + 1) fo v1 (by omega) (by omega) (hT.fr f1) s1
        exact ⟨fl2, v2, e2, s2, fun q hq => (f2 q hq).trans (f1 q hq)⟩
      have n116 : v 116 l = nI (sNeed ρ l) := by rw [hT.1.2.1 l hl, rN_st]
      show ∃ fl' v', f_M_sharesOf_30b rec21 (f_M_sharesOf_30 rec21 m) 100 (nI l) (nI a) (nI b) (nI c) (nI best) fl (nI x) (nI y) (bh v w) = _ ∧ _
      unfold f_M_sharesOf_30b f_M_sharesOf_115
      rw [show (3 : Int32) = nI 3 from rfl, if_neg (nI_nlt (by omega) (by omega))]
      simp only [hW0, bd1_q]
      rw [rd_nI (by omega) (by decide), bd1_s, n116, nI_1]
      rcases hs with ⟨hu, rfl⟩ | ⟨hu, rfl, w0, w1, w2⟩
      · rw [if_pos rfl, show nI (sNeed ρ l) - nI x - nI y = zI ((sNeed ρ l : Int) - x - y) by rw [← zI_n (sNeed ρ l), zI_subn, zI_subn], M_in, bd2_s, show (3 : Int64) = (zI 3).toInt64 from rfl]
        have ne : f x y ≠ best → 4 * x + (y + 1) ≤ t := by
          intro h
          rcases Nat.lt_or_ge (4 * x + y) t with q | q
          · omega
          · have : t = 4 * x + y := by omega
            rw [this, show (4 * x + y) / 4 = x by omega, show (4 * x + y) % 4 = y by omega] at t2
            exact absurd t2 h
        by_cases g : 0 ≤ (sNeed ρ l : Int) - x - y ∧ (sNeed ρ l : Int) - x - y ≤ 3
        · rw [if_pos ((in_lay (by decide) (by decide)).mpr (by rw [zI_t (by omega) (by omega)]; exact g)), if_neg (by decide)]
          simp only [hW0, bd1_q]
          obtain ⟨z, hz⟩ : ∃ z : Nat, (sNeed ρ l : Int) - x - y = z := ⟨((sNeed ρ l : Int) - x - y).toNat, by omega⟩
          have ez : sNeed ρ l - x - y = z := by omega
          have hBo := rBst_or hk (ρ 0 4) (ρ 0 0 - (l + 1)) (a - x) (b - y) (c - z) (by omega)
          have ef : f x y = rVal ρ l a b c x y z (rBst ρ (ρ 0 4) (ρ 0 0 - (l + 1)) (a - x) (b - y) (c - z)) := by rw [fv, if_pos (by omega), ez]
          have hv := rVal_or hk (a := a) (b := b) (c := c) (x := x) (y := y) (z := z) hl hBo
          rw [← ef] at hv
          rw [hz, zI_n, M_harmBy hT.1.1 hk (B := rBst ρ (ρ 0 4) (ρ 0 0 - (l + 1)) (a - x) (b - y) (c - z)) hl (by omega) (by omega) (by omega) hx (by omega) (by omega) (by omega) (fun _ _ _ => hT.2 (l + 1) _ _ _ (by omega) (by omega) (by omega) (by omega)), bd2_s, ← ef, ite_iff (nI_eqI (by omega) (by omega))]
          by_cases e : f x y = best
          · have te : t = 4 * x + y := by
              rcases Nat.lt_or_ge (4 * x + y) t with q | q
              · have := t3 (4 * x + y) q
                rw [show (4 * x + y) / 4 = x by omega, show (4 * x + y) % 4 = y by omega] at this
                exact absurd e this
              · omega
            rw [if_pos e]
            simp only [hW0, bd1_q]
            rw [show (0 : Int32) = nI 0 from rfl, wr_nI (by decide) (by decide), bd1_s]
            simp only [hW0, bd1_q]
            rw [show (1 : Int32) = nI 1 from rfl, wr_nI (by decide) (by decide), bd1_s]
            simp only [hW0, bd1_q]
            rw [show (2 : Int32) = nI 2 from rfl, wr_nI (by decide) (by decide), bd1_s]
            refine go (nI 1) (u2 (u2 (u2 v 118 0 (nI x)) 118 1 (nI y)) 118 2 (nI z)) (fun q hq => (u2_o hq).trans ((u2_o hq).trans (u2_o hq))) (Or.inr ⟨by omega, rfl, ?_, ?_, ?_⟩)
            · rw [u2_n (by decide), u2_n (by decide), u2_at, te, show (4 * x + y) / 4 = x by omega]
            · rw [u2_n (by decide), u2_at, te, show (4 * x + y) % 4 = y by omega]
            · rw [u2_at, te, show (4 * x + y) / 4 = x by omega, show (4 * x + y) % 4 = y by omega, ez]
          · rw [if_neg e]
            exact go 0 v (fun _ _ => rfl) (Or.inl ⟨ne e, rfl⟩)
        · have gi : ¬ ((0 : Int64) ≤ (zI ((sNeed ρ l : Int) - x - y)).toInt64 ∧ (zI ((sNeed ρ l : Int) - x - y)).toInt64 ≤ (zI 3).toInt64) := fun q => g (by
            have := (in_lay (y := zI ((sNeed ρ l : Int) - x - y)) (m := 3) (by decide) (by decide)).mp q
            rwa [zI_t (by omega) (by omega)] at this)
          have ef : f x y = FAR := by rw [fv, if_neg (by omega)]
          rw [if_neg gi, if_pos rfl]
          exact go 0 v (fun _ _ => rfl) (Or.inl ⟨ne (by omega), rfl⟩)
      · rw [if_neg (by decide)]
        exact go 1 v (fun _ _ => rfl) (Or.inr ⟨by omega, rfl, w0, w1, w2⟩)
  have k21 : ∀ (k fuel x : Nat) (fl : Int32) (v : Nat → Nat → Int32), k < fuel → x + k = 4 → rT ρ v → sF t (sNeed ρ l) (4 * x) fl v → ∃ v', f_M_sharesOf_21 fuel 100 (nI l) (nI a) (nI b) (nI c) (nI best) fl (nI x) (bh v w) = some (bh v' w) ∧ (v' 118 0 = nI (t / 4) ∧ v' 118 1 = nI (t % 4) ∧ v' 118 2 = nI (sNeed ρ l - t / 4 - t % 4)) ∧ ∀ q, q ≠ 118 → v' q = v q := by
    intro k
    induction k with
    | zero =>
      intro fuel x fl v hfu hx hT hs
      obtain ⟨m, rfl⟩ : ∃ m, fuel = m + 1 := ⟨fuel - 1, by omega⟩
      rcases hs with ⟨hu, -⟩ | ⟨hu, -, w0⟩
      · omega
      · refine ⟨v, ?_, w0, fun _ _ => rfl⟩
        show f_M_sharesOf_21b (f_M_sharesOf_21 m) 100 (nI l) (nI a) (nI b) (nI c) (nI best) fl (nI x) (bh v w) = _
        unfold f_M_sharesOf_21b
        rw [show (3 : Int32) = nI 3 from rfl, if_pos (nI_lt (by omega) (by omega))]
    | succ k ih =>
      intro fuel x fl v hfu hx hT hs
      obtain ⟨m, rfl⟩ : ∃ m, fuel = m + 1 := ⟨fuel - 1, by omega⟩
      obtain ⟨fl1, v1, e1, s1, f1⟩ := k30 (f_M_sharesOf_21 m) x (by omega) 4 FU 0 fl v (by decide) (by decide) hT hs
      have e1 : f_M_sharesOf_30 (f_M_sharesOf_21 m) FU 100 (nI l) (nI a) (nI b) (nI c) (nI best) fl (nI x) 0 (bh v w) = f_M_sharesOf_21 m 100 (nI l) (nI a) (nI b) (nI c) (nI best) fl1 (nI (x + 1)) (bh v1 w) := e1
      obtain ⟨v2, e2, s2, f2⟩ := ih m (x + 1) fl1 v1 (by omega) (by omega) (hT.fr f1) s1
      refine ⟨v2, ?_, s2, fun q hq => (f2 q hq).trans (f1 q hq)⟩
      show f_M_sharesOf_21b (f_M_sharesOf_21 m) 100 (nI l) (nI a) (nI b) (nI c) (nI best) fl (nI x) (bh v w) = _
      unfold f_M_sharesOf_21b
      rw [show (3 : Int32) = nI 3 from rfl, if_neg (nI_nlt (by omega) (by omega))]
      exact e1.trans e2
  obtain ⟨v', e1, s1, f1⟩ := k21 4 FU 0 0 v (by decide) (by decide) hT (Or.inl ⟨Nat.zero_le _, rfl⟩)
  have e1 : f_M_sharesOf_21 FU 100 (nI l) (nI a) (nI b) (nI c) (nI best) 0 0 (bh v w) = some (bh v' w) := e1
  refine ⟨v', ?_, s1, f1⟩
  unfold f_M_sharesOf f_M_sharesOf_0
  simp only [hW0, bd1_q]
  rw [M_at, bd2_s]
  simp only [hW0, bd1_q]
  rw [rd_nI (by unfold atN; omega) (by decide), bd1_s, hT.2 l a b c (by omega) ha hb hc, eb]
  exact e1
theorem M_rotaL (hk : ROK ρ) (hb : rBest ρ < FAR) {p l : Nat} {x : Int32} (hp : p < 3) (hl : l < ρ 0 0) (e1 : (x - (10 : Int32)) / (3 : Int32) = nI l) (e2 : (x - (10 : Int32)) - nI l * (3 : Int32) = nI p) : ∀ (k fuel i : Nat) (v : Nat → Nat → Int32), k < fuel → i + k = l + 1 → rT ρ v → (∀ j, i = j + 1 → v 118 0 = nI (rSh ρ j 0) ∧ v 118 1 = nI (rSh ρ j 1) ∧ v 118 2 = nI (rSh ρ j 2)) → ∃ v', f_M_rota_103 fuel 100 x (nI (rPth ρ i).1) (nI (rPth ρ i).2.1) (nI (rPth ρ i).2.2) (nI i) (bh v w) = some (nI (rSh ρ l p), bh v' w) ∧ ∀ q, q ≠ 118 → v' q = v q := by
  have h0 := hk.1.1
  intro k
  induction k with
  | zero =>
    intro fuel i v hf hi hT ho
    obtain ⟨m, rfl⟩ : ∃ m, fuel = m + 1 := ⟨fuel - 1, by omega⟩
    obtain ⟨o1, o2, o3⟩ := ho l (by omega)
    refine ⟨v, ?_, fun _ _ => rfl⟩
    show f_M_rota_103b (f_M_rota_103 m) 100 x _ _ _ (nI i) (bh v w) = _
    unfold f_M_rota_103b
    rw [e1, if_pos (nI_lt (by omega) (by omega))]
    simp only [hW0, bd1_q]
    rw [e2, rd_nI hp (by decide), bd1_s]
    rcases (show p = 0 ∨ p = 1 ∨ p = 2 by omega) with rfl | rfl | rfl
    · rw [o1]
    · rw [o2]
    · rw [o3]
  | succ k ih =>
    intro fuel i v hf hi hT ho
    obtain ⟨m, rfl⟩ : ∃ m, fuel = m + 1 := ⟨fuel - 1, by omega⟩
    obtain ⟨⟨p1, p2, p3⟩, p4, p5⟩ := rPth_ok hk hb i (by omega)
    obtain ⟨v1, g1, ⟨s1, s2, s3⟩, f1⟩ := M_sharesOf (w := w) (l := i) (a := (rPth ρ i).1) (b := (rPth ρ i).2.1) (c := (rPth ρ i).2.2) hT hk (by omega) p1 p2 p3 p5
    have s1 : v1 118 0 = nI (tAt ρ i / 4) := s1
    have s2 : v1 118 1 = nI (tAt ρ i % 4) := s2
    have s3 : v1 118 2 = nI (sNeed ρ i - tAt ρ i / 4 - tAt ρ i % 4) := s3
    have p5' := p5
    rw [rBst_s (show i < ρ 0 0 by omega)] at p5'
    obtain ⟨tb, tf, -⟩ := rArg_ok (rOp ρ i (rPth ρ i)) 16 p5'
    have le : tAt ρ i / 4 ≤ (rPth ρ i).1 ∧ tAt ρ i % 4 ≤ (rPth ρ i).2.1 ∧ sNeed ρ i - tAt ρ i / 4 - tAt ρ i % 4 ≤ (rPth ρ i).2.2 := by
      have lt : rOp ρ i (rPth ρ i) (tAt ρ i / 4) (tAt ρ i % 4) < FAR := by
        show rOp ρ i (rPth ρ i) (rArg (rOp ρ i (rPth ρ i)) 16 / 4) (rArg (rOp ρ i (rPth ρ i)) 16 % 4) < FAR
        rw [tf]; exact p5'
      unfold rOp rOpt at lt
      rw [rN_st] at lt
      split at lt
      · unfold rVal at lt
        split at lt
        · next d => exact ⟨d.1, d.2.1, d.2.2.1⟩
        · exact absurd lt (Nat.lt_irrefl _)
      · exact absurd lt (Nat.lt_irrefl _)
    obtain ⟨v2, g2, f2⟩ := ih m (i + 1) v1 (by omega) (by omega) (hT.fr f1) (fun j hj => by
      obtain rfl : j = i := by omega
      exact ⟨s1, s2, s3⟩)
    refine ⟨v2, ?_, fun q hq => (f2 q hq).trans (f1 q hq)⟩
    show f_M_rota_103b (f_M_rota_103 m) 100 x _ _ _ (nI i) (bh v w) = _
    unfold f_M_rota_103b
    rw [e1, if_neg (nI_nlt (by omega) (by omega))]
    simp only [hW0, bd1_q]
    rw [g1]
    simp only [hW0, bd1_q]
    rw [rd3.1, bd1_s, rd3.2.1, bd1_s, rd3.2.2, bd1_s, s1, s2, s3, pk_sub le.1, pk_sub le.2.1, pk_sub le.2.2, nI_1]
    exact g2
/-- what rota answers, once what is asked is right -/
def rAns (ρ : Rho) (x : Int32) (l p : Nat) : Int32 := if rBest ρ < FAR then (if x = 0 then nI (rBest ρ) else nI (rSh ρ l p)) else -4
theorem nI_n4 {n : Nat} (h : n < 2 ^ 31) : ¬ nI n = (-4 : Int32) := fun z => by
  have := congrArg Int32.toInt z
  rw [nI_toInt h, show (-4 : Int32).toInt = -4 by decide] at this
  omega
theorem M_rota38 (hr : MR ρ v) (hk : ROK ρ) {x : Int32} {p l : Nat} (h : x = 0 ∨ p < 3 ∧ l < ρ 0 0 ∧ (x - (10 : Int32)) / (3 : Int32) = nI l ∧ (x - (10 : Int32)) - nI l * (3 : Int32) = nI p) : ∃ v', f_M_rota_38 100 x (bh v w) = some (rAns ρ x l p, bh v' w) ∧ ∀ q, q < 115 ∨ 118 < q → v' q = v q := by
  have ht5 : ∀ q, q < ρ 0 1 → ρ 6 q ≤ 5 := fun q hq => (hk.2.2.1 q hq).1
  have a10 : v 101 10 = nI (ρ 0 4) := hr.2.2.2.1
  have FR : FAR = 1000000 := rfl
  obtain ⟨v2, e2, B2, f2⟩ := M_startsRota (w := w) (s := ρ 0 4) (MRt_of hr) hk (fun q hq => Nat.le_trans (ht5 q hq) (by decide)) hk.st
  obtain ⟨v3, e3, A3, f3⟩ := M_findRota (w := w) hk (Nat.lt_of_le_of_lt (rL5 hk 0) (by decide)) (Nat.lt_of_le_of_lt (rL5 hk 1) (by decide)) (Nat.lt_of_le_of_lt (rL5 hk 2) (by decide)) B2
  have T3 : rT ρ v3 := ⟨B2.frame f3, A3⟩
  have fr : ∀ q, q < 115 ∨ 118 < q → v3 q = v q := fun q hq => (f3 q (by omega)).trans (f2 q (by omega) (by omega))
  have hle : rBest ρ ≤ FAR := rBst_le _ _ _ _ _ _
  have e3 : f_M_findRota 100 (bh v2 w) = some (nI (rBest ρ), bh v3 w) := e3
  unfold f_M_rota_38 f_M_rota_64 rAns
  simp only [hW0, bd1_q]
  rw [show (10 : Int32) = nI 10 from rfl, rd_nI (by decide) (by decide), bd1_s, a10, e2]
  simp only [hW0, bd1_q]
  rw [e3, bd2_s, ite_iff (FAR_ne hle)]
  by_cases c : rBest ρ = FAR
  · rw [if_pos c, if_pos ((FAR_ne hle).mpr c), if_neg (by omega)]
    exact ⟨v3, rfl, fr⟩
  · rw [if_neg c, if_pos (show rBest ρ < FAR by omega)]
    by_cases z : x = 0
    · rw [if_pos z, if_neg (fun q => c ((FAR_ne hle).mp q)), if_pos z]
      exact ⟨v3, rfl, fr⟩
    · rw [if_neg z, if_neg z]
      obtain ⟨hp, hl, q1, q2⟩ := h.resolve_left z
      simp only [hW0, bd1_q]
      rw [rd3.1, bd1_s, rd3.2.1, bd1_s, rd3.2.2, bd1_s, T3.1.2.2.1, T3.1.2.2.2.1, T3.1.2.2.2.2]
      obtain ⟨v4, e4, f4⟩ := M_rotaL (w := w) hk (show rBest ρ < FAR by omega) hp hl q1 q2 (l + 1) FU 0 v3 (by have := hk.1.1; unfold FU; omega) (by omega) T3 (fun j hj => by omega)
      have e4 : f_M_rota_103 FU 100 x (nI (rL ρ (ρ 6) 0)) (nI (rL ρ (ρ 6) 1)) (nI (rL ρ (ρ 6) 2)) 0 (bh v3 w) = some (nI (rSh ρ l p), bh v4 w) := e4
      exact ⟨v4, e4, fun q hq => (f4 q (by omega)).trans (fr q hq)⟩
theorem C_rota43 (hr : CR 3 ρ v) (hk : ROK ρ) (h43 : v 43 0 = 0) {x y : Int32} {p l : Nat} (h : x = 0 ∨ p < 3 ∧ l < ρ 0 0 ∧ y / (3 : Int32) = nI l ∧ y - nI l * (3 : Int32) = nI p) : ∃ v', f_Q_rota_43 0 x y (bh v w) = some (rAns ρ x l p, bh v' w) ∧ (∀ q, q < 40 ∨ 48 ≤ q → v' q = v q) ∧ v' 43 0 = 0 := by
  have FR : FAR = 1000000 := rfl
  obtain ⟨v1, e1, i1, f1⟩ := C_load (w := w) hr hk h43
  have J1 := pI_pJ i1
  obtain ⟨v2, e2, k2, f2⟩ := C_leastHarm (w := w) J1 hk
  have J2 : pJ ρ v2 := J1.fr (fun q hq => f2 q (by omega) (by omega))
  have fr : ∀ q, q < 40 ∨ 48 ≤ q → v2 q = v q := fun q hq => (f2 q (by omega) (by omega)).trans (f1 q (by omega))
  have a43 : v2 43 0 = 0 := J2.2.2.2.1 0 (Nat.zero_le _)
  unfold f_Q_rota_43 f_Q_rota_74 rAns
  simp only [hP0, bd1_q]
  rw [e1]
  simp only [hP0, bd1_q]
  rw [e2, bd2_s]
  by_cases c : rBest ρ < FAR
  · rw [if_pos c, if_pos c, if_neg (nI_n4 (by omega))]
    by_cases z : x = 0
    · rw [if_pos z, if_pos z]
      exact ⟨v2, rfl, fr, a43⟩
    · rw [if_neg z, if_neg z]
      obtain ⟨hp, hl, q1, q2⟩ := h.resolve_left z
      simp only [hP0, bd1_q]
      obtain ⟨v3, e3, f3⟩ := C_times (w := w) J2 k2 hk c hp hl
      rw [q1, q2, e3, bd2_s]
      exact ⟨v3, rfl, fun q hq => (f3 q (by omega)).trans (fr q hq), by rw [f3 43 (by decide)]; exact a43⟩
  · rw [if_neg c, if_neg c, if_pos rfl]
    exact ⟨v2, rfl, fr, a43⟩
end
section
variable {S : Sg} {v : Nat → Nat → Int32} {w : Nat → Nat → Int64}
theorem EqT.pl {α : Type} {fq fm : mH → Option (α × mH)} {r : α} {v1 v2 : Nat → Nat → Int32} {w1 w2 : Nat → Nat → Int64} (hs : SOK S) (hc : CI S v) (hm : MI S v) (h1 : fq (bh v w) = some (r, bh v1 w1)) (f1 : ∀ q, q < 40 ∨ 58 ≤ q → v1 q = v q) (a43 : v1 43 0 = 0) (h2 : fm (bh v1 w1) = some (r, bh v2 w2)) (f2 : ∀ q, q < 115 ∨ 122 < q → v2 q = v1 q) : EqT S v w fq fm := by
  have e : v2 100 = v 100 := (f2 100 (by omega)).trans (f1 100 (by omega))
  refine ⟨r, v1, w1, v2, w2, S, h1, h2, hs, hc.fr0 (fun p hp => (f2 p (by unfold pC0 at hp; omega)).trans (f1 p (by unfold pC0 at hp; omega))) (by rw [f2 43 (by omega)]; exact a43), hm.fr (fun p hp => (f2 p (by unfold pM at hp; omega)).trans (f1 p (by unfold pM at hp; omega))) ?_⟩
  rw [e]
  exact ⟨rfl, rfl, rfl, rfl, rfl⟩
theorem E_rota (x : Int32) (hs : SOK S) (hc : CI S v) (hm : MI S v) : EqT S v w (f_Q_rota 0 x) (f_M_rota 100 x) := by
  have h0 := hs.1.1.1
  have h1 := hs.1.1.2.1
  have h43 := hc.2.2.2.2.2.2.2
  have nil : f_Q_rota 0 x (bh v w) = some (-1, bh v w) → f_M_rota 100 x (bh v w) = some (-1, bh v w) → EqT S v w (f_Q_rota 0 x) (f_M_rota 100 x) := fun a b => EqT.q hs hc hm a (fun _ _ => rfl) b (fun _ _ => rfl)
  have both : ∀ (y : Int32) (p l : Nat), f_Q_rota 0 x (bh v w) = f_Q_rota_43 0 x y (bh v w) → (∀ v' w', MR S.1 v' → f_M_rota 100 x (bh v' w') = f_M_rota_38 100 x (bh v' w')) → (x = 0 ∨ p < 3 ∧ l < S.1 0 0 ∧ y / (3 : Int32) = nI l ∧ y - nI l * (3 : Int32) = nI p) → y = x - (10 : Int32) → EqT S v w (f_Q_rota 0 x) (f_M_rota 100 x) := by
    intro y p l eq em hh ey
    obtain ⟨v1, e1, f1, a1⟩ := C_rota43 (w := w) hc.1 hs.1 h43 hh
    have R1 : MR S.1 v1 := hm.1.fr1 (fun q h => f1 q (by omega))
    rw [ey] at hh
    obtain ⟨v2, e2, f2⟩ := M_rota38 (w := w) R1 hs.1 hh
    exact EqT.pl hs hc hm (eq.trans e1) (fun q hq => f1 q (by omega)) a1 ((em v1 w R1).trans e2) (fun q hq => f2 q (by omega))
  by_cases z : x = 0
  · refine both (x - 10) 0 0 ?_ (fun v' w' _ => ?_) (Or.inl z) rfl
    · unfold f_Q_rota f_Q_rota_0 f_Q_rota_31 f_Q_rota_32
      rw [if_pos (by rw [z]; decide), if_pos z]
    · unfold f_M_rota f_M_rota_0
      rw [if_pos z]
  · by_cases c : x < (10 : Int32)
    · refine nil ?_ ?_
      · unfold f_Q_rota f_Q_rota_0 f_Q_rota_31 f_Q_rota_32
        rw [if_pos c, if_neg z, if_pos rfl]
      · unfold f_M_rota f_M_rota_0 f_M_rota_36
        rw [if_neg z, if_pos c]
    · have x10 : (10 : Int) ≤ x.toInt := by
        have := Int32.not_lt.mp c
        rw [Int32.le_iff_toInt_le] at this
        exact this
      obtain ⟨n, hn, ex⟩ := nI_of (x := x) (fun q => by rw [Int32.lt_iff_toInt_lt] at q; have : (0 : Int32).toInt = 0 := rfl; omega)
      have n10 : 10 ≤ n := by rw [ex, nI_toInt hn] at x10; omega
      have y1 : x - (10 : Int32) = nI (n - 10) := by rw [ex]; exact pk_sub n10
      have y2 : (x - (10 : Int32)) / (3 : Int32) = nI ((n - 10) / 3) := by rw [y1]; exact pk_div (by omega) (by decide) (by decide)
      have y3 : (x - (10 : Int32)) - nI ((n - 10) / 3) * (3 : Int32) = nI ((n - 10) % 3) := by
        rw [y1, show (3 : Int32) = nI 3 from rfl, pk_mul, pk_sub (by omega)]
        congr 1
        omega
      have i1 : (nI ((n - 10) / 3)).toInt = ((n - 10) / 3 : Nat) := nI_toInt (by omega)
      have i2 : (nI ((n - 10) % 3)).toInt = ((n - 10) % 3 : Nat) := nI_toInt (by omega)
      have cm : ∀ v' w', MR S.1 v' → f_M_rota 100 x (bh v' w') = if (n - 10) / 3 < S.1 0 0 ∧ (n - 10) % 3 < S.1 0 1 then f_M_rota_38 100 x (bh v' w') else some (-1, bh v' w') := by
        intro v' w' hr
        unfold f_M_rota f_M_rota_0 f_M_rota_36
        rw [if_neg z, if_neg c]
        simp only [hW0, bd1_q]
        rw [y2, y3, M_isLaw hr.1 h0, bd2_s, i1]
        by_cases a : (n - 10) / 3 < S.1 0 0
        · rw [if_pos (show (0 : Int) ≤ (((n - 10) / 3 : Nat) : Int) ∧ (((n - 10) / 3 : Nat) : Int) < (S.1 0 0 : Int) by omega), if_neg (by decide)]
          simp only [hW0, bd1_q]
          rw [M_isOne hr.1 h1, bd2_s, i2]
          by_cases b : (n - 10) % 3 < S.1 0 1
          · rw [if_pos (show (0 : Int) ≤ (((n - 10) % 3 : Nat) : Int) ∧ (((n - 10) % 3 : Nat) : Int) < (S.1 0 1 : Int) by omega), if_neg (by decide), if_pos ⟨a, b⟩]
          · rw [if_neg (show ¬ ((0 : Int) ≤ (((n - 10) % 3 : Nat) : Int) ∧ (((n - 10) % 3 : Nat) : Int) < (S.1 0 1 : Int)) by omega), if_pos rfl, if_neg (fun q => b q.2)]
        · rw [if_neg (show ¬ ((0 : Int) ≤ (((n - 10) / 3 : Nat) : Int) ∧ (((n - 10) / 3 : Nat) : Int) < (S.1 0 0 : Int)) by omega), if_pos rfl, if_neg (fun q => a q.1)]
      have cq : f_Q_rota 0 x (bh v w) = if (n - 10) / 3 < S.1 0 0 ∧ (n - 10) % 3 < S.1 0 1 then f_Q_rota_43 0 x (x - (10 : Int32)) (bh v w) else some (-1, bh v w) := by
        unfold f_Q_rota f_Q_rota_0 f_Q_rota_31 f_Q_rota_32 f_Realm_hasBoth f_Realm_hasBoth_0 f_Realm_hasBoth_20
        rw [if_neg c]
        simp only [hP0, bd1_q]
        rw [y2, y3, C_hasOne rl3 hc.1 h1, bd2_s, i2]
        by_cases b : (n - 10) % 3 < S.1 0 1
        · rw [if_pos (show (0 : Int) ≤ (((n - 10) % 3 : Nat) : Int) ∧ (((n - 10) % 3 : Nat) : Int) < (S.1 0 1 : Int) by omega), if_neg (by decide)]
          simp only [hP0, bd1_q]
          rw [C_hasLaw rl3 hc.1 h0, bd2_s, i1]
          by_cases a : (n - 10) / 3 < S.1 0 0
          · rw [if_pos (show (0 : Int) ≤ (((n - 10) / 3 : Nat) : Int) ∧ (((n - 10) / 3 : Nat) : Int) < (S.1 0 0 : Int) by omega), if_neg (by decide), bd2_s, if_neg (by decide), if_neg z, if_neg (by decide), if_pos ⟨a, b⟩]
          · rw [if_neg (show ¬ ((0 : Int) ≤ (((n - 10) / 3 : Nat) : Int) ∧ (((n - 10) / 3 : Nat) : Int) < (S.1 0 0 : Int)) by omega), if_pos rfl, bd2_s, if_pos rfl, if_neg z, if_pos trivial, if_neg (fun q => a q.1)]
        · rw [if_neg (show ¬ ((0 : Int) ≤ (((n - 10) % 3 : Nat) : Int) ∧ (((n - 10) % 3 : Nat) : Int) < (S.1 0 1 : Int)) by omega), if_pos rfl, bd2_s, if_pos rfl, if_neg z, if_pos trivial, if_neg (fun q => b q.2)]
      by_cases g : (n - 10) / 3 < S.1 0 0 ∧ (n - 10) % 3 < S.1 0 1
      · rw [if_pos g] at cq
        exact both (x - 10) ((n - 10) % 3) ((n - 10) / 3) cq (fun v' w' hr => by rw [cm v' w' hr, if_pos g]) (Or.inr ⟨by omega, g.1, y2, y3⟩) rfl
      · rw [if_neg g] at cq
        exact nil cq (by rw [cm v w hm.1, if_neg g])
end
end
