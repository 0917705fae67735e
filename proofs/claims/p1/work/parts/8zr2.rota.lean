/-! rota: the class's table, the first rota -/
section
variable {ρ : Rho} {v : Nat → Nat → Int32} {w : Nat → Nat → Int64}
theorem zI_lt0 {z : Int} (h1 : -2 ^ 31 ≤ z) (h2 : z < 2 ^ 31) : zI z < (0 : Int32) ↔ z < 0 := by
  rw [Int32.lt_iff_toInt_lt, zI_t h1 h2]; rfl
def kP (ρ : Rho) (l0 a0 b0 : Nat) (v : Nat → Nat → Int32) : Prop := ∀ l a b, l ≤ ρ 0 0 → a ≤ rL ρ (ρ 6) 0 → b ≤ rL ρ (ρ 6) 1 → v 47 ((l * 6 + a) * 6 + b) = nI (if l0 < l ∨ l = l0 ∧ (a < a0 ∨ a = a0 ∧ b < b0) then kT ρ l a b else FAR)
def pF2 (v v' : Nat → Nat → Int32) : Prop := ∀ q, q ≠ 46 → q ≠ 47 → v' q = v q
theorem C_lh32 (hk : ROK ρ) (rec14 : Nat → Int32 → mH → Option (Int32 × mH)) (rec20 : Nat → Int32 → Int32 → mH → Option (Int32 × mH)) {l a : Nat} (hl : l ≤ ρ 0 0) (ha : a ≤ rL ρ (ρ 6) 0) : ∀ (k fuel b : Nat) (v : Nat → Nat → Int32), k < fuel → b + k = rL ρ (ρ 6) 1 + 1 → pJ ρ v → kP ρ l a b v → ∃ v', f_Planner_leastHarm_32 rec14 rec20 fuel 40 (nI l) (nI a) (nI b) (bh v w) = rec20 40 (nI l) (nI (a + 1)) (bh v' w) ∧ kP ρ l (a + 1) 0 v' ∧ pF2 v v' := by
  have h0 := hk.1.1
  have a5 := rL5 hk 0
  have b5 := rL5 hk 1
  intro k
  induction k with
  | zero =>
    intro fuel b v hf hb hJ hP
    obtain ⟨m, rfl⟩ : ∃ m, fuel = m + 1 := ⟨fuel - 1, by omega⟩
    refine ⟨v, ?_, fun l' a' b' q1 q2 q3 => ?_, fun _ _ _ => rfl⟩
    · show f_Planner_leastHarm_32b rec14 rec20 (f_Planner_leastHarm_32 rec14 rec20 m) 40 (nI l) (nI a) (nI b) (bh v w) = _
      unfold f_Planner_leastHarm_32b
      simp only [hP0, bd1_q]
      rw [rd3.2.1, bd1_s, hJ.2.1 1 (by decide), if_pos (nI_lt (by omega) (by omega)), nI_1]
    · rw [hP l' a' b' q1 q2 q3]
      by_cases z : l < l' ∨ l' = l ∧ (a' < a ∨ a' = a ∧ b' < b)
      · rw [if_pos z, if_pos (by omega)]
      · rw [if_neg z, if_neg (by omega)]
  | succ k ih =>
    intro fuel b v hf hb hJ hP
    obtain ⟨m, rfl⟩ : ∃ m, fuel = m + 1 := ⟨fuel - 1, by omega⟩
    have hb5 : b ≤ 5 := by omega
    have cb := c3v_b hk hl (show a ≤ 5 by omega) hb5
    have wr1 : ∀ (v1 : Nat → Nat → Int32), pF2 v v1 → v1 47 = v 47 → ∃ v', f_Planner_leastHarm_32 rec14 rec20 m 40 (nI l) (nI a) (nI (b + 1)) (bh (u2 v1 47 ((l * 6 + a) * 6 + b) (nI (kT ρ l a b))) w) = rec20 40 (nI l) (nI (a + 1)) (bh v' w) ∧ kP ρ l (a + 1) 0 v' ∧ pF2 v v' := by
      intro v1 f1 e47
      obtain ⟨v', g1, g2, g3⟩ := ih m (b + 1) (u2 v1 47 ((l * 6 + a) * 6 + b) (nI (kT ρ l a b))) (by omega) (by omega) (hJ.fr (fun q hq => (u2_o (by omega)).trans (f1 q (by omega) (by omega)))) (fun l' a' b' q1 q2 q3 => by
        by_cases z : (l' * 6 + a') * 6 + b' = (l * 6 + a) * 6 + b
        · obtain ⟨rfl, rfl, rfl⟩ : l' = l ∧ a' = a ∧ b' = b := by omega
          rw [u2_at, if_pos (by omega)]
        · rw [u2_n z, e47, hP l' a' b' q1 q2 q3]
          have : ¬ (l' = l ∧ a' = a ∧ b' = b) := fun y => z (by rw [y.1, y.2.1, y.2.2])
          by_cases y : l < l' ∨ l' = l ∧ (a' < a ∨ a' = a ∧ b' < b)
          · rw [if_pos y, if_pos (by omega)]
          · rw [if_neg y, if_neg (by omega)])
      exact ⟨v', g1, g2, fun q h1 h2 => (g3 q h1 h2).trans ((u2_o h2).trans (f1 q h1 h2))⟩
    show ∃ v', f_Planner_leastHarm_32b rec14 rec20 (f_Planner_leastHarm_32 rec14 rec20 m) 40 (nI l) (nI a) (nI b) (bh v w) = _ ∧ _
    unfold f_Planner_leastHarm_32b f_Planner_leastHarm_81 f_Planner_leastHarm_82
    simp only [hP0, bd1_q]
    rw [rd3.2.1, bd1_s, hJ.2.1 1 (by decide), if_neg (nI_nlt (by omega) (by omega)), C_left hJ hk hl (by omega) hb5, bd2_s, nI_1, ite_iff (zI_lt0 (by omega) (by omega))]
    by_cases c : c3v ρ l a b < 0
    · rw [if_pos c]
      refine ih m (b + 1) v (by omega) (by omega) hJ (fun l' a' b' q1 q2 q3 => ?_)
      rw [hP l' a' b' q1 q2 q3]
      by_cases y : l < l' ∨ l' = l ∧ (a' < a ∨ a' = a ∧ b' < b)
      · rw [if_pos y, if_pos (by omega)]
      · rw [if_neg y]
        by_cases z : l < l' ∨ l' = l ∧ (a' < a ∨ a' = a ∧ b' < b + 1)
        · obtain ⟨rfl, rfl, rfl⟩ : l' = l ∧ a' = a ∧ b' = b := by omega
          rw [if_pos z]
          unfold kT
          rw [if_neg (by omega)]
        · rw [if_neg z]
    · rw [if_neg c]
      simp only [hP0, bd1_q]
      rw [pst_I, bd2_s]
      simp only [hP0, bd1_q]
      rw [hJ.1, ite_iff (nI_eqI (by omega) (by omega))]
      by_cases e : l = ρ 0 0
      · have ez : kT ρ l a b = 0 := by
          unfold kT
          rw [if_pos (by omega), e, Nat.sub_self]
          rfl
        have nx := wr1 v (fun _ _ _ => rfl) rfl
        rw [ez] at nx
        rw [if_pos e, wr_nI (by omega) (by decide), bd1_s]
        exact nx
      · rw [if_neg e]
        obtain ⟨v1, e1, f1, -⟩ := C_search (w := w) hJ hk (show l < ρ 0 0 by omega) (show a ≤ 5 by omega) hb5 (by omega) (fun a' b' h1 h2 => by
          rw [hP (l + 1) a' b' (by omega) (by omega) (by omega), if_pos (by omega)])
        rw [e1, bd2_s]
        simp only [hP0, bd1_q]
        rw [wr_nI (by omega) (by decide), bd1_s]
        exact wr1 v1 (fun q h1 _ => f1 q h1) (f1 47 (by decide))
theorem C_lh20 (hk : ROK ρ) (rec14 : Nat → Int32 → mH → Option (Int32 × mH)) {l : Nat} (hl : l ≤ ρ 0 0) : ∀ (k fuel a : Nat) (v : Nat → Nat → Int32), k < fuel → a + k = rL ρ (ρ 6) 0 + 1 → pJ ρ v → kP ρ l a 0 v → ∃ v', f_Planner_leastHarm_20 rec14 fuel 40 (nI l) (nI a) (bh v w) = rec14 40 (nI l + -1) (bh v' w) ∧ kP ρ l (rL ρ (ρ 6) 0 + 1) 0 v' ∧ pF2 v v' := by
  have a5 := rL5 hk 0
  have b5 := rL5 hk 1
  intro k
  induction k with
  | zero =>
    intro fuel a v hf ha hJ hP
    obtain ⟨m, rfl⟩ : ∃ m, fuel = m + 1 := ⟨fuel - 1, by omega⟩
    refine ⟨v, ?_, ?_, fun _ _ _ => rfl⟩
    · show f_Planner_leastHarm_20b rec14 (f_Planner_leastHarm_20 rec14 m) 40 (nI l) (nI a) (bh v w) = _
      unfold f_Planner_leastHarm_20b
      simp only [hP0, bd1_q]
      rw [rd3.1, bd1_s, hJ.2.1 0 (by decide), if_pos (nI_lt (by omega) (by omega))]
    · rw [show rL ρ (ρ 6) 0 + 1 = a by omega]; exact hP
  | succ k ih =>
    intro fuel a v hf ha hJ hP
    obtain ⟨m, rfl⟩ : ∃ m, fuel = m + 1 := ⟨fuel - 1, by omega⟩
    obtain ⟨v1, e1, p1, f1⟩ := C_lh32 (w := w) hk rec14 (f_Planner_leastHarm_20 rec14 m) hl (show a ≤ rL ρ (ρ 6) 0 by omega) (rL ρ (ρ 6) 1 + 1) FU 0 v (by unfold FU; omega) (by omega) hJ hP
    have e1 : f_Planner_leastHarm_32 rec14 (f_Planner_leastHarm_20 rec14 m) FU 40 (nI l) (nI a) 0 (bh v w) = f_Planner_leastHarm_20 rec14 m 40 (nI l) (nI (a + 1)) (bh v1 w) := e1
    obtain ⟨v2, e2, p2, f2⟩ := ih m (a + 1) v1 (by omega) (by omega) (hJ.fr (fun q hq => f1 q (by omega) (by omega))) p1
    refine ⟨v2, ?_, p2, fun q h1 h2 => (f2 q h1 h2).trans (f1 q h1 h2)⟩
    show f_Planner_leastHarm_20b rec14 (f_Planner_leastHarm_20 rec14 m) 40 (nI l) (nI a) (bh v w) = _
    unfold f_Planner_leastHarm_20b
    simp only [hP0, bd1_q]
    rw [rd3.1, bd1_s, hJ.2.1 0 (by decide), if_neg (nI_nlt (by omega) (by omega))]
    exact e1.trans e2
def kA (ρ : Rho) (v : Nat → Nat → Int32) : Prop := ∀ l a b, l ≤ ρ 0 0 → a ≤ rL ρ (ρ 6) 0 → b ≤ rL ρ (ρ 6) 1 → v 47 ((l * 6 + a) * 6 + b) = nI (kT ρ l a b)
/-- the least harm of a rota -/
def rBest (ρ : Rho) : Nat := rBst ρ (ρ 0 4) (ρ 0 0) (rL ρ (ρ 6) 0) (rL ρ (ρ 6) 1) (rL ρ (ρ 6) 2)
theorem kT_0 (ρ : Rho) : kT ρ 0 (rL ρ (ρ 6) 0) (rL ρ (ρ 6) 1) = rBest ρ := by
  have e : c3v ρ 0 (rL ρ (ρ 6) 0) (rL ρ (ρ 6) 1) = (rL ρ (ρ 6) 2 : Nat) := by
    unfold c3v
    show (rL ρ (ρ 6) 2 : Int) - ((0 : Nat) : Int) + _ - _ + _ - _ = _
    omega
  unfold kT rBest
  rw [e, if_pos (by omega)]
  rfl
theorem C_leastHarm (hJ : pJ ρ v) (hk : ROK ρ) : ∃ v', f_Planner_leastHarm 40 (bh v w) = some (if rBest ρ < FAR then nI (rBest ρ) else -4, bh v' w) ∧ kA ρ v' ∧ pF2 v v' := by
  have h0 := hk.1.1
  have a5 := rL5 hk 0
  have b5 := rL5 hk 1
  have FR : FAR = 1000000 := rfl
  have last : ∀ (m : Nat) (v : Nat → Nat → Int32), pJ ρ v → kP ρ 0 (rL ρ (ρ 6) 0 + 1) 0 v → f_Planner_leastHarm_14 (m + 1) 40 (-1) (bh v w) = some (if rBest ρ < FAR then nI (rBest ρ) else -4, bh v w) ∧ kA ρ v := by
    intro m v hJ hP
    have kA1 : kA ρ v := fun l a b q1 q2 q3 => by rw [hP l a b q1 q2 q3, if_pos (by omega)]
    refine ⟨?_, kA1⟩
    have kb := kA1 0 (rL ρ (ρ 6) 0) (rL ρ (ρ 6) 1) (Nat.zero_le _) (Nat.le_refl _) (Nat.le_refl _)
    rw [kT_0] at kb
    have hle : rBest ρ ≤ FAR := rBst_le _ _ _ _ _ _
    show f_Planner_leastHarm_14b (f_Planner_leastHarm_14 m) 40 (-1) (bh v w) = _
    unfold f_Planner_leastHarm_14b
    rw [if_pos (by decide)]
    simp only [hP0, bd1_q]
    rw [rd3.1, bd1_s, rd3.2.1, bd1_s, hJ.2.1 0 (by decide), hJ.2.1 1 (by decide), show (0 : Int32) = nI 0 from rfl, pst_I, bd2_s]
    simp only [hP0, bd1_q]
    rw [rd_nI (by omega) (by decide), bd1_s, kb, show (1000000 : Int32) = nI 1000000 from rfl, ite_iff (nI_leI (by omega) (by omega))]
    by_cases c : rBest ρ < FAR
    · rw [if_neg (by omega), if_pos c]
    · rw [if_pos (by omega), if_neg c]
  have key : ∀ (l fuel : Nat) (v : Nat → Nat → Int32), l + 1 < fuel → l ≤ ρ 0 0 → pJ ρ v → kP ρ l 0 0 v → ∃ v', f_Planner_leastHarm_14 fuel 40 (nI l) (bh v w) = some (if rBest ρ < FAR then nI (rBest ρ) else -4, bh v' w) ∧ kA ρ v' ∧ pF2 v v' := by
    intro l
    induction l with
    | zero =>
      intro fuel v hf hl hJ hP
      obtain ⟨m, rfl⟩ : ∃ m, fuel = m + 1 + 1 := ⟨fuel - 2, by omega⟩
      obtain ⟨v1, e1, p1, f1⟩ := C_lh20 (w := w) hk (f_Planner_leastHarm_14 (m + 1)) hl (rL ρ (ρ 6) 0 + 1) FU 0 v (by unfold FU; omega) (by omega) hJ hP
      obtain ⟨g1, g2⟩ := last m v1 (hJ.fr (fun q hq => f1 q (by omega) (by omega))) p1
      rw [m1_0, g1] at e1
      have e1 : f_Planner_leastHarm_20 (f_Planner_leastHarm_14 (m + 1)) FU 40 (nI 0) 0 (bh v w) = some (if rBest ρ < FAR then nI (rBest ρ) else -4, bh v1 w) := e1
      refine ⟨v1, ?_, g2, f1⟩
      show f_Planner_leastHarm_14b (f_Planner_leastHarm_14 (m + 1)) 40 (nI 0) (bh v w) = _
      unfold f_Planner_leastHarm_14b
      rw [if_neg (nI_pos (by omega))]
      exact e1
    | succ l ih =>
      intro fuel v hf hl hJ hP
      obtain ⟨m, rfl⟩ : ∃ m, fuel = m + 1 := ⟨fuel - 1, by omega⟩
      obtain ⟨v1, e1, p1, f1⟩ := C_lh20 (w := w) hk (f_Planner_leastHarm_14 m) hl (rL ρ (ρ 6) 0 + 1) FU 0 v (by unfold FU; omega) (by omega) hJ hP
      obtain ⟨v2, e2, k2, f2⟩ := ih m v1 (by omega) (by omega) (hJ.fr (fun q hq => f1 q (by omega) (by omega))) (fun l' a b q1 q2 q3 => by
        rw [p1 l' a b q1 q2 q3]
        by_cases z : l + 1 < l' ∨ l' = l + 1 ∧ (a < rL ρ (ρ 6) 0 + 1 ∨ a = rL ρ (ρ 6) 0 + 1 ∧ b < 0)
        · rw [if_pos z, if_pos (by omega)]
        · rw [if_neg z, if_neg (by omega)])
      rw [m1_I l (by omega), e2] at e1
      have e1 : f_Planner_leastHarm_20 (f_Planner_leastHarm_14 m) FU 40 (nI (l + 1)) 0 (bh v w) = some (if rBest ρ < FAR then nI (rBest ρ) else -4, bh v2 w) := e1
      refine ⟨v2, ?_, k2, fun q h1 h2 => (f2 q h1 h2).trans (f1 q h1 h2)⟩
      show f_Planner_leastHarm_14b (f_Planner_leastHarm_14 m) 40 (nI (l + 1)) (bh v w) = _
      unfold f_Planner_leastHarm_14b
      rw [if_neg (nI_pos (by omega))]
      exact e1
  obtain ⟨v1, e1, g1, h1, -⟩ := fill_I (q := 47) (n := 216) (x := 1000000) (by omega) (fun _ _ => rfl) (fun v w i x => sI_bh rfl i x) v w
  have J1 : pJ ρ v1 := hJ.fr (fun q hq => g1 q (by omega))
  obtain ⟨v2, e2, k2, f2⟩ := key (ρ 0 0) FU v1 (by unfold FU; omega) (Nat.le_refl _) J1 (fun l a b q1 q2 q3 => by
    rw [h1 _ (by omega), if_neg (by omega)]
    rfl)
  refine ⟨v2, ?_, k2, fun q a b => (f2 q a b).trans (g1 q b)⟩
  unfold f_Planner_leastHarm f_Planner_leastHarm_0
  simp only [hP0, bd1_q]
  rw [e1]
  simp only [hP0, bd1_q]
  rw [J1.1]
  exact e2
/-- the way of the first rota -/
def rOp (ρ : Rho) (i : Nat) (P : Nat × Nat × Nat) : Nat → Nat → Nat := rOpt ρ (ρ 0 4) (rBst ρ (ρ 0 4) (ρ 0 0 - (i + 1))) i P.1 P.2.1 P.2.2
def rPth (ρ : Rho) : Nat → Nat × Nat × Nat
  | 0 => (rL ρ (ρ 6) 0, rL ρ (ρ 6) 1, rL ρ (ρ 6) 2)
  | i + 1 => ((rPth ρ i).1 - rArg (rOp ρ i (rPth ρ i)) 16 / 4, (rPth ρ i).2.1 - rArg (rOp ρ i (rPth ρ i)) 16 % 4, (rPth ρ i).2.2 - (sNeed ρ i - rArg (rOp ρ i (rPth ρ i)) 16 / 4 - rArg (rOp ρ i (rPth ρ i)) 16 % 4))
def tAt (ρ : Rho) (i : Nat) : Nat := rArg (rOp ρ i (rPth ρ i)) 16
theorem rPth_ok (hk : ROK ρ) (hb : rBest ρ < FAR) : ∀ i, i ≤ ρ 0 0 → ((rPth ρ i).1 ≤ rL ρ (ρ 6) 0 ∧ (rPth ρ i).2.1 ≤ rL ρ (ρ 6) 1 ∧ (rPth ρ i).2.2 ≤ rL ρ (ρ 6) 2) ∧ c3v ρ i (rPth ρ i).1 (rPth ρ i).2.1 = ((rPth ρ i).2.2 : Nat) ∧ rBst ρ (ρ 0 4) (ρ 0 0 - i) (rPth ρ i).1 (rPth ρ i).2.1 (rPth ρ i).2.2 < FAR
  | 0, _ => by
    refine ⟨⟨Nat.le_refl _, Nat.le_refl _, Nat.le_refl _⟩, ?_, hb⟩
    show c3v ρ 0 (rL ρ (ρ 6) 0) (rL ρ (ρ 6) 1) = (rL ρ (ρ 6) 2 : Nat)
    unfold c3v
    show (rL ρ (ρ 6) 2 : Int) - ((0 : Nat) : Int) + _ - _ + _ - _ = _
    omega
  | i + 1, hi => by
    obtain ⟨⟨a1, a2, a3⟩, a4, a5⟩ := rPth_ok hk hb i (by omega)
    rw [rBst_s (show i < ρ 0 0 by omega)] at a5
    obtain ⟨t1, t2, -⟩ := rArg_ok (rOp ρ i (rPth ρ i)) 16 a5
    have lt : rOp ρ i (rPth ρ i) (tAt ρ i / 4) (tAt ρ i % 4) < FAR := by
      show rOp ρ i (rPth ρ i) (rArg (rOp ρ i (rPth ρ i)) 16 / 4) (rArg (rOp ρ i (rPth ρ i)) 16 % 4) < FAR
      rw [t2]; exact a5
    have e1 : (rPth ρ (i + 1)).1 = (rPth ρ i).1 - tAt ρ i / 4 := rfl
    have e2 : (rPth ρ (i + 1)).2.1 = (rPth ρ i).2.1 - tAt ρ i % 4 := rfl
    have e3 : (rPth ρ (i + 1)).2.2 = (rPth ρ i).2.2 - (sNeed ρ i - tAt ρ i / 4 - tAt ρ i % 4) := rfl
    rw [e1, e2, e3]
    generalize tAt ρ i / 4 = x at lt
    generalize tAt ρ i % 4 = y at lt
    unfold rOp rOpt at lt
    rw [rN_st] at lt
    split at lt
    · next c =>
      unfold rVal at lt
      split at lt
      · next d =>
        obtain ⟨d1, d2, d3, d4, d5, d6, d7⟩ := d
        refine ⟨⟨by omega, by omega, by omega⟩, ?_, d7⟩
        have : c3v ρ (i + 1) ((rPth ρ i).1 - x) ((rPth ρ i).2.1 - y) = c3v ρ i (rPth ρ i).1 (rPth ρ i).2.1 - sNeed ρ i + x + y := by
          unfold c3v
          show (rL ρ (ρ 6) 2 : Int) - ((sumN (sNeed ρ) i + sNeed ρ i : Nat) : Int) + _ - (((rPth ρ i).1 - x : Nat) : Int) + _ - (((rPth ρ i).2.1 - y : Nat) : Int) = _
          omega
        omega
      · exact absurd lt (Nat.lt_irrefl _)
    · exact absurd lt (Nat.lt_irrefl _)
/-- how often p breaks the law l in the first rota -/
def rSh (ρ : Rho) (l p : Nat) : Nat := if p = 0 then tAt ρ l / 4 else if p = 1 then tAt ρ l % 4 else sNeed ρ l - tAt ρ l / 4 - tAt ρ l % 4
theorem C_timesL (hk : ROK ρ) (hb : rBest ρ < FAR) {p l : Nat} (hp : p < 3) (hl : l < ρ 0 0) : ∀ (k fuel i : Nat) (v : Nat → Nat → Int32), k < fuel → i + k = l + 1 → pJ ρ v → kA ρ v → (∀ j, i = j + 1 → v 46 j = nI (rSh ρ j 0) ∧ v 46 (5 + j) = nI (rSh ρ j 1) ∧ v 46 (10 + j) = nI (rSh ρ j 2)) → ∃ v', f_Planner_timesInFirst_18 fuel 40 (nI p) (nI l) (nI (rPth ρ i).1) (nI (rPth ρ i).2.1) (nI i) (bh v w) = some (nI (rSh ρ l p), bh v' w) ∧ ∀ q, q ≠ 46 → v' q = v q := by
  have h0 := hk.1.1
  have a5 := rL5 hk 0
  have b5 := rL5 hk 1
  intro k
  induction k with
  | zero =>
    intro fuel i v hf hi hJ hA ho
    obtain ⟨m, rfl⟩ : ∃ m, fuel = m + 1 := ⟨fuel - 1, by omega⟩
    obtain ⟨o1, o2, o3⟩ := ho l (by omega)
    refine ⟨v, ?_, fun _ _ => rfl⟩
    show f_Planner_timesInFirst_18b (f_Planner_timesInFirst_18 m) 40 (nI p) (nI l) _ _ (nI i) (bh v w) = _
    unfold f_Planner_timesInFirst_18b
    rw [if_pos (nI_lt (by omega) (by omega))]
    simp only [hP0, bd1_q]
    rw [show (5 : Int32) = nI 5 from rfl, pk_mul, nI_add, Nat.mul_comm p 5, rd_nI (by omega) (by decide), bd1_s]
    rcases (show p = 0 ∨ p = 1 ∨ p = 2 by omega) with rfl | rfl | rfl
    · rw [show 5 * 0 + l = l by omega, o1]
    · rw [show 5 * 1 + l = 5 + l by omega, o2]
    · rw [show 5 * 2 + l = 10 + l by omega, o3]
  | succ k ih =>
    intro fuel i v hf hi hJ hA ho
    obtain ⟨m, rfl⟩ : ∃ m, fuel = m + 1 := ⟨fuel - 1, by omega⟩
    obtain ⟨⟨p1, p2, p3⟩, p4, p5⟩ := rPth_ok hk hb i (by omega)
    obtain ⟨⟨n1, n2, n3⟩, -, -⟩ := rPth_ok hk hb (i + 1) (by omega)
    obtain ⟨v1, e1, f1, o1⟩ := C_search (w := w) (l := i) (a := (rPth ρ i).1) (b := (rPth ρ i).2.1) hJ hk (by omega) (by omega) (by omega) (by omega) (fun a' b' h1 h2 => hA (i + 1) a' b' (by omega) (by omega) (by omega))
    have p5' := p5
    rw [rBst_s (show i < ρ 0 0 by omega)] at p5'
    have er : rOpt ρ (ρ 0 4) (rBst ρ (ρ 0 4) (ρ 0 0 - (i + 1))) i (rPth ρ i).1 (rPth ρ i).2.1 (c3v ρ i (rPth ρ i).1 (rPth ρ i).2.1).toNat = rOp ρ i (rPth ρ i) := by
      unfold rOp
      rw [p4]
      rfl
    rw [er] at o1
    obtain ⟨s1, s2, s3⟩ := o1 p5'
    obtain ⟨tb, tf, -⟩ := rArg_ok (rOp ρ i (rPth ρ i)) 16 p5'
    have le : tAt ρ i / 4 ≤ (rPth ρ i).1 ∧ tAt ρ i % 4 ≤ (rPth ρ i).2.1 := by
      have lt : rOp ρ i (rPth ρ i) (tAt ρ i / 4) (tAt ρ i % 4) < FAR := by
        show rOp ρ i (rPth ρ i) (rArg (rOp ρ i (rPth ρ i)) 16 / 4) (rArg (rOp ρ i (rPth ρ i)) 16 % 4) < FAR
        rw [tf]; exact p5'
      unfold rOp rOpt at lt
      split at lt
      · unfold rVal at lt
        split at lt
        · next d => exact ⟨d.1, d.2.1⟩
        · exact absurd lt (Nat.lt_irrefl _)
      · exact absurd lt (Nat.lt_irrefl _)
    have s1 : v1 46 i = nI (tAt ρ i / 4) := s1
    have s2 : v1 46 (5 + i) = nI (tAt ρ i % 4) := s2
    have s3 : v1 46 (10 + i) = nI (sNeed ρ i - tAt ρ i / 4 - tAt ρ i % 4) := s3
    obtain ⟨v2, e2, f2⟩ := ih m (i + 1) v1 (by omega) (by omega) (hJ.fr (fun q hq => f1 q (by omega))) (fun l' a b q1 q2 q3 => by rw [f1 47 (by decide)]; exact hA l' a b q1 q2 q3) (fun j hj => by
      obtain rfl : j = i := by omega
      exact ⟨s1, s2, s3⟩)
    refine ⟨v2, ?_, fun q hq => (f2 q hq).trans (f1 q hq)⟩
    show f_Planner_timesInFirst_18b (f_Planner_timesInFirst_18 m) 40 (nI p) (nI l) _ _ (nI i) (bh v w) = _
    unfold f_Planner_timesInFirst_18b
    rw [if_neg (nI_nlt (by omega) (by omega))]
    simp only [hP0, bd1_q]
    rw [e1, bd2_s]
    simp only [hP0, bd1_q]
    rw [rd_nI (by omega) (by decide), bd1_s, show (5 : Int32) = nI 5 from rfl, nI_add, rd_nI (by omega) (by decide), bd1_s, s1, s2, pk_sub le.1, pk_sub le.2, nI_1]
    exact e2
theorem C_times (hJ : pJ ρ v) (hA : kA ρ v) (hk : ROK ρ) (hb : rBest ρ < FAR) {p l : Nat} (hp : p < 3) (hl : l < ρ 0 0) : ∃ v', f_Planner_timesInFirst 40 (nI p) (nI l) (bh v w) = some (nI (rSh ρ l p), bh v' w) ∧ ∀ q, q ≠ 46 → v' q = v q := by
  have h0 := hk.1.1
  obtain ⟨v', e1, f1⟩ := C_timesL (w := w) hk hb hp hl (l + 1) FU 0 v (by unfold FU; omega) (by omega) hJ hA (fun j hj => by omega)
  have e1 : f_Planner_timesInFirst_18 FU 40 (nI p) (nI l) (nI (rL ρ (ρ 6) 0)) (nI (rL ρ (ρ 6) 1)) 0 (bh v w) = some (nI (rSh ρ l p), bh v' w) := e1
  refine ⟨v', ?_, f1⟩
  unfold f_Planner_timesInFirst f_Planner_timesInFirst_0
  simp only [hP0, bd1_q]
  rw [rd3.1, bd1_s, rd3.2.1, bd1_s, hJ.2.1 0 (by decide), hJ.2.1 1 (by decide)]
  exact e1
end
