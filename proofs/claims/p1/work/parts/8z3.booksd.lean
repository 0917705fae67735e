theorem hS0 (v : Nat → Nat → Int32) (w : Nat → Nat → Int64) : kC (bh v w) 16 6 = some () ∧ gI (bh v w) 16 6 0 = some (v 16 0) ∧ gR (bh v w) 16 6 1 = some 17 ∧ gR (bh v w) 16 6 2 = some 18 ∧ gR (bh v w) 16 6 3 = some 19 ∧ (∀ i, aI (bh v w) 0 17 i = rd (v 17) 8 i) ∧ (∀ i, aI (bh v w) 0 18 i = rd (v 18) 8 i) ∧ (∀ i, aI (bh v w) 0 19 i = rd (v 19) 8 i) ∧ kC (bh v w) 3 4 = some () ∧ gI (bh v w) 3 4 0 = some (v 3 0) ∧ gR (bh v w) 3 4 7 = some 5 ∧ gR (bh v w) 3 4 11 = some 9 ∧ gR (bh v w) 3 4 15 = some 13 ∧ gR (bh v w) 3 4 18 = some 16 ∧ (∀ i, aI (bh v w) 0 5 i = rd (v 5) 5 i) ∧ (∀ i, aI (bh v w) 0 9 i = rd (v 9) 3 i) ∧ (∀ i, aI (bh v w) 0 13 i = rd (v 13) 3 i) := ⟨rfl, rfl, rfl, rfl, rfl, aI_bh rfl, aI_bh rfl, aI_bh rfl, rfl, rfl, rfl, rfl, rfl, rfl, aI_bh rfl, aI_bh rfl, aI_bh rfl⟩
section
variable {L : Nat} {ρ : Rho} {v : Nat → Nat → Int32} {w : Nat → Nat → Int64}
theorem T_isDueOf (p : Nat) (hp : p < 3) (n : Int32) : ∃ r, f_Tables_isDueOf 48 (nI p) n (bh v w) = some (r, bh v w) := by
  unfold f_Tables_isDueOf f_Tables_isDueOf_0 f_Tables_isDueOf_20
  simp only [hB0, bd1_q]
  rw [rd_nI hp (by decide), bd1_s, bd1_s]
  split
  · exact ⟨_, rfl⟩
  · split
    · exact ⟨_, rfl⟩
    · exact ⟨_, rfl⟩
theorem T_sumOfDue (h : tH L v) : ∃ r, f_Tables_sumOfDue 48 (bh v w) = some (r, bh v w) := by
  obtain ⟨h5, h0, ht, -, -⟩ := h
  obtain ⟨t0, q0, e0⟩ := ht 0 (by decide)
  obtain ⟨t1, q1, e1⟩ := ht 1 (by decide)
  obtain ⟨t2, q2, e2⟩ := ht 2 (by decide)
  have k31 : ∀ (rec4 : Nat → Int64 → Int32 → mH → Option (Int64 × mH)) (rec17 : Nat → Int64 → Int32 → Int32 → mH → Option (Int64 × mH)) (a b : Nat), a ≤ 5 → b ≤ 5 → ∀ (k fuel c : Nat) (x : Int64), k < fuel → c + k = t2 + 1 → ∃ y, f_Tables_sumOfDue_31 rec4 rec17 fuel 48 x (nI a) (nI b) (nI c) (bh v w) = rec17 48 y (nI a) (nI (b + 1)) (bh v w) := by
    intro rec4 rec17 a b ha hb k
    induction k with
    | zero =>
      intro fuel c x hf hc
      obtain ⟨m, rfl⟩ : ∃ m, fuel = m + 1 := ⟨fuel - 1, by omega⟩
      refine ⟨x, ?_⟩
      show f_Tables_sumOfDue_31b rec4 rec17 (f_Tables_sumOfDue_31 rec4 rec17 m) 48 x (nI a) (nI b) (nI c) (bh v w) = _
      unfold f_Tables_sumOfDue_31b
      simp only [hB0, bd1_q]
      rw [rd3.2.2, bd1_s, e2, if_pos (nI_lt (by omega) (by omega)), nI_1]
    | succ k ih =>
      intro fuel c x hf hc
      obtain ⟨m, rfl⟩ : ∃ m, fuel = m + 1 := ⟨fuel - 1, by omega⟩
      have nx := fun x => ih m (c + 1) x (by omega) (by omega)
      obtain ⟨r0, g0⟩ := T_isDueOf (v := v) (w := w) 0 (by decide) (nI a)
      obtain ⟨r1, g1⟩ := T_isDueOf (v := v) (w := w) 1 (by decide) (nI b)
      obtain ⟨r2, g2⟩ := T_isDueOf (v := v) (w := w) 2 (by decide) (nI c)
      have g0 : f_Tables_isDueOf 48 (0 : Int32) (nI a) (bh v w) = some (r0, bh v w) := g0
      have g1 : f_Tables_isDueOf 48 (1 : Int32) (nI b) (bh v w) = some (r1, bh v w) := g1
      have g2 : f_Tables_isDueOf 48 (2 : Int32) (nI c) (bh v w) = some (r2, bh v w) := g2
      show ∃ y, f_Tables_sumOfDue_31b rec4 rec17 (f_Tables_sumOfDue_31 rec4 rec17 m) 48 x (nI a) (nI b) (nI c) (bh v w) = _
      unfold f_Tables_sumOfDue_31b f_Tables_sumOfDue_87
      simp only [hB0, bd1_q]
      rw [rd3.2.2, bd1_s, e2, if_neg (nI_nlt (by omega) (by omega)), g0, bd2_s, nI_1]
      split
      · exact nx _
      · simp only [hB0, bd1_q]
        rw [g1, bd2_s]
        split
        · exact nx _
        · simp only [hB0, bd1_q]
          rw [g2, bd2_s]
          split
          · exact nx _
          · simp only [hB0, bd1_q]
            rw [st_I, bd2_s]
            simp only [hB0, bd1_q]
            rw [rd_nI (by omega) (by decide), bd1_s]
            exact nx _
  have k17 : ∀ (rec4 : Nat → Int64 → Int32 → mH → Option (Int64 × mH)) (a : Nat), a ≤ 5 → ∀ (k fuel b : Nat) (x : Int64), k < fuel → b + k = t1 + 1 → ∃ y, f_Tables_sumOfDue_17 rec4 fuel 48 x (nI a) (nI b) (bh v w) = rec4 48 y (nI (a + 1)) (bh v w) := by
    intro rec4 a ha k
    induction k with
    | zero =>
      intro fuel b x hf hc
      obtain ⟨m, rfl⟩ : ∃ m, fuel = m + 1 := ⟨fuel - 1, by omega⟩
      refine ⟨x, ?_⟩
      show f_Tables_sumOfDue_17b rec4 (f_Tables_sumOfDue_17 rec4 m) 48 x (nI a) (nI b) (bh v w) = _
      unfold f_Tables_sumOfDue_17b
      simp only [hB0, bd1_q]
      rw [rd3.2.1, bd1_s, e1, if_pos (nI_lt (by omega) (by omega)), nI_1]
    | succ k ih =>
      intro fuel b x hf hc
      obtain ⟨m, rfl⟩ : ∃ m, fuel = m + 1 := ⟨fuel - 1, by omega⟩
      obtain ⟨y1, g1⟩ := k31 rec4 (f_Tables_sumOfDue_17 rec4 m) a b ha (by omega) (t2 + 1) FU 0 x (by unfold FU; omega) (by omega)
      obtain ⟨y2, g2⟩ := ih m (b + 1) y1 (by omega) (by omega)
      refine ⟨y2, ?_⟩
      show f_Tables_sumOfDue_17b rec4 (f_Tables_sumOfDue_17 rec4 m) 48 x (nI a) (nI b) (bh v w) = _
      unfold f_Tables_sumOfDue_17b
      simp only [hB0, bd1_q]
      rw [rd3.2.1, bd1_s, e1, if_neg (nI_nlt (by omega) (by omega))]
      exact g1.trans g2
  have k4 : ∀ (k fuel a : Nat) (x : Int64), k < fuel → a + k = t0 + 1 → ∃ r, f_Tables_sumOfDue_4 fuel 48 x (nI a) (bh v w) = some (r, bh v w) := by
    intro k
    induction k with
    | zero =>
      intro fuel a x hf hc
      obtain ⟨m, rfl⟩ : ∃ m, fuel = m + 1 := ⟨fuel - 1, by omega⟩
      refine ⟨x, ?_⟩
      show f_Tables_sumOfDue_4b (f_Tables_sumOfDue_4 m) 48 x (nI a) (bh v w) = _
      unfold f_Tables_sumOfDue_4b
      simp only [hB0, bd1_q]
      rw [rd3.1, bd1_s, e0, if_pos (nI_lt (by omega) (by omega))]
    | succ k ih =>
      intro fuel a x hf hc
      obtain ⟨m, rfl⟩ : ∃ m, fuel = m + 1 := ⟨fuel - 1, by omega⟩
      obtain ⟨y1, g1⟩ := k17 (f_Tables_sumOfDue_4 m) a (by omega) (t1 + 1) FU 0 x (by unfold FU; omega) (by omega)
      obtain ⟨y2, g2⟩ := ih m (a + 1) y1 (by omega) (by omega)
      refine ⟨y2, ?_⟩
      show f_Tables_sumOfDue_4b (f_Tables_sumOfDue_4 m) 48 x (nI a) (bh v w) = _
      unfold f_Tables_sumOfDue_4b
      simp only [hB0, bd1_q]
      rw [rd3.1, bd1_s, e0, if_neg (nI_nlt (by omega) (by omega))]
      exact g1.trans g2
  obtain ⟨r, g⟩ := k4 (t0 + 1) FU 0 0 (by unfold FU; omega) (by omega)
  exact ⟨r, g⟩
theorem T_fillJ (x : Int64) (v : Nat → Nat → Int32) (w : Nat → Nat → Int64) : ∃ w1, f_Arrays_fillJ 54 x (bh v w) = some (bh v w1) := by
  have key : ∀ (k fuel i : Nat) (w : Nat → Nat → Int64), k < fuel → i + k = 18 → ∃ w1, f_Arrays_fillJ_6 fuel 54 x (nI i) (nI 18) (bh v w) = some (bh v w1) := by
    intro k
    induction k with
    | zero =>
      intro fuel i w hf hi
      obtain ⟨m, rfl⟩ : ∃ m, fuel = m + 1 := ⟨fuel - 1, by omega⟩
      show ∃ w1, f_Arrays_fillJ_6b (f_Arrays_fillJ_6 m) 54 x (nI i) (nI 18) (bh v w) = some (bh v w1)
      unfold f_Arrays_fillJ_6b
      rw [if_pos ((nI_leI (by omega) (by omega)).mpr (by omega))]
      exact ⟨w, rfl⟩
    | succ k ih =>
      intro fuel i w hf hi
      obtain ⟨m, rfl⟩ : ∃ m, fuel = m + 1 := ⟨fuel - 1, by omega⟩
      show ∃ w1, f_Arrays_fillJ_6b (f_Arrays_fillJ_6 m) 54 x (nI i) (nI 18) (bh v w) = some (bh v w1)
      unfold f_Arrays_fillJ_6b
      simp only [hB0]
      rw [if_neg (fun z => by have := (nI_leI (by omega) (by omega)).mp z; omega), wrL_nI (by omega) (by omega), bd1_s, nI_1]
      exact ih m (i + 1) _ (by omega) (by omega)
  unfold f_Arrays_fillJ f_Arrays_fillJ_0
  rw [show aN (bh v w) 3 54 = some (nI 18) from rfl, bd1_s, show (0 : Int32) = nI 0 from rfl]
  exact key 18 FU 0 w (by decide) (by decide)
theorem T_fitting (h : tH L v) (w : Nat → Nat → Int64) : ∃ r w', f_Tables_fitting 48 (bh v w) = some (r, bh v w') := by
  have h' := h
  obtain ⟨h5, h0, -, -, -⟩ := h'
  have k69 : ∀ (k fuel l : Nat) (w : Nat → Nat → Int64), k < fuel → l + k = L → ∃ r w', f_Tables_fitting_69 fuel 48 (nI l) (bh v w) = some (r, bh v w') := by
    intro k
    induction k with
    | zero =>
      intro fuel l w hf hl
      obtain ⟨m, rfl⟩ : ∃ m, fuel = m + 1 := ⟨fuel - 1, by omega⟩
      obtain ⟨r, e⟩ := T_sumOfDue (w := w) h
      show ∃ r w', f_Tables_fitting_69b (f_Tables_fitting_69 m) 48 (nI l) (bh v w) = some (r, bh v w')
      unfold f_Tables_fitting_69b
      simp only [hB0, bd1_q]
      rw [h0, if_pos ((nI_leI (by omega) (by omega)).mpr (by omega)), e, bd2_s]
      exact ⟨r, w, rfl⟩
    | succ k ih =>
      intro fuel l w hf hl
      obtain ⟨m, rfl⟩ : ∃ m, fuel = m + 1 := ⟨fuel - 1, by omega⟩
      obtain ⟨w1, e1⟩ := T_spendTogether h (show l < L by omega) w
      show ∃ r w', f_Tables_fitting_69b (f_Tables_fitting_69 m) 48 (nI l) (bh v w) = some (r, bh v w')
      unfold f_Tables_fitting_69b f_Tables_fitting_92
      simp only [hB0, bd1_q]
      rw [h0, if_neg (fun q => by have := (nI_leI (by omega) (by omega)).mp q; omega), rd_nI (by omega) (by decide), bd1_s, nI_1, e1, bd1_s]
      split
      · exact ih m (l + 1) w (by omega) (by omega)
      · exact ih m (l + 1) w1 (by omega) (by omega)
  have k27 : ∀ (rec10 : Nat → Int32 → mH → Option (Int64 × mH)) (p : Nat), p < 3 → ∀ (k fuel l : Nat) (w : Nat → Nat → Int64), k < fuel → l + k = L → ∃ w', f_Tables_fitting_27 rec10 fuel 48 (nI p) (nI l) (bh v w) = rec10 48 (nI (p + 1)) (bh v w') := by
    intro rec10 p hp k
    induction k with
    | zero =>
      intro fuel l w hf hl
      obtain ⟨m, rfl⟩ : ∃ m, fuel = m + 1 := ⟨fuel - 1, by omega⟩
      refine ⟨w, ?_⟩
      show f_Tables_fitting_27b rec10 (f_Tables_fitting_27 rec10 m) 48 (nI p) (nI l) (bh v w) = _
      unfold f_Tables_fitting_27b
      simp only [hB0, bd1_q]
      rw [h0, if_pos ((nI_leI (by omega) (by omega)).mpr (by omega)), nI_1]
    | succ k ih =>
      intro fuel l w hf hl
      obtain ⟨m, rfl⟩ : ∃ m, fuel = m + 1 := ⟨fuel - 1, by omega⟩
      obtain ⟨w1, e1⟩ := T_spendAlone h hp (show l < L by omega) w
      show ∃ w', f_Tables_fitting_27b rec10 (f_Tables_fitting_27 rec10 m) 48 (nI p) (nI l) (bh v w) = _
      unfold f_Tables_fitting_27b f_Tables_fitting_51
      simp only [hB0, bd1_q]
      rw [h0, if_neg (fun q => by have := (nI_leI (by omega) (by omega)).mp q; omega), rd_nI (by omega) (by decide), bd1_s, nI_1, e1, bd1_s]
      split
      · exact ih m (l + 1) w1 (by omega) (by omega)
      · exact ih m (l + 1) w (by omega) (by omega)
  have k10 : ∀ (k fuel p : Nat) (w : Nat → Nat → Int64), k < fuel → p + k = 3 → ∃ r w', f_Tables_fitting_10 fuel 48 (nI p) (bh v w) = some (r, bh v w') := by
    intro k
    induction k with
    | zero =>
      intro fuel p w hf hp
      obtain ⟨m, rfl⟩ : ∃ m, fuel = m + 1 := ⟨fuel - 1, by omega⟩
      obtain ⟨w1, e1⟩ := T_joinAll h w
      obtain ⟨r, w2, e2⟩ := k69 L FU 0 w1 (by unfold FU; omega) (by omega)
      have e2 : f_Tables_fitting_69 FU 48 0 (bh v w1) = some (r, bh v w2) := e2
      show ∃ r w', f_Tables_fitting_10b (f_Tables_fitting_10 m) 48 (nI p) (bh v w) = some (r, bh v w')
      unfold f_Tables_fitting_10b
      rw [show (3 : Int32) = nI 3 from rfl, if_pos ((nI_leI (by omega) (by omega)).mpr (by omega))]
      simp only [hB0, bd1_q]
      rw [e1, bd1_s, e2]
      exact ⟨r, w2, rfl⟩
    | succ k ih =>
      intro fuel p w hf hp
      obtain ⟨m, rfl⟩ : ∃ m, fuel = m + 1 := ⟨fuel - 1, by omega⟩
      show ∃ r w', f_Tables_fitting_10b (f_Tables_fitting_10 m) 48 (nI p) (bh v w) = some (r, bh v w')
      unfold f_Tables_fitting_10b
      rw [show (3 : Int32) = nI 3 from rfl, if_neg (fun q => by have := (nI_leI (by omega) (by omega)).mp q; omega)]
      simp only [hB0, bd1_q]
      rw [show (6 : Int32) = nI 6 from rfl, pk_mul, wrL_nI (by omega) (by decide), bd1_s]
      obtain ⟨w1, e1⟩ := k27 (f_Tables_fitting_10 m) p (by omega) L FU 0 (u2L w 54 (p * 6) 1) (by unfold FU; omega) (by omega)
      have e1 : f_Tables_fitting_27 (f_Tables_fitting_10 m) FU 48 (nI p) 0 (bh v (u2L w 54 (p * 6) 1)) = f_Tables_fitting_10 m 48 (nI (p + 1)) (bh v w1) := e1
      rw [e1]
      exact ih m (p + 1) w1 (by omega) (by omega)
  unfold f_Tables_fitting f_Tables_fitting_0
  simp only [hB0, bd1_q]
  obtain ⟨w1, e1⟩ := T_fillJ 0 v w
  rw [e1, bd1_s, show (0 : Int32) = nI 0 from rfl]
  exact k10 3 FU 0 w1 (by decide) (by decide)
theorem T_sumDue (hr : CR 3 ρ v) (hk : ROK ρ) (a b : Int32) : ∃ r, f_Sightings_sumDue 16 a b (bh v w) = some (r, bh v w) := by
  have h6 := hk.1.2.2.2.2.2.2
  have e0 : v 16 0 = nI (ρ 0 6) := hr.1.2.2.2.2.2.2
  have key : ∀ (n fuel k : Nat) (s : Int32), n < fuel → k + n = ρ 0 6 → ∃ r, f_Sightings_sumDue_5 fuel 16 a b s (nI k) (bh v w) = some (r, bh v w) := by
    intro n
    induction n with
    | zero =>
      intro fuel k s hf hk2
      obtain ⟨m, rfl⟩ : ∃ m, fuel = m + 1 := ⟨fuel - 1, by omega⟩
      show ∃ r, f_Sightings_sumDue_5b (f_Sightings_sumDue_5 m) 16 a b s (nI k) (bh v w) = some (r, bh v w)
      unfold f_Sightings_sumDue_5b
      simp only [hS0, bd1_q]
      rw [e0, if_pos ((nI_leI (by omega) (by omega)).mpr (by omega))]
      exact ⟨s, rfl⟩
    | succ n ih =>
      intro fuel k s hf hk2
      obtain ⟨m, rfl⟩ : ∃ m, fuel = m + 1 := ⟨fuel - 1, by omega⟩
      have nx := fun s => ih m (k + 1) s (by omega) (by omega)
      show ∃ r, f_Sightings_sumDue_5b (f_Sightings_sumDue_5 m) 16 a b s (nI k) (bh v w) = some (r, bh v w)
      unfold f_Sightings_sumDue_5b f_Sightings_sumDue_52 f_Sightings_sumDue_64 f_Sightings_sumDue_65
      simp only [hS0, bd1_q]
      rw [e0, if_neg (fun z => by have := (nI_leI (by omega) (by omega)).mp z; omega), rd_nI (by omega) (by decide), bd1_s, rd_nI (by omega) (by decide), bd1_s, rd_nI (by omega) (by decide), bd1_s, bd1_s, nI_1]
      repeat' split
      all_goals exact nx _
  unfold f_Sightings_sumDue f_Sightings_sumDue_0
  rw [show (0 : Int32) = nI 0 from rfl]
  exact key (ρ 0 6) FU 0 _ (by unfold FU; omega) (by omega)
end
