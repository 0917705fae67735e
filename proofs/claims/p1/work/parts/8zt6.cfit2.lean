/-! the class's tables, exactly: all laws, and the sum -/
section
variable {L : Nat} {lo hi : Nat → Nat → Nat} {dL dP tm : Nat → Nat} {v : Nat → Nat → Int32} {w : Nat → Nat → Int64} {g : Nat → Nat → Nat} {W W' : Nat → Nat → Nat → Nat}
/-- from i on the states are new -/
def nw (tm : Nat → Nat) (W W' : Nat → Nat → Nat → Nat) (i : Nat) (w : Nat → Nat → Int64) : Prop := ∀ a b c, a ≤ tm 0 → b ≤ tm 1 → c ≤ tm 2 → w 55 ((a * 6 + b) * 6 + c) = nL (if i ≤ (a * 6 + b) * 6 + c then W' a b c else W a b c)
theorem nw.to {i j : Nat} (h : nw tm W W' i w) (e : ∀ a b c, a ≤ tm 0 → b ≤ tm 1 → c ≤ tm 2 → (j ≤ (a * 6 + b) * 6 + c ↔ i ≤ (a * 6 + b) * 6 + c)) : nw tm W W' j w := fun a b c ha hb hc => by
  rw [h a b c ha hb hc, ite_iff (e a b c ha hb hc)]
theorem T_spendTogetherX (h : tX L lo hi dL dP tm v) {l : Nat} (hl : l < L) (hd : dL l ≠ 0) (w : Nat → Nat → Int64) (hW : wys tm w W) : ∃ w', f_Tables_spendTogether 48 (nI l) (bh v w) = some (bh v w') ∧ wys tm w' (cvo (cK lo hi dL l) W) := by
  have h' := h
  obtain ⟨h5, h0, -, -, -, -, htm⟩ := h'
  obtain ⟨f0, q0⟩ := htm 0 (by decide)
  obtain ⟨f1, q1⟩ := htm 1 (by decide)
  obtain ⟨f2, q2⟩ := htm 2 (by decide)
  have k30 : ∀ (rec7 : Nat → Int32 → Int32 → mH → Option mH) (rec18 : Nat → Int32 → Int32 → Int32 → mH → Option mH) (a b : Nat), a ≤ tm 0 → b ≤ tm 1 → ∀ (c fuel : Nat) (w : Nat → Nat → Int64), c + 1 < fuel → c ≤ tm 2 → nw tm W (cvo (cK lo hi dL l) W) ((a * 6 + b) * 6 + c + 1) w → ∃ w', f_Tables_spendTogether_30 rec7 rec18 fuel 48 (nI l) (nI a) (nI b) (nI c) (bh v w) = rec18 48 (nI l) (nI a) (nI b + -1) (bh v w') ∧ nw tm W (cvo (cK lo hi dL l) W) ((a * 6 + b) * 6) w' := by
    intro rec7 rec18 a b ha hb c
    have st : ∀ (m c : Nat) (w : Nat → Nat → Int64), c ≤ tm 2 → nw tm W (cvo (cK lo hi dL l) W) ((a * 6 + b) * 6 + c + 1) w → ∃ w', f_Tables_spendTogether_30 rec7 rec18 (m + 1) 48 (nI l) (nI a) (nI b) (nI c) (bh v w) = f_Tables_spendTogether_30 rec7 rec18 m 48 (nI l) (nI a) (nI b) (nI c + -1) (bh v w') ∧ nw tm W (cvo (cK lo hi dL l) W) ((a * 6 + b) * 6 + c) w' := by
      intro m c w hc hn
      have er := T_waysToX (w := w) (W := W) h (show a ≤ 5 by omega) (show b ≤ 5 by omega) (show c ≤ 5 by omega) hl hd (fun x y z hx hy hz => (hn x y z (by omega) (by omega) (by omega)).trans (by rw [if_neg (by omega)]))
      refine ⟨u2L w 55 ((a * 6 + b) * 6 + c) (nL (cvo (cK lo hi dL l) W a b c)), ?_, fun x y z hx hy hz => ?_⟩
      · show f_Tables_spendTogether_30b rec7 rec18 (f_Tables_spendTogether_30 rec7 rec18 m) 48 (nI l) (nI a) (nI b) (nI c) (bh v w) = _
        unfold f_Tables_spendTogether_30b
        rw [if_neg (nI_pos (by omega))]
        simp only [hB0, bd1_q]
        rw [st_I, bd2_s]
        simp only [hB0, bd1_q]
        rw [er, bd2_s]
        simp only [hB0, bd1_q]
        rw [wrL_nI (by omega) (by decide), bd1_s]
      · by_cases e : x = a ∧ y = b ∧ z = c
        · rw [e.1, e.2.1, e.2.2, u2L_at, if_pos (Nat.le_refl _)]
        · rw [u2L_n (by omega), hn x y z hx hy hz]
          by_cases k : (a * 6 + b) * 6 + c + 1 ≤ (x * 6 + y) * 6 + z
          · rw [if_pos k, if_pos (by omega)]
          · rw [if_neg k, if_neg (by omega)]
    have z : ∀ (m : Nat) (w : Nat → Nat → Int64), f_Tables_spendTogether_30 rec7 rec18 (m + 1) 48 (nI l) (nI a) (nI b) (-1) (bh v w) = rec18 48 (nI l) (nI a) (nI b + -1) (bh v w) := by
      intro m w
      show f_Tables_spendTogether_30b rec7 rec18 (f_Tables_spendTogether_30 rec7 rec18 m) 48 (nI l) (nI a) (nI b) (-1) (bh v w) = _
      unfold f_Tables_spendTogether_30b
      rw [if_pos (by decide)]
    induction c with
    | zero =>
      intro fuel w hf hc hn
      obtain ⟨m, rfl⟩ : ∃ m, fuel = m + 1 + 1 := ⟨fuel - 2, by omega⟩
      obtain ⟨w1, g1, n1⟩ := st (m + 1) 0 w hc hn
      rw [m1_0, z] at g1
      exact ⟨w1, g1, n1⟩
    | succ c ih =>
      intro fuel w hf hc hn
      obtain ⟨m, rfl⟩ : ∃ m, fuel = m + 1 := ⟨fuel - 1, by omega⟩
      obtain ⟨w1, g1, n1⟩ := st m (c + 1) w hc hn
      rw [m1_I c (by omega)] at g1
      obtain ⟨w2, g2, n2⟩ := ih m w1 (by omega) (by omega) n1
      exact ⟨w2, g1.trans g2, n2⟩
  have k18 : ∀ (rec7 : Nat → Int32 → Int32 → mH → Option mH) (a : Nat), a ≤ tm 0 → ∀ (b fuel : Nat) (w : Nat → Nat → Int64), b + 1 < fuel → b ≤ tm 1 → nw tm W (cvo (cK lo hi dL l) W) ((a * 6 + b) * 6 + tm 2 + 1) w → ∃ w', f_Tables_spendTogether_18 rec7 fuel 48 (nI l) (nI a) (nI b) (bh v w) = rec7 48 (nI l) (nI a + -1) (bh v w') ∧ nw tm W (cvo (cK lo hi dL l) W) (a * 36) w' := by
    intro rec7 a ha b
    have st : ∀ (m b : Nat) (w : Nat → Nat → Int64), b ≤ tm 1 → nw tm W (cvo (cK lo hi dL l) W) ((a * 6 + b) * 6 + tm 2 + 1) w → ∃ w', f_Tables_spendTogether_18 rec7 (m + 1) 48 (nI l) (nI a) (nI b) (bh v w) = f_Tables_spendTogether_18 rec7 m 48 (nI l) (nI a) (nI b + -1) (bh v w') ∧ nw tm W (cvo (cK lo hi dL l) W) ((a * 6 + b) * 6) w' := by
      intro m b w hb hn
      obtain ⟨w1, g1, n1⟩ := k30 rec7 (f_Tables_spendTogether_18 rec7 m) a b ha hb (tm 2) FU w (by unfold FU; omega) (Nat.le_refl _) hn
      refine ⟨w1, ?_, n1⟩
      show f_Tables_spendTogether_18b rec7 (f_Tables_spendTogether_18 rec7 m) 48 (nI l) (nI a) (nI b) (bh v w) = _
      unfold f_Tables_spendTogether_18b
      rw [if_neg (nI_pos (by omega))]
      simp only [hB0, bd1_q]
      rw [rd3.2.2, bd1_s, f2]
      exact g1
    have z : ∀ (m : Nat) (w : Nat → Nat → Int64), f_Tables_spendTogether_18 rec7 (m + 1) 48 (nI l) (nI a) (-1) (bh v w) = rec7 48 (nI l) (nI a + -1) (bh v w) := by
      intro m w
      show f_Tables_spendTogether_18b rec7 (f_Tables_spendTogether_18 rec7 m) 48 (nI l) (nI a) (-1) (bh v w) = _
      unfold f_Tables_spendTogether_18b
      rw [if_pos (by decide)]
    induction b with
    | zero =>
      intro fuel w hf hc hn
      obtain ⟨m, rfl⟩ : ∃ m, fuel = m + 1 + 1 := ⟨fuel - 2, by omega⟩
      obtain ⟨w1, g1, n1⟩ := st (m + 1) 0 w hc hn
      rw [m1_0, z] at g1
      exact ⟨w1, g1, n1.to (fun x y z hx hy hz => by omega)⟩
    | succ b ih =>
      intro fuel w hf hc hn
      obtain ⟨m, rfl⟩ : ∃ m, fuel = m + 1 := ⟨fuel - 1, by omega⟩
      obtain ⟨w1, g1, n1⟩ := st m (b + 1) w hc hn
      rw [m1_I b (by omega)] at g1
      obtain ⟨w2, g2, n2⟩ := ih m w1 (by omega) (by omega) (n1.to (fun x y z hx hy hz => by omega))
      exact ⟨w2, g1.trans g2, n2⟩
  have k7 : ∀ (a fuel : Nat) (w : Nat → Nat → Int64), a + 1 < fuel → a ≤ tm 0 → nw tm W (cvo (cK lo hi dL l) W) ((a * 6 + tm 1) * 6 + tm 2 + 1) w → ∃ w', f_Tables_spendTogether_7 fuel 48 (nI l) (nI a) (bh v w) = some (bh v w') ∧ nw tm W (cvo (cK lo hi dL l) W) 0 w' := by
    intro a
    have st : ∀ (m a : Nat) (w : Nat → Nat → Int64), a ≤ tm 0 → nw tm W (cvo (cK lo hi dL l) W) ((a * 6 + tm 1) * 6 + tm 2 + 1) w → ∃ w', f_Tables_spendTogether_7 (m + 1) 48 (nI l) (nI a) (bh v w) = f_Tables_spendTogether_7 m 48 (nI l) (nI a + -1) (bh v w') ∧ nw tm W (cvo (cK lo hi dL l) W) (a * 36) w' := by
      intro m a w ha hn
      obtain ⟨w1, g1, n1⟩ := k18 (f_Tables_spendTogether_7 m) a ha (tm 1) FU w (by unfold FU; omega) (Nat.le_refl _) hn
      refine ⟨w1, ?_, n1⟩
      show f_Tables_spendTogether_7b (f_Tables_spendTogether_7 m) 48 (nI l) (nI a) (bh v w) = _
      unfold f_Tables_spendTogether_7b
      rw [if_neg (nI_pos (by omega))]
      simp only [hB0, bd1_q]
      rw [rd3.2.1, bd1_s, f1]
      exact g1
    have z : ∀ (m : Nat) (w : Nat → Nat → Int64), f_Tables_spendTogether_7 (m + 1) 48 (nI l) (-1) (bh v w) = some (bh v w) := by
      intro m w
      show f_Tables_spendTogether_7b (f_Tables_spendTogether_7 m) 48 (nI l) (-1) (bh v w) = _
      unfold f_Tables_spendTogether_7b
      rw [if_pos (by decide)]
    induction a with
    | zero =>
      intro fuel w hf hc hn
      obtain ⟨m, rfl⟩ : ∃ m, fuel = m + 1 + 1 := ⟨fuel - 2, by omega⟩
      obtain ⟨w1, g1, n1⟩ := st (m + 1) 0 w hc hn
      rw [m1_0, z] at g1
      exact ⟨w1, g1, n1.to (fun x y z hx hy hz => by omega)⟩
    | succ a ih =>
      intro fuel w hf hc hn
      obtain ⟨m, rfl⟩ : ∃ m, fuel = m + 1 := ⟨fuel - 1, by omega⟩
      obtain ⟨w1, g1, n1⟩ := st m (a + 1) w hc hn
      rw [m1_I a (by omega)] at g1
      obtain ⟨w2, g2, n2⟩ := ih m w1 (by omega) (by omega) (n1.to (fun x y z hx hy hz => by omega))
      exact ⟨w2, g1.trans g2, n2⟩
  obtain ⟨w', e, n⟩ := k7 (tm 0) FU w (by unfold FU; omega) (Nat.le_refl _) (fun x y z hx hy hz => (hW x y z hx hy hz).trans (by rw [if_neg (by omega)]))
  refine ⟨w', ?_, fun x y z hx hy hz => (n x y z hx hy hz).trans (by rw [if_pos (Nat.zero_le _)])⟩
  unfold f_Tables_spendTogether f_Tables_spendTogether_0
  simp only [hB0, bd1_q]
  rw [rd3.1, bd1_s, f0]
  exact e
def uW (dP : Nat → Nat) (W : Nat → Nat → Nat → Nat) (a b c : Nat) : Nat := if (dP 0 = 0 ∨ dP 0 = a + 1) ∧ (dP 1 = 0 ∨ dP 1 = b + 1) ∧ (dP 2 = 0 ∨ dP 2 = c + 1) then W a b c else 0
def cTot (dP tm : Nat → Nat) (W : Nat → Nat → Nat → Nat) : Nat := sumN (fun a => sumN (fun b => sumN (fun c => uW dP W a b c) (tm 2 + 1)) (tm 1 + 1)) (tm 0 + 1)
theorem T_sumOfDueX (h : tX L lo hi dL dP tm v) (hW : wys tm w W) : f_Tables_sumOfDue 48 (bh v w) = some (nL (cTot dP tm W), bh v w) := by
  obtain ⟨h5, h0, -, -, -, hdP, htm⟩ := h
  obtain ⟨f0, q0⟩ := htm 0 (by decide)
  obtain ⟨f1, q1⟩ := htm 1 (by decide)
  obtain ⟨f2, q2⟩ := htm 2 (by decide)
  have k31 : ∀ (rec4 : Nat → Int64 → Int32 → mH → Option (Int64 × mH)) (rec17 : Nat → Int64 → Int32 → Int32 → mH → Option (Int64 × mH)) (S a b : Nat), a ≤ tm 0 → b ≤ tm 1 → ∀ (k fuel c : Nat), k < fuel → c + k = tm 2 + 1 → f_Tables_sumOfDue_31 rec4 rec17 fuel 48 (nL (S + sumN (fun c => uW dP W a b c) c)) (nI a) (nI b) (nI c) (bh v w) = rec17 48 (nL (S + sumN (fun c => uW dP W a b c) (tm 2 + 1))) (nI a) (nI (b + 1)) (bh v w) := by
    intro rec4 rec17 S a b ha hb k
    induction k with
    | zero =>
      intro fuel c hf hc
      obtain ⟨m, rfl⟩ : ∃ m, fuel = m + 1 := ⟨fuel - 1, by omega⟩
      show f_Tables_sumOfDue_31b rec4 rec17 (f_Tables_sumOfDue_31 rec4 rec17 m) 48 _ (nI a) (nI b) (nI c) (bh v w) = _
      unfold f_Tables_sumOfDue_31b
      simp only [hB0, bd1_q]
      rw [rd3.2.2, bd1_s, f2, if_pos (nI_lt (by omega) (by omega)), nI_1, show c = tm 2 + 1 by omega]
    | succ k ih =>
      intro fuel c hf hc
      obtain ⟨m, rfl⟩ : ∃ m, fuel = m + 1 := ⟨fuel - 1, by omega⟩
      have nx := ih m (c + 1) (by omega) (by omega)
      have es : sumN (fun c => uW dP W a b c) (c + 1) = sumN (fun c => uW dP W a b c) c + uW dP W a b c := rfl
      rw [es] at nx
      have g0 : f_Tables_isDueOf 48 (0 : Int32) (nI a) (bh v w) = some (if dP 0 = 0 ∨ dP 0 = a + 1 then 1 else 0, bh v w) := T_isDueX (v := v) (w := w) (p := 0) (by decide) (by omega) (hdP 0 (by decide)).2 (hdP 0 (by decide)).1
      have g1 : f_Tables_isDueOf 48 (1 : Int32) (nI b) (bh v w) = some (if dP 1 = 0 ∨ dP 1 = b + 1 then 1 else 0, bh v w) := T_isDueX (v := v) (w := w) (p := 1) (by decide) (by omega) (hdP 1 (by decide)).2 (hdP 1 (by decide)).1
      have g2 : f_Tables_isDueOf 48 (2 : Int32) (nI c) (bh v w) = some (if dP 2 = 0 ∨ dP 2 = c + 1 then 1 else 0, bh v w) := T_isDueX (v := v) (w := w) (p := 2) (by decide) (by omega) (hdP 2 (by decide)).2 (hdP 2 (by decide)).1
      have no : ¬ ((dP 0 = 0 ∨ dP 0 = a + 1) ∧ (dP 1 = 0 ∨ dP 1 = b + 1) ∧ (dP 2 = 0 ∨ dP 2 = c + 1)) → f_Tables_sumOfDue_31 rec4 rec17 m 48 (nL (S + sumN (fun c => uW dP W a b c) c)) (nI a) (nI b) (nI (c + 1)) (bh v w) = rec17 48 (nL (S + sumN (fun c => uW dP W a b c) (tm 2 + 1))) (nI a) (nI (b + 1)) (bh v w) := fun q => by
        have e : uW dP W a b c = 0 := if_neg q
        rw [e, Nat.add_zero] at nx
        exact nx
      show f_Tables_sumOfDue_31b rec4 rec17 (f_Tables_sumOfDue_31 rec4 rec17 m) 48 _ (nI a) (nI b) (nI c) (bh v w) = _
      unfold f_Tables_sumOfDue_31b f_Tables_sumOfDue_87
      simp only [hB0, bd1_q]
      rw [rd3.2.2, bd1_s, f2, if_neg (nI_nlt (by omega) (by omega)), g0, bd2_s, nI_1]
      by_cases d0 : dP 0 = 0 ∨ dP 0 = a + 1
      · rw [if_pos d0, if_neg (by decide)]
        simp only [hB0, bd1_q]
        rw [g1, bd2_s]
        by_cases d1 : dP 1 = 0 ∨ dP 1 = b + 1
        · rw [if_pos d1, if_neg (by decide)]
          simp only [hB0, bd1_q]
          rw [g2, bd2_s]
          by_cases d2 : dP 2 = 0 ∨ dP 2 = c + 1
          · rw [if_pos d2, if_neg (by decide)]
            simp only [hB0, bd1_q]
            rw [st_I, bd2_s]
            simp only [hB0, bd1_q]
            rw [rd_nI (by omega) (by decide), bd1_s, hW a b c ha hb (by omega), nL_add]
            have e : uW dP W a b c = W a b c := if_pos ⟨d0, d1, d2⟩
            rw [e, ← Nat.add_assoc] at nx
            exact nx
          · rw [if_neg d2, if_pos rfl]
            exact no (fun q => d2 q.2.2)
        · rw [if_neg d1, if_pos rfl]
          exact no (fun q => d1 q.2.1)
      · rw [if_neg d0, if_pos rfl]
        exact no (fun q => d0 q.1)
  have k17 : ∀ (rec4 : Nat → Int64 → Int32 → mH → Option (Int64 × mH)) (S a : Nat), a ≤ tm 0 → ∀ (k fuel b : Nat), k < fuel → b + k = tm 1 + 1 → f_Tables_sumOfDue_17 rec4 fuel 48 (nL (S + sumN (fun b => sumN (fun c => uW dP W a b c) (tm 2 + 1)) b)) (nI a) (nI b) (bh v w) = rec4 48 (nL (S + sumN (fun b => sumN (fun c => uW dP W a b c) (tm 2 + 1)) (tm 1 + 1))) (nI (a + 1)) (bh v w) := by
    intro rec4 S a ha k
    induction k with
    | zero =>
      intro fuel b hf hc
      obtain ⟨m, rfl⟩ : ∃ m, fuel = m + 1 := ⟨fuel - 1, by omega⟩
      show f_Tables_sumOfDue_17b rec4 (f_Tables_sumOfDue_17 rec4 m) 48 _ (nI a) (nI b) (bh v w) = _
      unfold f_Tables_sumOfDue_17b
      simp only [hB0, bd1_q]
      rw [rd3.2.1, bd1_s, f1, if_pos (nI_lt (by omega) (by omega)), nI_1, show b = tm 1 + 1 by omega]
    | succ k ih =>
      intro fuel b hf hc
      obtain ⟨m, rfl⟩ : ∃ m, fuel = m + 1 := ⟨fuel - 1, by omega⟩
      have g1 := k31 rec4 (f_Tables_sumOfDue_17 rec4 m) (S + sumN (fun b => sumN (fun c => uW dP W a b c) (tm 2 + 1)) b) a b ha (by omega) (tm 2 + 1) FU 0 (by unfold FU; omega) (by omega)
      have g2 := ih m (b + 1) (by omega) (by omega)
      have es : S + sumN (fun b => sumN (fun c => uW dP W a b c) (tm 2 + 1)) (b + 1) = S + sumN (fun b => sumN (fun c => uW dP W a b c) (tm 2 + 1)) b + sumN (fun c => uW dP W a b c) (tm 2 + 1) := (Nat.add_assoc _ _ _).symm
      rw [es] at g2
      show f_Tables_sumOfDue_17b rec4 (f_Tables_sumOfDue_17 rec4 m) 48 _ (nI a) (nI b) (bh v w) = _
      unfold f_Tables_sumOfDue_17b
      simp only [hB0, bd1_q]
      rw [rd3.2.1, bd1_s, f1, if_neg (nI_nlt (by omega) (by omega))]
      exact g1.trans g2
  have k4 : ∀ (k fuel a : Nat), k < fuel → a + k = tm 0 + 1 → f_Tables_sumOfDue_4 fuel 48 (nL (sumN (fun a => sumN (fun b => sumN (fun c => uW dP W a b c) (tm 2 + 1)) (tm 1 + 1)) a)) (nI a) (bh v w) = some (nL (cTot dP tm W), bh v w) := by
    intro k
    induction k with
    | zero =>
      intro fuel a hf hc
      obtain ⟨m, rfl⟩ : ∃ m, fuel = m + 1 := ⟨fuel - 1, by omega⟩
      show f_Tables_sumOfDue_4b (f_Tables_sumOfDue_4 m) 48 _ (nI a) (bh v w) = _
      unfold f_Tables_sumOfDue_4b cTot
      simp only [hB0, bd1_q]
      rw [rd3.1, bd1_s, f0, if_pos (nI_lt (by omega) (by omega)), show a = tm 0 + 1 by omega]
    | succ k ih =>
      intro fuel a hf hc
      obtain ⟨m, rfl⟩ : ∃ m, fuel = m + 1 := ⟨fuel - 1, by omega⟩
      have g1 := k17 (f_Tables_sumOfDue_4 m) (sumN (fun a => sumN (fun b => sumN (fun c => uW dP W a b c) (tm 2 + 1)) (tm 1 + 1)) a) a (by omega) (tm 1 + 1) FU 0 (by unfold FU; omega) (by omega)
      have g2 := ih m (a + 1) (by omega) (by omega)
      show f_Tables_sumOfDue_4b (f_Tables_sumOfDue_4 m) 48 _ (nI a) (bh v w) = _
      unfold f_Tables_sumOfDue_4b
      simp only [hB0, bd1_q]
      rw [rd3.1, bd1_s, f0, if_neg (nI_nlt (by omega) (by omega))]
      exact g1.trans g2
  exact k4 (tm 0 + 1) FU 0 (by unfold FU; omega) (by omega)
theorem T_fillX (x : Int64) (v : Nat → Nat → Int32) (w : Nat → Nat → Int64) : ∃ w1, f_Arrays_fillJ 54 x (bh v w) = some (bh v w1) ∧ ∀ j, j < 18 → w1 54 j = x := by
  have key : ∀ (k fuel i : Nat) (w : Nat → Nat → Int64), k < fuel → i + k = 18 → (∀ j, j < i → w 54 j = x) → ∃ w1, f_Arrays_fillJ_6 fuel 54 x (nI i) (nI 18) (bh v w) = some (bh v w1) ∧ ∀ j, j < 18 → w1 54 j = x := by
    intro k
    induction k with
    | zero =>
      intro fuel i w hf hi hj
      obtain ⟨m, rfl⟩ : ∃ m, fuel = m + 1 := ⟨fuel - 1, by omega⟩
      refine ⟨w, ?_, fun j h => hj j (by omega)⟩
      show f_Arrays_fillJ_6b (f_Arrays_fillJ_6 m) 54 x (nI i) (nI 18) (bh v w) = some (bh v w)
      unfold f_Arrays_fillJ_6b
      rw [if_pos ((nI_leI (by omega) (by omega)).mpr (by omega))]
    | succ k ih =>
      intro fuel i w hf hi hj
      obtain ⟨m, rfl⟩ : ∃ m, fuel = m + 1 := ⟨fuel - 1, by omega⟩
      show ∃ w1, f_Arrays_fillJ_6b (f_Arrays_fillJ_6 m) 54 x (nI i) (nI 18) (bh v w) = some (bh v w1) ∧ _
      unfold f_Arrays_fillJ_6b
      simp only [hB0]
      rw [if_neg (fun z => by have := (nI_leI (by omega) (by omega)).mp z; omega), wrL_nI (by omega) (by omega), bd1_s, nI_1]
      exact ih m (i + 1) _ (by omega) (by omega) (fun j h => by
        by_cases z : j = i
        · rw [z, u2L_at]
        · rw [u2L_n z]; exact hj j (by omega))
  unfold f_Arrays_fillJ f_Arrays_fillJ_0
  rw [show aN (bh v w) 3 54 = some (nI 18) from rfl, bd1_s, show (0 : Int32) = nI 0 from rfl]
  exact key 18 FU 0 w (by decide) (by decide) (fun j h => by omega)
def bF (dL : Nat → Nat) (l : Nat) : Bool := decide (¬ dL l = 0)
theorem bF_0 {dL : Nat → Nat} {l : Nat} (z : dL l = 0) : ¬ bF dL l = true := fun q => by
  unfold bF at q
  rw [decide_eq_true_iff] at q
  exact q z
theorem bF_1 {dL : Nat → Nat} {l : Nat} (z : ¬ dL l = 0) : bF dL l = true := decide_eq_true z
def aF (lo hi : Nat → Nat → Nat) (dL : Nat → Nat) (p n : Nat) : Nat → Nat := c1F (bF dL) (kB lo hi p) e0 n
/-- how many tables there are by the class -/
def cAll (L : Nat) (lo hi : Nat → Nat → Nat) (dL dP tm : Nat → Nat) : Nat := cTot dP tm (cvB (bF dL) (cK lo hi dL) (pr3 (aF lo hi dL 0 L) (aF lo hi dL 1 L) (aF lo hi dL 2 L)) L)
theorem T_fittingX (h : tX L lo hi dL dP tm v) (w : Nat → Nat → Int64) : ∃ w', f_Tables_fitting 48 (bh v w) = some (nL (cAll L lo hi dL dP tm), bh v w') := by
  have h' := h
  obtain ⟨h5, h0, -, -, hdL, -, htm⟩ := h'
  have k69 : ∀ (k fuel l : Nat) (w : Nat → Nat → Int64), k < fuel → l + k = L → wys tm w (cvB (bF dL) (cK lo hi dL) (pr3 (aF lo hi dL 0 L) (aF lo hi dL 1 L) (aF lo hi dL 2 L)) l) → ∃ w', f_Tables_fitting_69 fuel 48 (nI l) (bh v w) = some (nL (cAll L lo hi dL dP tm), bh v w') := by
    intro k
    induction k with
    | zero =>
      intro fuel l w hf hl hW
      obtain ⟨m, rfl⟩ : ∃ m, fuel = m + 1 := ⟨fuel - 1, by omega⟩
      have el : l = L := by omega
      rw [el] at hW
      have e := T_sumOfDueX (w := w) h hW
      refine ⟨w, ?_⟩
      show f_Tables_fitting_69b (f_Tables_fitting_69 m) 48 (nI l) (bh v w) = _
      unfold f_Tables_fitting_69b
      simp only [hB0, bd1_q]
      rw [h0, if_pos ((nI_leI (by omega) (by omega)).mpr (by omega)), e, bd2_s]
      rfl
    | succ k ih =>
      intro fuel l w hf hl hW
      obtain ⟨m, rfl⟩ : ∃ m, fuel = m + 1 := ⟨fuel - 1, by omega⟩
      obtain ⟨ed, d100⟩ := hdL l (by omega)
      have es : cvB (bF dL) (cK lo hi dL) (pr3 (aF lo hi dL 0 L) (aF lo hi dL 1 L) (aF lo hi dL 2 L)) (l + 1) = if bF dL l = true then cvo (cK lo hi dL l) (cvB (bF dL) (cK lo hi dL) (pr3 (aF lo hi dL 0 L) (aF lo hi dL 1 L) (aF lo hi dL 2 L)) l) else cvB (bF dL) (cK lo hi dL) (pr3 (aF lo hi dL 0 L) (aF lo hi dL 1 L) (aF lo hi dL 2 L)) l := rfl
      show ∃ w', f_Tables_fitting_69b (f_Tables_fitting_69 m) 48 (nI l) (bh v w) = some (_, bh v w')
      unfold f_Tables_fitting_69b f_Tables_fitting_92
      simp only [hB0, bd1_q]
      rw [h0, if_neg (fun q => by have := (nI_leI (by omega) (by omega)).mp q; omega), rd_nI (by omega) (by decide), bd1_s, nI_1, ed, ite_iff (dI_free _ d100)]
      by_cases z : dL l = 0
      · rw [if_pos z]
        exact ih m (l + 1) w (by omega) (by omega) (by rw [es, if_neg (bF_0 z)]; exact hW)
      · rw [if_neg z]
        obtain ⟨w1, e1, W1⟩ := T_spendTogetherX h (show l < L by omega) z w hW
        rw [e1, bd1_s]
        exact ih m (l + 1) w1 (by omega) (by omega) (by rw [es, if_pos (bF_1 z)]; exact W1)
  have k27 : ∀ (rec10 : Nat → Int32 → mH → Option (Int64 × mH)) (p : Nat), p < 3 → ∀ (k fuel l : Nat) (w : Nat → Nat → Int64), k < fuel → l + k = L → alo tm w (fun q s => if q < p then aF lo hi dL q L s else if q = p then aF lo hi dL q l s else 0) → ∃ w', f_Tables_fitting_27 rec10 fuel 48 (nI p) (nI l) (bh v w) = rec10 48 (nI (p + 1)) (bh v w') ∧ alo tm w' (fun q s => if q < p + 1 then aF lo hi dL q L s else 0) := by
    intro rec10 p hp k
    induction k with
    | zero =>
      intro fuel l w hf hl hA
      obtain ⟨m, rfl⟩ : ∃ m, fuel = m + 1 := ⟨fuel - 1, by omega⟩
      refine ⟨w, ?_, hA.to (fun q s _ _ => ?_)⟩
      · show f_Tables_fitting_27b rec10 (f_Tables_fitting_27 rec10 m) 48 (nI p) (nI l) (bh v w) = _
        unfold f_Tables_fitting_27b
        simp only [hB0, bd1_q]
        rw [h0, if_pos ((nI_leI (by omega) (by omega)).mpr (by omega)), nI_1]
      · rw [show l = L by omega]
        by_cases c1 : q < p
        · rw [if_pos c1, if_pos (by omega)]
        · rw [if_neg c1]
          by_cases c2 : q = p
          · rw [if_pos c2, if_pos (by omega)]
          · rw [if_neg c2, if_neg (by omega)]
    | succ k ih =>
      intro fuel l w hf hl hA
      obtain ⟨m, rfl⟩ : ∃ m, fuel = m + 1 := ⟨fuel - 1, by omega⟩
      obtain ⟨ed, d100⟩ := hdL l (by omega)
      have es : ∀ q, aF lo hi dL q (l + 1) = if bF dL l = true then aF lo hi dL q l else c1 (kB lo hi q l) (aF lo hi dL q l) := fun q => rfl
      show ∃ w', f_Tables_fitting_27b rec10 (f_Tables_fitting_27 rec10 m) 48 (nI p) (nI l) (bh v w) = _ ∧ _
      unfold f_Tables_fitting_27b f_Tables_fitting_51
      simp only [hB0, bd1_q]
      rw [h0, if_neg (fun q => by have := (nI_leI (by omega) (by omega)).mp q; omega), rd_nI (by omega) (by decide), bd1_s, nI_1, ed, ite_iff (dI_free _ d100)]
      by_cases z : dL l = 0
      · rw [if_pos z]
        obtain ⟨w1, e1, a1⟩ := T_spendAloneX h hp (show l < L by omega) w hA
        rw [e1, bd1_s]
        refine ih m (l + 1) w1 (by omega) (by omega) (a1.to (fun q s _ _ => ?_))
        by_cases c2 : q = p
        · rw [c2, if_pos rfl, if_neg (Nat.lt_irrefl p), if_pos rfl, es, if_neg (bF_0 z)]
          have ef : (fun s => if p < p then aF lo hi dL p L s else if p = p then aF lo hi dL p l s else 0) = aF lo hi dL p l := by
            funext s
            rw [if_neg (Nat.lt_irrefl p), if_pos rfl]
          exact congrFun (congrArg (c1 (kB lo hi p l)) ef) s
        · rw [if_neg c2]
          by_cases c1 : q < p
          · rw [if_pos c1, if_pos c1]
          · rw [if_neg c1, if_neg c2, if_neg c1, if_neg c2]
      · rw [if_neg z]
        refine ih m (l + 1) w (by omega) (by omega) (hA.to (fun q s _ _ => ?_))
        by_cases c1 : q < p
        · rw [if_pos c1, if_pos c1]
        · rw [if_neg c1, if_neg c1]
          by_cases c2 : q = p
          · rw [if_pos c2, if_pos c2, es, if_pos (bF_1 z)]
          · rw [if_neg c2, if_neg c2]
  have k10 : ∀ (k fuel p : Nat) (w : Nat → Nat → Int64), k < fuel → p + k = 3 → alo tm w (fun q s => if q < p then aF lo hi dL q L s else 0) → ∃ w', f_Tables_fitting_10 fuel 48 (nI p) (bh v w) = some (nL (cAll L lo hi dL dP tm), bh v w') := by
    intro k
    induction k with
    | zero =>
      intro fuel p w hf hp hA
      obtain ⟨m, rfl⟩ : ∃ m, fuel = m + 1 := ⟨fuel - 1, by omega⟩
      have hA : alo tm w (fun q s => aF lo hi dL q L s) := hA.to (fun q s hq _ => by rw [if_pos (by omega)])
      obtain ⟨w1, e1, W1⟩ := T_joinAllX h w hA
      obtain ⟨w2, e2⟩ := k69 L FU 0 w1 (by unfold FU; omega) (by omega) W1
      have e2 : f_Tables_fitting_69 FU 48 0 (bh v w1) = some (nL (cAll L lo hi dL dP tm), bh v w2) := e2
      refine ⟨w2, ?_⟩
      show f_Tables_fitting_10b (f_Tables_fitting_10 m) 48 (nI p) (bh v w) = _
      unfold f_Tables_fitting_10b
      rw [show (3 : Int32) = nI 3 from rfl, if_pos ((nI_leI (by omega) (by omega)).mpr (by omega))]
      simp only [hB0, bd1_q]
      rw [e1, bd1_s, e2]
    | succ k ih =>
      intro fuel p w hf hp hA
      obtain ⟨m, rfl⟩ : ∃ m, fuel = m + 1 := ⟨fuel - 1, by omega⟩
      obtain ⟨w1, e1, a1⟩ := k27 (f_Tables_fitting_10 m) p (by omega) L FU 0 (u2L w 54 (p * 6) 1) (by unfold FU; omega) (by omega) (fun q s hq hs => by
        have tq := (htm q hq).2
        have h2 : w 54 (6 * q + s) = nL (if q < p then aF lo hi dL q L s else 0) := hA q s hq hs
        show u2L w 54 (p * 6) 1 54 (6 * q + s) = nL (if q < p then aF lo hi dL q L s else if q = p then aF lo hi dL q 0 s else 0)
        by_cases e : q = p ∧ s = 0
        · rw [e.1, e.2, show 6 * p + 0 = p * 6 by omega, u2L_at, if_neg (Nat.lt_irrefl p), if_pos rfl]
          rfl
        · rw [u2L_n (by omega), h2]
          by_cases c1 : q < p
          · rw [if_pos c1, if_pos c1]
          · rw [if_neg c1, if_neg c1]
            by_cases c2 : q = p
            · rw [if_pos c2]
              show nL 0 = nL (e0 s)
              unfold e0
              rw [if_neg (fun z => e ⟨c2, z⟩)]
            · rw [if_neg c2])
      have e1 : f_Tables_fitting_27 (f_Tables_fitting_10 m) FU 48 (nI p) 0 (bh v (u2L w 54 (p * 6) 1)) = f_Tables_fitting_10 m 48 (nI (p + 1)) (bh v w1) := e1
      obtain ⟨w2, e2⟩ := ih m (p + 1) w1 (by omega) (by omega) a1
      refine ⟨w2, ?_⟩
      show f_Tables_fitting_10b (f_Tables_fitting_10 m) 48 (nI p) (bh v w) = _
      unfold f_Tables_fitting_10b
      rw [show (3 : Int32) = nI 3 from rfl, if_neg (fun q => by have := (nI_leI (by omega) (by omega)).mp q; omega)]
      simp only [hB0, bd1_q]
      rw [show (6 : Int32) = nI 6 from rfl, pk_mul, wrL_nI (by omega) (by decide), bd1_s, e1]
      exact e2
  obtain ⟨w1, e1, z1⟩ := T_fillX 0 v w
  obtain ⟨w2, e2⟩ := k10 3 FU 0 w1 (by decide) (by decide) (fun q s hq hs => by
    have tq := (htm q hq).2
    show w1 54 (6 * q + s) = nL (if q < 0 then aF lo hi dL q L s else 0)
    rw [z1 _ (by omega), if_neg (Nat.not_lt_zero q)]
    rfl)
  refine ⟨w2, ?_⟩
  unfold f_Tables_fitting f_Tables_fitting_0
  simp only [hB0, bd1_q]
  rw [e1, bd1_s, show (0 : Int32) = nI 0 from rfl]
  exact e2
end
