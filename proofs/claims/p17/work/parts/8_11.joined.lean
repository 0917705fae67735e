/-! 8z2.booksc.lean.txt -/
section
/-! books, entry: the class comes to an end -/
def tH (L : Nat) (v : Nat → Nat → Int32) : Prop := L ≤ 5 ∧ v 48 0 = nI L ∧ (∀ p, p < 3 → ∃ t, t ≤ 5 ∧ v 53 p = nI t) ∧ (∀ i, i < 15 → ∃ a, a ≤ 3 ∧ v 49 i = nI a) ∧ ∀ i, i < 15 → ∃ b, b ≤ 3 ∧ v 50 i = nI b
theorem m1_0 : nI 0 + (-1 : Int32) = -1 := by decide
theorem st_I (a b c : Nat) (h : mH) : f_Tables_stateOf (nI a) (nI b) (nI c) h = some (nI ((a * 6 + b) * 6 + c), h) := by
  unfold f_Tables_stateOf f_Tables_stateOf_0
  rw [show (6 : Int32) = nI 6 from rfl, pk_mul, nI_add, pk_mul, nI_add]
theorem ite_I {a b : Nat} (ha : a < 2 ^ 31) (hb : b < 2 ^ 31) : (if nI a < nI b then nI a else nI b) = nI (if a < b then a else b) := by
  rw [ite_iff (nI_ltI ha hb)]
  split <;> rfl
section
variable {L : Nat} {v : Nat → Nat → Int32} {w : Nat → Nat → Int64}
theorem T_sa42 {p a b s : Nat} (hp : p < 3) (ha : a ≤ 3) (hb : b ≤ 3) (hs : s ≤ 5) (rec31 : Nat → Int32 → Int32 → Int32 → Int32 → mH → Option mH) : ∀ (k fuel n : Nat) (x : Int64), k < fuel → s + 1 ≤ n + k → n ≤ 20 → ∃ w', f_Tables_spendAlone_42 rec31 fuel 48 (nI p) (nI a) (nI b) (nI s) x (nI n) (bh v w) = rec31 48 (nI p) (nI a) (nI b) (nI s + -1) (bh v w') := by
  have e82 : ∀ x : Int64, ∃ w', f_Tables_spendAlone_82 rec31 48 (nI p) (nI a) (nI b) (nI s) x (bh v w) = rec31 48 (nI p) (nI a) (nI b) (nI s + -1) (bh v w') := by
    intro x
    unfold f_Tables_spendAlone_82
    simp only [hB0, bd1_q]
    rw [show (6 : Int32) = nI 6 from rfl, pk_mul, nI_add, wrL_nI (by omega) (by decide), bd1_s]
    exact ⟨_, rfl⟩
  intro k
  induction k with
  | zero =>
    intro fuel n x hf hn hn2
    obtain ⟨m, rfl⟩ : ∃ m, fuel = m + 1 := ⟨fuel - 1, by omega⟩
    show ∃ w', f_Tables_spendAlone_42b rec31 (f_Tables_spendAlone_42 rec31 m) 48 (nI p) (nI a) (nI b) (nI s) x (nI n) (bh v w) = _
    unfold f_Tables_spendAlone_42b
    rw [if_pos (show nI s < nI n from nI_lt (by omega) (by omega))]
    split
    · exact e82 x
    · exact e82 x
  | succ k ih =>
    intro fuel n x hf hn hn2
    obtain ⟨m, rfl⟩ : ∃ m, fuel = m + 1 := ⟨fuel - 1, by omega⟩
    show ∃ w', f_Tables_spendAlone_42b rec31 (f_Tables_spendAlone_42 rec31 m) 48 (nI p) (nI a) (nI b) (nI s) x (nI n) (bh v w) = _
    unfold f_Tables_spendAlone_42b
    rw [ite_iff (nI_ltI (a := b) (b := n) (by omega) (by omega)), ite_iff (nI_ltI (a := s) (b := n) (by omega) (by omega))]
    by_cases c1 : b < n
    · rw [if_pos c1]; exact e82 x
    · rw [if_neg c1]
      by_cases c2 : s < n
      · rw [if_pos c2]; exact e82 x
      · rw [if_neg c2]
        simp only [hB0, bd1_q]
        rw [show (6 : Int32) = nI 6 from rfl, pk_mul, nI_add, pk_sub (by omega), rd_nI (by omega) (by decide), bd1_s, nI_1]
        exact ih m (n + 1) _ (by omega) (by omega) (by omega)
theorem T_spendAlone (h : tH L v) {p l : Nat} (hp : p < 3) (hl : l < L) (w : Nat → Nat → Int64) : ∃ w', f_Tables_spendAlone 48 (nI p) (nI l) (bh v w) = some (bh v w') := by
  obtain ⟨h5, h0, ht, ha, hb⟩ := h
  obtain ⟨a, a3, ea⟩ := ha (5 * p + l) (by omega)
  obtain ⟨b, b3, eb⟩ := hb (5 * p + l) (by omega)
  obtain ⟨t, t5, et⟩ := ht p hp
  have key : ∀ (s fuel : Nat) (w : Nat → Nat → Int64), s + 1 < fuel → s ≤ 5 → ∃ w', f_Tables_spendAlone_31 fuel 48 (nI p) (nI a) (nI b) (nI s) (bh v w) = some (bh v w') := by
    have z : ∀ (m : Nat) (w : Nat → Nat → Int64), f_Tables_spendAlone_31 (m + 1) 48 (nI p) (nI a) (nI b) (-1) (bh v w) = some (bh v w) := by
      intro m w
      show f_Tables_spendAlone_31b (f_Tables_spendAlone_31 m) 48 (nI p) (nI a) (nI b) (-1) (bh v w) = _
      unfold f_Tables_spendAlone_31b
      rw [if_pos (by decide)]
    intro s
    induction s with
    | zero =>
      intro fuel w hf hs
      obtain ⟨m, rfl⟩ : ∃ m, fuel = m + 1 + 1 := ⟨fuel - 2, by omega⟩
      obtain ⟨w1, e1⟩ := T_sa42 (v := v) (w := w) hp a3 b3 hs (f_Tables_spendAlone_31 (m + 1)) 30 FU a 0 (by decide) (by omega) (by omega)
      rw [m1_0, z] at e1
      refine ⟨w1, ?_⟩
      show f_Tables_spendAlone_31b (f_Tables_spendAlone_31 (m + 1)) 48 (nI p) (nI a) (nI b) (nI 0) (bh v w) = _
      unfold f_Tables_spendAlone_31b
      rw [if_neg (nI_pos (by omega))]
      exact e1
    | succ s ih =>
      intro fuel w hf hs
      obtain ⟨m, rfl⟩ : ∃ m, fuel = m + 1 := ⟨fuel - 1, by omega⟩
      obtain ⟨w1, e1⟩ := T_sa42 (v := v) (w := w) hp a3 b3 hs (f_Tables_spendAlone_31 m) 30 FU a 0 (by decide) (by omega) (by omega)
      obtain ⟨w2, e2⟩ := ih m w1 (by omega) (by omega)
      rw [m1_I s (by omega), e2] at e1
      refine ⟨w2, ?_⟩
      show f_Tables_spendAlone_31b (f_Tables_spendAlone_31 m) 48 (nI p) (nI a) (nI b) (nI (s + 1)) (bh v w) = _
      unfold f_Tables_spendAlone_31b
      rw [if_neg (nI_pos (by omega))]
      exact e1
  unfold f_Tables_spendAlone f_Tables_spendAlone_0
  simp only [hB0, bd1_q]
  rw [show (5 : Int32) = nI 5 from rfl, pk_mul, nI_add, Nat.mul_comm p 5, rd_nI (by omega) (by decide), bd1_s, rd_nI (by omega) (by decide), bd1_s, rd_nI hp (by decide), bd1_s, ea, eb, et]
  exact key t FU w (by unfold FU; omega) t5
theorem rd3 {f : Nat → Int32} : rd f 3 (0 : Int32) = some (f 0) ∧ rd f 3 (1 : Int32) = some (f 1) ∧ rd f 3 (2 : Int32) = some (f 2) := ⟨rfl, rfl, rfl⟩
theorem T_joinAll (h : tH L v) (w : Nat → Nat → Int64) : ∃ w', f_Tables_joinAll 48 (bh v w) = some (bh v w') := by
  obtain ⟨h5, h0, ht, -, -⟩ := h
  obtain ⟨t0, q0, e0⟩ := ht 0 (by decide)
  obtain ⟨t1, q1, e1⟩ := ht 1 (by decide)
  obtain ⟨t2, q2, e2⟩ := ht 2 (by decide)
  have k26 : ∀ (rec2 : Nat → Int32 → mH → Option mH) (rec14 : Nat → Int32 → Int32 → mH → Option mH) (a b : Nat), a ≤ 5 → b ≤ 5 → ∀ (k fuel c : Nat) (w : Nat → Nat → Int64), k < fuel → c + k = t2 + 1 → ∃ w', f_Tables_joinAll_26 rec2 rec14 fuel 48 (nI a) (nI b) (nI c) (bh v w) = rec14 48 (nI a) (nI (b + 1)) (bh v w') := by
    intro rec2 rec14 a b ha hb k
    induction k with
    | zero =>
      intro fuel c w hf hc
      obtain ⟨m, rfl⟩ : ∃ m, fuel = m + 1 := ⟨fuel - 1, by omega⟩
      refine ⟨w, ?_⟩
      show f_Tables_joinAll_26b rec2 rec14 (f_Tables_joinAll_26 rec2 rec14 m) 48 (nI a) (nI b) (nI c) (bh v w) = _
      unfold f_Tables_joinAll_26b
      simp only [hB0, bd1_q]
      rw [rd3.2.2, bd1_s, e2, if_pos (nI_lt (by omega) (by omega)), nI_1]
    | succ k ih =>
      intro fuel c w hf hc
      obtain ⟨m, rfl⟩ : ∃ m, fuel = m + 1 := ⟨fuel - 1, by omega⟩
      show ∃ w', f_Tables_joinAll_26b rec2 rec14 (f_Tables_joinAll_26 rec2 rec14 m) 48 (nI a) (nI b) (nI c) (bh v w) = _
      unfold f_Tables_joinAll_26b
      simp only [hB0, bd1_q]
      rw [rd3.2.2, bd1_s, e2, if_neg (nI_nlt (by omega) (by omega)), st_I, bd2_s]
      simp only [hB0, bd1_q]
      rw [show (6 : Int32) = nI 6 from rfl, show (12 : Int32) = nI 12 from rfl, nI_add, nI_add, rd_nI (by omega) (by decide), bd1_s, rd_nI (by omega) (by decide), bd1_s, rd_nI (by omega) (by decide), bd1_s, wrL_nI (by omega) (by decide), bd1_s, nI_1]
      exact ih m (c + 1) _ (by omega) (by omega)
  have k14 : ∀ (rec2 : Nat → Int32 → mH → Option mH) (a : Nat), a ≤ 5 → ∀ (k fuel b : Nat) (w : Nat → Nat → Int64), k < fuel → b + k = t1 + 1 → ∃ w', f_Tables_joinAll_14 rec2 fuel 48 (nI a) (nI b) (bh v w) = rec2 48 (nI (a + 1)) (bh v w') := by
    intro rec2 a ha k
    induction k with
    | zero =>
      intro fuel b w hf hc
      obtain ⟨m, rfl⟩ : ∃ m, fuel = m + 1 := ⟨fuel - 1, by omega⟩
      refine ⟨w, ?_⟩
      show f_Tables_joinAll_14b rec2 (f_Tables_joinAll_14 rec2 m) 48 (nI a) (nI b) (bh v w) = _
      unfold f_Tables_joinAll_14b
      simp only [hB0, bd1_q]
      rw [rd3.2.1, bd1_s, e1, if_pos (nI_lt (by omega) (by omega)), nI_1]
    | succ k ih =>
      intro fuel b w hf hc
      obtain ⟨m, rfl⟩ : ∃ m, fuel = m + 1 := ⟨fuel - 1, by omega⟩
      obtain ⟨w1, g1⟩ := k26 rec2 (f_Tables_joinAll_14 rec2 m) a b ha (by omega) (t2 + 1) FU 0 w (by unfold FU; omega) (by omega)
      obtain ⟨w2, g2⟩ := ih m (b + 1) w1 (by omega) (by omega)
      refine ⟨w2, ?_⟩
      show f_Tables_joinAll_14b rec2 (f_Tables_joinAll_14 rec2 m) 48 (nI a) (nI b) (bh v w) = _
      unfold f_Tables_joinAll_14b
      simp only [hB0, bd1_q]
      rw [rd3.2.1, bd1_s, e1, if_neg (nI_nlt (by omega) (by omega))]
      exact g1.trans g2
  have k2 : ∀ (k fuel a : Nat) (w : Nat → Nat → Int64), k < fuel → a + k = t0 + 1 → ∃ w', f_Tables_joinAll_2 fuel 48 (nI a) (bh v w) = some (bh v w') := by
    intro k
    induction k with
    | zero =>
      intro fuel a w hf hc
      obtain ⟨m, rfl⟩ : ∃ m, fuel = m + 1 := ⟨fuel - 1, by omega⟩
      refine ⟨w, ?_⟩
      show f_Tables_joinAll_2b (f_Tables_joinAll_2 m) 48 (nI a) (bh v w) = _
      unfold f_Tables_joinAll_2b
      simp only [hB0, bd1_q]
      rw [rd3.1, bd1_s, e0, if_pos (nI_lt (by omega) (by omega))]
    | succ k ih =>
      intro fuel a w hf hc
      obtain ⟨m, rfl⟩ : ∃ m, fuel = m + 1 := ⟨fuel - 1, by omega⟩
      obtain ⟨w1, g1⟩ := k14 (f_Tables_joinAll_2 m) a (by omega) (t1 + 1) FU 0 w (by unfold FU; omega) (by omega)
      obtain ⟨w2, g2⟩ := ih m (a + 1) w1 (by omega) (by omega)
      refine ⟨w2, ?_⟩
      show f_Tables_joinAll_2b (f_Tables_joinAll_2 m) 48 (nI a) (bh v w) = _
      unfold f_Tables_joinAll_2b
      simp only [hB0, bd1_q]
      rw [rd3.1, bd1_s, e0, if_neg (nI_nlt (by omega) (by omega))]
      exact g1.trans g2
  obtain ⟨w1, g⟩ := k2 (t0 + 1) FU 0 w (by unfold FU; omega) (by omega)
  exact ⟨w1, g⟩
theorem T_waysTo (h : tH L v) {a b c l : Nat} (ha : a ≤ 5) (hb : b ≤ 5) (hc : c ≤ 5) (hl : l < L) : ∃ r, f_Tables_waysTo 48 (nI a) (nI b) (nI c) (nI l) (bh v w) = some (r, bh v w) := by
  obtain ⟨h5, h0, -, hlo, hhi⟩ := h
  obtain ⟨a0, b0, c0⟩ := hlo l (by omega)
  obtain ⟨a1, b1, c1⟩ := hlo (5 + l) (by omega)
  obtain ⟨a2, b2, c2⟩ := hlo (10 + l) (by omega)
  obtain ⟨d0, g0, i0⟩ := hhi l (by omega)
  obtain ⟨d1, g1, i1⟩ := hhi (5 + l) (by omega)
  obtain ⟨d2, g2, i2⟩ := hhi (10 + l) (by omega)
  have m0 : (if a < d0 then a else d0) ≤ a ∧ (if a < d0 then a else d0) ≤ 3 := by split <;> omega
  have m1 : (if b < d1 then b else d1) ≤ b ∧ (if b < d1 then b else d1) ≤ 3 := by split <;> omega
  have m2 : (if c < d2 then c else d2) ≤ c ∧ (if c < d2 then c else d2) ≤ 3 := by split <;> omega
  generalize hM0 : (if a < d0 then a else d0) = M0 at m0
  generalize hM1 : (if b < d1 then b else d1) = M1 at m1
  generalize hM2 : (if c < d2 then c else d2) = M2 at m2
  have k74 : ∀ (rec56 : Nat → Int32 → Int32 → Int32 → Int32 → Int32 → Int32 → Int32 → Int64 → Int32 → mH → Option (Int64 × mH)) (n : Nat), n ≤ M0 → ∀ (k fuel j : Nat) (x : Int64), k < fuel → M1 + 1 ≤ j + k → j ≤ 20 → ∃ y, f_Tables_waysTo_74 rec56 fuel 48 (nI a) (nI b) (nI c) (nI l) (nI M0) (nI M1) (nI M2) x (nI n) (nI j) (bh v w) = rec56 48 (nI a) (nI b) (nI c) (nI l) (nI M0) (nI M1) (nI M2) y (nI (n + 1)) (bh v w) := by
    intro rec56 n hn k
    induction k with
    | zero =>
      intro fuel j x hf hj hj2
      obtain ⟨m, rfl⟩ : ∃ m, fuel = m + 1 := ⟨fuel - 1, by omega⟩
      refine ⟨x, ?_⟩
      show f_Tables_waysTo_74b rec56 (f_Tables_waysTo_74 rec56 m) 48 (nI a) (nI b) (nI c) (nI l) (nI M0) (nI M1) (nI M2) x (nI n) (nI j) (bh v w) = _
      unfold f_Tables_waysTo_74b
      rw [if_pos (nI_lt (by omega) (by omega)), nI_1]
    | succ k ih =>
      intro fuel j x hf hj hj2
      obtain ⟨m, rfl⟩ : ∃ m, fuel = m + 1 := ⟨fuel - 1, by omega⟩
      show ∃ y, f_Tables_waysTo_74b rec56 (f_Tables_waysTo_74 rec56 m) 48 (nI a) (nI b) (nI c) (nI l) (nI M0) (nI M1) (nI M2) x (nI n) (nI j) (bh v w) = _
      unfold f_Tables_waysTo_74b f_Tables_waysTo_141
      by_cases z : M1 < j
      · rw [if_pos (nI_lt z (by omega)), nI_1]
        exact ⟨x, rfl⟩
      · have nx := fun x => ih m (j + 1) x (by omega) (by omega) (by omega)
        rw [if_neg (nI_nlt (by omega) (by omega))]
        simp only [hB0, bd1_q]
        rw [rd_nI (by omega) (by decide), bd1_s, show (10 : Int32) = nI 10 from rfl, nI_add, rd_nI (by omega) (by decide), bd1_s, c2, Q_isWithin, bd2_s, nI_1]
        generalize v 51 l - nI n - nI j = y
        by_cases q : (nI a2).toInt ≤ y.toInt ∧ y.toInt ≤ (nI M2).toInt
        · rw [if_pos q, if_neg (by decide)]
          rw [nI_toInt (by omega), nI_toInt (by omega)] at q
          obtain ⟨t, ht, rfl⟩ := ix (x := y) (n := M2 + 1) (by omega) (by omega)
          simp only [hB0, bd1_q]
          rw [pk_sub (by omega), pk_sub (by omega), pk_sub (by omega), st_I, bd2_s]
          simp only [hB0, bd1_q]
          rw [rd_nI (by omega) (by decide), bd1_s]
          exact nx _
        · rw [if_neg q, if_pos rfl]
          exact nx _
  have k56 : ∀ (k fuel n : Nat) (x : Int64), k < fuel → M0 + 1 ≤ n + k → n ≤ 20 → ∃ r, f_Tables_waysTo_56 fuel 48 (nI a) (nI b) (nI c) (nI l) (nI M0) (nI M1) (nI M2) x (nI n) (bh v w) = some (r, bh v w) := by
    intro k
    induction k with
    | zero =>
      intro fuel n x hf hn hn2
      obtain ⟨m, rfl⟩ : ∃ m, fuel = m + 1 := ⟨fuel - 1, by omega⟩
      refine ⟨x, ?_⟩
      show f_Tables_waysTo_56b (f_Tables_waysTo_56 m) 48 (nI a) (nI b) (nI c) (nI l) (nI M0) (nI M1) (nI M2) x (nI n) (bh v w) = _
      unfold f_Tables_waysTo_56b
      rw [if_pos (nI_lt (by omega) (by omega))]
    | succ k ih =>
      intro fuel n x hf hn hn2
      obtain ⟨m, rfl⟩ : ∃ m, fuel = m + 1 := ⟨fuel - 1, by omega⟩
      show ∃ r, f_Tables_waysTo_56b (f_Tables_waysTo_56 m) 48 (nI a) (nI b) (nI c) (nI l) (nI M0) (nI M1) (nI M2) x (nI n) (bh v w) = some (r, bh v w)
      unfold f_Tables_waysTo_56b
      by_cases z : M0 < n
      · rw [if_pos (nI_lt z (by omega))]
        exact ⟨x, rfl⟩
      · rw [if_neg (nI_nlt (by omega) (by omega))]
        simp only [hB0, bd1_q]
        rw [show (5 : Int32) = nI 5 from rfl, nI_add, rd_nI (by omega) (by decide), bd1_s, c1]
        obtain ⟨y, e⟩ := k74 (f_Tables_waysTo_56 m) n (by omega) 30 FU a1 x (by decide) (by omega) (by omega)
        rw [e]
        exact ih m (n + 1) y (by omega) (by omega) (by omega)
  unfold f_Tables_waysTo f_Tables_waysTo_0
  simp only [hB0, bd1_q]
  rw [show (5 : Int32) = nI 5 from rfl, show (10 : Int32) = nI 10 from rfl, nI_add, nI_add, rd_nI (by omega) (by decide), bd1_s, rd_nI (by omega) (by decide), bd1_s, rd_nI (by omega) (by decide), bd1_s, rd_nI (by omega) (by decide), bd1_s, i0, i1, i2, c0, ite_I (by omega) (by omega), ite_I (by omega) (by omega), ite_I (by omega) (by omega), hM0, hM1, hM2]
  exact k56 30 FU a0 0 (by decide) (by omega) (by omega)
theorem T_spendTogether (h : tH L v) {l : Nat} (hl : l < L) (w : Nat → Nat → Int64) : ∃ w', f_Tables_spendTogether 48 (nI l) (bh v w) = some (bh v w') := by
  have h' := h
  obtain ⟨h5, h0, ht, -, -⟩ := h'
  obtain ⟨t0, q0, e0⟩ := ht 0 (by decide)
  obtain ⟨t1, q1, e1⟩ := ht 1 (by decide)
  obtain ⟨t2, q2, e2⟩ := ht 2 (by decide)
  have k30 : ∀ (rec7 : Nat → Int32 → Int32 → mH → Option mH) (rec18 : Nat → Int32 → Int32 → Int32 → mH → Option mH) (a b : Nat), a ≤ 5 → b ≤ 5 → ∀ (c fuel : Nat) (w : Nat → Nat → Int64), c + 1 < fuel → c ≤ 5 → ∃ w', f_Tables_spendTogether_30 rec7 rec18 fuel 48 (nI l) (nI a) (nI b) (nI c) (bh v w) = rec18 48 (nI l) (nI a) (nI b + -1) (bh v w') := by
    intro rec7 rec18 a b ha hb c
    have st : ∀ (m c : Nat) (w : Nat → Nat → Int64), c ≤ 5 → ∃ w', f_Tables_spendTogether_30 rec7 rec18 (m + 1) 48 (nI l) (nI a) (nI b) (nI c) (bh v w) = f_Tables_spendTogether_30 rec7 rec18 m 48 (nI l) (nI a) (nI b) (nI c + -1) (bh v w') := by
      intro m c w hc
      obtain ⟨r, er⟩ := T_waysTo (w := w) h ha hb hc hl
      show ∃ w', f_Tables_spendTogether_30b rec7 rec18 (f_Tables_spendTogether_30 rec7 rec18 m) 48 (nI l) (nI a) (nI b) (nI c) (bh v w) = _
      unfold f_Tables_spendTogether_30b
      rw [if_neg (nI_pos (by omega))]
      simp only [hB0, bd1_q]
      rw [st_I, bd2_s]
      simp only [hB0, bd1_q]
      rw [er, bd2_s]
      simp only [hB0, bd1_q]
      rw [wrL_nI (by omega) (by decide), bd1_s]
      exact ⟨_, rfl⟩
    have z : ∀ (m : Nat) (w : Nat → Nat → Int64), f_Tables_spendTogether_30 rec7 rec18 (m + 1) 48 (nI l) (nI a) (nI b) (-1) (bh v w) = rec18 48 (nI l) (nI a) (nI b + -1) (bh v w) := by
      intro m w
      show f_Tables_spendTogether_30b rec7 rec18 (f_Tables_spendTogether_30 rec7 rec18 m) 48 (nI l) (nI a) (nI b) (-1) (bh v w) = _
      unfold f_Tables_spendTogether_30b
      rw [if_pos (by decide)]
    induction c with
    | zero =>
      intro fuel w hf hc
      obtain ⟨m, rfl⟩ : ∃ m, fuel = m + 1 + 1 := ⟨fuel - 2, by omega⟩
      obtain ⟨w1, g1⟩ := st (m + 1) 0 w hc
      rw [m1_0, z] at g1
      exact ⟨w1, g1⟩
    | succ c ih =>
      intro fuel w hf hc
      obtain ⟨m, rfl⟩ : ∃ m, fuel = m + 1 := ⟨fuel - 1, by omega⟩
      obtain ⟨w1, g1⟩ := st m (c + 1) w hc
      rw [m1_I c (by omega)] at g1
      obtain ⟨w2, g2⟩ := ih m w1 (by omega) (by omega)
      exact ⟨w2, g1.trans g2⟩
  have k18 : ∀ (rec7 : Nat → Int32 → Int32 → mH → Option mH) (a : Nat), a ≤ 5 → ∀ (b fuel : Nat) (w : Nat → Nat → Int64), b + 1 < fuel → b ≤ 5 → ∃ w', f_Tables_spendTogether_18 rec7 fuel 48 (nI l) (nI a) (nI b) (bh v w) = rec7 48 (nI l) (nI a + -1) (bh v w') := by
    intro rec7 a ha b
    have st : ∀ (m b : Nat) (w : Nat → Nat → Int64), b ≤ 5 → ∃ w', f_Tables_spendTogether_18 rec7 (m + 1) 48 (nI l) (nI a) (nI b) (bh v w) = f_Tables_spendTogether_18 rec7 m 48 (nI l) (nI a) (nI b + -1) (bh v w') := by
      intro m b w hb
      obtain ⟨w1, g1⟩ := k30 rec7 (f_Tables_spendTogether_18 rec7 m) a b ha hb t2 FU w (by unfold FU; omega) q2
      refine ⟨w1, ?_⟩
      show f_Tables_spendTogether_18b rec7 (f_Tables_spendTogether_18 rec7 m) 48 (nI l) (nI a) (nI b) (bh v w) = _
      unfold f_Tables_spendTogether_18b
      rw [if_neg (nI_pos (by omega))]
      simp only [hB0, bd1_q]
      rw [rd3.2.2, bd1_s, e2]
      exact g1
    have z : ∀ (m : Nat) (w : Nat → Nat → Int64), f_Tables_spendTogether_18 rec7 (m + 1) 48 (nI l) (nI a) (-1) (bh v w) = rec7 48 (nI l) (nI a + -1) (bh v w) := by
      intro m w
      show f_Tables_spendTogether_18b rec7 (f_Tables_spendTogether_18 rec7 m) 48 (nI l) (nI a) (-1) (bh v w) = _
      unfold f_Tables_spendTogether_18b
      rw [if_pos (by decide)]
    induction b with
    | zero =>
      intro fuel w hf hc
      obtain ⟨m, rfl⟩ : ∃ m, fuel = m + 1 + 1 := ⟨fuel - 2, by omega⟩
      obtain ⟨w1, g1⟩ := st (m + 1) 0 w hc
      rw [m1_0, z] at g1
      exact ⟨w1, g1⟩
    | succ c ih =>
      intro fuel w hf hc
      obtain ⟨m, rfl⟩ : ∃ m, fuel = m + 1 := ⟨fuel - 1, by omega⟩
      obtain ⟨w1, g1⟩ := st m (c + 1) w hc
      rw [m1_I c (by omega)] at g1
      obtain ⟨w2, g2⟩ := ih m w1 (by omega) (by omega)
      exact ⟨w2, g1.trans g2⟩
  have k7 : ∀ (a fuel : Nat) (w : Nat → Nat → Int64), a + 1 < fuel → a ≤ 5 → ∃ w', f_Tables_spendTogether_7 fuel 48 (nI l) (nI a) (bh v w) = some (bh v w') := by
    intro a
    have st : ∀ (m a : Nat) (w : Nat → Nat → Int64), a ≤ 5 → ∃ w', f_Tables_spendTogether_7 (m + 1) 48 (nI l) (nI a) (bh v w) = f_Tables_spendTogether_7 m 48 (nI l) (nI a + -1) (bh v w') := by
      intro m a w ha
      obtain ⟨w1, g1⟩ := k18 (f_Tables_spendTogether_7 m) a ha t1 FU w (by unfold FU; omega) q1
      refine ⟨w1, ?_⟩
      show f_Tables_spendTogether_7b (f_Tables_spendTogether_7 m) 48 (nI l) (nI a) (bh v w) = _
      unfold f_Tables_spendTogether_7b
      rw [if_neg (nI_pos (by omega))]
      simp only [hB0, bd1_q]
      rw [rd3.2.1, bd1_s, e1]
      exact g1
    have z : ∀ (m : Nat) (w : Nat → Nat → Int64), f_Tables_spendTogether_7 (m + 1) 48 (nI l) (-1) (bh v w) = some (bh v w) := by
      intro m w
      show f_Tables_spendTogether_7b (f_Tables_spendTogether_7 m) 48 (nI l) (-1) (bh v w) = _
      unfold f_Tables_spendTogether_7b
      rw [if_pos (by decide)]
    induction a with
    | zero =>
      intro fuel w hf hc
      obtain ⟨m, rfl⟩ : ∃ m, fuel = m + 1 + 1 := ⟨fuel - 2, by omega⟩
      obtain ⟨w1, g1⟩ := st (m + 1) 0 w hc
      rw [m1_0, z] at g1
      exact ⟨w1, g1⟩
    | succ c ih =>
      intro fuel w hf hc
      obtain ⟨m, rfl⟩ : ∃ m, fuel = m + 1 := ⟨fuel - 1, by omega⟩
      obtain ⟨w1, g1⟩ := st m (c + 1) w hc
      rw [m1_I c (by omega)] at g1
      obtain ⟨w2, g2⟩ := ih m w1 (by omega) (by omega)
      exact ⟨w2, g1.trans g2⟩
  unfold f_Tables_spendTogether f_Tables_spendTogether_0
  simp only [hB0, bd1_q]
  rw [rd3.1, bd1_s, e0]
  exact k7 t0 FU w (by unfold FU; omega) q0
end
end
/-! 8z3.booksd.lean.txt -/
section
theorem hS0 (v : Nat → Nat → Int32) (w : Nat → Nat → Int64) : kC (bh v w) 16 6 = some () ∧ gI (bh v w) 16 6 0 = some (v 16 0) ∧ gR (bh v w) 16 6 1 = some 17 ∧ gR (bh v w) 16 6 2 = some 18 ∧ gR (bh v w) 16 6 3 = some 19 ∧ (∀ i, aI (bh v w) 0 17 i = rd (v 17) 8 i) ∧ (∀ i, aI (bh v w) 0 18 i = rd (v 18) 8 i) ∧ (∀ i, aI (bh v w) 0 19 i = rd (v 19) 8 i) ∧ kC (bh v w) 3 4 = some () ∧ gI (bh v w) 3 4 0 = some (v 3 0) ∧ gR (bh v w) 3 4 7 = some 5 ∧ gR (bh v w) 3 4 11 = some 9 ∧ gR (bh v w) 3 4 15 = some 13 ∧ gR (bh v w) 3 4 18 = some 16 ∧ (∀ i, aI (bh v w) 0 5 i = rd (v 5) 5 i) ∧ (∀ i, aI (bh v w) 0 9 i = rd (v 9) 3 i) ∧ (∀ i, aI (bh v w) 0 13 i = rd (v 13) 3 i) := ⟨rfl, rfl, rfl, rfl, rfl, aI_bh rfl, aI_bh rfl, aI_bh rfl, rfl, rfl, rfl, rfl, rfl, rfl, aI_bh rfl, aI_bh rfl, aI_bh rfl⟩
section
variable {L : Nat} {ρ : Rho} {v : Nat → Nat → Int32} {w : Nat → Nat → Int64}
theorem T_isDueOf (p : Nat) (hp : p < 3) (n : Int32) : ∃ r, f_Tables_isDueOf 48 (nI p) n (bh v w) = some (r, bh v w) := by
  unfold f_Tables_isDueOf f_Tables_isDueOf_0 f_Tables_isDueOf_20
  simp only [hB0, bd1_q]
  rw [rd_nI hp (by decide), bd1_s, bd1_s]
  split
  · exact ⟨_, rfl⟩
  · split
    · exact ⟨_, rfl⟩
    · exact ⟨_, rfl⟩
theorem T_sumOfDue (h : tH L v) : ∃ r, f_Tables_sumOfDue 48 (bh v w) = some (r, bh v w) := by
  obtain ⟨h5, h0, ht, -, -⟩ := h
  obtain ⟨t0, q0, e0⟩ := ht 0 (by decide)
  obtain ⟨t1, q1, e1⟩ := ht 1 (by decide)
  obtain ⟨t2, q2, e2⟩ := ht 2 (by decide)
  have k31 : ∀ (rec4 : Nat → Int64 → Int32 → mH → Option (Int64 × mH)) (rec17 : Nat → Int64 → Int32 → Int32 → mH → Option (Int64 × mH)) (a b : Nat), a ≤ 5 → b ≤ 5 → ∀ (k fuel c : Nat) (x : Int64), k < fuel → c + k = t2 + 1 → ∃ y, f_Tables_sumOfDue_31 rec4 rec17 fuel 48 x (nI a) (nI b) (nI c) (bh v w) = rec17 48 y (nI a) (nI (b + 1)) (bh v w) := by
    intro rec4 rec17 a b ha hb k
    induction k with
    | zero =>
      intro fuel c x hf hc
      obtain ⟨m, rfl⟩ : ∃ m, fuel = m + 1 := ⟨fuel - 1, by omega⟩
      refine ⟨x, ?_⟩
      show f_Tables_sumOfDue_31b rec4 rec17 (f_Tables_sumOfDue_31 rec4 rec17 m) 48 x (nI a) (nI b) (nI c) (bh v w) = _
      unfold f_Tables_sumOfDue_31b
      simp only [hB0, bd1_q]
      rw [rd3.2.2, bd1_s, e2, if_pos (nI_lt (by omega) (by omega)), nI_1]
    | succ k ih =>
      intro fuel c x hf hc
      obtain ⟨m, rfl⟩ : ∃ m, fuel = m + 1 := ⟨fuel - 1, by omega⟩
      have nx := fun x => ih m (c + 1) x (by omega) (by omega)
      obtain ⟨r0, g0⟩ := T_isDueOf (v := v) (w := w) 0 (by decide) (nI a)
      obtain ⟨r1, g1⟩ := T_isDueOf (v := v) (w := w) 1 (by decide) (nI b)
      obtain ⟨r2, g2⟩ := T_isDueOf (v := v) (w := w) 2 (by decide) (nI c)
      have g0 : f_Tables_isDueOf 48 (0 : Int32) (nI a) (bh v w) = some (r0, bh v w) := g0
      have g1 : f_Tables_isDueOf 48 (1 : Int32) (nI b) (bh v w) = some (r1, bh v w) := g1
      have g2 : f_Tables_isDueOf 48 (2 : Int32) (nI c) (bh v w) = some (r2, bh v w) := g2
      show ∃ y, f_Tables_sumOfDue_31b rec4 rec17 (f_Tables_sumOfDue_31 rec4 rec17 m) 48 x (nI a) (nI b) (nI c) (bh v w) = _
      unfold f_Tables_sumOfDue_31b f_Tables_sumOfDue_87
      simp only [hB0, bd1_q]
      rw [rd3.2.2, bd1_s, e2, if_neg (nI_nlt (by omega) (by omega)), g0, bd2_s, nI_1]
      split
      · exact nx _
      · simp only [hB0, bd1_q]
        rw [g1, bd2_s]
        split
        · exact nx _
        · simp only [hB0, bd1_q]
          rw [g2, bd2_s]
          split
          · exact nx _
          · simp only [hB0, bd1_q]
            rw [st_I, bd2_s]
            simp only [hB0, bd1_q]
            rw [rd_nI (by omega) (by decide), bd1_s]
            exact nx _
  have k17 : ∀ (rec4 : Nat → Int64 → Int32 → mH → Option (Int64 × mH)) (a : Nat), a ≤ 5 → ∀ (k fuel b : Nat) (x : Int64), k < fuel → b + k = t1 + 1 → ∃ y, f_Tables_sumOfDue_17 rec4 fuel 48 x (nI a) (nI b) (bh v w) = rec4 48 y (nI (a + 1)) (bh v w) := by
    intro rec4 a ha k
    induction k with
    | zero =>
      intro fuel b x hf hc
      obtain ⟨m, rfl⟩ : ∃ m, fuel = m + 1 := ⟨fuel - 1, by omega⟩
      refine ⟨x, ?_⟩
      show f_Tables_sumOfDue_17b rec4 (f_Tables_sumOfDue_17 rec4 m) 48 x (nI a) (nI b) (bh v w) = _
      unfold f_Tables_sumOfDue_17b
      simp only [hB0, bd1_q]
      rw [rd3.2.1, bd1_s, e1, if_pos (nI_lt (by omega) (by omega)), nI_1]
    | succ k ih =>
      intro fuel b x hf hc
      obtain ⟨m, rfl⟩ : ∃ m, fuel = m + 1 := ⟨fuel - 1, by omega⟩
      obtain ⟨y1, g1⟩ := k31 rec4 (f_Tables_sumOfDue_17 rec4 m) a b ha (by omega) (t2 + 1) FU 0 x (by unfold FU; omega) (by omega)
      obtain ⟨y2, g2⟩ := ih m (b + 1) y1 (by omega) (by omega)
      refine ⟨y2, ?_⟩
      show f_Tables_sumOfDue_17b rec4 (f_Tables_sumOfDue_17 rec4 m) 48 x (nI a) (nI b) (bh v w) = _
      unfold f_Tables_sumOfDue_17b
      simp only [hB0, bd1_q]
      rw [rd3.2.1, bd1_s, e1, if_neg (nI_nlt (by omega) (by omega))]
      exact g1.trans g2
  have k4 : ∀ (k fuel a : Nat) (x : Int64), k < fuel → a + k = t0 + 1 → ∃ r, f_Tables_sumOfDue_4 fuel 48 x (nI a) (bh v w) = some (r, bh v w) := by
    intro k
    induction k with
    | zero =>
      intro fuel a x hf hc
      obtain ⟨m, rfl⟩ : ∃ m, fuel = m + 1 := ⟨fuel - 1, by omega⟩
      refine ⟨x, ?_⟩
      show f_Tables_sumOfDue_4b (f_Tables_sumOfDue_4 m) 48 x (nI a) (bh v w) = _
      unfold f_Tables_sumOfDue_4b
      simp only [hB0, bd1_q]
      rw [rd3.1, bd1_s, e0, if_pos (nI_lt (by omega) (by omega))]
    | succ k ih =>
      intro fuel a x hf hc
      obtain ⟨m, rfl⟩ : ∃ m, fuel = m + 1 := ⟨fuel - 1, by omega⟩
      obtain ⟨y1, g1⟩ := k17 (f_Tables_sumOfDue_4 m) a (by omega) (t1 + 1) FU 0 x (by unfold FU; omega) (by omega)
      obtain ⟨y2, g2⟩ := ih m (a + 1) y1 (by omega) (by omega)
      refine ⟨y2, ?_⟩
      show f_Tables_sumOfDue_4b (f_Tables_sumOfDue_4 m) 48 x (nI a) (bh v w) = _
      unfold f_Tables_sumOfDue_4b
      simp only [hB0, bd1_q]
      rw [rd3.1, bd1_s, e0, if_neg (nI_nlt (by omega) (by omega))]
      exact g1.trans g2
  obtain ⟨r, g⟩ := k4 (t0 + 1) FU 0 0 (by unfold FU; omega) (by omega)
  exact ⟨r, g⟩
theorem T_fillJ (x : Int64) (v : Nat → Nat → Int32) (w : Nat → Nat → Int64) : ∃ w1, f_Arrays_fillJ 54 x (bh v w) = some (bh v w1) := by
  have key : ∀ (k fuel i : Nat) (w : Nat → Nat → Int64), k < fuel → i + k = 18 → ∃ w1, f_Arrays_fillJ_6 fuel 54 x (nI i) (nI 18) (bh v w) = some (bh v w1) := by
    intro k
    induction k with
    | zero =>
      intro fuel i w hf hi
      obtain ⟨m, rfl⟩ : ∃ m, fuel = m + 1 := ⟨fuel - 1, by omega⟩
      show ∃ w1, f_Arrays_fillJ_6b (f_Arrays_fillJ_6 m) 54 x (nI i) (nI 18) (bh v w) = some (bh v w1)
      unfold f_Arrays_fillJ_6b
      rw [if_pos ((nI_leI (by omega) (by omega)).mpr (by omega))]
      exact ⟨w, rfl⟩
    | succ k ih =>
      intro fuel i w hf hi
      obtain ⟨m, rfl⟩ : ∃ m, fuel = m + 1 := ⟨fuel - 1, by omega⟩
      show ∃ w1, f_Arrays_fillJ_6b (f_Arrays_fillJ_6 m) 54 x (nI i) (nI 18) (bh v w) = some (bh v w1)
      unfold f_Arrays_fillJ_6b
      simp only [hB0]
      rw [if_neg (fun z => by have := (nI_leI (by omega) (by omega)).mp z; omega), wrL_nI (by omega) (by omega), bd1_s, nI_1]
      exact ih m (i + 1) _ (by omega) (by omega)
  unfold f_Arrays_fillJ f_Arrays_fillJ_0
  rw [show aN (bh v w) 3 54 = some (nI 18) from rfl, bd1_s, show (0 : Int32) = nI 0 from rfl]
  exact key 18 FU 0 w (by decide) (by decide)
theorem T_fitting (h : tH L v) (w : Nat → Nat → Int64) : ∃ r w', f_Tables_fitting 48 (bh v w) = some (r, bh v w') := by
  have h' := h
  obtain ⟨h5, h0, -, -, -⟩ := h'
  have k69 : ∀ (k fuel l : Nat) (w : Nat → Nat → Int64), k < fuel → l + k = L → ∃ r w', f_Tables_fitting_69 fuel 48 (nI l) (bh v w) = some (r, bh v w') := by
    intro k
    induction k with
    | zero =>
      intro fuel l w hf hl
      obtain ⟨m, rfl⟩ : ∃ m, fuel = m + 1 := ⟨fuel - 1, by omega⟩
      obtain ⟨r, e⟩ := T_sumOfDue (w := w) h
      show ∃ r w', f_Tables_fitting_69b (f_Tables_fitting_69 m) 48 (nI l) (bh v w) = some (r, bh v w')
      unfold f_Tables_fitting_69b
      simp only [hB0, bd1_q]
      rw [h0, if_pos ((nI_leI (by omega) (by omega)).mpr (by omega)), e, bd2_s]
      exact ⟨r, w, rfl⟩
    | succ k ih =>
      intro fuel l w hf hl
      obtain ⟨m, rfl⟩ : ∃ m, fuel = m + 1 := ⟨fuel - 1, by omega⟩
      obtain ⟨w1, e1⟩ := T_spendTogether h (show l < L by omega) w
      show ∃ r w', f_Tables_fitting_69b (f_Tables_fitting_69 m) 48 (nI l) (bh v w) = some (r, bh v w')
      unfold f_Tables_fitting_69b f_Tables_fitting_92
      simp only [hB0, bd1_q]
      rw [h0, if_neg (fun q => by have := (nI_leI (by omega) (by omega)).mp q; omega), rd_nI (by omega) (by decide), bd1_s, nI_1, e1, bd1_s]
      split
      · exact ih m (l + 1) w (by omega) (by omega)
      · exact ih m (l + 1) w1 (by omega) (by omega)
  have k27 : ∀ (rec10 : Nat → Int32 → mH → Option (Int64 × mH)) (p : Nat), p < 3 → ∀ (k fuel l : Nat) (w : Nat → Nat → Int64), k < fuel → l + k = L → ∃ w', f_Tables_fitting_27 rec10 fuel 48 (nI p) (nI l) (bh v w) = rec10 48 (nI (p + 1)) (bh v w') := by
    intro rec10 p hp k
    induction k with
    | zero =>
      intro fuel l w hf hl
      obtain ⟨m, rfl⟩ : ∃ m, fuel = m + 1 := ⟨fuel - 1, by omega⟩
      refine ⟨w, ?_⟩
      show f_Tables_fitting_27b rec10 (f_Tables_fitting_27 rec10 m) 48 (nI p) (nI l) (bh v w) = _
      unfold f_Tables_fitting_27b
      simp only [hB0, bd1_q]
      rw [h0, if_pos ((nI_leI (by omega) (by omega)).mpr (by omega)), nI_1]
    | succ k ih =>
      intro fuel l w hf hl
      obtain ⟨m, rfl⟩ : ∃ m, fuel = m + 1 := ⟨fuel - 1, by omega⟩
      obtain ⟨w1, e1⟩ := T_spendAlone h hp (show l < L by omega) w
      show ∃ w', f_Tables_fitting_27b rec10 (f_Tables_fitting_27 rec10 m) 48 (nI p) (nI l) (bh v w) = _
      unfold f_Tables_fitting_27b f_Tables_fitting_51
      simp only [hB0, bd1_q]
      rw [h0, if_neg (fun q => by have := (nI_leI (by omega) (by omega)).mp q; omega), rd_nI (by omega) (by decide), bd1_s, nI_1, e1, bd1_s]
      split
      · exact ih m (l + 1) w1 (by omega) (by omega)
      · exact ih m (l + 1) w (by omega) (by omega)
  have k10 : ∀ (k fuel p : Nat) (w : Nat → Nat → Int64), k < fuel → p + k = 3 → ∃ r w', f_Tables_fitting_10 fuel 48 (nI p) (bh v w) = some (r, bh v w') := by
    intro k
    induction k with
    | zero =>
      intro fuel p w hf hp
      obtain ⟨m, rfl⟩ : ∃ m, fuel = m + 1 := ⟨fuel - 1, by omega⟩
      obtain ⟨w1, e1⟩ := T_joinAll h w
      obtain ⟨r, w2, e2⟩ := k69 L FU 0 w1 (by unfold FU; omega) (by omega)
      have e2 : f_Tables_fitting_69 FU 48 0 (bh v w1) = some (r, bh v w2) := e2
      show ∃ r w', f_Tables_fitting_10b (f_Tables_fitting_10 m) 48 (nI p) (bh v w) = some (r, bh v w')
      unfold f_Tables_fitting_10b
      rw [show (3 : Int32) = nI 3 from rfl, if_pos ((nI_leI (by omega) (by omega)).mpr (by omega))]
      simp only [hB0, bd1_q]
      rw [e1, bd1_s, e2]
      exact ⟨r, w2, rfl⟩
    | succ k ih =>
      intro fuel p w hf hp
      obtain ⟨m, rfl⟩ : ∃ m, fuel = m + 1 := ⟨fuel - 1, by omega⟩
      show ∃ r w', f_Tables_fitting_10b (f_Tables_fitting_10 m) 48 (nI p) (bh v w) = some (r, bh v w')
      unfold f_Tables_fitting_10b
      rw [show (3 : Int32) = nI 3 from rfl, if_neg (fun q => by have := (nI_leI (by omega) (by omega)).mp q; omega)]
      simp only [hB0, bd1_q]
      rw [show (6 : Int32) = nI 6 from rfl, pk_mul, wrL_nI (by omega) (by decide), bd1_s]
      obtain ⟨w1, e1⟩ := k27 (f_Tables_fitting_10 m) p (by omega) L FU 0 (u2L w 54 (p * 6) 1) (by unfold FU; omega) (by omega)
      have e1 : f_Tables_fitting_27 (f_Tables_fitting_10 m) FU 48 (nI p) 0 (bh v (u2L w 54 (p * 6) 1)) = f_Tables_fitting_10 m 48 (nI (p + 1)) (bh v w1) := e1
      rw [e1]
      exact ih m (p + 1) w1 (by omega) (by omega)
  unfold f_Tables_fitting f_Tables_fitting_0
  simp only [hB0, bd1_q]
  obtain ⟨w1, e1⟩ := T_fillJ 0 v w
  rw [e1, bd1_s, show (0 : Int32) = nI 0 from rfl]
  exact k10 3 FU 0 w1 (by decide) (by decide)
theorem T_sumDue (hr : CR 3 ρ v) (hk : ROK ρ) (a b : Int32) : ∃ r, f_Sightings_sumDue 16 a b (bh v w) = some (r, bh v w) := by
  have h6 := hk.1.2.2.2.2.2.2
  have e0 : v 16 0 = nI (ρ 0 6) := hr.1.2.2.2.2.2.2
  have key : ∀ (n fuel k : Nat) (s : Int32), n < fuel → k + n = ρ 0 6 → ∃ r, f_Sightings_sumDue_5 fuel 16 a b s (nI k) (bh v w) = some (r, bh v w) := by
    intro n
    induction n with
    | zero =>
      intro fuel k s hf hk2
      obtain ⟨m, rfl⟩ : ∃ m, fuel = m + 1 := ⟨fuel - 1, by omega⟩
      show ∃ r, f_Sightings_sumDue_5b (f_Sightings_sumDue_5 m) 16 a b s (nI k) (bh v w) = some (r, bh v w)
      unfold f_Sightings_sumDue_5b
      simp only [hS0, bd1_q]
      rw [e0, if_pos ((nI_leI (by omega) (by omega)).mpr (by omega))]
      exact ⟨s, rfl⟩
    | succ n ih =>
      intro fuel k s hf hk2
      obtain ⟨m, rfl⟩ : ∃ m, fuel = m + 1 := ⟨fuel - 1, by omega⟩
      have nx := fun s => ih m (k + 1) s (by omega) (by omega)
      show ∃ r, f_Sightings_sumDue_5b (f_Sightings_sumDue_5 m) 16 a b s (nI k) (bh v w) = some (r, bh v w)
      unfold f_Sightings_sumDue_5b f_Sightings_sumDue_52 f_Sightings_sumDue_64 f_Sightings_sumDue_65
      simp only [hS0, bd1_q]
      rw [e0, if_neg (fun z => by have := (nI_leI (by omega) (by omega)).mp z; omega), rd_nI (by omega) (by decide), bd1_s, rd_nI (by omega) (by decide), bd1_s, rd_nI (by omega) (by decide), bd1_s, bd1_s, nI_1]
      repeat' split
      all_goals exact nx _
  unfold f_Sightings_sumDue f_Sightings_sumDue_0
  rw [show (0 : Int32) = nI 0 from rfl]
  exact key (ρ 0 6) FU 0 _ (by unfold FU; omega) (by omega)
end
end
/-! 8z4.bookse.lean.txt -/
section
section
variable {ρ : Rho} {v : Nat → Nat → Int32} {w : Nat → Nat → Int64}
def tFr (v v' : Nat → Nat → Int32) : Prop := ∀ q, q < 48 ∨ 54 ≤ q → v' q = v q
def tI (ρ : Rho) (v : Nat → Nat → Int32) : Prop := CR 3 ρ v ∧ v 48 0 = nI (ρ 0 0) ∧ (∀ i, i < 15 → ∃ a, a ≤ 3 ∧ v 49 i = nI a) ∧ ∀ i, i < 15 → ∃ b, b ≤ 3 ∧ v 50 i = nI b
theorem tI.put {o k : Nat} {x : Int32} (h : tI ρ v) (ho : 51 ≤ o ∧ o ≤ 53) : tI ρ (u2 v o k x) := by
  obtain ⟨a, b, c, d⟩ := h
  refine ⟨a.frame (fun p _ _ => u2_o (by omega)), ?_, ?_, ?_⟩
  · rw [u2_o (by omega)]; exact b
  · rw [u2_o (by omega)]; exact c
  · rw [u2_o (by omega)]; exact d
theorem tI.w50 {k x : Nat} (h : tI ρ v) (hx : x ≤ 3) : tI ρ (u2 v 50 k (nI x)) := by
  obtain ⟨a, b, c, d⟩ := h
  refine ⟨a.frame (fun p _ _ => u2_o (by omega)), ?_, ?_, fun i hi => ?_⟩
  · rw [u2_o (by omega)]; exact b
  · rw [u2_o (by omega)]; exact c
  · by_cases z : i = k
    · rw [z, u2_at]; exact ⟨x, hx, rfl⟩
    · rw [u2_n z]; exact d i hi
theorem hasBit_any (x y : Int32) : ∃ r, ∀ h : mH, f_Q_hasBit x y h = some (r, h) := by
  unfold f_Q_hasBit f_Q_hasBit_0
  by_cases c : ((x >>> (y &&& 31)) &&& (1 : Int32)) = 0
  · exact ⟨0, fun h => by rw [if_pos c]⟩
  · exact ⟨1, fun h => by rw [if_neg c]⟩
theorem T_ld114 (hk : ROK ρ) (rec57 : Nat → Nat → Int32 → mH → Option mH) {p : Nat} (hp : p < 3) (b3 : Int32) : ∀ (k fuel l : Nat) (v : Nat → Nat → Int32), k < fuel → l + k = ρ 0 0 → tI ρ v → ∃ v', f_Tables_load_114 rec57 fuel 48 3 (nI p) b3 (nI l) (bh v w) = rec57 48 3 (nI (p + 1)) (bh v' w) ∧ tI ρ v' ∧ ∀ q, q ≠ 50 → v' q = v q := by
  have h0 := hk.1.1
  intro k
  induction k with
  | zero =>
    intro fuel l v hf hl hi
    obtain ⟨m, rfl⟩ : ∃ m, fuel = m + 1 := ⟨fuel - 1, by omega⟩
    refine ⟨v, ?_, hi, fun _ _ => rfl⟩
    show f_Tables_load_114b rec57 (f_Tables_load_114 rec57 m) 48 3 (nI p) b3 (nI l) (bh v w) = _
    unfold f_Tables_load_114b
    simp only [hB0, bd1_q]
    rw [hi.2.1, if_pos ((nI_leI (by omega) (by omega)).mpr (by omega)), nI_1]
  | succ k ih =>
    intro fuel l v hf hl hi
    obtain ⟨m, rfl⟩ : ∃ m, fuel = m + 1 := ⟨fuel - 1, by omega⟩
    have c5 : v 5 l = nI (ρ 2 l) := (hi.1.2.1 l (by omega)).2.1
    have c3 : ρ 2 l ≤ 3 := (hk.2.1 l (by omega)).2.2.1
    have nx : ∀ x : Nat, x ≤ 3 → ∃ v', f_Tables_load_114 rec57 m 48 3 (nI p) b3 (nI (l + 1)) (bh (u2 v 50 (5 * p + l) (nI x)) w) = rec57 48 3 (nI (p + 1)) (bh v' w) ∧ tI ρ v' ∧ ∀ q, q ≠ 50 → v' q = v q := by
      intro x hx
      obtain ⟨v', e1, e2, e3⟩ := ih m (l + 1) _ (by omega) (by omega) (hi.w50 (k := 5 * p + l) hx)
      exact ⟨v', e1, e2, fun q hq => (e3 q hq).trans (u2_o hq)⟩
    have n0 := nx 0 (by decide)
    obtain ⟨r, er⟩ := hasBit_any (v 13 p) (nI l)
    show ∃ v', f_Tables_load_114b rec57 (f_Tables_load_114 rec57 m) 48 3 (nI p) b3 (nI l) (bh v w) = _ ∧ _
    unfold f_Tables_load_114b f_Tables_load_145 f_Tables_load_146 f_Tables_load_174
    simp only [hB0, hS0, bd1_q]
    rw [hi.2.1, if_neg (fun q => by have := (nI_leI (by omega) (by omega)).mp q; omega), show (5 : Int32) = nI 5 from rfl, pk_mul, nI_add, Nat.mul_comm p 5, rd_nI (by omega) (by decide), bd1_s, wr_nI (by omega) (by decide), bd1_s, nI_1, rd_nI hp (by decide), bd1_s, er, bd2_s, c5]
    have nc := nx (ρ 2 l) c3
    by_cases z : b3 = 0
    · rw [if_pos z, if_pos trivial]; exact n0
    · rw [if_neg z]
      by_cases y : r = 0
      · rw [if_pos y]
        simp only [hB0, hS0, bd1_q]
        rw [if_neg (by decide), rd_nI (by omega) (by decide), bd1_s, c5, wr_nI (by omega) (by decide), bd1_s]
        exact nc
      · rw [if_neg y]
        simp only [hB0, hS0, bd1_q]
        rw [if_pos trivial, wr_nI (by omega) (by decide), bd1_s]
        exact n0
theorem T_load (hr : CR 3 ρ v) (hk : ROK ρ) : ∃ v', f_Tables_load 48 3 (bh v w) = some (bh v' w) ∧ tH (ρ 0 0) v' ∧ tFr v v' := by
  have h0 := hk.1.1
  have h1 := hk.1.2.1
  have k57 : ∀ (k fuel p : Nat) (v : Nat → Nat → Int32), k < fuel → p + k = 3 → tI ρ v → (∀ j, j < p → ∃ t, t ≤ 5 ∧ v 53 j = nI t) → ∃ v', f_Tables_load_57 fuel 48 3 (nI p) (bh v w) = some (bh v' w) ∧ tH (ρ 0 0) v' ∧ tFr v v' := by
    intro k
    induction k with
    | zero =>
      intro fuel p v hf hp hi ht
      obtain ⟨m, rfl⟩ : ∃ m, fuel = m + 1 := ⟨fuel - 1, by omega⟩
      refine ⟨v, ?_, ⟨h0, hi.2.1, fun j hj => ht j (by omega), hi.2.2.1, hi.2.2.2⟩, fun _ _ => rfl⟩
      show f_Tables_load_57b (f_Tables_load_57 m) 48 3 (nI p) (bh v w) = _
      unfold f_Tables_load_57b
      rw [show (3 : Int32) = nI 3 from rfl, if_pos ((nI_leI (by omega) (by omega)).mpr (by omega))]
    | succ k ih =>
      intro fuel p v hf hp hi ht
      obtain ⟨m, rfl⟩ : ∃ m, fuel = m + 1 := ⟨fuel - 1, by omega⟩
      obtain ⟨r, er⟩ := T_sumDue (w := w) hi.1 hk 0 (nI p)
      have nx : ∀ (x b3 : Int32) (t : Nat), t ≤ 5 → ∃ v', f_Tables_load_114 (f_Tables_load_57 m) FU 48 3 (nI p) b3 0 (bh (u2 (u2 v 52 p x) 53 p (nI t)) w) = some (bh v' w) ∧ tH (ρ 0 0) v' ∧ tFr v v' := by
        intro x b3 t h5
        obtain ⟨v1, e1, i1, f1⟩ := T_ld114 (w := w) hk (f_Tables_load_57 m) (show p < 3 by omega) b3 (ρ 0 0) FU 0 (u2 (u2 v 52 p x) 53 p (nI t)) (by unfold FU; omega) (by omega) ((hi.put (by decide)).put (by decide))
        have e1 : f_Tables_load_114 (f_Tables_load_57 m) FU 48 3 (nI p) b3 0 (bh (u2 (u2 v 52 p x) 53 p (nI t)) w) = f_Tables_load_57 m 48 3 (nI (p + 1)) (bh v1 w) := e1
        obtain ⟨v2, e2, t2, f2⟩ := ih m (p + 1) v1 (by omega) (by omega) i1 (fun j hj => by
          rw [f1 53 (by decide)]
          by_cases z : j = p
          · rw [z, u2_at]; exact ⟨t, h5, rfl⟩
          · rw [u2_n z, u2_o (by decide)]; exact ht j (by omega))
        exact ⟨v2, e1.trans e2, t2, fun q hq => (f2 q hq).trans ((f1 q (by omega)).trans ((u2_o (by omega)).trans (u2_o (by omega))))⟩
      show ∃ v', f_Tables_load_57b (f_Tables_load_57 m) 48 3 (nI p) (bh v w) = _ ∧ _
      unfold f_Tables_load_57b f_Tables_load_90 f_Tables_load_110
      rw [show (3 : Int32) = nI 3 from rfl, if_neg (fun q => by have := (nI_leI (by omega) (by omega)).mp q; omega)]
      simp only [hB0, hS0, bd1_q]
      rw [C_hasOne rl3 hi.1 h1, bd2_s]
      by_cases c : 0 ≤ (nI p).toInt ∧ (nI p).toInt < (ρ 0 1 : Int)
      · have hpp : p < ρ 0 1 := by rw [nI_toInt (by omega)] at c; omega
        have c9 : u2 v 52 p r 9 p = nI (ρ 6 p) := (congrFun (u2_o (by decide)) p).trans (hi.1.2.2.1 p hpp).1
        rw [if_pos c]
        simp only [hB0, hS0, bd1_q]
        rw [if_neg (by decide), er, bd2_s]
        simp only [hB0, hS0, bd1_q]
        rw [wr_nI (by omega) (by decide), bd1_s]
        simp only [hB0, hS0, bd1_q]
        rw [if_neg (by decide), rd_nI (by omega) (by decide), bd1_s, c9, wr_nI (by omega) (by decide), bd1_s]
        exact nx r 1 (ρ 6 p) (hk.2.2.1 p hpp).1
      · rw [if_neg c]
        simp only [hB0, hS0, bd1_q]
        rw [if_pos trivial, wr_nI (by omega) (by decide), bd1_s]
        simp only [hB0, hS0, bd1_q]
        rw [if_pos trivial, wr_nI (by omega) (by decide), bd1_s]
        exact nx (-1) 0 0 (by decide)
  have k26 : ∀ (k fuel l : Nat) (v : Nat → Nat → Int32), k < fuel → l + k = ρ 0 0 → tI ρ v → ∃ v', f_Tables_load_26 fuel 48 3 (nI l) (bh v w) = some (bh v' w) ∧ tH (ρ 0 0) v' ∧ tFr v v' := by
    intro k
    induction k with
    | zero =>
      intro fuel l v hf hl hi
      obtain ⟨m, rfl⟩ : ∃ m, fuel = m + 1 := ⟨fuel - 1, by omega⟩
      obtain ⟨v', e1, e2⟩ := k57 3 FU 0 v (by decide) (by decide) hi (fun j hj => by omega)
      have e1 : f_Tables_load_57 FU 48 3 0 (bh v w) = some (bh v' w) := e1
      refine ⟨v', ?_, e2⟩
      show f_Tables_load_26b (f_Tables_load_26 m) 48 3 (nI l) (bh v w) = _
      unfold f_Tables_load_26b
      simp only [hB0, bd1_q]
      rw [hi.2.1, if_pos ((nI_leI (by omega) (by omega)).mpr (by omega))]
      exact e1
    | succ k ih =>
      intro fuel l v hf hl hi
      obtain ⟨m, rfl⟩ : ∃ m, fuel = m + 1 := ⟨fuel - 1, by omega⟩
      obtain ⟨r, er⟩ := T_sumDue (w := w) hi.1 hk 1 (nI l)
      obtain ⟨v', e1, e2, e3⟩ := ih m (l + 1) (u2 v 51 l r) (by omega) (by omega) (hi.put (by decide))
      refine ⟨v', ?_, e2, fun q hq => (e3 q hq).trans (u2_o (by omega))⟩
      show f_Tables_load_26b (f_Tables_load_26 m) 48 3 (nI l) (bh v w) = _
      unfold f_Tables_load_26b
      simp only [hB0, hS0, bd1_q]
      rw [hi.2.1, if_neg (fun q => by have := (nI_leI (by omega) (by omega)).mp q; omega), er, bd2_s]
      simp only [hB0, hS0, bd1_q]
      rw [wr_nI (by omega) (by decide), bd1_s, nI_1]
      exact e1
  unfold f_Tables_load f_Tables_load_0
  simp only [hB0, hS0, bd1_q]
  obtain ⟨v1, e1, g1, h1', -⟩ := fill_I (q := 49) (n := 15) (x := 0) (by omega) (fun _ _ => rfl) (fun v w i x => sI_bh rfl i x) (u2 v 48 0 (v 3 0)) w
  rw [e1]
  simp only [hB0, hS0, bd1_q]
  obtain ⟨v2, e2, g2, h2', -⟩ := fill_I (q := 50) (n := 15) (x := 0) (by omega) (fun _ _ => rfl) (fun v w i x => sI_bh rfl i x) v1 w
  rw [e2, bd1_s]
  have fr : ∀ q, q ≠ 48 → q ≠ 49 → q ≠ 50 → v2 q = v q := fun q a b c => (g2 q c).trans ((g1 q b).trans (u2_o a))
  have i2 : tI ρ v2 := ⟨hr.frame (fun p _ _ => fr p (by omega) (by omega) (by omega)), by rw [g2 48 (by decide), g1 48 (by decide), u2_at]; exact hr.1.1, fun i hi => ⟨0, by decide, by rw [g2 49 (by decide)]; exact h1' i hi⟩, fun i hi => ⟨0, by decide, h2' i hi⟩⟩
  obtain ⟨v3, e3, t3, f3⟩ := k26 (ρ 0 0) FU 0 v2 (by unfold FU; omega) (by omega) i2
  have e3 : f_Tables_load_26 FU 48 3 0 (bh v2 w) = some (bh v3 w) := e3
  exact ⟨v3, e3, t3, fun q hq => (f3 q hq).trans (fr q (by omega) (by omega) (by omega))⟩
theorem T_books (hr : CR 3 ρ v) (hk : ROK ρ) : ∃ r v' w', f_Q_books 0 (bh v w) = some (r, bh v' w') ∧ tFr v v' := by
  obtain ⟨v1, e1, t1, f1⟩ := T_load (w := w) hr hk
  obtain ⟨r, w2, e2⟩ := T_fitting t1 w
  unfold f_Q_books f_Q_books_0
  simp only [hB0, bd1_q]
  rw [e1]
  simp only [hB0, bd1_q]
  rw [e2, bd2_s]
  exact ⟨r, v1, w2, rfl, f1⟩
theorem T_first {L : Nat} (h : tH L v) {p l : Nat} (hp : p < 3) (hl : l < L) (x : Int32) (w : Nat → Nat → Int64) : ∃ r v' w', f_Tables_firstThatFits 48 (nI p) (nI l) x (bh v w) = some (r, bh v' w') ∧ tFr v v' := by
  have h5 := h.1
  obtain ⟨T, hT, eT⟩ := h.2.2.2.2 (5 * p + l) (by omega)
  have key : ∀ (k fuel i : Nat) (v : Nat → Nat → Int32) (w : Nat → Nat → Int64), k < fuel → i + k = T + 1 → tH L v → ∃ r v' w', f_Tables_firstThatFits_19 fuel 48 x (nI (5 * p + l)) (nI T) (nI i) (bh v w) = some (r, bh v' w') ∧ tFr v v' := by
    intro k
    induction k with
    | zero =>
      intro fuel i v w hf hi ht
      obtain ⟨m, rfl⟩ : ∃ m, fuel = m + 1 := ⟨fuel - 1, by omega⟩
      show ∃ r v' w', f_Tables_firstThatFits_19b (f_Tables_firstThatFits_19 m) 48 x (nI (5 * p + l)) (nI T) (nI i) (bh v w) = some (r, bh v' w') ∧ _
      unfold f_Tables_firstThatFits_19b
      rw [if_pos (nI_lt (by omega) (by omega))]
      exact ⟨_, v, w, rfl, fun _ _ => rfl⟩
    | succ k ih =>
      intro fuel i v w hf hi ht
      obtain ⟨m, rfl⟩ : ∃ m, fuel = m + 1 := ⟨fuel - 1, by omega⟩
      have go : ∀ y : Nat, y ≤ 3 → ∃ r v' w', f_Tables_firstThatFits_40 (f_Tables_firstThatFits_19 m) 48 x (nI (5 * p + l)) (nI T) (nI i) (nI y) (bh v w) = some (r, bh v' w') ∧ tFr v v' := by
        intro y hy
        have t1 : tH L (u2 (u2 v 49 (5 * p + l) (nI y)) 50 (5 * p + l) (nI y)) := by
          obtain ⟨a1, a2, a3, a4, a5⟩ := ht
          refine ⟨a1, ?_, ?_, fun j hj => ?_, fun j hj => ?_⟩
          · rw [u2_o (by decide), u2_o (by decide)]; exact a2
          · rw [u2_o (by decide), u2_o (by decide)]; exact a3
          · rw [u2_o (by decide)]
            by_cases z : j = 5 * p + l
            · rw [z, u2_at]; exact ⟨y, hy, rfl⟩
            · rw [u2_n z]; exact a4 j hj
          · by_cases z : j = 5 * p + l
            · rw [z, u2_at]; exact ⟨y, hy, rfl⟩
            · rw [u2_n z, u2_o (by decide)]; exact a5 j hj
        obtain ⟨r, w2, e2⟩ := T_fitting t1 w
        obtain ⟨r3, v3, w3, e3, f3⟩ := ih m (i + 1) _ w2 (by omega) (by omega) t1
        unfold f_Tables_firstThatFits_40
        simp only [hB0, bd1_q]
        rw [wr_nI (by omega) (by decide), bd1_s]
        simp only [hB0, bd1_q]
        rw [wr_nI (by omega) (by decide), bd1_s]
        simp only [hB0, bd1_q]
        rw [e2, bd2_s, nI_1]
        have ff : tFr v (u2 (u2 v 49 (5 * p + l) (nI y)) 50 (5 * p + l) (nI y)) := fun q hq => (u2_o (by omega)).trans (u2_o (by omega))
        split
        · exact ⟨r3, v3, w3, e3, fun q hq => (f3 q hq).trans (ff q hq)⟩
        · exact ⟨_, _, w2, rfl, ff⟩
      show ∃ r v' w', f_Tables_firstThatFits_19b (f_Tables_firstThatFits_19 m) 48 x (nI (5 * p + l)) (nI T) (nI i) (bh v w) = some (r, bh v' w') ∧ _
      unfold f_Tables_firstThatFits_19b
      rw [if_neg (nI_nlt (by omega) (by omega)), pk_sub (by omega)]
      split
      · exact go i (by omega)
      · exact go (T - i) (by omega)
  unfold f_Tables_firstThatFits f_Tables_firstThatFits_0
  simp only [hB0, bd1_q]
  rw [show (5 : Int32) = nI 5 from rfl, pk_mul, nI_add, Nat.mul_comm p 5, rd_nI (by omega) (by decide), bd1_s, eT, show (0 : Int32) = nI 0 from rfl]
  exact key (T + 1) FU 0 v w (by unfold FU; omega) (by omega) h
theorem T_entry (hr : CR 3 ρ v) (hk : ROK ρ) (a b c : Int32) : ∃ r v' w', f_Q_entry 0 a b c (bh v w) = some (r, bh v' w') ∧ tFr v v' := by
  have h0 := hk.1.1
  have h1 := hk.1.2.1
  have bad : ∀ h : mH, f_Q_entry_21 h = some (-1, h) := fun h => rfl
  unfold f_Q_entry f_Q_entry_0 f_Realm_hasBoth f_Realm_hasBoth_0 f_Realm_hasBoth_20 f_Q_entry_50
  simp only [hB0, bd1_q, bad]
  rw [C_hasOne rl3 hr h1, bd2_s]
  by_cases c1 : 0 ≤ a.toInt ∧ a.toInt < (ρ 0 1 : Int)
  · rw [if_pos c1, if_neg (by decide)]
    simp only [hB0, bd1_q]
    rw [C_hasLaw rl3 hr h0, bd2_s]
    by_cases c2 : 0 ≤ b.toInt ∧ b.toInt < (ρ 0 0 : Int)
    · rw [if_pos c2, if_neg (by decide), bd2_s, if_neg (by decide), Q_isWithin, bd2_s]
      by_cases c3 : (0 : Int32).toInt ≤ c.toInt ∧ c.toInt ≤ (1 : Int32).toInt
      · rw [if_pos c3, if_neg (by decide)]
        obtain ⟨p, hp, rfl⟩ := ix (by omega) c1
        obtain ⟨l, hl, rfl⟩ := ix (by omega) c2
        obtain ⟨v1, e1, t1, f1⟩ := T_load (w := w) hr hk
        simp only [hB0, bd1_q]
        rw [e1]
        simp only [hB0, bd1_q]
        split
        · obtain ⟨r, v2, w2, e2, f2⟩ := T_first t1 (show p < 3 by omega) hl 1 w
          rw [e2, bd2_s]
          exact ⟨r, v2, w2, rfl, fun q hq => (f2 q hq).trans (f1 q hq)⟩
        · obtain ⟨r, v2, w2, e2, f2⟩ := T_first t1 (show p < 3 by omega) hl 0 w
          rw [e2, bd2_s]
          exact ⟨r, v2, w2, rfl, fun q hq => (f2 q hq).trans (f1 q hq)⟩
      · rw [if_neg c3, if_pos rfl]
        exact ⟨_, v, w, rfl, fun _ _ => rfl⟩
    · rw [if_neg c2, if_pos rfl, bd2_s, if_pos rfl]
      exact ⟨_, v, w, rfl, fun _ _ => rfl⟩
  · rw [if_neg c1, if_pos rfl, bd2_s, if_pos rfl]
    exact ⟨_, v, w, rfl, fun _ _ => rfl⟩
end
section
variable {S : Sg} {v : Nat → Nat → Int32} {w : Nat → Nat → Int64}
theorem Fi_books (hs : SOK S) (hc : CI S v) (hm : MI S v) : FiT S v w (f_Q_books 0) (f_M_books 100) := by
  obtain ⟨r, v1, w1, e1, f1⟩ := T_books (w := w) hc.1 hs.1
  obtain ⟨r', w2, e2⟩ := M_books (w := w1) (hm.1.fr1 (fun q h => f1 q (by omega))) hs.1
  exact FiT.pl hs hc hm e1 (Or.inr (fun q h => f1 q (by omega))) (by rw [f1 43 (by omega)]; exact hc.2.2.2.2.2.2.2) e2 (fun _ _ => rfl)
theorem Fi_entry (x y z : Int32) (hs : SOK S) (hc : CI S v) (hm : MI S v) : FiT S v w (f_Q_entry 0 x y z) (f_M_entry 100 x y z) := by
  obtain ⟨r, v1, w1, e1, f1⟩ := T_entry (w := w) hc.1 hs.1 x y z
  obtain ⟨r', w2, e2⟩ := M_entry (w := w1) (hm.1.fr1 (fun q h => f1 q (by omega))) hs.1 x y z
  exact FiT.pl hs hc hm e1 (Or.inr (fun q h => f1 q (by omega))) (by rw [f1 43 (by omega)]; exact hc.2.2.2.2.2.2.2) e2 (fun _ _ => rfl)
end
end
/-! 8zr1.rota.lean.txt -/
section
/-! rota: the class's search -/
def rArg (f : Nat → Nat → Nat) : Nat → Nat
  | 0 => 0
  | t + 1 => if f (t / 4) (t % 4) < rMin f t then t else rArg f t
theorem rMin_s (f : Nat → Nat → Nat) (x y : Nat) (hy : y < 4) : rMin f (4 * x + (y + 1)) = if f x y < rMin f (4 * x + y) then f x y else rMin f (4 * x + y) := by
  show (if f ((4 * x + y) / 4) ((4 * x + y) % 4) < rMin f (4 * x + y) then f ((4 * x + y) / 4) ((4 * x + y) % 4) else rMin f (4 * x + y)) = _
  rw [show (4 * x + y) / 4 = x by omega, show (4 * x + y) % 4 = y by omega]
theorem rArg_s (f : Nat → Nat → Nat) (x y : Nat) (hy : y < 4) : rArg f (4 * x + (y + 1)) = if f x y < rMin f (4 * x + y) then 4 * x + y else rArg f (4 * x + y) := by
  show (if f ((4 * x + y) / 4) ((4 * x + y) % 4) < rMin f (4 * x + y) then 4 * x + y else rArg f (4 * x + y)) = _
  rw [show (4 * x + y) / 4 = x by omega, show (4 * x + y) % 4 = y by omega]
/-- options that are FAR change nothing -/
theorem rMin_far (f : Nat → Nat → Nat) (t : Nat) : ∀ n, (∀ u, t ≤ u → u < t + n → f (u / 4) (u % 4) = FAR) → rMin f (t + n) = rMin f t ∧ rArg f (t + n) = rArg f t
  | 0, _ => ⟨rfl, rfl⟩
  | n + 1, h => by
    have ih := rMin_far f t n (fun u a b => h u a (by omega))
    have hm := rMin_le f (t + n)
    have e := h (t + n) (by omega) (by omega)
    refine ⟨?_, ?_⟩
    · show (if f ((t + n) / 4) ((t + n) % 4) < rMin f (t + n) then f ((t + n) / 4) ((t + n) % 4) else rMin f (t + n)) = _
      rw [e, if_neg (by omega)]
      exact ih.1
    · show (if f ((t + n) / 4) ((t + n) % 4) < rMin f (t + n) then t + n else rArg f (t + n)) = _
      rw [e, if_neg (by omega)]
      exact ih.2
theorem rArg_ok (f : Nat → Nat → Nat) : ∀ t, rMin f t < FAR → rArg f t < t ∧ f (rArg f t / 4) (rArg f t % 4) = rMin f t ∧ ∀ u, u < rArg f t → f (u / 4) (u % 4) ≠ rMin f t
  | 0, h => absurd h (Nat.lt_irrefl _)
  | t + 1, h => by
    have eM : rMin f (t + 1) = if f (t / 4) (t % 4) < rMin f t then f (t / 4) (t % 4) else rMin f t := rfl
    have eA : rArg f (t + 1) = if f (t / 4) (t % 4) < rMin f t then t else rArg f t := rfl
    rw [eM] at h
    rw [eA, eM]
    by_cases c : f (t / 4) (t % 4) < rMin f t
    · rw [if_pos c] at h
      rw [if_pos c, if_pos c]
      refine ⟨Nat.lt_succ_self t, rfl, fun u hu => ?_⟩
      have lb : ∀ t u, u < t → rMin f t ≤ f (u / 4) (u % 4) := by
        intro t
        induction t with
        | zero => intro u hu; omega
        | succ t ih =>
          intro u hu
          unfold rMin
          by_cases z : u = t
          · subst z; split <;> omega
          · have := ih u (by omega)
            split <;> omega
      have := lb t u hu
      omega
    · rw [if_neg c] at h
      rw [if_neg c, if_neg c]
      obtain ⟨a, b, d⟩ := rArg_ok f t h
      exact ⟨by omega, b, d⟩
section
variable {ρ : Rho} {v : Nat → Nat → Int32} {w : Nat → Nat → Int64}
theorem rN_st (ρ : Rho) (l : Nat) : rN ρ (ρ 0 4) l = sNeed ρ l := by
  unfold rN
  split
  · rfl
  · next h =>
    unfold sNeed
    rw [if_neg h]
/-- what the planner holds, whole -/
def pJ (ρ : Rho) (v : Nat → Nat → Int32) : Prop := v 40 0 = nI (ρ 0 0) ∧ (∀ p, p < 3 → v 41 p = nI (rL ρ (ρ 6) p)) ∧ (∀ l, l < ρ 0 0 → v 42 l = nI (sNeed ρ l)) ∧ (∀ j, j ≤ ρ 0 0 → v 43 j = nI (sumN (sNeed ρ) j)) ∧ (∀ p l, p < 3 → l < ρ 0 0 → v 44 (5 * p + l) = nI (rR ρ p l)) ∧ ∀ p l, p < ρ 0 1 → l < ρ 0 0 → v 45 (5 * p + l) = nI (rH ρ p l)
theorem pI_pJ (h : pI ρ (ρ 0 0) 0 v) : pJ ρ v := by
  obtain ⟨i1, i2, i3, i4, i5, i6⟩ := h
  exact ⟨i1, i2, fun l hl => i3 l hl (Or.inl hl), fun j hj => i4 j hj (Or.inl hj), fun p l hp hl => by rw [i5 p l hp hl, if_pos (Or.inl hl)], fun p l hp hl => i6 p l hp hl (Or.inl hl)⟩
theorem pJ.fr {v' : Nat → Nat → Int32} (h : pJ ρ v) (hq : ∀ q, 40 ≤ q ∧ q ≤ 45 → v' q = v q) : pJ ρ v' := by
  unfold pJ
  rw [hq 40 (by omega), hq 41 (by omega), hq 42 (by omega), hq 43 (by omega), hq 44 (by omega), hq 45 (by omega)]
  exact h
/-- the third one's time -/
def c3v (ρ : Rho) (l a b : Nat) : Int := (rL ρ (ρ 6) 2 : Int) - sumN (sNeed ρ) l + rL ρ (ρ 6) 0 - a + rL ρ (ρ 6) 1 - b
theorem sN_le (hk : ROK ρ) {l : Nat} (hl : l ≤ ρ 0 0) : sumN (sNeed ρ) l ≤ 9 * l := sumN_c (fun i hi => sNeed_le hk (by omega))
theorem rL5 (hk : ROK ρ) (p : Nat) : rL ρ (ρ 6) p ≤ 5 := rL_le hk (fun p hp => (hk.2.2.1 p hp).1) p
theorem C_left (hJ : pJ ρ v) (hk : ROK ρ) {l a b : Nat} (hl : l ≤ ρ 0 0) (ha : a ≤ 5) (hb : b ≤ 5) : f_Planner_leftToLast 40 (nI l) (nI a) (nI b) (bh v w) = some (zI (c3v ρ l a b), bh v w) := by
  have h0 := hk.1.1
  unfold f_Planner_leftToLast f_Planner_leftToLast_0
  simp only [hP0, bd1_q]
  rw [rd3.2.2, bd1_s, rd_nI (by omega) (by decide), bd1_s, rd3.1, bd1_s, rd3.2.1, bd1_s, hJ.2.1 0 (by decide), hJ.2.1 1 (by decide), hJ.2.1 2 (by decide), hJ.2.2.2.1 l hl]
  rw [← zI_n (rL ρ (ρ 6) 2), zI_subn, ← zI_n (rL ρ (ρ 6) 0), zI_add, zI_subn, ← zI_n (rL ρ (ρ 6) 1), zI_add, zI_subn]
  rfl
theorem c3v_b (hk : ROK ρ) {l a b : Nat} (hl : l ≤ ρ 0 0) (ha : a ≤ 5) (hb : b ≤ 5) : -100 ≤ c3v ρ l a b ∧ c3v ρ l a b ≤ 15 := by
  have h0 := hk.1.1
  have := sN_le hk hl
  have a0 := rL5 hk 0
  have a1 := rL5 hk 1
  have a2 := rL5 hk 2
  unfold c3v
  omega
theorem pst_I (l a b : Nat) (h : mH) : f_Planner_stateOf (nI l) (nI a) (nI b) h = some (nI ((l * 6 + a) * 6 + b), h) := by
  unfold f_Planner_stateOf f_Planner_stateOf_0
  rw [show (6 : Int32) = nI 6 from rfl, pk_mul, nI_add, pk_mul, nI_add]
/-- what the class's table holds -/
def kT (ρ : Rho) (l a b : Nat) : Nat := if 0 ≤ c3v ρ l a b then rBst ρ (ρ 0 4) (ρ 0 0 - l) a b (c3v ρ l a b).toNat else FAR
theorem kT_le (ρ : Rho) (l a b : Nat) : kT ρ l a b ≤ FAR := by
  unfold kT
  split
  · exact rBst_le _ _ _ _ _ _
  · exact Nat.le_refl _
theorem p_term (hJ : pJ ρ v) {p l x : Nat} (hl : l < ρ 0 0) (hx : x ≤ rR ρ p l) : nI x * v 45 (5 * p + l) = nI (x * rH ρ p l) := by
  by_cases h : p < ρ 0 1
  · rw [hJ.2.2.2.2.2 p l h hl, pk_mul]
  · unfold rR at hx
    rw [if_neg h] at hx
    obtain rfl : x = 0 := by omega
    rw [Nat.zero_mul]
    exact Int32.zero_mul
/-- first holds the first of the least, if any -/
def fOK (ρ : Rho) (f : Nat → Nat → Nat) (l t : Nat) (v : Nat → Nat → Int32) : Prop := rMin f t < FAR → v 46 l = nI (rArg f t / 4) ∧ v 46 (5 + l) = nI (rArg f t % 4) ∧ v 46 (10 + l) = nI (sNeed ρ l - rArg f t / 4 - rArg f t % 4)
theorem C_search (hJ : pJ ρ v) (hk : ROK ρ) {l a b : Nat} (hl : l < ρ 0 0) (ha : a ≤ 5) (hb : b ≤ 5) (hc : 0 ≤ c3v ρ l a b) (ht : ∀ a' b', a' ≤ a → b' ≤ b → v 47 (((l + 1) * 6 + a') * 6 + b') = nI (kT ρ (l + 1) a' b')) : ∃ v', f_Planner_search 40 (nI l) (nI a) (nI b) (bh v w) = some (nI (kT ρ l a b), bh v' w) ∧ (∀ q, q ≠ 46 → v' q = v q) ∧ fOK ρ (rOpt ρ (ρ 0 4) (rBst ρ (ρ 0 4) (ρ 0 0 - (l + 1))) l a b (c3v ρ l a b).toNat) l 16 v' := by
  have h0 := hk.1.1
  have hcb := c3v_b hk (Nat.le_of_lt hl) ha hb
  obtain ⟨c, ec⟩ : ∃ c : Nat, c3v ρ l a b = c := ⟨(c3v ρ l a b).toNat, by omega⟩
  have ek : kT ρ l a b = rMin (rOpt ρ (ρ 0 4) (rBst ρ (ρ 0 4) (ρ 0 0 - (l + 1))) l a b c) 16 := by
    unfold kT
    rw [if_pos hc, ec, rBst_s hl]
    rfl
  rw [ek, ec, show ((c : Int)).toNat = c from rfl]
  have r0 := rR_le hk (p := 0) hl
  have r1 := rR_le hk (p := 1) hl
  have r2 := rR_le hk (p := 2) hl
  have hN := sNeed_le hk hl
  generalize hf : rOpt ρ (ρ 0 4) (rBst ρ (ρ 0 4) (ρ 0 0 - (l + 1))) l a b c = f
  have m0 : (if a < rR ρ 0 l then a else rR ρ 0 l) ≤ a ∧ (if a < rR ρ 0 l then a else rR ρ 0 l) ≤ rR ρ 0 l := by split <;> omega
  have m0' : ∀ x, (if a < rR ρ 0 l then a else rR ρ 0 l) < x → ¬ (x ≤ a ∧ x ≤ rR ρ 0 l) := by intro x hx; split at hx <;> omega
  have m1 : (if b < rR ρ 1 l then b else rR ρ 1 l) ≤ b ∧ (if b < rR ρ 1 l then b else rR ρ 1 l) ≤ rR ρ 1 l := by split <;> omega
  have m1' : ∀ x, (if b < rR ρ 1 l then b else rR ρ 1 l) < x → ¬ (x ≤ b ∧ x ≤ rR ρ 1 l) := by intro x hx; split at hx <;> omega
  have m2 : (if c < rR ρ 2 l then c else rR ρ 2 l) ≤ c ∧ (if c < rR ρ 2 l then c else rR ρ 2 l) ≤ rR ρ 2 l := by split <;> omega
  have m2' : ∀ x, (if c < rR ρ 2 l then c else rR ρ 2 l) < x → ¬ (x ≤ c ∧ x ≤ rR ρ 2 l) := by intro x hx; split at hx <;> omega
  generalize hM0 : (if a < rR ρ 0 l then a else rR ρ 0 l) = M0 at m0 m0'
  generalize hM1 : (if b < rR ρ 1 l then b else rR ρ 1 l) = M1 at m1 m1'
  generalize hM2 : (if c < rR ρ 2 l then c else rR ρ 2 l) = M2 at m2 m2'
  have fv : ∀ x y, f x y = if x + y ≤ sNeed ρ l ∧ sNeed ρ l - x - y ≤ 3 then rVal ρ l a b c x y (sNeed ρ l - x - y) (rBst ρ (ρ 0 4) (ρ 0 0 - (l + 1)) (a - x) (b - y) (c - (sNeed ρ l - x - y))) else FAR := by
    intro x y
    rw [← hf]
    unfold rOpt
    rw [rN_st]
  have far : ∀ x y, ¬ (x ≤ M0 ∧ y ≤ M1) → f x y = FAR := by
    intro x y h
    rw [fv]
    split
    · unfold rVal
      rw [if_neg]
      rintro ⟨z1, z2, z3, z4, z5, z6, z7⟩
      refine h ⟨?_, ?_⟩
      · rcases Nat.lt_or_ge M0 x with q | q
        · exact absurd ⟨z1, z4⟩ (m0' x q)
        · exact q
      · rcases Nat.lt_or_ge M1 y with q | q
        · exact absurd ⟨z2, z5⟩ (m1' y q)
        · exact q
    · rfl
  have fle : ∀ x y, f x y ≤ FAR ∨ f x y < 2000000 := by
    intro x y
    rw [fv]
    split
    · unfold rVal
      split
      · next z =>
        have := rCost_le hk (x := x) (y := y) (z := sNeed ρ l - x - y) hl (by omega) (by omega) (by omega)
        have : FAR = 1000000 := rfl
        right
        omega
      · exact Or.inl (Nat.le_refl _)
    · exact Or.inl (Nat.le_refl _)
  have FR : FAR = 1000000 := rfl
  have k64 : ∀ (rec54 : Nat → Int32 → Int32 → Int32 → Int32 → Int32 → Int32 → Int32 → Int32 → mH → Option (Int32 × mH)) (x : Nat), x ≤ M0 → ∀ (k fuel y : Nat) (v : Nat → Nat → Int32), k < fuel → y + k = M1 + 1 → pJ ρ v → (∀ a' b', a' ≤ a → b' ≤ b → v 47 (((l + 1) * 6 + a') * 6 + b') = nI (kT ρ (l + 1) a' b')) → fOK ρ f l (4 * x + y) v → ∃ v', f_Planner_search_64 rec54 fuel 40 (nI l) (nI a) (nI b) (nI (rMin f (4 * x + y))) (nI M0) (nI M1) (nI M2) (nI x) (nI y) (bh v w) = rec54 40 (nI l) (nI a) (nI b) (nI (rMin f (4 * (x + 1)))) (nI M0) (nI M1) (nI M2) (nI (x + 1)) (bh v' w) ∧ (∀ q, q ≠ 46 → v' q = v q) ∧ fOK ρ f l (4 * (x + 1)) v' := by
    intro rec54 x hx k
    induction k with
    | zero =>
      intro fuel y v hfu hy hJ ht ho
      obtain ⟨m, rfl⟩ : ∃ m, fuel = m + 1 := ⟨fuel - 1, by omega⟩
      have fr := rMin_far f (4 * x + y) (4 - y) (fun u h1 h2 => far _ _ (by omega))
      rw [show 4 * x + y + (4 - y) = 4 * (x + 1) by omega] at fr
      refine ⟨v, ?_, fun _ _ => rfl, ?_⟩
      · show f_Planner_search_64b rec54 (f_Planner_search_64 rec54 m) 40 (nI l) (nI a) (nI b) (nI (rMin f (4 * x + y))) (nI M0) (nI M1) (nI M2) (nI x) (nI y) (bh v w) = _
        unfold f_Planner_search_64b
        rw [if_pos (nI_lt (by omega) (by omega)), nI_1, fr.1]
      · unfold fOK at ho ⊢
        rw [fr.1, fr.2]
        exact ho
    | succ k ih =>
      intro fuel y v hfu hy hJ ht ho
      obtain ⟨m, rfl⟩ : ∃ m, fuel = m + 1 := ⟨fuel - 1, by omega⟩
      have hm := rMin_le f (4 * x + y)
      have e1 := rMin_s f x y (by omega)
      have e2 := rArg_s f x y (by omega)
      have skip : ¬ f x y < rMin f (4 * x + y) → ∃ v', f_Planner_search_64 rec54 m 40 (nI l) (nI a) (nI b) (nI (rMin f (4 * x + y))) (nI M0) (nI M1) (nI M2) (nI x) (nI (y + 1)) (bh v w) = rec54 40 (nI l) (nI a) (nI b) (nI (rMin f (4 * (x + 1)))) (nI M0) (nI M1) (nI M2) (nI (x + 1)) (bh v' w) ∧ (∀ q, q ≠ 46 → v' q = v q) ∧ fOK ρ f l (4 * (x + 1)) v' := by
        intro hn
        have nx := ih m (y + 1) v (by omega) (by omega) hJ ht (by unfold fOK; rw [e1, e2, if_neg hn, if_neg hn]; exact ho)
        rw [e1, if_neg hn] at nx
        exact nx
      show ∃ v', f_Planner_search_64b rec54 (f_Planner_search_64 rec54 m) 40 (nI l) (nI a) (nI b) (nI (rMin f (4 * x + y))) (nI M0) (nI M1) (nI M2) (nI x) (nI y) (bh v w) = _ ∧ _
      unfold f_Planner_search_64b f_Planner_search_192
      rw [if_neg (nI_nlt (by omega) (by omega))]
      simp only [hP0, bd1_q]
      rw [rd_nI (by omega) (by decide), bd1_s, hJ.2.2.1 l hl, Q_isWithin, bd2_s, nI_1, show nI (sNeed ρ l) - nI x - nI y = zI ((sNeed ρ l : Int) - x - y) by rw [← zI_n (sNeed ρ l), zI_subn, zI_subn], zI_t (by omega) (by omega), nI_toInt (show M2 < 2 ^ 31 by omega)]
      by_cases q : (0 : Int32).toInt ≤ (sNeed ρ l : Int) - x - y ∧ (sNeed ρ l : Int) - x - y ≤ (M2 : Int)
      · rw [if_pos q, if_neg (by decide)]
        have q0 : (0 : Int32).toInt = 0 := rfl
        obtain ⟨z, hz⟩ : ∃ z : Nat, (sNeed ρ l : Int) - x - y = z := ⟨((sNeed ρ l : Int) - x - y).toNat, by omega⟩
        have ez : sNeed ρ l - x - y = z := by omega
        have hcv : c3v ρ (l + 1) (a - x) (b - y) = ((c - z : Nat) : Int) := by
          have : c3v ρ (l + 1) (a - x) (b - y) = c3v ρ l a b - sNeed ρ l + x + y := by
            unfold c3v
            show (rL ρ (ρ 6) 2 : Int) - ((sumN (sNeed ρ) l + sNeed ρ l : Nat) : Int) + _ - ((a - x : Nat) : Int) + _ - ((b - y : Nat) : Int) = _
            omega
          omega
        have eB : kT ρ (l + 1) (a - x) (b - y) = rBst ρ (ρ 0 4) (ρ 0 0 - (l + 1)) (a - x) (b - y) (c - z) := by
          unfold kT
          rw [hcv, if_pos (by omega)]
          rfl
        have hB := kT_le ρ (l + 1) (a - x) (b - y)
        have cost := rCost_le hk (x := x) (y := y) (z := z) hl (by omega) (by omega) (by omega)
        have fz : f x y = if kT ρ (l + 1) (a - x) (b - y) < FAR then rCost ρ l x y z + kT ρ (l + 1) (a - x) (b - y) else FAR := by
          rw [fv, if_pos (by omega), ez, ← eB]
          unfold rVal
          by_cases g : kT ρ (l + 1) (a - x) (b - y) < FAR
          · rw [if_pos ⟨by omega, by omega, by omega, by omega, by omega, by omega, g⟩, if_pos g]
          · rw [if_neg (fun w => g w.2.2.2.2.2.2), if_neg g]
        rw [hz, zI_n]
        simp only [hP0, bd1_q]
        have t0 : nI x * v 45 l = nI (x * rH ρ 0 l) := by have := p_term hJ (p := 0) (l := l) (x := x) hl (by omega); rwa [show 5 * 0 + l = l by omega] at this
        have t1 : nI y * v 45 (5 + l) = nI (y * rH ρ 1 l) := p_term hJ (p := 1) (l := l) (x := y) hl (by omega)
        have t2 : nI z * v 45 (10 + l) = nI (z * rH ρ 2 l) := p_term hJ (p := 2) (l := l) (x := z) hl (by omega)
        rw [rd_nI (by omega) (by decide), bd1_s, show (5 : Int32) = nI 5 from rfl, show (10 : Int32) = nI 10 from rfl, nI_add, nI_add, rd_nI (by omega) (by decide), bd1_s, rd_nI (by omega) (by decide), bd1_s, nI_1, pk_sub (by omega), pk_sub (by omega), pst_I, bd2_s]
        simp only [hP0, bd1_q]
        rw [rd_nI (by omega) (by decide), bd1_s, ht _ _ (by omega) (by omega), t0, t1, t2, nI_add, nI_add, nI_add]
        have eS : x * rH ρ 0 l + y * rH ρ 1 l + z * rH ρ 2 l = rCost ρ l x y z := rfl
        rw [eS, ite_iff (nI_leI (by omega) (by omega))]
        by_cases g : rMin f (4 * x + y) ≤ rCost ρ l x y z + kT ρ (l + 1) (a - x) (b - y)
        · rw [if_pos g]
          refine skip ?_
          rw [fz]
          split <;> omega
        · have gk : kT ρ (l + 1) (a - x) (b - y) < FAR := by omega
          have fe : f x y = rCost ρ l x y z + kT ρ (l + 1) (a - x) (b - y) := by rw [fz, if_pos gk]
          have lt : f x y < rMin f (4 * x + y) := by omega
          rw [if_neg g, wr_nI (by omega) (by decide), bd1_s]
          simp only [hP0, bd1_q]
          rw [wr_nI (by omega) (by decide), bd1_s]
          simp only [hP0, bd1_q]
          rw [wr_nI (by omega) (by decide), bd1_s]
          have ff : ∀ q, q ≠ 46 → u2 (u2 (u2 v 46 l (nI x)) 46 (5 + l) (nI y)) 46 (10 + l) (nI z) q = v q := fun q hq => (u2_o hq).trans ((u2_o hq).trans (u2_o hq))
          have nx := ih m (y + 1) (u2 (u2 (u2 v 46 l (nI x)) 46 (5 + l) (nI y)) 46 (10 + l) (nI z)) (by omega) (by omega) (hJ.fr (fun q hq => ff q (by omega))) (fun a' b' h1 h2 => by rw [ff 47 (by decide)]; exact ht a' b' h1 h2) (by
            unfold fOK
            rw [e1, e2, if_pos lt, if_pos lt]
            intro _
            rw [show (4 * x + y) / 4 = x by omega, show (4 * x + y) % 4 = y by omega, ez]
            refine ⟨?_, ?_, u2_at _ _ _ _⟩
            · rw [u2_n (by omega), u2_n (by omega), u2_at]
            · rw [u2_n (by omega), u2_at])
          rw [e1, if_pos lt, fe] at nx
          obtain ⟨v', n1, n2, n3⟩ := nx
          exact ⟨v', n1, fun q hq => (n2 q hq).trans (ff q hq), n3⟩
      · rw [if_neg q, if_pos rfl]
        refine skip ?_
        have : f x y = FAR := by
          rw [fv]
          split
          · next z =>
            unfold rVal
            rw [if_neg]
            rintro ⟨z1, z2, z3, z4, z5, z6, z7⟩
            have q0 : (0 : Int32).toInt = 0 := rfl
            exact m2' (sNeed ρ l - x - y) (by omega) ⟨z3, z6⟩
          · rfl
        omega
  have k54 : ∀ (k fuel x : Nat) (v : Nat → Nat → Int32), k < fuel → x + k = M0 + 1 → pJ ρ v → (∀ a' b', a' ≤ a → b' ≤ b → v 47 (((l + 1) * 6 + a') * 6 + b') = nI (kT ρ (l + 1) a' b')) → fOK ρ f l (4 * x) v → ∃ v', f_Planner_search_54 fuel 40 (nI l) (nI a) (nI b) (nI (rMin f (4 * x))) (nI M0) (nI M1) (nI M2) (nI x) (bh v w) = some (nI (rMin f 16), bh v' w) ∧ (∀ q, q ≠ 46 → v' q = v q) ∧ fOK ρ f l 16 v' := by
    intro k
    induction k with
    | zero =>
      intro fuel x v hfu hx hJ ht ho
      obtain ⟨m, rfl⟩ : ∃ m, fuel = m + 1 := ⟨fuel - 1, by omega⟩
      have fr := rMin_far f (4 * x) (16 - 4 * x) (fun u h1 h2 => far _ _ (by omega))
      rw [show 4 * x + (16 - 4 * x) = 16 by omega] at fr
      refine ⟨v, ?_, fun _ _ => rfl, ?_⟩
      · show f_Planner_search_54b (f_Planner_search_54 m) 40 (nI l) (nI a) (nI b) (nI (rMin f (4 * x))) (nI M0) (nI M1) (nI M2) (nI x) (bh v w) = _
        unfold f_Planner_search_54b
        rw [if_pos (nI_lt (by omega) (by omega)), fr.1]
      · unfold fOK at ho ⊢
        rw [fr.1, fr.2]
        exact ho
    | succ k ih =>
      intro fuel x v hfu hx hJ ht ho
      obtain ⟨m, rfl⟩ : ∃ m, fuel = m + 1 := ⟨fuel - 1, by omega⟩
      obtain ⟨v1, e1, f1, o1⟩ := k64 (f_Planner_search_54 m) x (by omega) (M1 + 1) FU 0 v (by unfold FU; omega) (by omega) hJ ht ho
      have e1 : f_Planner_search_64 (f_Planner_search_54 m) FU 40 (nI l) (nI a) (nI b) (nI (rMin f (4 * x))) (nI M0) (nI M1) (nI M2) (nI x) 0 (bh v w) = f_Planner_search_54 m 40 (nI l) (nI a) (nI b) (nI (rMin f (4 * (x + 1)))) (nI M0) (nI M1) (nI M2) (nI (x + 1)) (bh v1 w) := e1
      obtain ⟨v2, e2, f2, o2⟩ := ih m (x + 1) v1 (by omega) (by omega) (hJ.fr (fun q hq => f1 q (by omega))) (fun a' b' h1 h2 => by rw [f1 47 (by decide)]; exact ht a' b' h1 h2) o1
      refine ⟨v2, ?_, fun q hq => (f2 q hq).trans (f1 q hq), o2⟩
      show f_Planner_search_54b (f_Planner_search_54 m) 40 (nI l) (nI a) (nI b) (nI (rMin f (4 * x))) (nI M0) (nI M1) (nI M2) (nI x) (bh v w) = _
      unfold f_Planner_search_54b
      rw [if_neg (nI_nlt (by omega) (by omega))]
      exact e1.trans e2
  obtain ⟨v', e1, f1, o1⟩ := k54 (M0 + 1) FU 0 v (by unfold FU; omega) (by omega) hJ ht (fun h => absurd h (Nat.lt_irrefl _))
  have e1 : f_Planner_search_54 FU 40 (nI l) (nI a) (nI b) (1000000 : Int32) (nI M0) (nI M1) (nI M2) 0 (bh v w) = some (nI (rMin f 16), bh v' w) := e1
  refine ⟨v', ?_, f1, o1⟩
  have g0 := hJ.2.2.2.2.1 0 l (by decide) hl
  have g1 := hJ.2.2.2.2.1 1 l (by decide) hl
  have g2 := hJ.2.2.2.2.1 2 l (by decide) hl
  rw [show 5 * 0 + l = l by omega] at g0
  rw [show 5 * 1 + l = 5 + l by omega] at g1
  rw [show 5 * 2 + l = 10 + l by omega] at g2
  unfold f_Planner_search f_Planner_search_0
  simp only [hP0, bd1_q]
  rw [show (5 : Int32) = nI 5 from rfl, show (10 : Int32) = nI 10 from rfl, nI_add, nI_add, rd_nI (by omega) (by decide), bd1_s, rd_nI (by omega) (by decide), bd1_s, rd_nI (by omega) (by decide), bd1_s, C_left hJ hk (by omega) ha hb, bd2_s, g0, g1, g2, ec, zI_n, ite_I (by omega) (by omega), ite_I (by omega) (by omega), ite_I (by omega) (by omega), hM0, hM1, hM2]
  exact e1
end
end
