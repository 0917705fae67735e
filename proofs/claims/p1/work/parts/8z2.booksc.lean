/-! books, entry: the class comes to an end -/
def tH (L : Nat) (v : Nat → Nat → Int32) : Prop := L ≤ 5 ∧ v 48 0 = nI L ∧ (∀ p, p < 3 → ∃ t, t ≤ 5 ∧ v 53 p = nI t) ∧ (∀ i, i < 15 → ∃ a, a ≤ 3 ∧ v 49 i = nI a) ∧ ∀ i, i < 15 → ∃ b, b ≤ 3 ∧ v 50 i = nI b
theorem m1_0 : nI 0 + (-1 : Int32) = -1 := by decide
theorem st_I (a b c : Nat) (h : mH) : f_Tables_stateOf (nI a) (nI b) (nI c) h = some (nI ((a * 6 + b) * 6 + c), h) := by
  unfold f_Tables_stateOf f_Tables_stateOf_0
  rw [show (6 : Int32) = nI 6 from rfl, pk_mul, nI_add, pk_mul, nI_add]
theorem ite_I {a b : Nat} (ha : a < 2 ^ 31) (hb : b < 2 ^ 31) : (if nI a < nI b then nI a else nI b) = nI (if a < b then a else b) := by
  rw [ite_iff (nI_ltI ha hb)]
  split <;> rfl
section
variable {L : Nat} {v : Nat → Nat → Int32} {w : Nat → Nat → Int64}
theorem T_sa42 {p a b s : Nat} (hp : p < 3) (ha : a ≤ 3) (hb : b ≤ 3) (hs : s ≤ 5) (rec31 : Nat → Int32 → Int32 → Int32 → Int32 → mH → Option mH) : ∀ (k fuel n : Nat) (x : Int64), k < fuel → s + 1 ≤ n + k → n ≤ 20 → ∃ w', f_Tables_spendAlone_42 rec31 fuel 48 (nI p) (nI a) (nI b) (nI s) x (nI n) (bh v w) = rec31 48 (nI p) (nI a) (nI b) (nI s + -1) (bh v w') := by
  have e82 : ∀ x : Int64, ∃ w', f_Tables_spendAlone_82 rec31 48 (nI p) (nI a) (nI b) (nI s) x (bh v w) = rec31 48 (nI p) (nI a) (nI b) (nI s + -1) (bh v w') := by
    intro x
    unfold f_Tables_spendAlone_82
    simp only [hB0, bd1_q]
    rw [show (6 : Int32) = nI 6 from rfl, pk_mul, nI_add, wrL_nI (by omega) (by decide), bd1_s]
    exact ⟨_, rfl⟩
  intro k
  induction k with
  | zero =>
    intro fuel n x hf hn hn2
    obtain ⟨m, rfl⟩ : ∃ m, fuel = m + 1 := ⟨fuel - 1, by omega⟩
    show ∃ w', f_Tables_spendAlone_42b rec31 (f_Tables_spendAlone_42 rec31 m) 48 (nI p) (nI a) (nI b) (nI s) x (nI n) (bh v w) = _
    unfold f_Tables_spendAlone_42b
    rw [if_pos (show nI s < nI n from nI_lt (by omega) (by omega))]
    split
    · exact e82 x
    · exact e82 x
  | succ k ih =>
    intro fuel n x hf hn hn2
    obtain ⟨m, rfl⟩ : ∃ m, fuel = m + 1 := ⟨fuel - 1, by omega⟩
    show ∃ w', f_Tables_spendAlone_42b rec31 (f_Tables_spendAlone_42 rec31 m) 48 (nI p) (nI a) (nI b) (nI s) x (nI n) (bh v w) = _
    unfold f_Tables_spendAlone_42b
    rw [ite_iff (nI_ltI (a := b) (b := n) (by omega) (by omega)), ite_iff (nI_ltI (a := s) (b := n) (by omega) (by omega))]
    by_cases c1 : b < n
    · rw [if_pos c1]; exact e82 x
    · rw [if_neg c1]
      by_cases c2 : s < n
      · rw [if_pos c2]; exact e82 x
      · rw [if_neg c2]
        simp only [hB0, bd1_q]
        rw [show (6 : Int32) = nI 6 from rfl, pk_mul, nI_add, pk_sub (by omega), rd_nI (by omega) (by decide), bd1_s, nI_1]
        exact ih m (n + 1) _ (by omega) (by omega) (by omega)
theorem T_spendAlone (h : tH L v) {p l : Nat} (hp : p < 3) (hl : l < L) (w : Nat → Nat → Int64) : ∃ w', f_Tables_spendAlone 48 (nI p) (nI l) (bh v w) = some (bh v w') := by
  obtain ⟨h5, h0, ht, ha, hb⟩ := h
  obtain ⟨a, a3, ea⟩ := ha (5 * p + l) (by omega)
  obtain ⟨b, b3, eb⟩ := hb (5 * p + l) (by omega)
  obtain ⟨t, t5, et⟩ := ht p hp
  have key : ∀ (s fuel : Nat) (w : Nat → Nat → Int64), s + 1 < fuel → s ≤ 5 → ∃ w', f_Tables_spendAlone_31 fuel 48 (nI p) (nI a) (nI b) (nI s) (bh v w) = some (bh v w') := by
    have z : ∀ (m : Nat) (w : Nat → Nat → Int64), f_Tables_spendAlone_31 (m + 1) 48 (nI p) (nI a) (nI b) (-1) (bh v w) = some (bh v w) := by
      intro m w
      show f_Tables_spendAlone_31b (f_Tables_spendAlone_31 m) 48 (nI p) (nI a) (nI b) (-1) (bh v w) = _
      unfold f_Tables_spendAlone_31b
      rw [if_pos (by decide)]
    intro s
    induction s with
    | zero =>
      intro fuel w hf hs
      obtain ⟨m, rfl⟩ : ∃ m, fuel = m + 1 + 1 := ⟨fuel - 2, by omega⟩
      obtain ⟨w1, e1⟩ := T_sa42 (v := v) (w := w) hp a3 b3 hs (f_Tables_spendAlone_31 (m + 1)) 30 FU a 0 (by decide) (by omega) (by omega)
      rw [m1_0, z] at e1
      refine ⟨w1, ?_⟩
      show f_Tables_spendAlone_31b (f_Tables_spendAlone_31 (m + 1)) 48 (nI p) (nI a) (nI b) (nI 0) (bh v w) = _
      unfold f_Tables_spendAlone_31b
      rw [if_neg (nI_pos (by omega))]
      exact e1
    | succ s ih =>
      intro fuel w hf hs
      obtain ⟨m, rfl⟩ : ∃ m, fuel = m + 1 := ⟨fuel - 1, by omega⟩
      obtain ⟨w1, e1⟩ := T_sa42 (v := v) (w := w) hp a3 b3 hs (f_Tables_spendAlone_31 m) 30 FU a 0 (by decide) (by omega) (by omega)
      obtain ⟨w2, e2⟩ := ih m w1 (by omega) (by omega)
      rw [m1_I s (by omega), e2] at e1
      refine ⟨w2, ?_⟩
      show f_Tables_spendAlone_31b (f_Tables_spendAlone_31 m) 48 (nI p) (nI a) (nI b) (nI (s + 1)) (bh v w) = _
      unfold f_Tables_spendAlone_31b
      rw [if_neg (nI_pos (by omega))]
      exact e1
  unfold f_Tables_spendAlone f_Tables_spendAlone_0
  simp only [hB0, bd1_q]
  rw [show (5 : Int32) = nI 5 from rfl, pk_mul, nI_add, Nat.mul_comm p 5, rd_nI (by omega) (by decide), bd1_s, rd_nI (by omega) (by decide), bd1_s, rd_nI hp (by decide), bd1_s, ea, eb, et]
  exact key t FU w (by unfold FU; omega) t5
theorem rd3 {f : Nat → Int32} : rd f 3 (0 : Int32) = some (f 0) ∧ rd f 3 (1 : Int32) = some (f 1) ∧ rd f 3 (2 : Int32) = some (f 2) := ⟨rfl, rfl, rfl⟩
theorem T_joinAll (h : tH L v) (w : Nat → Nat → Int64) : ∃ w', f_Tables_joinAll 48 (bh v w) = some (bh v w') := by
  obtain ⟨h5, h0, ht, -, -⟩ := h
  obtain ⟨t0, q0, e0⟩ := ht 0 (by decide)
  obtain ⟨t1, q1, e1⟩ := ht 1 (by decide)
  obtain ⟨t2, q2, e2⟩ := ht 2 (by decide)
  have k26 : ∀ (rec2 : Nat → Int32 → mH → Option mH) (rec14 : Nat → Int32 → Int32 → mH → Option mH) (a b : Nat), a ≤ 5 → b ≤ 5 → ∀ (k fuel c : Nat) (w : Nat → Nat → Int64), k < fuel → c + k = t2 + 1 → ∃ w', f_Tables_joinAll_26 rec2 rec14 fuel 48 (nI a) (nI b) (nI c) (bh v w) = rec14 48 (nI a) (nI (b + 1)) (bh v w') := by
    intro rec2 rec14 a b ha hb k
    induction k with
    | zero =>
      intro fuel c w hf hc
      obtain ⟨m, rfl⟩ : ∃ m, fuel = m + 1 := ⟨fuel - 1, by omega⟩
      refine ⟨w, ?_⟩
      show f_Tables_joinAll_26b rec2 rec14 (f_Tables_joinAll_26 rec2 rec14 m) 48 (nI a) (nI b) (nI c) (bh v w) = _
      unfold f_Tables_joinAll_26b
      simp only [hB0, bd1_q]
      rw [rd3.2.2, bd1_s, e2, if_pos (nI_lt (by omega) (by omega)), nI_1]
    | succ k ih =>
      intro fuel c w hf hc
      obtain ⟨m, rfl⟩ : ∃ m, fuel = m + 1 := ⟨fuel - 1, by omega⟩
      show ∃ w', f_Tables_joinAll_26b rec2 rec14 (f_Tables_joinAll_26 rec2 rec14 m) 48 (nI a) (nI b) (nI c) (bh v w) = _
      unfold f_Tables_joinAll_26b
      simp only [hB0, bd1_q]
      rw [rd3.2.2, bd1_s, e2, if_neg (nI_nlt (by omega) (by omega)), st_I, bd2_s]
      simp only [hB0, bd1_q]
      rw [show (6 : Int32) = nI 6 from rfl, show (12 : Int32) = nI 12 from rfl, nI_add, nI_add, rd_nI (by omega) (by decide), bd1_s, rd_nI (by omega) (by decide), bd1_s, rd_nI (by omega) (by decide), bd1_s, wrL_nI (by omega) (by decide), bd1_s, nI_1]
      exact ih m (c + 1) _ (by omega) (by omega)
  have k14 : ∀ (rec2 : Nat → Int32 → mH → Option mH) (a : Nat), a ≤ 5 → ∀ (k fuel b : Nat) (w : Nat → Nat → Int64), k < fuel → b + k = t1 + 1 → ∃ w', f_Tables_joinAll_14 rec2 fuel 48 (nI a) (nI b) (bh v w) = rec2 48 (nI (a + 1)) (bh v w') := by
    intro rec2 a ha k
    induction k with
    | zero =>
      intro fuel b w hf hc
      obtain ⟨m, rfl⟩ : ∃ m, fuel = m + 1 := ⟨fuel - 1, by omega⟩
      refine ⟨w, ?_⟩
      show f_Tables_joinAll_14b rec2 (f_Tables_joinAll_14 rec2 m) 48 (nI a) (nI b) (bh v w) = _
      unfold f_Tables_joinAll_14b
      simp only [hB0, bd1_q]
      rw [rd3.2.1, bd1_s, e1, if_pos (nI_lt (by omega) (by omega)), nI_1]
    | succ k ih =>
      intro fuel b w hf hc
      obtain ⟨m, rfl⟩ : ∃ m, fuel = m + 1 := ⟨fuel - 1, by omega⟩
      obtain ⟨w1, g1⟩ := k26 rec2 (f_Tables_joinAll_14 rec2 m) a b ha (by omega) (t2 + 1) FU 0 w (by unfold FU; omega) (by omega)
      obtain ⟨w2, g2⟩ := ih m (b + 1) w1 (by omega) (by omega)
      refine ⟨w2, ?_⟩
      show f_Tables_joinAll_14b rec2 (f_Tables_joinAll_14 rec2 m) 48 (nI a) (nI b) (bh v w) = _
      unfold f_Tables_joinAll_14b
      simp only [hB0, bd1_q]
      rw [rd3.2.1, bd1_s, e1, if_neg (nI_nlt (by omega) (by omega))]
      exact g1.trans g2
  have k2 : ∀ (k fuel a : Nat) (w : Nat → Nat → Int64), k < fuel → a + k = t0 + 1 → ∃ w', f_Tables_joinAll_2 fuel 48 (nI a) (bh v w) = some (bh v w') := by
    intro k
    induction k with
    | zero =>
      intro fuel a w hf hc
      obtain ⟨m, rfl⟩ : ∃ m, fuel = m + 1 := ⟨fuel - 1, by omega⟩
      refine ⟨w, ?_⟩
      show f_Tables_joinAll_2b (f_Tables_joinAll_2 m) 48 (nI a) (bh v w) = _
      unfold f_Tables_joinAll_2b
      simp only [hB0, bd1_q]
      rw [rd3.1, bd1_s, e0, if_pos (nI_lt (by omega) (by omega))]
    | succ k ih =>
      intro fuel a w hf hc
      obtain ⟨m, rfl⟩ : ∃ m, fuel = m + 1 := ⟨fuel - 1, by omega⟩
      obtain ⟨w1, g1⟩ := k14 (f_Tables_joinAll_2 m) a (by omega) (t1 + 1) FU 0 w (by unfold FU; omega) (by omega)
      obtain ⟨w2, g2⟩ := ih m (a + 1) w1 (by omega) (by omega)
      refine ⟨w2, ?_⟩
      show f_Tables_joinAll_2b (f_Tables_joinAll_2 m) 48 (nI a) (bh v w) = _
      unfold f_Tables_joinAll_2b
      simp only [hB0, bd1_q]
      rw [rd3.1, bd1_s, e0, if_neg (nI_nlt (by omega) (by omega))]
      exact g1.trans g2
  obtain ⟨w1, g⟩ := k2 (t0 + 1) FU 0 w (by unfold FU; omega) (by omega)
  exact ⟨w1, g⟩
theorem T_waysTo (h : tH L v) {a b c l : Nat} (ha : a ≤ 5) (hb : b ≤ 5) (hc : c ≤ 5) (hl : l < L) : ∃ r, f_Tables_waysTo 48 (nI a) (nI b) (nI c) (nI l) (bh v w) = some (r, bh v w) := by
  obtain ⟨h5, h0, -, hlo, hhi⟩ := h
  obtain ⟨a0, b0, c0⟩ := hlo l (by omega)
  obtain ⟨a1, b1, c1⟩ := hlo (5 + l) (by omega)
  obtain ⟨a2, b2, c2⟩ := hlo (10 + l) (by omega)
  obtain ⟨d0, g0, i0⟩ := hhi l (by omega)
  obtain ⟨d1, g1, i1⟩ := hhi (5 + l) (by omega)
  obtain ⟨d2, g2, i2⟩ := hhi (10 + l) (by omega)
  have m0 : (if a < d0 then a else d0) ≤ a ∧ (if a < d0 then a else d0) ≤ 3 := by split <;> omega
  have m1 : (if b < d1 then b else d1) ≤ b ∧ (if b < d1 then b else d1) ≤ 3 := by split <;> omega
  have m2 : (if c < d2 then c else d2) ≤ c ∧ (if c < d2 then c else d2) ≤ 3 := by split <;> omega
  generalize hM0 : (if a < d0 then a else d0) = M0 at m0
  generalize hM1 : (if b < d1 then b else d1) = M1 at m1
  generalize hM2 : (if c < d2 then c else d2) = M2 at m2
  have k74 : ∀ (rec56 : Nat → Int32 → Int32 → Int32 → Int32 → Int32 → Int32 → Int32 → Int64 → Int32 → mH → Option (Int64 × mH)) (n : Nat), n ≤ M0 → ∀ (k fuel j : Nat) (x : Int64), k < fuel → M1 + 1 ≤ j + k → j ≤ 20 → ∃ y, f_Tables_waysTo_74 rec56 fuel 48 (nI a) (nI b) (nI c) (nI l) (nI M0) (nI M1) (nI M2) x (nI n) (nI j) (bh v w) = rec56 48 (nI a) (nI b) (nI c) (nI l) (nI M0) (nI M1) (nI M2) y (nI (n + 1)) (bh v w) := by
    intro rec56 n hn k
    induction k with
    | zero =>
      intro fuel j x hf hj hj2
      obtain ⟨m, rfl⟩ : ∃ m, fuel = m + 1 := ⟨fuel - 1, by omega⟩
      refine ⟨x, ?_⟩
      show f_Tables_waysTo_74b rec56 (f_Tables_waysTo_74 rec56 m) 48 (nI a) (nI b) (nI c) (nI l) (nI M0) (nI M1) (nI M2) x (nI n) (nI j) (bh v w) = _
      unfold f_Tables_waysTo_74b
      rw [if_pos (nI_lt (by omega) (by omega)), nI_1]
    | succ k ih =>
      intro fuel j x hf hj hj2
      obtain ⟨m, rfl⟩ : ∃ m, fuel = m + 1 := ⟨fuel - 1, by omega⟩
      show ∃ y, f_Tables_waysTo_74b rec56 (f_Tables_waysTo_74 rec56 m) 48 (nI a) (nI b) (nI c) (nI l) (nI M0) (nI M1) (nI M2) x (nI n) (nI j) (bh v w) = _
      unfold f_Tables_waysTo_74b f_Tables_waysTo_141
      by_cases z : M1 < j
      · rw [if_pos (nI_lt z (by omega)), nI_1]
        exact ⟨x, rfl⟩
      · have nx := fun x => ih m (j + 1) x (by omega) (by omega) (by omega)
        rw [if_neg (nI_nlt (by omega) (by omega))]
        simp only [hB0, bd1_q]
        rw [rd_nI (by omega) (by decide), bd1_s, show (10 : Int32) = nI 10 from rfl, nI_add, rd_nI (by omega) (by decide), bd1_s, c2, Q_isWithin, bd2_s, nI_1]
        generalize v 51 l - nI n - nI j = y
        by_cases q : (nI a2).toInt ≤ y.toInt ∧ y.toInt ≤ (nI M2).toInt
        · rw [if_pos q, if_neg (by decide)]
          rw [nI_toInt (by omega), nI_toInt (by omega)] at q
          obtain ⟨t, ht, rfl⟩ := ix (x := y) (n := M2 + 1) (by omega) (by omega)
          simp only [hB0, bd1_q]
          rw [pk_sub (by omega), pk_sub (by omega), pk_sub (by omega), st_I, bd2_s]
          simp only [hB0, bd1_q]
          rw [rd_nI (by omega) (by decide), bd1_s]
          exact nx _
        · rw [if_neg q, if_pos rfl]
          exact nx _
  have k56 : ∀ (k fuel n : Nat) (x : Int64), k < fuel → M0 + 1 ≤ n + k → n ≤ 20 → ∃ r, f_Tables_waysTo_56 fuel 48 (nI a) (nI b) (nI c) (nI l) (nI M0) (nI M1) (nI M2) x (nI n) (bh v w) = some (r, bh v w) := by
    intro k
    induction k with
    | zero =>
      intro fuel n x hf hn hn2
      obtain ⟨m, rfl⟩ : ∃ m, fuel = m + 1 := ⟨fuel - 1, by omega⟩
      refine ⟨x, ?_⟩
      show f_Tables_waysTo_56b (f_Tables_waysTo_56 m) 48 (nI a) (nI b) (nI c) (nI l) (nI M0) (nI M1) (nI M2) x (nI n) (bh v w) = _
      unfold f_Tables_waysTo_56b
      rw [if_pos (nI_lt (by omega) (by omega))]
    | succ k ih =>
      intro fuel n x hf hn hn2
      obtain ⟨m, rfl⟩ : ∃ m, fuel = m + 1 := ⟨fuel - 1, by omega⟩
      show ∃ r, f_Tables_waysTo_56b (f_Tables_waysTo_56 m) 48 (nI a) (nI b) (nI c) (nI l) (nI M0) (nI M1) (nI M2) x (nI n) (bh v w) = some (r, bh v w)
      unfold f_Tables_waysTo_56b
      by_cases z : M0 < n
      · rw [if_pos (nI_lt z (by omega))]
        exact ⟨x, rfl⟩
      · rw [if_neg (nI_nlt (by omega) (by omega))]
        simp only [hB0, bd1_q]
        rw [show (5 : Int32) = nI 5 from rfl, nI_add, rd_nI (by omega) (by decide), bd1_s, c1]
        obtain ⟨y, e⟩ := k74 (f_Tables_waysTo_56 m) n (by omega) 30 FU a1 x (by decide) (by omega) (by omega)
        rw [e]
        exact ih m (n + 1) y (by omega) (by omega) (by omega)
  unfold f_Tables_waysTo f_Tables_waysTo_0
  simp only [hB0, bd1_q]
  rw [show (5 : Int32) = nI 5 from rfl, show (10 : Int32) = nI 10 from rfl, nI_add, nI_add, rd_nI (by omega) (by decide), bd1_s, rd_nI (by omega) (by decide), bd1_s, rd_nI (by omega) (by decide), bd1_s, rd_nI (by omega) (by decide), bd1_s, i0, i1, i2, c0, ite_I (by omega) (by omega), ite_I (by omega) (by omega), ite_I (by omega) (by omega), hM0, hM1, hM2]
  exact k56 30 FU a0 0 (by decide) (by omega) (by omega)
theorem T_spendTogether (h : tH L v) {l : Nat} (hl : l < L) (w : Nat → Nat → Int64) : ∃ w', f_Tables_spendTogether 48 (nI l) (bh v w) = some (bh v w') := by
  have h' := h
  obtain ⟨h5, h0, ht, -, -⟩ := h'
  obtain ⟨t0, q0, e0⟩ := ht 0 (by decide)
  obtain ⟨t1, q1, e1⟩ := ht 1 (by decide)
  obtain ⟨t2, q2, e2⟩ := ht 2 (by decide)
  have k30 : ∀ (rec7 : Nat → Int32 → Int32 → mH → Option mH) (rec18 : Nat → Int32 → Int32 → Int32 → mH → Option mH) (a b : Nat), a ≤ 5 → b ≤ 5 → ∀ (c fuel : Nat) (w : Nat → Nat → Int64), c + 1 < fuel → c ≤ 5 → ∃ w', f_Tables_spendTogether_30 rec7 rec18 fuel 48 (nI l) (nI a) (nI b) (nI c) (bh v w) = rec18 48 (nI l) (nI a) (nI b + -1) (bh v w') := by
    intro rec7 rec18 a b ha hb c
    have st : ∀ (m c : Nat) (w : Nat → Nat → Int64), c ≤ 5 → ∃ w', f_Tables_spendTogether_30 rec7 rec18 (m + 1) 48 (nI l) (nI a) (nI b) (nI c) (bh v w) = f_Tables_spendTogether_30 rec7 rec18 m 48 (nI l) (nI a) (nI b) (nI c + -1) (bh v w') := by
      intro m c w hc
      obtain ⟨r, er⟩ := T_waysTo (w := w) h ha hb hc hl
      show ∃ w', f_Tables_spendTogether_30b rec7 rec18 (f_Tables_spendTogether_30 rec7 rec18 m) 48 (nI l) (nI a) (nI b) (nI c) (bh v w) = _
      unfold f_Tables_spendTogether_30b
      rw [if_neg (nI_pos (by omega))]
      simp only [hB0, bd1_q]
      rw [st_I, bd2_s]
      simp only [hB0, bd1_q]
      rw [er, bd2_s]
      simp only [hB0, bd1_q]
      rw [wrL_nI (by omega) (by decide), bd1_s]
      exact ⟨_, rfl⟩
    have z : ∀ (m : Nat) (w : Nat → Nat → Int64), f_Tables_spendTogether_30 rec7 rec18 (m + 1) 48 (nI l) (nI a) (nI b) (-1) (bh v w) = rec18 48 (nI l) (nI a) (nI b + -1) (bh v w) := by
      intro m w
      show f_Tables_spendTogether_30b rec7 rec18 (f_Tables_spendTogether_30 rec7 rec18 m) 48 (nI l) (nI a) (nI b) (-1) (bh v w) = _
      unfold f_Tables_spendTogether_30b
      rw [if_pos (by decide)]
    induction c with
    | zero =>
      intro fuel w hf hc
      obtain ⟨m, rfl⟩ : ∃ m, fuel = m + 1 + 1 := ⟨fuel - 2, by omega⟩
      obtain ⟨w1, g1⟩ := st (m + 1) 0 w hc
      rw [m1_0, z] at g1
      exact ⟨w1, g1⟩
    | succ c ih =>
      intro fuel w hf hc
      obtain ⟨m, rfl⟩ : ∃ m, fuel = m + 1 := ⟨fuel - 1, by omega⟩
      obtain ⟨w1, g1⟩ := st m (c + 1) w hc
      rw [m1_I c (by omega)] at g1
      obtain ⟨w2, g2⟩ := ih m w1 (by omega) (by omega)
      exact ⟨w2, g1.trans g2⟩
  have k18 : ∀ (rec7 : Nat → Int32 → Int32 → mH → Option mH) (a : Nat), a ≤ 5 → ∀ (b fuel : Nat) (w : Nat → Nat → Int64), b + 1 < fuel → b ≤ 5 → ∃ w', f_Tables_spendTogether_18 rec7 fuel 48 (nI l) (nI a) (nI b) (bh v w) = rec7 48 (nI l) (nI a + -1) (bh v w') := by
    intro rec7 a ha b
    have st : ∀ (m b : Nat) (w : Nat → Nat → Int64), b ≤ 5 → ∃ w', f_Tables_spendTogether_18 rec7 (m + 1) 48 (nI l) (nI a) (nI b) (bh v w) = f_Tables_spendTogether_18 rec7 m 48 (nI l) (nI a) (nI b + -1) (bh v w') := by
      intro m b w hb
      obtain ⟨w1, g1⟩ := k30 rec7 (f_Tables_spendTogether_18 rec7 m) a b ha hb t2 FU w (by unfold FU; omega) q2
      refine ⟨w1, ?_⟩
      show f_Tables_spendTogether_18b rec7 (f_Tables_spendTogether_18 rec7 m) 48 (nI l) (nI a) (nI b) (bh v w) = _
      unfold f_Tables_spendTogether_18b
      rw [if_neg (nI_pos (by omega))]
      simp only [hB0, bd1_q]
      rw [rd3.2.2, bd1_s, e2]
      exact g1
    have z : ∀ (m : Nat) (w : Nat → Nat → Int64), f_Tables_spendTogether_18 rec7 (m + 1) 48 (nI l) (nI a) (-1) (bh v w) = rec7 48 (nI l) (nI a + -1) (bh v w) := by
      intro m w
      show f_Tables_spendTogether_18b rec7 (f_Tables_spendTogether_18 rec7 m) 48 (nI l) (nI a) (-1) (bh v w) = _
      unfold f_Tables_spendTogether_18b
      rw [if_pos (by decide)]
    induction b with
    | zero =>
      intro fuel w hf hc
      obtain ⟨m, rfl⟩ : ∃ m, fuel = m + 1 + 1 := ⟨fuel - 2, by omega⟩
      obtain ⟨w1, g1⟩ := st (m + 1) 0 w hc
      rw [m1_0, z] at g1
      exact ⟨w1, g1⟩
    | succ c ih =>
      intro fuel w hf hc
      obtain ⟨m, rfl⟩ : ∃ m, fuel = m + 1 := ⟨fuel - 1, by omega⟩
      obtain ⟨w1, g1⟩ := st m (c + 1) w hc
      rw [m1_I c (by omega)] at g1
      obtain ⟨w2, g2⟩ := ih m w1 (by omega) (by omega)
      exact ⟨w2, g1.trans g2⟩
  have k7 : ∀ (a fuel : Nat) (w : Nat → Nat → Int64), a + 1 < fuel → a ≤ 5 → ∃ w', f_Tables_spendTogether_7 fuel 48 (nI l) (nI a) (bh v w) = some (bh v w') := by
    intro a
    have st : ∀ (m a : Nat) (w : Nat → Nat → Int64), a ≤ 5 → ∃ w', f_Tables_spendTogether_7 (m + 1) 48 (nI l) (nI a) (bh v w) = f_Tables_spendTogether_7 m 48 (nI l) (nI a + -1) (bh v w') := by
      intro m a w ha
      obtain ⟨w1, g1⟩ := k18 (f_Tables_spendTogether_7 m) a ha t1 FU w (by unfold FU; omega) q1
      refine ⟨w1, ?_⟩
      show f_Tables_spendTogether_7b (f_Tables_spendTogether_7 m) 48 (nI l) (nI a) (bh v w) = _
      unfold f_Tables_spendTogether_7b
      rw [if_neg (nI_pos (by omega))]
      simp only [hB0, bd1_q]
      rw [rd3.2.1, bd1_s, e1]
      exact g1
    have z : ∀ (m : Nat) (w : Nat → Nat → Int64), f_Tables_spendTogether_7 (m + 1) 48 (nI l) (-1) (bh v w) = some (bh v w) := by
      intro m w
      show f_Tables_spendTogether_7b (f_Tables_spendTogether_7 m) 48 (nI l) (-1) (bh v w) = _
      unfold f_Tables_spendTogether_7b
      rw [if_pos (by decide)]
    induction a with
    | zero =>
      intro fuel w hf hc
      obtain ⟨m, rfl⟩ : ∃ m, fuel = m + 1 + 1 := ⟨fuel - 2, by omega⟩
      obtain ⟨w1, g1⟩ := st (m + 1) 0 w hc
      rw [m1_0, z] at g1
      exact ⟨w1, g1⟩
    | succ c ih =>
      intro fuel w hf hc
      obtain ⟨m, rfl⟩ : ∃ m, fuel = m + 1 := ⟨fuel - 1, by omega⟩
      obtain ⟨w1, g1⟩ := st m (c + 1) w hc
      rw [m1_I c (by omega)] at g1
      obtain ⟨w2, g2⟩ := ih m w1 (by omega) (by omega)
      exact ⟨w2, g1.trans g2⟩
  unfold f_Tables_spendTogether f_Tables_spendTogether_0
  simp only [hB0, bd1_q]
  rw [rd3.1, bd1_s, e0]
  exact k7 t0 FU w (by unfold FU; omega) q0
end
