/-! the class's tables, exactly: together, and how many fit -/
def cK (lo hi : Nat → Nat → Nat) (dL : Nat → Nat) (l x y z : Nat) : Bool := kB lo hi 0 l x && kB lo hi 1 l y && kB lo hi 2 l z && (decide (dL l = 0) || decide (dL l = x + y + z + 1))
theorem cK_iff (lo hi : Nat → Nat → Nat) (dL : Nat → Nat) (l x y z : Nat) : cK lo hi dL l x y z = true ↔ ((lo 0 l ≤ x ∧ x ≤ hi 0 l) ∧ (lo 1 l ≤ y ∧ y ≤ hi 1 l) ∧ (lo 2 l ≤ z ∧ z ≤ hi 2 l)) ∧ (dL l = 0 ∨ dL l = x + y + z + 1) := by
  unfold cK kB
  rw [Bool.and_eq_true, Bool.and_eq_true, Bool.and_eq_true, Bool.or_eq_true, decide_eq_true_iff, decide_eq_true_iff, decide_eq_true_iff, decide_eq_true_iff, decide_eq_true_iff]
  exact ⟨fun ⟨⟨⟨a, b⟩, c⟩, d⟩ => ⟨⟨a, b, c⟩, d⟩, fun ⟨⟨a, b, c⟩, d⟩ => ⟨⟨⟨a, b⟩, c⟩, d⟩⟩
/-- the third is what is left of d - 1 -/
def pW (W : Nat → Nat → Nat → Nat) (lo2 m2 d a b c x y : Nat) : Nat := if x + y + 1 + lo2 ≤ d ∧ d ≤ x + y + 1 + m2 then W (a - x) (b - y) (c - (d - (x + y + 1))) else 0
def qW (W : Nat → Nat → Nat → Nat) (lo1 m1 lo2 m2 d a b c x y : Nat) : Nat := if lo1 ≤ y ∧ y ≤ m1 then pW W lo2 m2 d a b c x y else 0
def rW (W : Nat → Nat → Nat → Nat) (lo0 m0 lo1 m1 lo2 m2 d a b c x : Nat) : Nat := if lo0 ≤ x ∧ x ≤ m0 then sumN (qW W lo1 m1 lo2 m2 d a b c x) 4 else 0
theorem rW_cv {lo hi : Nat → Nat → Nat} {dL : Nat → Nat} {l a b c m0 m1 m2 : Nat} (W : Nat → Nat → Nat → Nat) (hd : dL l ≠ 0) (h0 : m0 ≤ 3) (h1 : m1 ≤ 3) (h2 : m2 ≤ 3) (g0 : ∀ x, x ≤ m0 ↔ x ≤ a ∧ x ≤ hi 0 l) (g1 : ∀ x, x ≤ m1 ↔ x ≤ b ∧ x ≤ hi 1 l) (g2 : ∀ x, x ≤ m2 ↔ x ≤ c ∧ x ≤ hi 2 l) : sumN (rW W (lo 0 l) m0 (lo 1 l) m1 (lo 2 l) m2 (dL l) a b c) 4 = cvo (cK lo hi dL l) W a b c := by
  unfold cvo S3
  refine sumN_congr (fun x _ => ?_)
  unfold rW
  have gx := g0 x
  by_cases c0 : lo 0 l ≤ x ∧ x ≤ m0
  · rw [if_pos c0]
    refine sumN_congr (fun y _ => ?_)
    unfold qW
    have gy := g1 y
    by_cases c1 : lo 1 l ≤ y ∧ y ≤ m1
    · rw [if_pos c1]
      unfold pW
      by_cases c2 : x + y + 1 + lo 2 l ≤ dL l ∧ dL l ≤ x + y + 1 + m2
      · rw [if_pos c2]
        have gz := g2 (dL l - (x + y + 1))
        refine ((sumN_pick (k := dL l - (x + y + 1)) (by omega) (fun z _ hz => ?_)).trans ?_).symm
        · refine if_neg (fun q => ?_)
          have := (cK_iff lo hi dL l x y z).mp q.1
          omega
        · exact if_pos ⟨(cK_iff lo hi dL l x y _).mpr ⟨⟨by omega, by omega, by omega⟩, Or.inr (by omega)⟩, by omega, by omega, by omega⟩
      · rw [if_neg c2]
        refine (sumN_none (fun z _ => if_neg (fun q => ?_))).symm
        have := (cK_iff lo hi dL l x y z).mp q.1
        have gz := g2 z
        omega
    · rw [if_neg c1]
      refine (sumN_none (fun z _ => if_neg (fun q => ?_))).symm
      have := (cK_iff lo hi dL l x y z).mp q.1
      omega
  · rw [if_neg c0]
    refine (sumN_none (fun y _ => sumN_none (fun z _ => if_neg (fun q => ?_)))).symm
    have := (cK_iff lo hi dL l x y z).mp q.1
    omega
def x_in (lo2 m2 d n j : Nat) : Prop := n + j + 1 + lo2 ≤ d ∧ d ≤ n + j + 1 + m2
section
variable {L : Nat} {lo hi : Nat → Nat → Nat} {dL dP tm : Nat → Nat} {v : Nat → Nat → Int32} {w : Nat → Nat → Int64} {g : Nat → Nat → Nat} {W : Nat → Nat → Nat → Nat}
theorem dI_toInt {d : Nat} (h0 : d ≠ 0) (h : d ≤ 100) : dI d = nI (d - 1) := by
  unfold dI
  rw [if_neg h0]
theorem T_waysToX (h : tX L lo hi dL dP tm v) {a b c l : Nat} (ha : a ≤ 5) (hb : b ≤ 5) (hc : c ≤ 5) (hl : l < L) (hd : dL l ≠ 0) (hO : ∀ x y z, x ≤ a → y ≤ b → z ≤ c → w 55 ((x * 6 + y) * 6 + z) = nL (W x y z)) : f_Tables_waysTo 48 (nI a) (nI b) (nI c) (nI l) (bh v w) = some (nL (cvo (cK lo hi dL l) W a b c), bh v w) := by
  obtain ⟨h5, h0, hlo, hhi, hdL, -, -⟩ := h
  obtain ⟨c0, b0⟩ := hlo 0 l (by decide) hl
  obtain ⟨c1, b1⟩ := hlo 1 l (by decide) hl
  obtain ⟨c2, b2⟩ := hlo 2 l (by decide) hl
  obtain ⟨i0, g0⟩ := hhi 0 l (by decide) hl
  obtain ⟨i1, g1⟩ := hhi 1 l (by decide) hl
  obtain ⟨i2, g2⟩ := hhi 2 l (by decide) hl
  rw [show 5 * 0 + l = l by omega] at c0 i0
  rw [show 5 * 1 + l = 5 + l by omega] at c1 i1
  rw [show 5 * 2 + l = 10 + l by omega] at c2 i2
  obtain ⟨ed, d100⟩ := hdL l hl
  rw [dI_toInt hd d100] at ed
  have m0 : ∀ x, x ≤ (if a < hi 0 l then a else hi 0 l) ↔ x ≤ a ∧ x ≤ hi 0 l := fun x => by split <;> omega
  have m1 : ∀ x, x ≤ (if b < hi 1 l then b else hi 1 l) ↔ x ≤ b ∧ x ≤ hi 1 l := fun x => by split <;> omega
  have m2 : ∀ x, x ≤ (if c < hi 2 l then c else hi 2 l) ↔ x ≤ c ∧ x ≤ hi 2 l := fun x => by split <;> omega
  generalize hM0 : (if a < hi 0 l then a else hi 0 l) = M0 at m0
  generalize hM1 : (if b < hi 1 l then b else hi 1 l) = M1 at m1
  generalize hM2 : (if c < hi 2 l then c else hi 2 l) = M2 at m2
  have n0 := (m0 M0).mp (Nat.le_refl _)
  have n1 := (m1 M1).mp (Nat.le_refl _)
  have n2 := (m2 M2).mp (Nat.le_refl _)
  rw [← rW_cv (lo := lo) (hi := hi) (dL := dL) W hd (show M0 ≤ 3 by omega) (show M1 ≤ 3 by omega) (show M2 ≤ 3 by omega) m0 m1 m2]
  have k74 : ∀ (rec56 : Nat → Int32 → Int32 → Int32 → Int32 → Int32 → Int32 → Int32 → Int64 → Int32 → mH → Option (Int64 × mH)) (S n : Nat), n ≤ M0 → ∀ (k fuel j : Nat), k < fuel → 4 ≤ j + k → j ≤ 4 → lo 1 l ≤ j → f_Tables_waysTo_74 rec56 fuel 48 (nI a) (nI b) (nI c) (nI l) (nI M0) (nI M1) (nI M2) (nL (S + sumN (qW W (lo 1 l) M1 (lo 2 l) M2 (dL l) a b c n) j)) (nI n) (nI j) (bh v w) = rec56 48 (nI a) (nI b) (nI c) (nI l) (nI M0) (nI M1) (nI M2) (nL (S + sumN (qW W (lo 1 l) M1 (lo 2 l) M2 (dL l) a b c n) 4)) (nI (n + 1)) (bh v w) := by
    intro rec56 S n hn k
    have fin : ∀ j, j ≤ 4 → M1 < j → sumN (qW W (lo 1 l) M1 (lo 2 l) M2 (dL l) a b c n) j = sumN (qW W (lo 1 l) M1 (lo 2 l) M2 (dL l) a b c n) 4 := fun j h4 hj => (sumN_cut (n := j) h4 (fun i h1 _ => if_neg (fun q => by omega))).symm
    induction k with
    | zero =>
      intro fuel j hf hj hj2 hj3
      obtain ⟨m, rfl⟩ : ∃ m, fuel = m + 1 := ⟨fuel - 1, by omega⟩
      show f_Tables_waysTo_74b rec56 (f_Tables_waysTo_74 rec56 m) 48 (nI a) (nI b) (nI c) (nI l) (nI M0) (nI M1) (nI M2) _ (nI n) (nI j) (bh v w) = _
      unfold f_Tables_waysTo_74b
      rw [if_pos (nI_lt (by omega) (by omega)), nI_1, fin j hj2 (by omega)]
    | succ k ih =>
      intro fuel j hf hj hj2 hj3
      obtain ⟨m, rfl⟩ : ∃ m, fuel = m + 1 := ⟨fuel - 1, by omega⟩
      show f_Tables_waysTo_74b rec56 (f_Tables_waysTo_74 rec56 m) 48 (nI a) (nI b) (nI c) (nI l) (nI M0) (nI M1) (nI M2) _ (nI n) (nI j) (bh v w) = _
      unfold f_Tables_waysTo_74b f_Tables_waysTo_141
      by_cases z : M1 < j
      · rw [if_pos (nI_lt z (by omega)), nI_1, fin j hj2 z]
      · have nx := ih m (j + 1) (by omega) (by omega) (by omega) (by omega)
        have es : sumN (qW W (lo 1 l) M1 (lo 2 l) M2 (dL l) a b c n) (j + 1) = sumN (qW W (lo 1 l) M1 (lo 2 l) M2 (dL l) a b c n) j + pW W (lo 2 l) M2 (dL l) a b c n j := by
          show sumN (qW W (lo 1 l) M1 (lo 2 l) M2 (dL l) a b c n) j + qW W (lo 1 l) M1 (lo 2 l) M2 (dL l) a b c n j = _
          unfold qW
          rw [if_pos ⟨hj3, by omega⟩]
        rw [es] at nx
        rw [if_neg (nI_nlt (by omega) (by omega))]
        simp only [hB0, bd1_q]
        rw [rd_nI (by omega) (by decide), bd1_s, show (10 : Int32) = nI 10 from rfl, nI_add, rd_nI (by omega) (by decide), bd1_s, c2, ed, Q_isWithin, bd2_s, nI_1]
        have yI : (nI (dL l - 1) - nI n - nI j).toInt = (dL l : Int) - 1 - n - j := by
          have : nI (dL l - 1) - nI n - nI j = zI ((dL l : Int) - 1 - n - j) := by
            rw [← zI_n (dL l - 1), zI_subn, zI_subn]
            congr 1
            omega
          rw [this]
          exact zI_t (by omega) (by omega)
        by_cases q : x_in (lo 2 l) M2 (dL l) n j
        · have q' := q
          unfold x_in at q'
          rw [if_pos (show (nI (lo 2 l)).toInt ≤ (nI (dL l - 1) - nI n - nI j).toInt ∧ (nI (dL l - 1) - nI n - nI j).toInt ≤ (nI M2).toInt by rw [yI, nI_toInt (by omega), nI_toInt (by omega)]; omega), if_neg (by decide)]
          have ey : nI (dL l - 1) - nI n - nI j = nI (dL l - (n + j + 1)) := by
            rw [pk_sub (by omega), pk_sub (by omega)]
            congr 1
            omega
          have r := hO (a - n) (b - j) (c - (dL l - (n + j + 1))) (by omega) (by omega) (by omega)
          simp only [hB0, bd1_q]
          rw [ey, pk_sub (by omega), pk_sub (by omega), pk_sub (by omega), st_I, bd2_s]
          simp only [hB0, bd1_q]
          rw [rd_nI (by omega) (by decide), bd1_s, r, nL_add]
          have ep : pW W (lo 2 l) M2 (dL l) a b c n j = W (a - n) (b - j) (c - (dL l - (n + j + 1))) := if_pos q'
          rw [ep, ← Nat.add_assoc] at nx
          exact nx
        · have q' := q
          unfold x_in at q'
          rw [if_neg (show ¬ ((nI (lo 2 l)).toInt ≤ (nI (dL l - 1) - nI n - nI j).toInt ∧ (nI (dL l - 1) - nI n - nI j).toInt ≤ (nI M2).toInt) by rw [yI, nI_toInt (by omega), nI_toInt (by omega)]; omega), if_pos rfl]
          have ep : pW W (lo 2 l) M2 (dL l) a b c n j = 0 := if_neg q'
          rw [ep, Nat.add_zero] at nx
          exact nx
  have k56 : ∀ (k fuel n : Nat), k < fuel → 4 ≤ n + k → n ≤ 4 → lo 0 l ≤ n → f_Tables_waysTo_56 fuel 48 (nI a) (nI b) (nI c) (nI l) (nI M0) (nI M1) (nI M2) (nL (sumN (rW W (lo 0 l) M0 (lo 1 l) M1 (lo 2 l) M2 (dL l) a b c) n)) (nI n) (bh v w) = some (nL (sumN (rW W (lo 0 l) M0 (lo 1 l) M1 (lo 2 l) M2 (dL l) a b c) 4), bh v w) := by
    intro k
    have fin : ∀ j, j ≤ 4 → M0 < j → sumN (rW W (lo 0 l) M0 (lo 1 l) M1 (lo 2 l) M2 (dL l) a b c) j = sumN (rW W (lo 0 l) M0 (lo 1 l) M1 (lo 2 l) M2 (dL l) a b c) 4 := fun j h4 hj => (sumN_cut (n := j) h4 (fun i h1 _ => if_neg (fun q => by omega))).symm
    induction k with
    | zero =>
      intro fuel n hf hn hn2 hn3
      obtain ⟨m, rfl⟩ : ∃ m, fuel = m + 1 := ⟨fuel - 1, by omega⟩
      show f_Tables_waysTo_56b (f_Tables_waysTo_56 m) 48 (nI a) (nI b) (nI c) (nI l) (nI M0) (nI M1) (nI M2) _ (nI n) (bh v w) = _
      unfold f_Tables_waysTo_56b
      rw [if_pos (nI_lt (by omega) (by omega)), fin n hn2 (by omega)]
    | succ k ih =>
      intro fuel n hf hn hn2 hn3
      obtain ⟨m, rfl⟩ : ∃ m, fuel = m + 1 := ⟨fuel - 1, by omega⟩
      show f_Tables_waysTo_56b (f_Tables_waysTo_56 m) 48 (nI a) (nI b) (nI c) (nI l) (nI M0) (nI M1) (nI M2) _ (nI n) (bh v w) = _
      unfold f_Tables_waysTo_56b
      by_cases z : M0 < n
      · rw [if_pos (nI_lt z (by omega)), fin n hn2 z]
      · have nx := ih m (n + 1) (by omega) (by omega) (by omega) (by omega)
        have es : sumN (rW W (lo 0 l) M0 (lo 1 l) M1 (lo 2 l) M2 (dL l) a b c) (n + 1) = sumN (rW W (lo 0 l) M0 (lo 1 l) M1 (lo 2 l) M2 (dL l) a b c) n + sumN (qW W (lo 1 l) M1 (lo 2 l) M2 (dL l) a b c n) 4 := by
          show sumN (rW W (lo 0 l) M0 (lo 1 l) M1 (lo 2 l) M2 (dL l) a b c) n + rW W (lo 0 l) M0 (lo 1 l) M1 (lo 2 l) M2 (dL l) a b c n = _
          unfold rW
          rw [if_pos ⟨hn3, by omega⟩]
        rw [es] at nx
        have sz : sumN (qW W (lo 1 l) M1 (lo 2 l) M2 (dL l) a b c n) (lo 1 l) = 0 := sumN_none (fun i hi => if_neg (fun q => by omega))
        have e := k74 (f_Tables_waysTo_56 m) (sumN (rW W (lo 0 l) M0 (lo 1 l) M1 (lo 2 l) M2 (dL l) a b c) n) n (by omega) 4 FU (lo 1 l) (by decide) (by omega) (by omega) (Nat.le_refl _)
        rw [sz, Nat.add_zero] at e
        rw [if_neg (nI_nlt (by omega) (by omega))]
        simp only [hB0, bd1_q]
        rw [show (5 : Int32) = nI 5 from rfl, nI_add, rd_nI (by omega) (by decide), bd1_s, c1]
        exact e.trans nx
  have sz : sumN (rW W (lo 0 l) M0 (lo 1 l) M1 (lo 2 l) M2 (dL l) a b c) (lo 0 l) = 0 := sumN_none (fun i hi => if_neg (fun q => by omega))
  have e := k56 4 FU (lo 0 l) (by decide) (by omega) (by omega) (Nat.le_refl _)
  rw [sz] at e
  unfold f_Tables_waysTo f_Tables_waysTo_0
  simp only [hB0, bd1_q]
  rw [show (5 : Int32) = nI 5 from rfl, show (10 : Int32) = nI 10 from rfl, nI_add, nI_add, rd_nI (by omega) (by decide), bd1_s, rd_nI (by omega) (by decide), bd1_s, rd_nI (by omega) (by decide), bd1_s, rd_nI (by omega) (by decide), bd1_s, i0, i1, i2, c0, ite_I (by omega) (by omega), ite_I (by omega) (by omega), ite_I (by omega) (by omega), hM0, hM1, hM2]
  exact e
end
