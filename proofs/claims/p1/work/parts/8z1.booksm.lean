/-! books, entry: the reference comes to an end -/
theorem hJ0 (v : Nat → Nat → Int32) (w : Nat → Nat → Int64) : kC (bh v w) 100 8 = some () ∧ gI (bh v w) 100 8 2 = some (v 100 2) ∧ gI (bh v w) 100 8 3 = some (v 100 3) ∧ gR (bh v w) 100 8 0 = some 101 ∧ gR (bh v w) 100 8 4 = some 103 ∧ gR (bh v w) 100 8 33 = some 121 ∧ gR (bh v w) 100 8 34 = some 122 ∧ (∀ i, aI (bh v w) 0 101 i = rd (v 101) 198 i) ∧ (∀ i, aI (bh v w) 0 103 i = rd (v 103) 5 i) ∧ (∀ i, aL (bh v w) 121 i = rd (w 121) 216 i) ∧ (∀ i x, sL (bh v w) 121 i x = wrL v w 121 216 i x) ∧ (∀ i, aL (bh v w) 122 i = rd (w 122) 216 i) ∧ (∀ i x, sL (bh v w) 122 i x = wrL v w 122 216 i x) := ⟨rfl, rfl, rfl, rfl, rfl, rfl, rfl, aI_bh rfl, aI_bh rfl, aL_bh rfl, sL_bh rfl, aL_bh rfl, sL_bh rfl⟩
def mo (ρ : Rho) (p l : Nat) : Nat := if p < ρ 0 1 ∧ bit (ρ 10 p) l = 0 then ρ 2 l else 0
theorem div_I : ∀ k, k < 216 → nI k / (36 : Int32) = nI (k / 36) ∧ (nI k / (6 : Int32)) - (nI k / (6 : Int32)) / (6 : Int32) * (6 : Int32) = nI (k / 6 % 6) ∧ nI k - nI k / (6 : Int32) * (6 : Int32) = nI (k % 6) := by decide +kernel
section
variable {ρ : Rho} {v : Nat → Nat → Int32} {w : Nat → Nat → Int64}
theorem mo_le (hk : ROK ρ) {p l : Nat} (hl : l < ρ 0 0) : mo ρ p l ≤ 3 := by
  unfold mo
  have := (hk.2.1 l hl).2.2.1
  split <;> omega
theorem M_mostOf (hr : MR ρ v) (hk : ROK ρ) {p l : Nat} (hp : p < 3) (hl : l < ρ 0 0) : f_M_mostOf 100 (nI p) (nI l) (bh v w) = some (nI (mo ρ p l), bh v w) := by
  have h0 := hk.1.1
  have h1 := hk.1.2.1
  unfold f_M_mostOf f_M_mostOf_0 f_M_mostOf_33 mo
  simp only [hJ0, bd1_q]
  rw [hr.1.2.1, ite_iff (nI_leI (by omega) (by omega))]
  by_cases c : p < ρ 0 1
  · have h10 : ρ 10 p < 32 := pw_le h0 (hk.2.2.1 p c).2.2.2.2.1
    have e1 := hr.2.2.2.2.2.2.2.1 p c
    rw [show 0 + 18 + p = 18 + p by omega] at e1
    rw [if_neg (by omega), show (18 : Int32) = nI 18 from rfl, nI_add, rd_nI (by omega) (by decide), bd1_s, e1, bit_I (by omega) (by omega), ite_iff (nI_eq0 (by have := bit_lt (ρ 10 p) l; omega))]
    by_cases d : bit (ρ 10 p) l = 0
    · rw [if_pos d, rd_nI (by omega) (by decide), bd1_s, (hr.1.2.2.1 l hl).1, if_pos ⟨c, d⟩]
    · rw [if_neg d, if_neg (fun z => d z.2)]; rfl
  · rw [if_pos (by omega), if_neg (fun z => c z.1)]; rfl
theorem M_isSo (hr : MR ρ v) (hk : ROK ρ) (a b c : Int32) : ∃ r, f_M_isSo 100 a b c (bh v w) = some (r, bh v w) := by
  have h6 := hk.1.2.2.2.2.2.2
  have e41 : v 101 41 = nI (ρ 0 6) := hr.2.2.2.2.2.2.2.2.2.2.2.2.1
  have key : ∀ (n fuel k : Nat) (s : Int32), n < fuel → k + n = ρ 0 6 → s = 0 ∨ s = 1 → ∃ r, f_M_isSo_6 fuel 100 a b c s (nI k) (bh v w) = some (r, bh v w) := by
    intro n
    induction n with
    | zero =>
      intro fuel k s hf hk2 hs
      obtain ⟨m, rfl⟩ : ∃ m, fuel = m + 1 := ⟨fuel - 1, by omega⟩
      show ∃ r, f_M_isSo_6b (f_M_isSo_6 m) 100 a b c s (nI k) (bh v w) = some (r, bh v w)
      unfold f_M_isSo_6b
      simp only [hJ0, bd1_q]
      rw [show (41 : Int32) = nI 41 from rfl, rd_nI (by decide) (by decide), bd1_s, e41, if_pos ((nI_leI (by omega) (by omega)).mpr (by omega)), if_pos hs]
      exact ⟨s, rfl⟩
    | succ n ih =>
      intro fuel k s hf hk2 hs
      obtain ⟨m, rfl⟩ : ∃ m, fuel = m + 1 := ⟨fuel - 1, by omega⟩
      have n0 := ih m (k + 1) 0 (by omega) (by omega) (Or.inl rfl)
      have n1 := ih m (k + 1) 1 (by omega) (by omega) (Or.inr rfl)
      show ∃ r, f_M_isSo_6b (f_M_isSo_6 m) 100 a b c s (nI k) (bh v w) = some (r, bh v w)
      unfold f_M_isSo_6b f_M_isSo_73 f_M_isSo_69 f_M_isSo_74
      simp only [hJ0, bd1_q]
      rw [show (41 : Int32) = nI 41 from rfl, rd_nI (by decide) (by decide), bd1_s, e41, if_neg (fun z => by have := (nI_leI (by omega) (by omega)).mp z; omega), nI_1, show (42 : Int32) = nI 42 from rfl, show (3 : Int32) = nI 3 from rfl, pk_mul, nI_add, rd_nI (by omega) (by decide), bd1_s, nI_1, rd_nI (by omega) (by decide), bd1_s, show nI (42 + 3 * k) + (2 : Int32) = nI (42 + 3 * k + 2) from nI_add _ 2, rd_nI (by omega) (by decide), bd1_s]
      split
      · exact n0
      · split
        · split
          · split
            · exact n1
            · exact n0
          · exact n1
        · exact n1
  unfold f_M_isSo f_M_isSo_0
  exact key (ρ 0 6) FU 0 1 (by unfold FU; omega) (by omega) (Or.inr rfl)
theorem M_isAsked (a b c d e f : Int32) : ∃ r, ∀ h : mH, f_M_isAsked 100 a b c d e f h = some (r, h) := by
  unfold f_M_isAsked f_M_isAsked_0 f_M_isAsked_18
  by_cases c1 : a = d
  · by_cases c2 : b = e
    · by_cases c3 : c = f
      · exact ⟨1, fun h => by rw [if_pos c1, if_pos c2, if_pos c3]⟩
      · exact ⟨0, fun h => by rw [if_pos c1, if_pos c2, if_neg c3]⟩
    · exact ⟨1, fun h => by rw [if_pos c1, if_neg c2]⟩
  · exact ⟨1, fun h => by rw [if_neg c1]⟩
theorem M_addsTables {x y z : Nat} (hx : x ≤ 3) (hy : y ≤ 3) (hz : z ≤ 3) (w : Nat → Nat → Int64) : ∃ w', f_M_addsTables 100 (nI x) (nI y) (nI z) (bh v w) = some (bh v w') := by
  have key : ∀ (n fuel k : Nat) (w : Nat → Nat → Int64), n < fuel → k + n = 216 → ∃ w', f_M_addsTables_3 fuel 100 (nI x) (nI y) (nI z) (nI k) (bh v w) = some (bh v w') := by
    intro n
    induction n with
    | zero =>
      intro fuel k w hf hk
      obtain ⟨m, rfl⟩ : ∃ m, fuel = m + 1 := ⟨fuel - 1, by omega⟩
      show ∃ w', f_M_addsTables_3b (f_M_addsTables_3 m) 100 (nI x) (nI y) (nI z) (nI k) (bh v w) = some (bh v w')
      unfold f_M_addsTables_3b
      rw [show (216 : Int32) = nI 216 from rfl, if_pos ((nI_leI (by omega) (by omega)).mpr (by omega))]
      exact ⟨w, rfl⟩
    | succ n ih =>
      intro fuel k w hf hk
      obtain ⟨m, rfl⟩ : ∃ m, fuel = m + 1 := ⟨fuel - 1, by omega⟩
      obtain ⟨d1, d2, d3⟩ := div_I k (by omega)
      have nx := fun w => ih m (k + 1) w (by omega) (by omega)
      have b1 : k / 36 < 6 := by omega
      have b2 : k / 6 % 6 < 6 := by omega
      have b3 : k % 6 < 6 := by omega
      show ∃ w', f_M_addsTables_3b (f_M_addsTables_3 m) 100 (nI x) (nI y) (nI z) (nI k) (bh v w) = some (bh v w')
      unfold f_M_addsTables_3b f_M_addsTables_91
      rw [show (216 : Int32) = nI 216 from rfl, if_neg (fun q => by have := (nI_leI (by omega) (by omega)).mp q; omega), d1, d2, d3, nI_add, nI_add, nI_add, nI_1]
      generalize k / 36 = a at b1
      generalize k / 6 % 6 = b at b2
      generalize k % 6 = c at b3
      have q6 : ∀ t : Nat, t < 100 → ((6 : Int32) ≤ nI t ↔ 6 ≤ t) := fun t ht => nI_leI (a := 6) (by decide) (by omega)
      rw [ite_iff (q6 (a + x) (by omega)), ite_iff (q6 (b + y) (by omega)), ite_iff (q6 (c + z) (by omega))]
      by_cases c1 : 6 ≤ a + x
      · rw [if_pos c1]; exact nx w
      · rw [if_neg c1]
        by_cases c2 : 6 ≤ b + y
        · rw [if_pos c2]; exact nx w
        · rw [if_neg c2]
          by_cases c3 : 6 ≤ c + z
          · rw [if_pos c3]; exact nx w
          · rw [if_neg c3]
            simp only [hJ0, bd1_q]
            rw [show (36 : Int32) = nI 36 from rfl, show (6 : Int32) = nI 6 from rfl, pk_mul, pk_mul, nI_add, nI_add, rd_nI (by omega) (by decide), bd1_s, rd_nI (by omega) (by decide), bd1_s, wrL_nI (by omega) (by decide), bd1_s]
            exact nx _
  unfold f_M_addsTables f_M_addsTables_0
  rw [show (0 : Int32) = nI 0 from rfl]
  exact key 216 FU 0 w (by decide) (by decide)
theorem M_al172 : ∀ (n fuel k : Nat) (w : Nat → Nat → Int64), n < fuel → k + n = 216 → ∃ w', f_M_addsLaw_172 fuel 100 (nI k) (bh v w) = some (bh v w') := by
  intro n
  induction n with
  | zero =>
    intro fuel k w hf hk
    obtain ⟨m, rfl⟩ : ∃ m, fuel = m + 1 := ⟨fuel - 1, by omega⟩
    show ∃ w', f_M_addsLaw_172b (f_M_addsLaw_172 m) 100 (nI k) (bh v w) = some (bh v w')
    unfold f_M_addsLaw_172b
    rw [show (216 : Int32) = nI 216 from rfl, if_pos ((nI_leI (by omega) (by omega)).mpr (by omega))]
    exact ⟨w, rfl⟩
  | succ n ih =>
    intro fuel k w hf hk
    obtain ⟨m, rfl⟩ : ∃ m, fuel = m + 1 := ⟨fuel - 1, by omega⟩
    show ∃ w', f_M_addsLaw_172b (f_M_addsLaw_172 m) 100 (nI k) (bh v w) = some (bh v w')
    unfold f_M_addsLaw_172b
    rw [show (216 : Int32) = nI 216 from rfl, if_neg (fun q => by have := (nI_leI (by omega) (by omega)).mp q; omega)]
    simp only [hJ0, bd1_q]
    rw [rd_nI (by omega) (by decide), bd1_s, wrL_nI (by omega) (by decide), bd1_s, nI_1]
    exact ih m (k + 1) _ (by omega) (by omega)
theorem M_al56 (hr : MR ρ v) (hk : ROK ρ) {l : Nat} (hl : l < ρ 0 0) (b2 b3 b4 : Int32) (rec28 : Nat → Int32 → Int32 → Int32 → Int32 → Int32 → mH → Option mH) (rec42 : Nat → Int32 → Int32 → Int32 → Int32 → Int32 → Int32 → mH → Option mH) {x y : Nat} (hx : x ≤ 3) (hy : y ≤ 3) : ∀ (n fuel z : Nat) (w : Nat → Nat → Int64), n < fuel → z + n = mo ρ 2 l + 1 → ∃ w', f_M_addsLaw_56 rec28 rec42 fuel 100 (nI l) b2 b3 b4 (nI x) (nI y) (nI z) (bh v w) = rec42 100 (nI l) b2 b3 b4 (nI x) (nI (y + 1)) (bh v w') := by
  have hm := mo_le hk (p := 2) hl
  have q2 : ∀ w, f_M_mostOf 100 (2 : Int32) (nI l) (bh v w) = some (nI (mo ρ 2 l), bh v w) := fun w => M_mostOf (w := w) (p := 2) hr hk (by decide) hl
  intro n
  induction n with
  | zero =>
    intro fuel z w hf hz
    obtain ⟨m, rfl⟩ : ∃ m, fuel = m + 1 := ⟨fuel - 1, by omega⟩
    refine ⟨w, ?_⟩
    show f_M_addsLaw_56b rec28 rec42 (f_M_addsLaw_56 rec28 rec42 m) 100 (nI l) b2 b3 b4 (nI x) (nI y) (nI z) (bh v w) = _
    unfold f_M_addsLaw_56b
    simp only [hJ0, bd1_q]
    rw [q2, bd2_s, if_pos ((nI_ltI (by omega) (by omega)).mpr (by omega)), nI_1]
  | succ n ih =>
    intro fuel z w hf hz
    obtain ⟨m, rfl⟩ : ∃ m, fuel = m + 1 := ⟨fuel - 1, by omega⟩
    obtain ⟨r1, s1⟩ := M_isSo (w := w) hr hk 1 (nI l) ((nI x + nI y) + nI z)
    obtain ⟨r2, s2⟩ := M_isAsked 0 (nI l) (nI x) b2 b3 b4
    obtain ⟨r3, s3⟩ := M_isAsked 1 (nI l) (nI y) b2 b3 b4
    obtain ⟨r4, s4⟩ := M_isAsked 2 (nI l) (nI z) b2 b3 b4
    obtain ⟨w2, e2⟩ := M_addsTables (v := v) hx hy (show z ≤ 3 by omega) w
    have n1 := ih m (z + 1) w (by omega) (by omega)
    have n2 := ih m (z + 1) w2 (by omega) (by omega)
    show ∃ w', f_M_addsLaw_56b rec28 rec42 (f_M_addsLaw_56 rec28 rec42 m) 100 (nI l) b2 b3 b4 (nI x) (nI y) (nI z) (bh v w) = _
    unfold f_M_addsLaw_56b f_M_addsLaw_133 f_M_addsLaw_134 f_M_addsLaw_151
    simp only [hJ0, bd1_q]
    rw [q2, bd2_s, if_neg (fun q => by have := (nI_ltI (by omega) (by omega)).mp q; omega), nI_1]
    simp only [hJ0, bd1_q]
    rw [s1, bd2_s]
    split
    · rw [if_pos trivial]; exact n1
    · simp only [hJ0, bd1_q]
      rw [s2, bd2_s]
      split
      · rw [if_pos trivial]; exact n1
      · simp only [hJ0, bd1_q]
        rw [s3, bd2_s]
        split
        · rw [if_pos trivial]; exact n1
        · simp only [hJ0, bd1_q]
          rw [s4, bd2_s]
          split
          · rw [if_pos trivial]; exact n1
          · rw [if_neg (by decide)]
            simp only [hJ0, bd1_q]
            rw [e2, bd1_s]
            exact n2
theorem M_al42 (hr : MR ρ v) (hk : ROK ρ) {l : Nat} (hl : l < ρ 0 0) (b2 b3 b4 : Int32) (rec28 : Nat → Int32 → Int32 → Int32 → Int32 → Int32 → mH → Option mH) {x : Nat} (hx : x ≤ 3) : ∀ (n fuel y : Nat) (w : Nat → Nat → Int64), n < fuel → y + n = mo ρ 1 l + 1 → ∃ w', f_M_addsLaw_42 rec28 fuel 100 (nI l) b2 b3 b4 (nI x) (nI y) (bh v w) = rec28 100 (nI l) b2 b3 b4 (nI (x + 1)) (bh v w') := by
  have hm := mo_le hk (p := 1) hl
  have q2 : ∀ w, f_M_mostOf 100 (1 : Int32) (nI l) (bh v w) = some (nI (mo ρ 1 l), bh v w) := fun w => M_mostOf (w := w) (p := 1) hr hk (by decide) hl
  intro n
  induction n with
  | zero =>
    intro fuel y w hf hy
    obtain ⟨m, rfl⟩ : ∃ m, fuel = m + 1 := ⟨fuel - 1, by omega⟩
    refine ⟨w, ?_⟩
    show f_M_addsLaw_42b rec28 (f_M_addsLaw_42 rec28 m) 100 (nI l) b2 b3 b4 (nI x) (nI y) (bh v w) = _
    unfold f_M_addsLaw_42b
    simp only [hJ0, bd1_q]
    rw [q2, bd2_s, if_pos ((nI_ltI (by omega) (by omega)).mpr (by omega)), nI_1]
  | succ n ih =>
    intro fuel y w hf hy
    obtain ⟨m, rfl⟩ : ∃ m, fuel = m + 1 := ⟨fuel - 1, by omega⟩
    have hm2 := mo_le hk (p := 2) hl
    obtain ⟨w1, e1⟩ := M_al56 hr hk hl b2 b3 b4 rec28 (f_M_addsLaw_42 rec28 m) hx (show y ≤ 3 by omega) (mo ρ 2 l + 1) FU 0 w (by unfold FU; omega) (by omega)
    obtain ⟨w2, e2⟩ := ih m (y + 1) w1 (by omega) (by omega)
    refine ⟨w2, ?_⟩
    show f_M_addsLaw_42b rec28 (f_M_addsLaw_42 rec28 m) 100 (nI l) b2 b3 b4 (nI x) (nI y) (bh v w) = _
    unfold f_M_addsLaw_42b
    simp only [hJ0, bd1_q]
    rw [q2, bd2_s, if_neg (fun q => by have := (nI_ltI (by omega) (by omega)).mp q; omega)]
    exact e1.trans e2
theorem M_al28 (hr : MR ρ v) (hk : ROK ρ) {l : Nat} (hl : l < ρ 0 0) (b2 b3 b4 : Int32) : ∀ (n fuel x : Nat) (w : Nat → Nat → Int64), n < fuel → x + n = mo ρ 0 l + 1 → ∃ w', f_M_addsLaw_28 fuel 100 (nI l) b2 b3 b4 (nI x) (bh v w) = some (bh v w') := by
  have hm := mo_le hk (p := 0) hl
  have q2 : ∀ w, f_M_mostOf 100 (0 : Int32) (nI l) (bh v w) = some (nI (mo ρ 0 l), bh v w) := fun w => M_mostOf (w := w) (p := 0) hr hk (by decide) hl
  intro n
  induction n with
  | zero =>
    intro fuel x w hf hx
    obtain ⟨m, rfl⟩ : ∃ m, fuel = m + 1 := ⟨fuel - 1, by omega⟩
    obtain ⟨w1, e1⟩ := M_al172 (v := v) 216 FU 0 w (by decide) (by decide)
    have e1 : f_M_addsLaw_172 FU 100 0 (bh v w) = some (bh v w1) := e1
    refine ⟨w1, ?_⟩
    show f_M_addsLaw_28b (f_M_addsLaw_28 m) 100 (nI l) b2 b3 b4 (nI x) (bh v w) = _
    unfold f_M_addsLaw_28b
    simp only [hJ0, bd1_q]
    rw [q2, bd2_s, if_pos ((nI_ltI (by omega) (by omega)).mpr (by omega))]
    exact e1
  | succ n ih =>
    intro fuel x w hf hx
    obtain ⟨m, rfl⟩ : ∃ m, fuel = m + 1 := ⟨fuel - 1, by omega⟩
    have hm2 := mo_le hk (p := 1) hl
    obtain ⟨w1, e1⟩ := M_al42 hr hk hl b2 b3 b4 (f_M_addsLaw_28 m) (show x ≤ 3 by omega) (mo ρ 1 l + 1) FU 0 w (by unfold FU; omega) (by omega)
    obtain ⟨w2, e2⟩ := ih m (x + 1) w1 (by omega) (by omega)
    refine ⟨w2, ?_⟩
    show f_M_addsLaw_28b (f_M_addsLaw_28 m) 100 (nI l) b2 b3 b4 (nI x) (bh v w) = _
    unfold f_M_addsLaw_28b
    simp only [hJ0, bd1_q]
    rw [q2, bd2_s, if_neg (fun q => by have := (nI_ltI (by omega) (by omega)).mp q; omega)]
    exact e1.trans e2
theorem M_addsLaw (hr : MR ρ v) (hk : ROK ρ) {l : Nat} (hl : l < ρ 0 0) (b2 b3 b4 : Int32) (w : Nat → Nat → Int64) : ∃ w', f_M_addsLaw 100 (nI l) b2 b3 b4 (bh v w) = some (bh v w') := by
  have hm := mo_le hk (p := 0) hl
  have key : ∀ (n fuel k : Nat) (w : Nat → Nat → Int64), n < fuel → k + n = 216 → ∃ w', f_M_addsLaw_3 fuel 100 (nI l) b2 b3 b4 (nI k) (bh v w) = some (bh v w') := by
    intro n
    induction n with
    | zero =>
      intro fuel k w hf hk2
      obtain ⟨m, rfl⟩ : ∃ m, fuel = m + 1 := ⟨fuel - 1, by omega⟩
      obtain ⟨w1, e1⟩ := M_al28 hr hk hl b2 b3 b4 (mo ρ 0 l + 1) FU 0 w (by unfold FU; omega) (by omega)
      have e1 : f_M_addsLaw_28 FU 100 (nI l) b2 b3 b4 0 (bh v w) = some (bh v w1) := e1
      refine ⟨w1, ?_⟩
      show f_M_addsLaw_3b (f_M_addsLaw_3 m) 100 (nI l) b2 b3 b4 (nI k) (bh v w) = _
      unfold f_M_addsLaw_3b
      rw [show (216 : Int32) = nI 216 from rfl, if_pos ((nI_leI (by omega) (by omega)).mpr (by omega))]
      exact e1
    | succ n ih =>
      intro fuel k w hf hk2
      obtain ⟨m, rfl⟩ : ∃ m, fuel = m + 1 := ⟨fuel - 1, by omega⟩
      show ∃ w', f_M_addsLaw_3b (f_M_addsLaw_3 m) 100 (nI l) b2 b3 b4 (nI k) (bh v w) = some (bh v w')
      unfold f_M_addsLaw_3b
      rw [show (216 : Int32) = nI 216 from rfl, if_neg (fun q => by have := (nI_leI (by omega) (by omega)).mp q; omega)]
      simp only [hJ0, bd1_q]
      rw [wrL_nI (by omega) (by decide), bd1_s, nI_1]
      exact ih m (k + 1) _ (by omega) (by omega)
  unfold f_M_addsLaw f_M_addsLaw_0
  rw [show (0 : Int32) = nI 0 from rfl]
  exact key 216 FU 0 w (by decide) (by decide)
theorem M_isTime (hr : MR ρ v) (hk : ROK ρ) {p : Nat} (hp : p < 3) (n : Int32) : ∃ r, f_M_isTime 100 (nI p) n (bh v w) = some (r, bh v w) := by
  have h1 := hk.1.2.1
  obtain ⟨r, e⟩ := M_isSo (w := w) hr hk 0 (nI p) n
  unfold f_M_isTime f_M_isTime_0 f_M_isTime_47
  simp only [hJ0, bd1_q]
  rw [show (12 : Int32) = nI 12 from rfl, nI_add, rd_nI (by omega) (by decide), bd1_s, e, bd2_s]
  split
  · split
    · exact ⟨_, rfl⟩
    · split
      · exact ⟨_, rfl⟩
      · exact ⟨_, rfl⟩
  · split
    · exact ⟨_, rfl⟩
    · exact ⟨_, rfl⟩
theorem M_tablesBy (hr : MR ρ v) (hk : ROK ρ) (a b c : Int32) (w : Nat → Nat → Int64) : ∃ r w', f_M_tablesBy 100 a b c (bh v w) = some (r, bh v w') := by
  have h0 := hk.1.1
  have k67 : ∀ (n fuel k : Nat) (s : Int64) (w : Nat → Nat → Int64), n < fuel → k + n = 216 → ∃ r, f_M_tablesBy_67 fuel 100 s (nI k) (bh v w) = some (r, bh v w) := by
    intro n
    induction n with
    | zero =>
      intro fuel k s w hf hk2
      obtain ⟨m, rfl⟩ : ∃ m, fuel = m + 1 := ⟨fuel - 1, by omega⟩
      show ∃ r, f_M_tablesBy_67b (f_M_tablesBy_67 m) 100 s (nI k) (bh v w) = some (r, bh v w)
      unfold f_M_tablesBy_67b
      rw [show (216 : Int32) = nI 216 from rfl, if_pos ((nI_leI (by omega) (by omega)).mpr (by omega))]
      exact ⟨s, rfl⟩
    | succ n ih =>
      intro fuel k s w hf hk2
      obtain ⟨m, rfl⟩ : ∃ m, fuel = m + 1 := ⟨fuel - 1, by omega⟩
      have nx := fun s => ih m (k + 1) s w (by omega) (by omega)
      obtain ⟨r1, e1⟩ := M_isTime (w := w) (p := 0) hr hk (by decide) (nI k / (36 : Int32))
      obtain ⟨r2, e2⟩ := M_isTime (w := w) (p := 1) hr hk (by decide) ((nI k / (6 : Int32)) - (nI k / (6 : Int32)) / (6 : Int32) * (6 : Int32))
      obtain ⟨r3, e3⟩ := M_isTime (w := w) (p := 2) hr hk (by decide) (nI k - nI k / (6 : Int32) * (6 : Int32))
      have e1 : f_M_isTime 100 (0 : Int32) (nI k / (36 : Int32)) (bh v w) = some (r1, bh v w) := e1
      have e2 : f_M_isTime 100 (1 : Int32) ((nI k / (6 : Int32)) - (nI k / (6 : Int32)) / (6 : Int32) * (6 : Int32)) (bh v w) = some (r2, bh v w) := e2
      have e3 : f_M_isTime 100 (2 : Int32) (nI k - nI k / (6 : Int32) * (6 : Int32)) (bh v w) = some (r3, bh v w) := e3
      show ∃ r, f_M_tablesBy_67b (f_M_tablesBy_67 m) 100 s (nI k) (bh v w) = some (r, bh v w)
      unfold f_M_tablesBy_67b f_M_tablesBy_129 f_M_tablesBy_130
      rw [show (216 : Int32) = nI 216 from rfl, if_neg (fun q => by have := (nI_leI (by omega) (by omega)).mp q; omega)]
      simp only [hJ0, bd1_q]
      rw [e1, bd2_s, nI_1]
      split
      · exact nx _
      · simp only [hJ0, bd1_q]
        rw [e2, bd2_s]
        split
        · exact nx _
        · simp only [hJ0, bd1_q]
          rw [e3, bd2_s]
          split
          · exact nx _
          · simp only [hJ0, bd1_q]
            rw [rd_nI (by omega) (by decide), bd1_s]
            exact nx _
  have k37 : ∀ (n fuel l : Nat) (w : Nat → Nat → Int64), n < fuel → l + n = ρ 0 0 → ∃ r w', f_M_tablesBy_37 fuel 100 a b c (nI l) (bh v w) = some (r, bh v w') := by
    intro n
    induction n with
    | zero =>
      intro fuel l w hf hl
      obtain ⟨m, rfl⟩ : ∃ m, fuel = m + 1 := ⟨fuel - 1, by omega⟩
      obtain ⟨r, e1⟩ := k67 216 FU 0 0 w (by decide) (by decide)
      have e1 : f_M_tablesBy_67 FU 100 0 0 (bh v w) = some (r, bh v w) := e1
      refine ⟨r, w, ?_⟩
      show f_M_tablesBy_37b (f_M_tablesBy_37 m) 100 a b c (nI l) (bh v w) = _
      unfold f_M_tablesBy_37b
      simp only [hJ0, bd1_q]
      rw [hr.1.1, if_pos ((nI_leI (by omega) (by omega)).mpr (by omega))]
      exact e1
    | succ n ih =>
      intro fuel l w hf hl
      obtain ⟨m, rfl⟩ : ∃ m, fuel = m + 1 := ⟨fuel - 1, by omega⟩
      obtain ⟨w1, e1⟩ := M_addsLaw hr hk (show l < ρ 0 0 by omega) a b c w
      show ∃ r w', f_M_tablesBy_37b (f_M_tablesBy_37 m) 100 a b c (nI l) (bh v w) = some (r, bh v w')
      unfold f_M_tablesBy_37b
      simp only [hJ0, bd1_q]
      rw [hr.1.1, if_neg (fun q => by have := (nI_leI (by omega) (by omega)).mp q; omega), e1, bd1_s, nI_1]
      exact ih m (l + 1) w1 (by omega) (by omega)
  have k3 : ∀ (n fuel k : Nat) (w : Nat → Nat → Int64), n < fuel → k + n = 216 → ∃ r w', f_M_tablesBy_3 fuel 100 a b c (nI k) (bh v w) = some (r, bh v w') := by
    intro n
    induction n with
    | zero =>
      intro fuel k w hf hk2
      obtain ⟨m, rfl⟩ : ∃ m, fuel = m + 1 := ⟨fuel - 1, by omega⟩
      obtain ⟨r, w1, e1⟩ := k37 (ρ 0 0) FU 0 w (by unfold FU; omega) (by omega)
      have e1 : f_M_tablesBy_37 FU 100 a b c 0 (bh v w) = some (r, bh v w1) := e1
      refine ⟨r, w1, ?_⟩
      show f_M_tablesBy_3b (f_M_tablesBy_3 m) 100 a b c (nI k) (bh v w) = _
      unfold f_M_tablesBy_3b
      rw [show (216 : Int32) = nI 216 from rfl, if_pos ((nI_leI (by omega) (by omega)).mpr (by omega))]
      exact e1
    | succ n ih =>
      intro fuel k w hf hk2
      obtain ⟨m, rfl⟩ : ∃ m, fuel = m + 1 := ⟨fuel - 1, by omega⟩
      show ∃ r w', f_M_tablesBy_3b (f_M_tablesBy_3 m) 100 a b c (nI k) (bh v w) = some (r, bh v w')
      unfold f_M_tablesBy_3b f_M_tablesBy_27
      rw [show (216 : Int32) = nI 216 from rfl, if_neg (fun q => by have := (nI_leI (by omega) (by omega)).mp q; omega)]
      simp only [hJ0, bd1_q]
      rw [wrL_nI (by omega) (by decide), wrL_nI (by omega) (by decide), bd1_s, bd1_s, nI_1]
      split
      · exact ih m (k + 1) _ (by omega) (by omega)
      · exact ih m (k + 1) _ (by omega) (by omega)
  unfold f_M_tablesBy f_M_tablesBy_0
  rw [show (0 : Int32) = nI 0 from rfl]
  exact k3 216 FU 0 w (by decide) (by decide)
theorem M_books (hr : MR ρ v) (hk : ROK ρ) : ∃ r w', f_M_books 100 (bh v w) = some (r, bh v w') := by
  obtain ⟨r, w1, e⟩ := M_tablesBy hr hk (-4) (-4) 0 w
  unfold f_M_books f_M_books_0
  simp only [hJ0, bd1_q]
  rw [e, bd2_s]
  exact ⟨r, w1, rfl⟩
theorem M_entry (hr : MR ρ v) (hk : ROK ρ) (a b c : Int32) : ∃ r w', f_M_entry 100 a b c (bh v w) = some (r, bh v w') := by
  have key : ∀ (n fuel k : Nat) (x y : Int32) (w : Nat → Nat → Int64), n < fuel → k + n = 4 → ∃ r w', f_M_entry_39 fuel 100 a b c x y (nI k) (bh v w) = some (r, bh v w') := by
    intro n
    induction n with
    | zero =>
      intro fuel k x y w hf hk2
      obtain ⟨m, rfl⟩ : ∃ m, fuel = m + 1 := ⟨fuel - 1, by omega⟩
      show ∃ r w', f_M_entry_39b (f_M_entry_39 m) 100 a b c x y (nI k) (bh v w) = some (r, bh v w')
      unfold f_M_entry_39b
      rw [show (3 : Int32) = nI 3 from rfl, if_pos ((nI_ltI (by omega) (by omega)).mpr (by omega))]
      split
      · exact ⟨_, w, rfl⟩
      · exact ⟨_, w, rfl⟩
    | succ n ih =>
      intro fuel k x y w hf hk2
      obtain ⟨m, rfl⟩ : ∃ m, fuel = m + 1 := ⟨fuel - 1, by omega⟩
      obtain ⟨r, w1, e⟩ := M_tablesBy hr hk a b (nI k) w
      have nx := fun x y => ih m (k + 1) x y w1 (by omega) (by omega)
      show ∃ r w', f_M_entry_39b (f_M_entry_39 m) 100 a b c x y (nI k) (bh v w) = some (r, bh v w')
      unfold f_M_entry_39b f_M_entry_63 f_M_entry_82 f_M_entry_84 f_M_entry_98
      rw [show (3 : Int32) = nI 3 from rfl, if_neg (fun q => by have := (nI_ltI (by omega) (by omega)).mp q; omega)]
      simp only [hJ0, bd1_q]
      rw [e, bd2_s, nI_1]
      repeat' split
      all_goals exact nx _ _
  unfold f_M_entry f_M_entry_0 f_M_entry_26
  simp only [hJ0, bd1_q]
  rw [M_isOne hr.1 hk.1.2.1, bd2_s]
  by_cases c1 : 0 ≤ a.toInt ∧ a.toInt < (ρ 0 1 : Int)
  · rw [if_pos c1, if_neg (by decide)]
    simp only [hJ0, bd1_q]
    rw [M_isLaw hr.1 hk.1.1, bd2_s]
    by_cases c2 : 0 ≤ b.toInt ∧ b.toInt < (ρ 0 0 : Int)
    · rw [if_pos c2, if_neg (by decide), M_in, bd2_s]
      by_cases c3 : (0 : Int64) ≤ c.toInt64 ∧ c.toInt64 ≤ (1 : Int64)
      · rw [if_pos c3, if_neg (by decide)]
        obtain ⟨r, w1, e⟩ := key 4 FU 0 (-4) (-4) w (by decide) (by decide)
        have e : f_M_entry_39 FU 100 a b c (-4) (-4) 0 (bh v w) = some (r, bh v w1) := e
        exact ⟨r, w1, e⟩
      · rw [if_neg c3, if_pos rfl]; exact ⟨_, w, rfl⟩
    · rw [if_neg c2, if_pos rfl]; exact ⟨_, w, rfl⟩
  · rw [if_neg c1, if_pos rfl]; exact ⟨_, w, rfl⟩
end
