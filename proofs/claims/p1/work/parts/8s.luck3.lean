section
variable {v : Nat → Nat → Int32} {w : Nat → Nat → Int64}
theorem M_try {ρ : Rho} (hr : MR ρ v) (hk : ROK ρ) {p : Nat} (hp : p < ρ 0 1) (rec60 : Nat → Int32 → Int32 → Int64 → Int32 → mH → Option (Int64 × mH)) (rec72 : Nat → Int32 → Int32 → Int64 → Int32 → Int32 → mH → Option (Int64 × mH)) (l y : Int32) (a : Int64) (i : Int32) {W : Nat → Nat} (h : hW 120 16 w W) : ∃ w', f_M_luck_88 rec60 rec72 FU 100 l y a (nI p) i 15 (bh v w) = rec72 100 l y (a * 10) (nI p) (i + 1) (bh v w') ∧ hW 120 16 w' (stW (ρ 8 p) W) := by
  have h2 := hk.1.2.1
  have hn := (hk.2.2.1 p hp).2.2.1
  have ev : v 107 p = nI (ρ 8 p) := (hr.1.2.2.2 p hp).2
  have key : ∀ (m fuel : Nat) (w : Nat → Nat → Int64), m + 1 < fuel → m ≤ 15 → (∀ k, k < 16 → w 120 k = if m < k then nL (stW (ρ 8 p) W k) else nL (W k)) → ∃ w', f_M_luck_88 rec60 rec72 fuel 100 l y a (nI p) i (nI m) (bh v w) = rec72 100 l y (a * 10) (nI p) (i + 1) (bh v w') ∧ hW 120 16 w' (stW (ρ 8 p) W) := by
    intro m
    induction m with
    | zero =>
      intro fuel w hf hm hw
      obtain ⟨f, rfl⟩ : ∃ f, fuel = f + 1 + 1 := ⟨fuel - 2, by omega⟩
      have e0 : w 120 0 = nL (W 0) := (hw 0 (by decide)).trans (if_neg (by decide))
      refine ⟨u2L w 120 0 (nL (W 0 * (10 - ρ 8 p) + 0 * ρ 8 p)), ?_, fun k hk => ?_⟩
      · show f_M_luck_88b rec60 rec72 (f_M_luck_88 rec60 rec72 (f + 1)) 100 l y a (nI p) i (nI 0) (bh v w) = _
        unfold f_M_luck_88b f_M_luck_111
        rw [if_neg (show ¬ nI 0 < 0 by decide), if_pos (show nI 0 = 0 from rfl)]
        simp only [hM v w, bd1_s]
        rw [rd_nI (by decide) (by decide), bd1_s, rd_nI (by omega) (by decide), bd1_s, bd1_s, ev, e0, ten_I hn, nL_64 (by omega), show (0 : Int64) = nL 0 from rfl, nL_mul, nL_mul, nL_add, wrL_nI (by decide) (by decide), bd1_s]
        show f_M_luck_88b rec60 rec72 (f_M_luck_88 rec60 rec72 f) 100 l y a (nI p) i (nI 0 + -1) (bh v (u2L w 120 0 (nL (W 0 * (10 - ρ 8 p) + 0 * ρ 8 p)))) = _
        unfold f_M_luck_88b
        rw [if_pos (by decide)]
      · by_cases e : k = 0
        · subst e
          rw [u2L_at]
          unfold stW
          rw [if_pos rfl]
        · rw [u2L_n e, hw k hk, if_pos (by omega)]
    | succ m ih =>
      intro fuel w hf hm hw
      obtain ⟨f, rfl⟩ : ∃ f, fuel = f + 1 := ⟨fuel - 1, by omega⟩
      show ∃ w', f_M_luck_88b rec60 rec72 (f_M_luck_88 rec60 rec72 f) 100 l y a (nI p) i (nI (m + 1)) (bh v w) = _ ∧ _
      unfold f_M_luck_88b f_M_luck_111
      rw [if_neg (fun z => by have := (nI_ltI (a := m + 1) (b := 0) (by omega) (by omega)).mp z; omega), if_neg (fun z => by have := (nI_eqI (a := m + 1) (b := 0) (by omega) (by omega)).mp z; omega)]
      simp only [hM v w, bd1_s]
      rw [s1_I m (by omega), rd_nI (by omega) (by decide), bd1_s, rd_nI (by omega) (by decide), bd1_s, rd_nI (by omega) (by decide), bd1_s, bd1_s, ev, hw (m + 1) (by omega), if_neg (by omega), hw m (by omega), if_neg (by omega), ten_I hn, nL_64 (by omega), nL_mul, nL_mul, nL_add, wrL_nI (by omega) (by decide), bd1_s, m1_I m (by omega)]
      refine ih f _ (by omega) (by omega) (fun k hk => ?_)
      by_cases e : k = m + 1
      · subst e
        rw [u2L_at, if_pos (by omega)]
        unfold stW
        rw [if_neg (by omega), show m + 1 - 1 = m by omega]
      · rw [u2L_n e, hw k hk]
        by_cases g : m + 1 < k
        · rw [if_pos g, if_pos (by omega)]
        · rw [if_neg g, if_neg (by omega)]
  exact key 15 FU w (by decide) (by decide) (fun k hk => by rw [if_neg (by omega)]; exact h k hk)
theorem M_tries {ρ : Rho} (hr : MR ρ v) (hk : ROK ρ) {p l : Nat} (hp : p < ρ 0 1) (hl : l < ρ 0 0) (rec60 : Nat → Int32 → Int32 → Int64 → Int32 → mH → Option (Int64 × mH)) (y : Int32) : ∀ (k fuel i a : Nat) (W : Nat → Nat) (w : Nat → Nat → Int64), k < fuel → i + k = sTries ρ p l → hW 120 16 w W → ∃ w', f_M_luck_72 rec60 fuel 100 (nI l) y (nL a) (nI p) (nI i) (bh v w) = rec60 100 (nI l) y (nL (a * 10 ^ k)) (nI (p + 1)) (bh v w') ∧ hW 120 16 w' (itW (ρ 8 p) k W) := by
  have ht := sTries_le hk (p := p) hl
  intro k
  induction k with
  | zero =>
    intro fuel i a W w hf hi h
    obtain ⟨f, rfl⟩ : ∃ f, fuel = f + 1 := ⟨fuel - 1, by omega⟩
    refine ⟨w, ?_, h⟩
    show f_M_luck_72b rec60 (f_M_luck_72 rec60 f) 100 (nI l) y (nL a) (nI p) (nI i) (bh v w) = _
    unfold f_M_luck_72b
    simp only [hM v w, bd1_s]
    rw [M_triesOf hr hk hp hl, bd2_s, if_pos ((nI_leI (by omega) (by omega)).mpr (by omega)), nI_1, Nat.pow_zero, Nat.mul_one]
  | succ k ih =>
    intro fuel i a W w hf hi h
    obtain ⟨f, rfl⟩ : ∃ f, fuel = f + 1 := ⟨fuel - 1, by omega⟩
    obtain ⟨w1, e1, g1⟩ := M_try (v := v) hr hk hp rec60 (f_M_luck_72 rec60 f) (nI l) y (nL a) (nI i) h
    obtain ⟨w2, e2, g2⟩ := ih f (i + 1) (a * 10) (stW (ρ 8 p) W) w1 (by omega) (by omega) g1
    refine ⟨w2, ?_, g2⟩
    show f_M_luck_72b rec60 (f_M_luck_72 rec60 f) 100 (nI l) y (nL a) (nI p) (nI i) (bh v w) = _
    unfold f_M_luck_72b
    simp only [hM v w, bd1_s]
    rw [M_triesOf hr hk hp hl, bd2_s, if_neg (fun z => by have := (nI_leI (by omega) (by omega)).mp z; omega), e1, show (10 : Int64) = nL 10 from rfl, nL_mul, nI_1, e2, Nat.pow_succ, Nat.mul_assoc, Nat.mul_comm 10]
theorem M_sum {ρ : Rho} (hk : ROK ρ) {l : Nat} (hl : l < ρ 0 0) (y : Int32) (h : hW 120 16 w (lkW ρ l (ρ 0 1) 0 W0)) : ∀ (k fuel j : Nat), k < fuel → sNeed ρ l + j + k = 16 → f_M_luck_185 fuel 100 y (nL (lkA ρ l)) (nL (sumN (fun i => lkW ρ l (ρ 0 1) 0 W0 (sNeed ρ l + i)) j)) (nI (sNeed ρ l + j)) (bh v w) = some (if y = 0 then nL (lkS ρ l / Nat.gcd (lkS ρ l) (lkA ρ l)) else nL (lkA ρ l / Nat.gcd (lkS ρ l) (lkA ρ l)), bh v w) := by
  have hA := lkA_lt hk hl
  have hS := lkS_le hk hl
  have hn := sNeed_le hk hl
  have ok := lk_ok hk hl
  have hg : 0 < Nat.gcd (lkS ρ l) (lkA ρ l) := Nat.gcd_pos_of_pos_right _ hA.2
  have hg2 : Nat.gcd (lkS ρ l) (lkA ρ l) ≤ lkA ρ l := Nat.gcd_le_right _ hA.2
  intro k
  induction k with
  | zero =>
    intro fuel j hf hj
    obtain ⟨f, rfl⟩ : ∃ f, fuel = f + 1 := ⟨fuel - 1, by omega⟩
    have e : sumN (fun i => lkW ρ l (ρ 0 1) 0 W0 (sNeed ρ l + i)) j = lkS ρ l := by
      have a := sumN_sh (f := fun i => lkW ρ l (ρ 0 1) 0 W0 (sNeed ρ l + i)) (10 - sNeed ρ l) 6
      have b : sumN (fun i => lkW ρ l (ρ 0 1) 0 W0 (sNeed ρ l + (10 - sNeed ρ l + i))) 6 = sumN (fun _ => 0) 6 := sumN_congr (fun i hi => ok.1.1 _ (by omega))
      rw [sumN_0] at b
      rw [show j = 10 - sNeed ρ l + 6 by omega]
      unfold lkS
      omega
    rw [e]
    show f_M_luck_185b (f_M_luck_185 f) 100 y (nL (lkA ρ l)) (nL (lkS ρ l)) (nI (sNeed ρ l + j)) (bh v w) = _
    unfold f_M_luck_185b f_M_common f_M_common_0
    have ne : ¬ nL (Nat.gcd (lkS ρ l) (lkA ρ l)) = 0 := fun q => by have := (nL_eq0 (by omega)).mp q; omega
    rw [show (16 : Int32) = nI 16 from rfl, if_pos ((nI_leI (by omega) (by omega)).mpr (by omega)), M_common 30 FU (lkA ρ l) (lkS ρ l) _ (by omega) (by omega) (by decide) (by decide), bd2_s, if_neg ne, if_neg ne, nL_div (by omega) (by omega), nL_div (by omega) (by omega)]
    split <;> rfl
  | succ k ih =>
    intro fuel j hf hj
    obtain ⟨f, rfl⟩ : ∃ f, fuel = f + 1 := ⟨fuel - 1, by omega⟩
    have nx := ih f (j + 1) (by omega) (by omega)
    show f_M_luck_185b (f_M_luck_185 f) 100 y (nL (lkA ρ l)) _ (nI (sNeed ρ l + j)) (bh v w) = _
    unfold f_M_luck_185b
    simp only [hM v w, bd1_s]
    rw [show (16 : Int32) = nI 16 from rfl, if_neg (fun z => by have := (nI_leI (by omega) (by omega)).mp z; omega), rd_nI (by omega) (by decide), bd1_s, h (sNeed ρ l + j) (by omega), nL_add, nI_1]
    exact nx
theorem M_people {ρ : Rho} (hr : MR ρ v) (hk : ROK ρ) {l : Nat} (hl : l < ρ 0 0) (y : Int32) : ∀ (k fuel p a : Nat) (W : Nat → Nat) (w : Nat → Nat → Int64), k < fuel → p + k = ρ 0 1 → hW 120 16 w W → lkW ρ l k p W = lkW ρ l (ρ 0 1) 0 W0 → a * 10 ^ lkT ρ l k p = lkA ρ l → ∃ w', f_M_luck_60 fuel 100 (nI l) y (nL a) (nI p) (bh v w) = some (if y = 0 then nL (lkS ρ l / Nat.gcd (lkS ρ l) (lkA ρ l)) else nL (lkA ρ l / Nat.gcd (lkS ρ l) (lkA ρ l)), bh v w') := by
  have h2 := hk.1.2.1
  have hn := sNeed_le hk hl
  intro k
  induction k with
  | zero =>
    intro fuel p a W w hf hp h eW eA
    obtain ⟨f, rfl⟩ : ∃ f, fuel = f + 1 := ⟨fuel - 1, by omega⟩
    have eW : W = lkW ρ l (ρ 0 1) 0 W0 := eW
    have eA : a = lkA ρ l := by rw [← eA]; exact (Nat.mul_one a).symm
    refine ⟨w, ?_⟩
    show f_M_luck_60b (f_M_luck_60 f) 100 (nI l) y (nL a) (nI p) (bh v w) = _
    unfold f_M_luck_60b
    simp only [hM v w, bd1_s]
    rw [hr.1.2.1, if_pos (nI_le (by omega) (by omega)), M_needOf hr hk hl, bd2_s, eA]
    exact M_sum (v := v) hk hl y (by rw [← eW]; exact h) (16 - sNeed ρ l) FU 0 (by unfold FU; omega) (by omega)
  | succ k ih =>
    intro fuel p a W w hf hp h eW eA
    obtain ⟨f, rfl⟩ : ∃ f, fuel = f + 1 := ⟨fuel - 1, by omega⟩
    have hpp : p < ρ 0 1 := by omega
    have ht := sTries_le hk (p := p) hl
    obtain ⟨w1, e1, g1⟩ := M_tries (v := v) hr hk hpp hl (f_M_luck_60 f) y (sTries ρ p l) FU 0 a W w (by unfold FU; omega) (by omega) h
    obtain ⟨w2, e2⟩ := ih f (p + 1) (a * 10 ^ sTries ρ p l) _ w1 (by omega) (by omega) g1 eW (by rw [← eA, Nat.mul_assoc, ← Nat.pow_add]; rfl)
    refine ⟨w2, ?_⟩
    show f_M_luck_60b (f_M_luck_60 f) 100 (nI l) y (nL a) (nI p) (bh v w) = _
    unfold f_M_luck_60b
    simp only [hM v w, bd1_s]
    rw [hr.1.2.1, if_neg (nI_ge (by omega) (by omega))]
    exact e1.trans e2
theorem M_weigh {ρ : Rho} (hr : MR ρ v) (hk : ROK ρ) {l : Nat} (hl : l < ρ 0 0) (y : Int32) : ∃ w', f_M_luck_27 FU 100 (nI l) y 1 0 (bh v w) = some (if y = 0 then nL (lkS ρ l / Nat.gcd (lkS ρ l) (lkA ρ l)) else nL (lkA ρ l / Nat.gcd (lkS ρ l) (lkA ρ l)), bh v w') := by
  have key : ∀ (k fuel i : Nat) (w : Nat → Nat → Int64), k < fuel → i + k = 16 → hW 120 i w W0 → ∃ w', f_M_luck_27 fuel 100 (nI l) y 1 (nI i) (bh v w) = some (if y = 0 then nL (lkS ρ l / Nat.gcd (lkS ρ l) (lkA ρ l)) else nL (lkA ρ l / Nat.gcd (lkS ρ l) (lkA ρ l)), bh v w') := by
    intro k
    induction k with
    | zero =>
      intro fuel i w hf hi h
      obtain ⟨f, rfl⟩ : ∃ f, fuel = f + 1 := ⟨fuel - 1, by omega⟩
      obtain rfl : i = 16 := by omega
      show ∃ w', f_M_luck_27b (f_M_luck_27 f) 100 (nI l) y 1 (nI 16) (bh v w) = _
      unfold f_M_luck_27b
      rw [if_pos (by decide)]
      exact M_people hr hk hl y (ρ 0 1) FU 0 1 W0 w (by have := hk.1.2.1; unfold FU; omega) (by omega) h rfl (Nat.one_mul _)
    | succ k ih =>
      intro fuel i w hf hi h
      obtain ⟨f, rfl⟩ : ∃ f, fuel = f + 1 := ⟨fuel - 1, by omega⟩
      have nx : ∀ x : Int64, x = nL (W0 i) → ∃ w', f_M_luck_27 f 100 (nI l) y 1 (nI i + 1) (bh v (u2L w 120 i x)) = some (if y = 0 then nL (lkS ρ l / Nat.gcd (lkS ρ l) (lkA ρ l)) else nL (lkA ρ l / Nat.gcd (lkS ρ l) (lkA ρ l)), bh v w') := by
        intro x hx
        rw [nI_1]
        refine ih f (i + 1) _ (by omega) (by omega) (fun j hj => ?_)
        by_cases e : j = i
        · subst e; rw [u2L_at, hx]
        · rw [u2L_n e]; exact h j (by omega)
      show ∃ w', f_M_luck_27b (f_M_luck_27 f) 100 (nI l) y 1 (nI i) (bh v w) = _
      unfold f_M_luck_27b f_M_luck_50
      rw [show (16 : Int32) = nI 16 from rfl, if_neg (fun z => by have := (nI_leI (by omega) (by omega)).mp z; omega)]
      simp only [hM v w, bd1_s]
      rw [wrL_nI (by omega) (by decide), wrL_nI (by omega) (by decide), bd1_s, bd1_s]
      by_cases e : i = 0
      · subst e
        rw [if_pos (show nI 0 = 0 from rfl)]
        exact nx 1 rfl
      · rw [if_neg (show ¬ nI i = 0 from fun z => e ((nI_eqI (a := i) (b := 0) (by omega) (by omega)).mp z))]
        exact nx 0 (by unfold W0; rw [if_neg e]; rfl)
  exact key 16 FU 0 w (by decide) (by omega) (fun j hj => by omega)
end
section
variable {S : Sg} {v : Nat → Nat → Int32} {w : Nat → Nat → Int64}
theorem E_luck (x y : Int32) (hs : SOK S) (hc : CI S v) (hm : MI S v) : EqT S v w (f_Q_luck 0 x y) (f_M_luck 100 x y) := by
  have h1 := hs.1.1.1
  by_cases hx : 0 ≤ x.toInt ∧ x.toInt < (S.1 0 0 : Int)
  · by_cases hy : 0 ≤ y.toInt ∧ y.toInt < ((1 + 1 : Nat) : Int)
    · obtain ⟨l, hl, rfl⟩ := ix (by omega) hx
      obtain ⟨w1, e1, a0, a1⟩ := C_weigh (v := v) (w := w) hc.1 hs.1 hl
      obtain ⟨w2, e2⟩ := M_weigh (v := v) (w := w1) hm.1 hs.1 hl y
      refine EqT.q (r := if y = 0 then nL (lkS S.1 l / Nat.gcd (lkS S.1 l) (lkA S.1 l)) else nL (lkA S.1 l / Nat.gcd (lkS S.1 l) (lkA S.1 l))) (v1 := v) (w1 := w1) (v2 := v) (w2 := w2) hs hc hm ?_ (fun _ _ => rfl) ?_ (fun _ _ => rfl)
      · simp only [f_Q_luck, f_Q_luck_0, q_now, hRl rl3 v w, bd1_s]
        rw [C_hasLaw rl3 hc.1 h1, bd2_s, if_pos hx, if_neg (by decide), Q_isWithin, bd2_s, show (1 : Int32).toInt = (nI 1).toInt from rfl, if_pos ((in_rng (by decide)).mpr hy), if_neg (by decide)]
        simp only [hQ v w, bd1_s]
        rw [e1, bd1_s]
        simp only [hQ v w1, bd1_s]
        rw [a0, a1]
        split <;> rfl
      · simp only [f_M_luck, f_M_luck_0, hM v w1, bd1_s]
        rw [M_isLaw hm.1.1 h1, bd2_s, if_pos hx, if_neg (by decide), M_in, bd2_s, show (1 : Int64) = (nI 1).toInt64 from rfl, if_pos ((in_rngL (by decide)).mpr hy), if_neg (by decide)]
        exact e2
    · refine ⟨-1, v, w, v, w, S, ?_, ?_, hs, hc, hm⟩
      · simp only [f_Q_luck, f_Q_luck_0, f_Q_luck_20, q_now, hRl rl3 v w, bd1_s]
        rw [C_hasLaw rl3 hc.1 h1, bd2_s, if_pos hx, if_neg (by decide), Q_isWithin, bd2_s, show (1 : Int32).toInt = (nI 1).toInt from rfl, if_neg (fun q => hy ((in_rng (by decide)).mp q)), if_pos rfl]
      · simp only [f_M_luck, f_M_luck_0, f_M_luck_18, hM v w, bd1_s]
        rw [M_isLaw hm.1.1 h1, bd2_s, if_pos hx, if_neg (by decide), M_in, bd2_s, show (1 : Int64) = (nI 1).toInt64 from rfl, if_neg (fun q => hy ((in_rngL (by decide)).mp q)), if_pos rfl]
  · refine ⟨-1, v, w, v, w, S, ?_, ?_, hs, hc, hm⟩
    · simp only [f_Q_luck, f_Q_luck_0, f_Q_luck_20, q_now, hRl rl3 v w, bd1_s]
      rw [C_hasLaw rl3 hc.1 h1, bd2_s, if_neg hx, if_pos rfl]
    · simp only [f_M_luck, f_M_luck_0, f_M_luck_18, hM v w, bd1_s]
      rw [M_isLaw hm.1.1 h1, bd2_s, if_neg hx, if_pos rfl]
end
