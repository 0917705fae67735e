section
variable {v : Nat → Nat → Int32} {w : Nat → Nat → Int64}
def hW (o m : Nat) (w : Nat → Nat → Int64) (W : Nat → Nat) : Prop := ∀ k, k < m → w o k = nL (W k)
theorem m1_I (m : Nat) (hm : m < 100) : nI (m + 1) + (-1 : Int32) = nI m := by
  have : ∀ m, m < 100 → nI (m + 1) + (-1 : Int32) = nI m := by decide +kernel
  exact this m hm
theorem s1_I (m : Nat) (hm : m < 100) : nI (m + 1) - (1 : Int32) = nI m := by
  have : ∀ m, m < 100 → nI (m + 1) - (1 : Int32) = nI m := by decide +kernel
  exact this m hm
theorem C_try {n : Nat} (hn : n ≤ 10) {W : Nat → Nat} {a : Nat} (h : hW 57 10 w W) (ha : w 56 1 = nL a) : ∃ w', f_Odds_addTry 56 (nI n) (bh v w) = some (bh v w') ∧ hW 57 10 w' (stW n W) ∧ w' 56 1 = nL (a * 10) := by
  have key : ∀ (m fuel : Nat) (w : Nat → Nat → Int64), m < fuel → m ≤ 9 → (∀ k, k < 10 → w 57 k = if m < k then nL (stW n W k) else nL (W k)) → w 56 1 = nL a → ∃ w', f_Odds_addTry_3 fuel 56 (nI n) (nI m) (bh v w) = some (bh v w') ∧ hW 57 10 w' (stW n W) ∧ w' 56 1 = nL (a * 10) := by
    intro m
    induction m with
    | zero =>
      intro fuel w hf hm hw ha
      obtain ⟨f, rfl⟩ : ∃ f, fuel = f + 1 := ⟨fuel - 1, by omega⟩
      show ∃ w', f_Odds_addTry_3b (f_Odds_addTry_3 f) 56 (nI n) (nI 0) (bh v w) = _ ∧ _
      unfold f_Odds_addTry_3b
      rw [if_pos (show nI 0 ≤ 0 by decide)]
      simp only [hQ v w, bd1_s]
      have e0 : rd (w 57) 10 (0 : Int32) = some (nL (W 0)) := by rw [← (show w 57 0 = nL (W 0) from (hw 0 (by decide)).trans (if_neg (by decide)))]; rfl
      rw [e0, bd1_s, ten_I hn, nL_mul, show (0 : Int32) = nI 0 from rfl, wrL_nI (by decide) (by decide), bd1_s]
      simp only [hQ v (u2L w 57 0 (nL (W 0 * (10 - n)))), bd1_s]
      have e1 : u2L w 57 0 (nL (W 0 * (10 - n))) 56 1 = nL a := by rw [u2L_o (by decide)]; exact ha
      rw [e1, show (10 : Int64) = nL 10 from rfl, nL_mul]
      refine ⟨_, rfl, fun k hk => ?_, u2L_at _ _ _ _⟩
      rw [u2L_o (by decide)]
      by_cases e : k = 0
      · subst e
        rw [u2L_at]
        unfold stW
        rw [if_pos rfl, Nat.zero_mul, Nat.add_zero]
      · rw [u2L_n e, hw k hk, if_pos (by omega)]
    | succ m ih =>
      intro fuel w hf hm hw ha
      obtain ⟨f, rfl⟩ : ∃ f, fuel = f + 1 := ⟨fuel - 1, by omega⟩
      show ∃ w', f_Odds_addTry_3b (f_Odds_addTry_3 f) 56 (nI n) (nI (m + 1)) (bh v w) = _ ∧ _
      unfold f_Odds_addTry_3b
      rw [if_neg (fun z => by have := (nI_leI (a := m + 1) (b := 0) (by omega) (by omega)).mp z; omega)]
      simp only [hQ v w, bd1_s]
      rw [rd_nI (by omega) (by decide), bd1_s, s1_I m (by omega), rd_nI (by omega) (by decide), bd1_s, hw (m + 1) (by omega), if_neg (by omega), hw m (by omega), if_neg (by omega), ten_I hn, nL_64 (by omega), nL_mul, nL_mul, nL_add, wrL_nI (by omega) (by decide), bd1_s, m1_I m (by omega)]
      refine ih f _ (by omega) (by omega) (fun k hk => ?_) ((congrFun (u2L_o (by decide)) 1).trans ha)
      by_cases e : k = m + 1
      · subst e
        rw [u2L_at, if_pos (by omega)]
        unfold stW
        rw [if_neg (by omega), show m + 1 - 1 = m by omega]
      · rw [u2L_n e, hw k hk]
        by_cases g : m + 1 < k
        · rw [if_pos g, if_pos (by omega)]
        · rw [if_neg g, if_neg (by omega)]
  exact key 9 FU w (by decide) (by decide) (fun k hk => by rw [if_neg (by omega)]; exact h k hk) ha
theorem C_tries {ρ : Rho} (hr : CR 3 ρ v) (hk : ROK ρ) {p T : Nat} (hp : p < ρ 0 1) (hT : T ≤ 5) (rec : Nat → Nat → Int32 → Int32 → mH → Option mH) (l : Int32) : ∀ (k fuel i a : Nat) (W : Nat → Nat) (w : Nat → Nat → Int64), k < fuel → i + k = T → hW 57 10 w W → w 56 1 = nL a → ∃ w', f_Odds_weigh_41 rec fuel 56 3 l (nI p) (nI T) (nI i) (bh v w) = rec 56 3 l (nI (p + 1)) (bh v w') ∧ hW 57 10 w' (itW (ρ 8 p) k W) ∧ w' 56 1 = nL (a * 10 ^ k) := by
  have h2 := hk.1.2.1
  have hn := (hk.2.2.1 p hp).2.2.1
  intro k
  induction k with
  | zero =>
    intro fuel i a W w hf hi h ha
    obtain ⟨f, rfl⟩ : ∃ f, fuel = f + 1 := ⟨fuel - 1, by omega⟩
    refine ⟨w, ?_, h, by rw [ha, Nat.pow_zero, Nat.mul_one]⟩
    show f_Odds_weigh_41b rec (f_Odds_weigh_41 rec f) 56 3 l (nI p) (nI T) (nI i) (bh v w) = _
    unfold f_Odds_weigh_41b
    rw [if_pos ((nI_leI (by omega) (by omega)).mpr (by omega)), nI_1]
  | succ k ih =>
    intro fuel i a W w hf hi h ha
    obtain ⟨f, rfl⟩ : ∃ f, fuel = f + 1 := ⟨fuel - 1, by omega⟩
    obtain ⟨w1, e1, g1, a1⟩ := C_try (v := v) hn h ha
    obtain ⟨w2, e2, g2, a2⟩ := ih f (i + 1) (a * 10) (stW (ρ 8 p) W) w1 (by omega) (by omega) g1 a1
    refine ⟨w2, ?_, g2, by rw [a2, Nat.pow_succ, Nat.mul_assoc, Nat.mul_comm 10]⟩
    show f_Odds_weigh_41b rec (f_Odds_weigh_41 rec f) 56 3 l (nI p) (nI T) (nI i) (bh v w) = _
    unfold f_Odds_weigh_41b
    rw [if_neg (fun z => by have := (nI_leI (by omega) (by omega)).mp z; omega)]
    simp only [hRl rl3 v w, hQ v w, bd1_s]
    rw [rd_nI (by omega) (by decide), bd1_s, (hr.2.2.1 p hp).2.2.1, e1, bd1_s, nI_1]
    exact e2
/-- the fraction -/
def lkS (ρ : Rho) (l : Nat) : Nat := sumN (fun i => lkW ρ l (ρ 0 1) 0 W0 (sNeed ρ l + i)) (10 - sNeed ρ l)
def lkA (ρ : Rho) (l : Nat) : Nat := 10 ^ lkT ρ l (ρ 0 1) 0
theorem lk_ok {ρ : Rho} (hk : ROK ρ) {l : Nat} (hl : l < ρ 0 0) : Wok (lkT ρ l (ρ 0 1) 0) (lkW ρ l (ρ 0 1) 0 W0) ∧ lkT ρ l (ρ 0 1) 0 ≤ 9 := by
  have h2 := hk.1.2.1
  have a := Wok_lk hk l (ρ 0 1) 0 0 W0 (by omega) Wok0
  have b := lkT_le hk hl (ρ 0 1) 0
  rw [Nat.zero_add] at a
  exact ⟨a, by omega⟩
theorem sumN_sh {f : Nat → Nat} (n : Nat) : ∀ m, sumN f n + sumN (fun i => f (n + i)) m = sumN f (n + m)
  | 0 => rfl
  | m + 1 => by
    have := sumN_sh (f := f) n m
    show sumN f n + (sumN (fun i => f (n + i)) m + f (n + m)) = sumN f (n + m) + f (n + m)
    omega
theorem lkA_lt {ρ : Rho} (hk : ROK ρ) {l : Nat} (hl : l < ρ 0 0) : lkA ρ l < 2 ^ 30 ∧ 0 < lkA ρ l := by
  have h := (lk_ok hk hl).2
  refine ⟨Nat.lt_of_le_of_lt (Nat.pow_le_pow_right (by decide) h) (by decide), Nat.pow_pos (by decide)⟩
theorem lkS_le {ρ : Rho} (hk : ROK ρ) {l : Nat} (hl : l < ρ 0 0) : lkS ρ l ≤ lkA ρ l := by
  have h := (lk_ok hk hl).1.2 (sNeed ρ l + (10 - sNeed ρ l))
  have e := sumN_sh (f := lkW ρ l (ρ 0 1) 0 W0) (sNeed ρ l) (10 - sNeed ρ l)
  unfold lkS lkA
  omega
theorem C_sum {ρ : Rho} (hk : ROK ρ) {l : Nat} (hl : l < ρ 0 0) : ∀ (k fuel j : Nat) (w : Nat → Nat → Int64), k < fuel → sNeed ρ l + j + k = 10 → hW 57 10 w (lkW ρ l (ρ 0 1) 0 W0) → w 56 1 = nL (lkA ρ l) → w 56 0 = nL (sumN (fun i => lkW ρ l (ρ 0 1) 0 W0 (sNeed ρ l + i)) j) → ∃ w', f_Odds_weigh_81 fuel 56 (nI (sNeed ρ l + j)) (bh v w) = some (bh v w') ∧ w' 56 0 = nL (lkS ρ l / Nat.gcd (lkS ρ l) (lkA ρ l)) ∧ w' 56 1 = nL (lkA ρ l / Nat.gcd (lkS ρ l) (lkA ρ l)) := by
  have hA := lkA_lt hk hl
  have hS := lkS_le hk hl
  have hg : 0 < Nat.gcd (lkS ρ l) (lkA ρ l) := Nat.gcd_pos_of_pos_right _ hA.2
  have hg2 : Nat.gcd (lkS ρ l) (lkA ρ l) ≤ lkA ρ l := Nat.gcd_le_right _ hA.2
  intro k
  induction k with
  | zero =>
    intro fuel j w hf hj h h1 h0
    obtain ⟨f, rfl⟩ : ∃ f, fuel = f + 1 := ⟨fuel - 1, by omega⟩
    have ej : j = 10 - sNeed ρ l := by omega
    subst ej
    have h0 : w 56 0 = nL (lkS ρ l) := h0
    show ∃ w', f_Odds_weigh_81b (f_Odds_weigh_81 f) 56 (nI (sNeed ρ l + (10 - sNeed ρ l))) (bh v w) = _ ∧ _
    unfold f_Odds_weigh_81b
    rw [show (9 : Int32) = nI 9 from rfl, if_pos ((nI_ltI (by omega) (by omega)).mpr (by omega))]
    simp only [hQ v w, bd1_s, f_Odds_reduce, f_Odds_reduce_0]
    rw [h0, h1, show (0 : Int32) = nI 0 from rfl, C_red 30 FU (lkA ρ l) (lkS ρ l) 0 (by omega) (by omega) (by decide) (by decide) (by decide)]
    unfold f_Odds_reduce_42
    have c : ¬ lg_cmp (nL (Nat.gcd (lkS ρ l) (lkA ρ l))) 0 ≤ 0 := by
      intro z
      have q : (0 : Int32) < lg_cmp (nL (Nat.gcd (lkS ρ l) (lkA ρ l))) 0 := by
        rw [cmp_gt, Int64.lt_iff_toInt_lt, nL_toInt (by omega), show (0 : Int64).toInt = 0 from rfl]
        omega
      exact absurd q (Int32.not_lt.mpr z)
    have ne : ¬ nL (Nat.gcd (lkS ρ l) (lkA ρ l)) = 0 := fun q => by have := (nL_eq0 (by omega)).mp q; omega
    rw [if_neg c]
    simp only [hQ v w, bd1_s]
    rw [if_neg ne, h0, nL_div (by omega) (by omega)]
    simp only [hQ v (u2L w 56 0 (nL (lkS ρ l / Nat.gcd (lkS ρ l) (lkA ρ l)))), bd1_s]
    rw [if_neg ne, u2L_n (by decide), h1, nL_div (by omega) (by omega)]
    exact ⟨_, rfl, (u2L_n (by decide)).trans (u2L_at _ _ _ _), u2L_at _ _ _ _⟩
  | succ k ih =>
    intro fuel j w hf hj h h1 h0
    obtain ⟨f, rfl⟩ : ∃ f, fuel = f + 1 := ⟨fuel - 1, by omega⟩
    show ∃ w', f_Odds_weigh_81b (f_Odds_weigh_81 f) 56 (nI (sNeed ρ l + j)) (bh v w) = _ ∧ _
    unfold f_Odds_weigh_81b
    rw [show (9 : Int32) = nI 9 from rfl, if_neg (fun z => by have := (nI_ltI (by omega) (by omega)).mp z; omega)]
    simp only [hQ v w, bd1_s]
    rw [rd_nI (by omega) (by decide), bd1_s, h0, h (sNeed ρ l + j) (by omega), nL_add, nI_1]
    exact ih f (j + 1) _ (by omega) (by omega) (fun i hi => by rw [u2L_o (by decide)]; exact h i hi) ((u2L_n (by decide)).trans h1) (u2L_at _ _ _ _)
theorem C_people {ρ : Rho} (hr : CR 3 ρ v) (hk : ROK ρ) {l : Nat} (hl : l < ρ 0 0) : ∀ (k fuel p a : Nat) (W : Nat → Nat) (w : Nat → Nat → Int64), k < fuel → p + k = ρ 0 1 → hW 57 10 w W → w 56 1 = nL a → lkW ρ l k p W = lkW ρ l (ρ 0 1) 0 W0 → a * 10 ^ lkT ρ l k p = lkA ρ l → ∃ w', f_Odds_weigh_22 fuel 56 3 (nI l) (nI p) (bh v w) = some (bh v w') ∧ w' 56 0 = nL (lkS ρ l / Nat.gcd (lkS ρ l) (lkA ρ l)) ∧ w' 56 1 = nL (lkA ρ l / Nat.gcd (lkS ρ l) (lkA ρ l)) := by
  have h2 := hk.1.2.1
  have hn := sNeed_le hk hl
  intro k
  induction k with
  | zero =>
    intro fuel p a W w hf hp h ha eW eA
    obtain ⟨f, rfl⟩ : ∃ f, fuel = f + 1 := ⟨fuel - 1, by omega⟩
    have eW : W = lkW ρ l (ρ 0 1) 0 W0 := eW
    have eA : a = lkA ρ l := by rw [← eA]; exact (Nat.mul_one a).symm
    show ∃ w', f_Odds_weigh_22b (f_Odds_weigh_22 f) 56 3 (nI l) (nI p) (bh v w) = _ ∧ _
    unfold f_Odds_weigh_22b
    simp only [hRl rl3 v w, hQ v w, bd1_s]
    rw [hr.1.2.1, if_pos (nI_le (by omega) (by omega))]
    simp only [hRl rl3 v (u2L w 56 0 0), bd1_s]
    rw [C_needOf rl3 hr hk hl, bd2_s]
    have := C_sum (v := v) hk hl (10 - sNeed ρ l) FU 0 (u2L w 56 0 0) (by unfold FU; omega) (by omega) (fun i hi => by rw [u2L_o (by decide), ← eW]; exact h i hi) ((u2L_n (by decide)).trans (by rw [ha, eA])) (u2L_at _ _ _ _)
    exact this
  | succ k ih =>
    intro fuel p a W w hf hp h ha eW eA
    obtain ⟨f, rfl⟩ : ∃ f, fuel = f + 1 := ⟨fuel - 1, by omega⟩
    have hpp : p < ρ 0 1 := by omega
    have ht := sTries_le hk (p := p) hl
    obtain ⟨w1, e1, g1, a1⟩ := C_tries (v := v) hr hk hpp (show sTries ρ p l ≤ 5 by omega) (f_Odds_weigh_22 f) (nI l) (sTries ρ p l) FU 0 a W w (by unfold FU; omega) (by omega) h ha
    show ∃ w', f_Odds_weigh_22b (f_Odds_weigh_22 f) 56 3 (nI l) (nI p) (bh v w) = _ ∧ _
    unfold f_Odds_weigh_22b
    simp only [hRl rl3 v w, bd1_s]
    rw [hr.1.2.1, if_neg (nI_ge (by omega) (by omega)), C_ableAlone rl3 hr hk hpp hl, bd2_s]
    have e1' : f_Odds_weigh_41 (f_Odds_weigh_22 f) FU 56 3 (nI l) (nI p) (nI (sTries ρ p l)) 0 (bh v w) = f_Odds_weigh_22 f 56 3 (nI l) (nI (p + 1)) (bh v w1) := e1
    rw [e1']
    exact ih f (p + 1) (a * 10 ^ sTries ρ p l) _ w1 (by omega) (by omega) g1 a1 eW (by rw [← eA, Nat.mul_assoc, ← Nat.pow_add]; rfl)
theorem fill_J (x : Int64) (v : Nat → Nat → Int32) (w : Nat → Nat → Int64) : ∃ w1, f_Arrays_fillJ 57 x (bh v w) = some (bh v w1) ∧ (∀ p, p ≠ 57 → w1 p = w p) ∧ ∀ j, j < 10 → w1 57 j = x := by
  have key : ∀ (k fuel i : Nat) (w : Nat → Nat → Int64), k < fuel → i + k = 10 → ∃ w1, f_Arrays_fillJ_6 fuel 57 x (nI i) (nI 10) (bh v w) = some (bh v w1) ∧ (∀ p, p ≠ 57 → w1 p = w p) ∧ (∀ j, i ≤ j → j < 10 → w1 57 j = x) ∧ ∀ j, j < i → w1 57 j = w 57 j := by
    intro k
    induction k with
    | zero =>
      intro fuel i w hf hi
      obtain ⟨m, rfl⟩ : ∃ m, fuel = m + 1 := ⟨fuel - 1, by omega⟩
      simp only [f_Arrays_fillJ_6, f_Arrays_fillJ_6b]
      rw [if_pos ((nI_leI (by omega) (by omega)).mpr (by omega))]
      exact ⟨w, rfl, fun _ _ => rfl, fun j _ _ => by omega, fun _ _ => rfl⟩
    | succ k ih =>
      intro fuel i w hf hi
      obtain ⟨m, rfl⟩ : ∃ m, fuel = m + 1 := ⟨fuel - 1, by omega⟩
      simp only [f_Arrays_fillJ_6, f_Arrays_fillJ_6b, hQ v w]
      rw [if_neg (fun z => by have := (nI_leI (by omega) (by omega)).mp z; omega), wrL_nI (by omega) (by omega), bd1_s, nI_1]
      obtain ⟨w1, e1, f1, f2, f3⟩ := ih m (i + 1) (u2L w 57 i x) (by omega) (by omega)
      refine ⟨w1, e1, fun p hp => (f1 p hp).trans (u2L_o hp), fun j h1 h2 => ?_, fun j hj => (f3 j (by omega)).trans (u2L_n (by omega))⟩
      by_cases e : j = i
      · subst e; exact (f3 j (by omega)).trans (u2L_at _ _ _ _)
      · exact f2 j (by omega) h2
  obtain ⟨w1, e1, f1, f2, -⟩ := key 10 FU 0 w (by decide) (by omega)
  refine ⟨w1, ?_, f1, fun j hj => f2 j (by omega) hj⟩
  simp only [f_Arrays_fillJ, f_Arrays_fillJ_0]
  rw [show aN (bh v w) 3 57 = some (nI 10) from rfl, bd1_s]
  exact e1
theorem C_weigh {ρ : Rho} (hr : CR 3 ρ v) (hk : ROK ρ) {l : Nat} (hl : l < ρ 0 0) : ∃ w', f_Odds_weigh 56 3 (nI l) (bh v w) = some (bh v w') ∧ w' 56 0 = nL (lkS ρ l / Nat.gcd (lkS ρ l) (lkA ρ l)) ∧ w' 56 1 = nL (lkA ρ l / Nat.gcd (lkS ρ l) (lkA ρ l)) := by
  obtain ⟨w1, e1, f1, g1⟩ := fill_J 0 v w
  simp only [f_Odds_weigh, f_Odds_weigh_0, hQ v w, bd1_s]
  rw [e1, bd1_s]
  simp only [hQ v w1, bd1_s]
  rw [show (0 : Int32) = nI 0 from rfl, wrL_nI (by decide) (by decide), bd1_s]
  simp only [hQ v (u2L w1 57 0 1), bd1_s]
  refine C_people hr hk hl (ρ 0 1) FU 0 1 W0 _ (by have := hk.1.2.1; unfold FU; omega) (by omega) (fun i hi => ?_) (u2L_at _ _ _ _) rfl (Nat.one_mul _)
  rw [u2L_o (by decide)]
  by_cases e : i = 0
  · subst e; rw [u2L_at]; rfl
  · rw [u2L_n e, g1 i hi]
    unfold W0
    rw [if_neg e]
    rfl
end
