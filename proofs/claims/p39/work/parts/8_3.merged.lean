/-! 8_07.joined -/
section
/-! 8w.rota3.lean.txt -/
section
section
variable {ρ : Rho} {v : Nat → Nat → Int32} {w : Nat → Nat → Int64} {T : Nat → Nat} {s A B C : Nat}
theorem M_bLoop (hk : ROK ρ) (hA : A < 16) (hB : B < 16) (hC : C < 16) (rec5 : Nat → Int32 → mH → Option (Int32 × mH)) (rec11 : Nat → Int32 → Int32 → mH → Option (Int32 × mH)) {l a : Nat} (hl : l ≤ ρ 0 0) (ha : a ≤ A) : ∀ (k fuel b : Nat) (v : Nat → Nat → Int32), k < fuel → b + k = B + 1 → rBase ρ s T A B C v → rP ρ s A B C l a b 0 v → ∃ v', f_M_findRota_23 rec5 rec11 fuel 100 (nI l) (nI a) (nI b) (bh v w) = rec11 100 (nI l) (nI (a + 1)) (bh v' w) ∧ rP ρ s A B C l (a + 1) 0 0 v' ∧ ∀ q, q ≠ 115 → v' q = v q := by
  intro k
  induction k with
  | zero =>
    intro fuel b v hf hbk hb hp
    obtain ⟨n, rfl⟩ : ∃ n, fuel = n + 1 := ⟨fuel - 1, by omega⟩
    refine ⟨v, ?_, fun l' a' b' c' q1 q2 q3 q4 q5 => hp l' a' b' c' q1 q2 q3 q4 (by omega), fun _ _ => rfl⟩
    show f_M_findRota_23b rec5 rec11 (f_M_findRota_23 rec5 rec11 n) 100 (nI l) (nI a) (nI b) (bh v w) = _
    unfold f_M_findRota_23b
    simp only [hM v w, bd1_s]
    have e2 : rd (v 117) 3 (1 : Int32) = some (nI B) := by rw [← hb.2.2.2.1]; rfl
    rw [e2, bd1_s, if_pos ((nI_ltI (by omega) (by omega)).mpr (by omega)), nI_1]
  | succ k ih =>
    intro fuel b v hf hbk hb hp
    obtain ⟨n, rfl⟩ : ∃ n, fuel = n + 1 := ⟨fuel - 1, by omega⟩
    obtain ⟨v1, e1, p1, q1⟩ := M_cLoop (w := w) hk hA hB hC rec5 rec11 (f_M_findRota_23 rec5 rec11 n) hl ha (show b ≤ B by omega) (C + 1) FU 0 v (by unfold FU; omega) (by omega) hb hp
    obtain ⟨v2, e2, p2, q2⟩ := ih n (b + 1) v1 (by omega) (by omega) (hb.frame q1) p1
    refine ⟨v2, ?_, p2, fun q hq => (q2 q hq).trans (q1 q hq)⟩
    show f_M_findRota_23b rec5 rec11 (f_M_findRota_23 rec5 rec11 n) 100 (nI l) (nI a) (nI b) (bh v w) = _
    unfold f_M_findRota_23b
    simp only [hM v w, bd1_s]
    have e3 : rd (v 117) 3 (1 : Int32) = some (nI B) := by rw [← hb.2.2.2.1]; rfl
    rw [e3, bd1_s, if_neg (fun z => by have := (nI_ltI (by omega) (by omega)).mp z; omega)]
    exact e1.trans e2
theorem M_aLoop (hk : ROK ρ) (hA : A < 16) (hB : B < 16) (hC : C < 16) (rec5 : Nat → Int32 → mH → Option (Int32 × mH)) {l : Nat} (hl : l ≤ ρ 0 0) : ∀ (k fuel a : Nat) (v : Nat → Nat → Int32), k < fuel → a + k = A + 1 → rBase ρ s T A B C v → rP ρ s A B C l a 0 0 v → ∃ v', f_M_findRota_11 rec5 fuel 100 (nI l) (nI a) (bh v w) = rec5 100 (nI l + -1) (bh v' w) ∧ rP ρ s A B C l (A + 1) 0 0 v' ∧ ∀ q, q ≠ 115 → v' q = v q := by
  intro k
  induction k with
  | zero =>
    intro fuel a v hf hbk hb hp
    obtain ⟨n, rfl⟩ : ∃ n, fuel = n + 1 := ⟨fuel - 1, by omega⟩
    refine ⟨v, ?_, fun l' a' b' c' q1 q2 q3 q4 q5 => hp l' a' b' c' q1 q2 q3 q4 (by omega), fun _ _ => rfl⟩
    show f_M_findRota_11b rec5 (f_M_findRota_11 rec5 n) 100 (nI l) (nI a) (bh v w) = _
    unfold f_M_findRota_11b
    simp only [hM v w, bd1_s]
    have e2 : rd (v 117) 3 (0 : Int32) = some (nI A) := by rw [← hb.2.2.1]; rfl
    rw [e2, bd1_s, if_pos ((nI_ltI (by omega) (by omega)).mpr (by omega))]
  | succ k ih =>
    intro fuel a v hf hbk hb hp
    obtain ⟨n, rfl⟩ : ∃ n, fuel = n + 1 := ⟨fuel - 1, by omega⟩
    obtain ⟨v1, e1, p1, q1⟩ := M_bLoop (w := w) hk hA hB hC rec5 (f_M_findRota_11 rec5 n) hl (show a ≤ A by omega) (B + 1) FU 0 v (by unfold FU; omega) (by omega) hb hp
    obtain ⟨v2, e2, p2, q2⟩ := ih n (a + 1) v1 (by omega) (by omega) (hb.frame q1) p1
    refine ⟨v2, ?_, p2, fun q hq => (q2 q hq).trans (q1 q hq)⟩
    show f_M_findRota_11b rec5 (f_M_findRota_11 rec5 n) 100 (nI l) (nI a) (bh v w) = _
    unfold f_M_findRota_11b
    simp only [hM v w, bd1_s]
    have e3 : rd (v 117) 3 (0 : Int32) = some (nI A) := by rw [← hb.2.2.1]; rfl
    rw [e3, bd1_s, if_neg (fun z => by have := (nI_ltI (by omega) (by omega)).mp z; omega)]
    exact e1.trans e2
/-- the whole table -/
def rAll (ρ : Rho) (s A B C : Nat) (v : Nat → Nat → Int32) : Prop := ∀ l a b c, l ≤ ρ 0 0 → a ≤ A → b ≤ B → c ≤ C → v 115 (atN l a b c) = nI (rBst ρ s (ρ 0 0 - l) a b c)
theorem M_fLast (hk : ROK ρ) (hA : A < 16) (hB : B < 16) (hC : C < 16) : ∀ (n : Nat) (v : Nat → Nat → Int32), rBase ρ s T A B C v → rAll ρ s A B C v → f_M_findRota_5 (n + 1) 100 (-1) (bh v w) = some (nI (rBst ρ s (ρ 0 0) A B C), bh v w) := by
    have h1 := hk.1.1
    intro n v hb ha
    show f_M_findRota_5b (f_M_findRota_5 n) 100 (-1) (bh v w) = _
    unfold f_M_findRota_5b
    rw [if_pos (by decide)]
    have g27 : gR (bh v w) 100 8 27 = some 115 := rfl
    have g29 : gR (bh v w) 100 8 29 = some 117 := rfl
    have a117 : ∀ i, aI (bh v w) 0 117 i = rd (v 117) 3 i := aI_bh rfl
    have a115 : ∀ i, aI (bh v w) 0 115 i = rd (v 115) 24576 i := aI_bh rfl
    have e0 : rd (v 117) 3 (0 : Int32) = some (nI A) := by rw [← hb.2.2.1]; rfl
    have e1 : rd (v 117) 3 (1 : Int32) = some (nI B) := by rw [← hb.2.2.2.1]; rfl
    have e2 : rd (v 117) 3 (2 : Int32) = some (nI C) := by rw [← hb.2.2.2.2]; rfl
    have eat : f_M_at 0 (nI A) (nI B) (nI C) (bh v w) = some (nI (atN 0 A B C), bh v w) := M_at 0 A B C _
    have hat : atN 0 A B C < 24576 := by
      have : atN 0 A B C = (A * 16 + B) * 16 + C := by unfold atN; rw [Nat.mul_zero, Nat.zero_add]
      omega
    have hal := ha 0 A B C (Nat.zero_le _) (Nat.le_refl _) (Nat.le_refl _) (Nat.le_refl _)
    rw [Nat.sub_zero] at hal
    generalize atN 0 A B C = u at eat hat hal
    rw [g27, bd1_s, g29, bd1_s, a117, e0, bd1_s, bd1_s, a117, e1, bd1_s, bd1_s, a117, e2, bd1_s, eat, bd2_s, a115, rd_nI hat (by decide), bd1_s, hal]
theorem M_fKey (hk : ROK ρ) (hA : A < 16) (hB : B < 16) (hC : C < 16) : ∀ (l fuel : Nat) (v : Nat → Nat → Int32), l + 1 < fuel → l ≤ ρ 0 0 → rBase ρ s T A B C v → rP ρ s A B C l 0 0 0 v → ∃ v', f_M_findRota_5 fuel 100 (nI l) (bh v w) = some (nI (rBst ρ s (ρ 0 0) A B C), bh v' w) ∧ rAll ρ s A B C v' ∧ ∀ q, q ≠ 115 → v' q = v q := by
    have h1 := hk.1.1
    intro l
    induction l with
    | zero =>
      intro fuel v hf hl hb hp
      obtain ⟨n, rfl⟩ : ∃ n, fuel = n + 1 + 1 := ⟨fuel - 2, by omega⟩
      obtain ⟨v1, e1, p1, q1⟩ := M_aLoop (w := w) hk hA hB hC (f_M_findRota_5 (n + 1)) hl (A + 1) FU 0 v (by unfold FU; omega) (by omega) hb hp
      have al : rAll ρ s A B C v1 := fun l a b c z1 z2 z3 z4 => p1 l a b c z1 z2 z3 z4 (by omega)
      refine ⟨v1, ?_, al, q1⟩
      show f_M_findRota_5b (f_M_findRota_5 (n + 1)) 100 (nI 0) (bh v w) = _
      unfold f_M_findRota_5b
      rw [if_neg (by decide)]
      rw [show nI 0 + (-1 : Int32) = -1 by decide] at e1
      exact e1.trans (M_fLast hk hA hB hC n v1 (hb.frame q1) al)
    | succ l ih =>
      intro fuel v hf hl hb hp
      obtain ⟨n, rfl⟩ : ∃ n, fuel = n + 1 := ⟨fuel - 1, by omega⟩
      obtain ⟨v1, e1, p1, q1⟩ := M_aLoop (w := w) hk hA hB hC (f_M_findRota_5 n) hl (A + 1) FU 0 v (by unfold FU; omega) (by omega) hb hp
      obtain ⟨v2, e2, p2, q2⟩ := ih n v1 (by omega) (by omega) (hb.frame q1) (fun l' a b c z1 z2 z3 z4 z5 => p1 l' a b c z1 z2 z3 z4 (by omega))
      refine ⟨v2, ?_, p2, fun q hq => (q2 q hq).trans (q1 q hq)⟩
      show f_M_findRota_5b (f_M_findRota_5 n) 100 (nI (l + 1)) (bh v w) = _
      unfold f_M_findRota_5b
      rw [if_neg (fun z => by have := (nI_ltI (a := l + 1) (b := 0) (by omega) (by omega)).mp z; omega)]
      rw [m1_I l (by omega)] at e1
      exact e1.trans e2
theorem M_findRota (hk : ROK ρ) (hA : A < 16) (hB : B < 16) (hC : C < 16) (hb : rBase ρ s T A B C v) : ∃ v', f_M_findRota 100 (bh v w) = some (nI (rBst ρ s (ρ 0 0) A B C), bh v' w) ∧ rAll ρ s A B C v' ∧ ∀ q, q ≠ 115 → v' q = v q := by
  have h1 := hk.1.1
  obtain ⟨v', e1, p1, q1⟩ := M_fKey (w := w) hk hA hB hC (ρ 0 0) FU v (by unfold FU; omega) (Nat.le_refl _) hb (fun l a b c z1 _ _ _ z5 => by omega)
  refine ⟨v', ?_, p1, q1⟩
  simp only [f_M_findRota, f_M_findRota_0, hM v w, bd1_s]
  rw [hb.1.1.1]
  exact e1
/-- time left, with other TIMES -/
def rL (ρ : Rho) (T : Nat → Nat) (p : Nat) : Nat := if p < ρ 0 1 then T p - sAll ρ p else 0
theorem N_timeLeft (hr : MRt T ρ v) (hk : ROK ρ) {p : Nat} (hp : p < ρ 0 1) (hT : T p ≤ 20) : f_M_timeLeft 100 (nI p) (bh v w) = some (nI (T p - sAll ρ p), bh v w) := by
  have h2 := hk.1.2.1
  have hs : sAll ρ p ≤ 5 := (hk.2.2.1 p hp).2.2.2.2.2.2
  have a12 : v 101 (12 + p) = nI (T p) := by have := hr.2.2.2.2.2.1 p hp; rwa [show 0 + 12 + p = 12 + p by omega] at this
  simp only [f_M_timeLeft, f_M_timeLeft_0, hM v w, bd1_s]
  rw [show (12 : Int32) = nI 12 from rfl, nI_add, rd_nI (by omega) (by decide), bd1_s, a12, N_allBy hr hk hp, bd2_s, ← zI_n (T p), zI_subn]
  by_cases h : sAll ρ p ≤ T p
  · rw [if_pos ((zI_ge (by omega) (by omega)).mpr (by omega)), show ((T p : Nat) : Int) - (sAll ρ p : Nat) = ((T p - sAll ρ p : Nat) : Int) by omega, zI_n]
  · rw [if_neg (fun z => by have := (zI_ge (by omega) (by omega)).mp z; omega), show T p - sAll ρ p = 0 by omega]
    rfl
theorem M_startsRota (hr : MRt T ρ v) (hk : ROK ρ) (hT : ∀ p, p < ρ 0 1 → T p ≤ 20) {s : Nat} (hs : s < 32) : ∃ v', f_M_startsRota 100 (nI s) (bh v w) = some (bh v' w) ∧ rBase ρ s T (rL ρ T 0) (rL ρ T 1) (rL ρ T 2) v' ∧ ∀ q, q ≠ 116 → q ≠ 117 → v' q = v q := by
  have h1 := hk.1.1
  have h2 := hk.1.2.1
  have lf : ∀ (k fuel p : Nat) (v : Nat → Nat → Int32), k < fuel → p + k = 3 → MRt T ρ v → (∀ j, j < p → v 117 j = nI (rL ρ T j)) → ∃ v', f_M_startsRota_42 fuel 100 (nI p) (bh v w) = some (bh v' w) ∧ (∀ j, j < 3 → v' 117 j = nI (rL ρ T j)) ∧ ∀ q, q ≠ 117 → v' q = v q := by
    intro k
    induction k with
    | zero =>
      intro fuel p v hf hp hr hj
      obtain ⟨n, rfl⟩ : ∃ n, fuel = n + 1 := ⟨fuel - 1, by omega⟩
      refine ⟨v, ?_, fun j z => hj j (by omega), fun _ _ => rfl⟩
      simp only [f_M_startsRota_42, f_M_startsRota_42b]
      rw [show (3 : Int32) = nI 3 from rfl, if_pos ((nI_leI (by omega) (by omega)).mpr (by omega))]
    | succ k ih =>
      intro fuel p v hf hp hr hj
      obtain ⟨n, rfl⟩ : ∃ n, fuel = n + 1 := ⟨fuel - 1, by omega⟩
      have nx : ∃ v', f_M_startsRota_42 n 100 (nI (p + 1)) (bh (u2 v 117 p (nI (rL ρ T p))) w) = some (bh v' w) ∧ (∀ j, j < 3 → v' 117 j = nI (rL ρ T j)) ∧ ∀ q, q ≠ 117 → v' q = v q := by
        have hj' : ∀ j, j < p + 1 → u2 v 117 p (nI (rL ρ T p)) 117 j = nI (rL ρ T j) := by
          intro j z
          by_cases e : j = p
          · subst e; rw [u2_at]
          · rw [u2_n e]; exact hj j (by omega)
        obtain ⟨v', e1, e2, e3⟩ := ih n (p + 1) (u2 v 117 p (nI (rL ρ T p))) (by omega) (by omega) (hr.frame (fun q z => u2_o (by omega))) hj'
        exact ⟨v', e1, e2, fun q hq => (e3 q hq).trans (u2_o hq)⟩
      simp only [f_M_startsRota_42, f_M_startsRota_42b, f_M_startsRota_69, hM v w, bd1_s]
      rw [show (3 : Int32) = nI 3 from rfl, if_neg (fun z => by have := (nI_leI (by omega) (by omega)).mp z; omega), hr.1.2.1, ite_iff (nI_leI (by omega) (by omega))]
      by_cases g : ρ 0 1 ≤ p
      · rw [if_pos g, wr_nI (by omega) (by decide), bd1_s, nI_1]
        have e : rL ρ T p = 0 := by unfold rL; rw [if_neg (by omega)]
        rw [e] at nx
        exact nx
      · rw [if_neg g, N_timeLeft hr hk (by omega) (hT p (by omega)), bd2_s]
        simp only [hM v w, bd1_s]
        rw [wr_nI (by omega) (by decide), bd1_s, nI_1]
        have e : rL ρ T p = T p - sAll ρ p := by unfold rL; rw [if_pos (by omega)]
        rw [e] at nx
        exact nx
  have nd : ∀ (k fuel l : Nat) (v : Nat → Nat → Int32), k < fuel → l + k = ρ 0 0 → MRt T ρ v → (∀ j, j < l → v 116 j = nI (rN ρ s j)) → ∃ v', f_M_startsRota_2 fuel 100 (nI s) (nI l) (bh v w) = some (bh v' w) ∧ rBase ρ s T (rL ρ T 0) (rL ρ T 1) (rL ρ T 2) v' ∧ ∀ q, q ≠ 116 → q ≠ 117 → v' q = v q := by
    intro k
    induction k with
    | zero =>
      intro fuel l v hf hl hr hj
      obtain ⟨n, rfl⟩ : ∃ n, fuel = n + 1 := ⟨fuel - 1, by omega⟩
      obtain ⟨v', e1, e2, e3⟩ := lf 3 FU 0 v (by decide) (by omega) hr (fun j z => by omega)
      refine ⟨v', ?_, ⟨hr.frame (fun q z => e3 q (by omega)), fun j z => ?_, e2 0 (by decide), e2 1 (by decide), e2 2 (by decide)⟩, fun q _ hq => e3 q hq⟩
      · simp only [f_M_startsRota_2, f_M_startsRota_2b, hM v w, bd1_s]
        rw [hr.1.1, if_pos (nI_le (by omega) (by omega))]
        exact e1
      · rw [e3 116 (by decide)]; exact hj j (by omega)
    | succ k ih =>
      intro fuel l v hf hl hr hj
      obtain ⟨n, rfl⟩ : ∃ n, fuel = n + 1 := ⟨fuel - 1, by omega⟩
      have hl2 : l < ρ 0 0 := by omega
      have nx : ∃ v', f_M_startsRota_2 n 100 (nI s) (nI (l + 1)) (bh (u2 v 116 l (nI (rN ρ s l))) w) = some (bh v' w) ∧ rBase ρ s T (rL ρ T 0) (rL ρ T 1) (rL ρ T 2) v' ∧ ∀ q, q ≠ 116 → q ≠ 117 → v' q = v q := by
        have hj' : ∀ j, j < l + 1 → u2 v 116 l (nI (rN ρ s l)) 116 j = nI (rN ρ s j) := by
          intro j z
          by_cases e : j = l
          · subst e; rw [u2_at]
          · rw [u2_n e]; exact hj j (by omega)
        obtain ⟨v', e1, e2, e3⟩ := ih n (l + 1) (u2 v 116 l (nI (rN ρ s l))) (by omega) (by omega) (hr.frame (fun q z => u2_o (by omega))) hj'
        exact ⟨v', e1, e2, fun q hq h2 => (e3 q hq h2).trans (u2_o hq)⟩
      simp only [f_M_startsRota_2, f_M_startsRota_2b, f_M_startsRota_33, hM v w, bd1_s]
      rw [hr.1.1, if_neg (nI_ge (by omega) (by omega)), bit_I (by omega) (by omega), ite_iff (nI_eq1 (by have := bit_lt s l; omega))]
      by_cases g : bit s l = 1
      · rw [if_pos g, N_needOf hr hk hl2, bd2_s]
        simp only [hM v w, bd1_s]
        rw [wr_nI (by omega) (by decide), bd1_s, nI_1]
        have e : rN ρ s l = sNeed ρ l := by unfold rN; rw [if_pos g]
        rw [e] at nx
        exact nx
      · rw [if_neg g, wr_nI (by omega) (by decide), bd1_s, nI_1]
        have e : rN ρ s l = 0 := by unfold rN; rw [if_neg g]
        rw [e] at nx
        exact nx
  exact nd (ρ 0 0) FU 0 v (by unfold FU; omega) (by omega) hr (fun j z => by omega)
end
end
/-! 8x1.text1.lean.txt -/
section
theorem hT0 (v : Nat → Nat → Int32) (w : Nat → Nat → Int64) : kC (bh v w) 1 3 = some () ∧ gR (bh v w) 1 3 0 = some 2 ∧ gI (bh v w) 1 3 1 = some (v 1 1) ∧ (∀ x, pV (bh v w) 1 3 1 (.int x) = some (bh (u2 v 1 1 x) w)) ∧ gI (bh v w) 1 3 2 = some (v 1 2) ∧ (∀ x, pV (bh v w) 1 3 2 (.int x) = some (bh (u2 v 1 2 x) w)) ∧ gI (bh v w) 1 3 3 = some (v 1 3) ∧ (∀ x, pV (bh v w) 1 3 3 (.int x) = some (bh (u2 v 1 3 x) w)) ∧ gI (bh v w) 1 3 4 = some (v 1 4) ∧ (∀ x, pV (bh v w) 1 3 4 (.int x) = some (bh (u2 v 1 4 x) w)) ∧ gI (bh v w) 1 3 5 = some (v 1 5) ∧ (∀ x, pV (bh v w) 1 3 5 (.int x) = some (bh (u2 v 1 5 x) w)) ∧ gI (bh v w) 1 3 6 = some (v 1 6) ∧ (∀ x, pV (bh v w) 1 3 6 (.int x) = some (bh (u2 v 1 6 x) w)) ∧ gI (bh v w) 1 3 7 = some (v 1 7) ∧ (∀ x, pV (bh v w) 1 3 7 (.int x) = some (bh (u2 v 1 7 x) w)) ∧ gI (bh v w) 1 3 8 = some (v 1 8) ∧ (∀ x, pV (bh v w) 1 3 8 (.int x) = some (bh (u2 v 1 8 x) w)) ∧ (∀ i, aI (bh v w) 1 2 i = rd (v 2) 160 i) := ⟨rfl, rfl, rfl, (fun _ => pV_bh rfl rfl), rfl, (fun _ => pV_bh rfl rfl), rfl, (fun _ => pV_bh rfl rfl), rfl, (fun _ => pV_bh rfl rfl), rfl, (fun _ => pV_bh rfl rfl), rfl, (fun _ => pV_bh rfl rfl), rfl, (fun _ => pV_bh rfl rfl), rfl, (fun _ => pV_bh rfl rfl), aI_bh rfl⟩
theorem hN0 (v : Nat → Nat → Int32) (w : Nat → Nat → Int64) : kC (bh v w) 100 8 = some () ∧ gI (bh v w) 100 8 2 = some (v 100 2) ∧ (∀ x, pV (bh v w) 100 8 2 (.int x) = some (bh (u2 v 100 2 x) w)) ∧ gI (bh v w) 100 8 3 = some (v 100 3) ∧ (∀ x, pV (bh v w) 100 8 3 (.int x) = some (bh (u2 v 100 3 x) w)) ∧ gI (bh v w) 100 8 10 = some (v 100 10) ∧ (∀ x, pV (bh v w) 100 8 10 (.int x) = some (bh (u2 v 100 10 x) w)) ∧ gI (bh v w) 100 8 11 = some (v 100 11) ∧ (∀ x, pV (bh v w) 100 8 11 (.int x) = some (bh (u2 v 100 11 x) w)) ∧ gI (bh v w) 100 8 17 = some (v 100 17) ∧ (∀ x, pV (bh v w) 100 8 17 (.int x) = some (bh (u2 v 100 17 x) w)) ∧ gI (bh v w) 100 8 18 = some (v 100 18) ∧ (∀ x, pV (bh v w) 100 8 18 (.int x) = some (bh (u2 v 100 18 x) w)) ∧ gI (bh v w) 100 8 20 = some (v 100 20) ∧ (∀ x, pV (bh v w) 100 8 20 (.int x) = some (bh (u2 v 100 20 x) w)) ∧ gI (bh v w) 100 8 21 = some (v 100 21) ∧ (∀ x, pV (bh v w) 100 8 21 (.int x) = some (bh (u2 v 100 21 x) w)) ∧ gI (bh v w) 100 8 22 = some (v 100 22) ∧ (∀ x, pV (bh v w) 100 8 22 (.int x) = some (bh (u2 v 100 22 x) w)) ∧ gI (bh v w) 100 8 23 = some (v 100 23) ∧ (∀ x, pV (bh v w) 100 8 23 (.int x) = some (bh (u2 v 100 23 x) w)) ∧ gI (bh v w) 100 8 24 = some (v 100 24) ∧ (∀ x, pV (bh v w) 100 8 24 (.int x) = some (bh (u2 v 100 24 x) w)) ∧ gI (bh v w) 100 8 25 = some (v 100 25) ∧ (∀ x, pV (bh v w) 100 8 25 (.int x) = some (bh (u2 v 100 25 x) w)) ∧ gI (bh v w) 100 8 26 = some (v 100 26) ∧ (∀ x, pV (bh v w) 100 8 26 (.int x) = some (bh (u2 v 100 26 x) w)) ∧ gR (bh v w) 100 8 0 = some 101 ∧ gR (bh v w) 100 8 1 = some 102 ∧ gR (bh v w) 100 8 4 = some 103 ∧ gR (bh v w) 100 8 5 = some 104 ∧ gR (bh v w) 100 8 6 = some 105 ∧ gR (bh v w) 100 8 7 = some 106 ∧ gR (bh v w) 100 8 8 = some 107 ∧ gR (bh v w) 100 8 9 = some 108 ∧ gR (bh v w) 100 8 12 = some 109 ∧ gR (bh v w) 100 8 13 = some 110 ∧ gR (bh v w) 100 8 14 = some 111 ∧ gR (bh v w) 100 8 15 = some 112 ∧ gR (bh v w) 100 8 16 = some 113 ∧ gR (bh v w) 100 8 19 = some 114 ∧ (∀ i, aI (bh v w) 0 108 i = rd (v 108) 66 i) ∧ (∀ i x, sI (bh v w) 0 108 i x = wr v w 108 66 i x) ∧ (∀ i, aI (bh v w) 0 109 i = rd (v 109) 5 i) ∧ (∀ i x, sI (bh v w) 0 109 i x = wr v w 109 5 i x) ∧ (∀ i, aI (bh v w) 0 110 i = rd (v 110) 5 i) ∧ (∀ i x, sI (bh v w) 0 110 i x = wr v w 110 5 i x) ∧ (∀ i, aI (bh v w) 0 111 i = rd (v 111) 5 i) ∧ (∀ i x, sI (bh v w) 0 111 i x = wr v w 111 5 i x) ∧ (∀ i, aI (bh v w) 0 112 i = rd (v 112) 3 i) ∧ (∀ i x, sI (bh v w) 0 112 i x = wr v w 112 3 i x) ∧ (∀ i, aI (bh v w) 0 113 i = rd (v 113) 3 i) ∧ (∀ i x, sI (bh v w) 0 113 i x = wr v w 113 3 i x) ∧ (∀ i, aI (bh v w) 0 114 i = rd (v 114) 160 i) := ⟨rfl, rfl, (fun _ => pV_bh rfl rfl), rfl, (fun _ => pV_bh rfl rfl), rfl, (fun _ => pV_bh rfl rfl), rfl, (fun _ => pV_bh rfl rfl), rfl, (fun _ => pV_bh rfl rfl), rfl, (fun _ => pV_bh rfl rfl), rfl, (fun _ => pV_bh rfl rfl), rfl, (fun _ => pV_bh rfl rfl), rfl, (fun _ => pV_bh rfl rfl), rfl, (fun _ => pV_bh rfl rfl), rfl, (fun _ => pV_bh rfl rfl), rfl, (fun _ => pV_bh rfl rfl), rfl, (fun _ => pV_bh rfl rfl), rfl, rfl, rfl, rfl, rfl, rfl, rfl, rfl, rfl, rfl, rfl, rfl, rfl, rfl, aI_bh rfl, sI_bh rfl, aI_bh rfl, sI_bh rfl, aI_bh rfl, sI_bh rfl, aI_bh rfl, sI_bh rfl, aI_bh rfl, sI_bh rfl, aI_bh rfl, sI_bh rfl, aI_bh rfl⟩
theorem bd1_q {α β : Type} (a : α) (f : α → Option β) : bd1 (some a) f = f a := Option.some.inj (show some (bd1 (some a) f) = some (f a) from rfl)
theorem bd2_q {α β γ : Type} (a : α) (c : γ) (f : α → γ → Option β) : bd2 (some (a, c)) f = f a c := Option.some.inj (show some (bd2 (some (a, c)) f) = some (f a c) from rfl)
/-! THE TAPE: how it is read, said of numbers -/
abbrev Fa : Type := Nat × Nat
def sb {α β : Type} (x : Fa ⊕ α) (f : α → Fa ⊕ β) : Fa ⊕ β := match x with
  | .inl e => .inl e
  | .inr a => f a
theorem sb_l {α β : Type} (e : Fa) (f : α → Fa ⊕ β) : sb (.inl e) f = .inl e := rfl
theorem sb_r {α β : Type} (a : α) (f : α → Fa ⊕ β) : sb (.inr a) f = f a := rfl
def ru (tp : Nat → Nat) (lo hi : Nat) : Nat → Nat → Nat
  | 0, i => i
  | n + 1, i => if lo ≤ tp i ∧ tp i ≤ hi then ru tp lo hi n (i + 1) else i
abbrev Tp : Type := Nat × (Nat → Nat)
def rn (K : Tp) (lo hi i : Nat) : Nat := ru K.2 lo hi (K.1 - i) i
def sT (K : Tp) (P : Nat) : Nat := rn K 32 32 P
def kc (K : Tp) (s : Nat) : Nat := if s < K.1 then (if K.2 s = 59 then 3 else if 97 ≤ K.2 s ∧ K.2 s ≤ 122 then 1 else if 48 ≤ K.2 s ∧ K.2 s ≤ 57 then 2 else 4) else 0
def kD (K : Tp) (P : Nat) : Nat := kc K (sT K P)
def eN (K : Tp) (P : Nat) : Nat := if kD K P = 1 then rn K 97 122 (sT K P) else if kD K P = 2 then rn K 48 57 (sT K P) else if kD K P = 3 then sT K P + 1 else sT K P
def vL (K : Tp) (P : Nat) : Nat := if eN K P = sT K P + 1 then K.2 (sT K P) - 48 else 10 * (K.2 (sT K P) - 48) + (K.2 (sT K P + 1) - 48)
def bad (K : Tp) (P : Nat) : Prop := kD K P = 4 ∨ kD K P = 2 ∧ sT K P + 2 < eN K P
theorem bad_dec (K : Tp) (P : Nat) : bad K P ∨ ¬ bad K P := by unfold bad; omega
def tokX (K : Tp) (P : Nat) : Fa ⊕ Unit := if kD K P = 4 ∨ kD K P = 2 ∧ sT K P + 2 < eN K P then .inl (1, sT K P) else .inr ()
theorem ru_b (tp : Nat → Nat) (lo hi : Nat) : ∀ n i, i ≤ ru tp lo hi n i ∧ ru tp lo hi n i ≤ i + n
  | 0, i => ⟨Nat.le_refl _, Nat.le_refl _⟩
  | n + 1, i => by
    have := ru_b tp lo hi n (i + 1)
    unfold ru
    split <;> omega
theorem ru_in (tp : Nat → Nat) (lo hi : Nat) : ∀ n i j, i ≤ j → j < ru tp lo hi n i → lo ≤ tp j ∧ tp j ≤ hi
  | 0, i, j, h1, h2 => by unfold ru at h2; omega
  | n + 1, i, j, h1, h2 => by
    unfold ru at h2
    split at h2
    · next c =>
      by_cases e : j = i
      · subst e; exact c
      · exact ru_in tp lo hi n (i + 1) j (by omega) h2
    · omega
theorem rn_b {K : Tp} {lo hi i : Nat} (h : i ≤ K.1) : i ≤ rn K lo hi i ∧ rn K lo hi i ≤ K.1 := by
  have := ru_b K.2 lo hi (K.1 - i) i
  unfold rn
  omega
theorem rn_1 {K : Tp} {lo hi i : Nat} (h : i < K.1) (c : lo ≤ K.2 i ∧ K.2 i ≤ hi) : i + 1 ≤ rn K lo hi i := by
  unfold rn
  obtain ⟨n, e⟩ : ∃ n, K.1 - i = n + 1 := ⟨K.1 - i - 1, by omega⟩
  rw [e]
  unfold ru
  rw [if_pos c]
  exact (ru_b K.2 lo hi n (i + 1)).1
theorem rn_in {K : Tp} {lo hi i j : Nat} (h1 : i ≤ j) (h2 : j < rn K lo hi i) : lo ≤ K.2 j ∧ K.2 j ≤ hi := ru_in _ _ _ _ _ _ h1 h2
theorem sT_b {K : Tp} {P : Nat} (h : P ≤ K.1) : P ≤ sT K P ∧ sT K P ≤ K.1 := rn_b h
theorem kc_s {K : Tp} {s : Nat} : (kc K s = 0 ↔ K.1 ≤ s) ∧ (kc K s = 1 → 97 ≤ K.2 s ∧ K.2 s ≤ 122) ∧ (kc K s = 2 → 48 ≤ K.2 s ∧ K.2 s ≤ 57) ∧ (kc K s = 3 → K.2 s = 59) ∧ kc K s ≤ 4 := by
  unfold kc
  split
  · split
    · omega
    · split
      · omega
      · split <;> omega
  · omega
theorem eN_b {K : Tp} {P : Nat} (h : P ≤ K.1) : sT K P ≤ eN K P ∧ eN K P ≤ K.1 ∧ (kD K P ≠ 0 → kD K P ≠ 4 → sT K P + 1 ≤ eN K P) := by
  have hs := sT_b h
  have hk := kc_s (K := K) (s := sT K P)
  unfold eN
  have h1 := rn_b (lo := 97) (hi := 122) hs.2
  have h2 := rn_b (lo := 48) (hi := 57) hs.2
  have e : kD K P = kc K (sT K P) := rfl
  split
  · next c =>
    have := rn_1 (lo := 97) (hi := 122) (K := K) (i := sT K P) (by omega) (hk.2.1 (by omega))
    omega
  · split
    · next c =>
      have := rn_1 (lo := 48) (hi := 57) (K := K) (i := sT K P) (by omega) (hk.2.2.1 (by omega))
      omega
    · split <;> omega
/-- the class's tape -/
def CT (K : Tp) (v : Nat → Nat → Int32) : Prop := v 1 1 = nI K.1 ∧ K.1 ≤ 160 ∧ ∀ j, j < K.1 → v 2 j = nI (K.2 j) ∧ K.2 j ≤ 127
def MT (K : Tp) (v : Nat → Nat → Int32) : Prop := v 100 20 = nI K.1 ∧ K.1 ≤ 160 ∧ ∀ j, j < K.1 → v 114 j = nI (K.2 j) ∧ K.2 j ≤ 127
section
variable {K : Tp} {v : Nat → Nat → Int32} {w : Nat → Nat → Int64}
theorem CT.fr {v' : Nat → Nat → Int32} (h : CT K v) (h1 : v' 1 1 = v 1 1) (h2 : v' 2 = v 2) : CT K v' := by
  unfold CT
  rw [h1, h2]
  exact h
theorem C_run {lo hi : Nat} (hlo : lo ≤ 127) (hhi : hi ≤ 127) : ∀ (n fuel i : Nat) (v : Nat → Nat → Int32), n < fuel → i + n = K.1 → CT K v → v 1 5 = nI i → ∃ v', f_Reader_passRun_0 fuel 1 (nI lo) (nI hi) (bh v w) = some (bh v' w) ∧ v' 1 5 = nI (ru K.2 lo hi n i) ∧ (∀ q, q ≠ 1 → v' q = v q) ∧ ∀ j, j ≠ 5 → v' 1 j = v 1 j := by
  intro n
  induction n with
  | zero =>
    intro fuel i v hf hin hT h5
    obtain ⟨m, rfl⟩ : ∃ m, fuel = m + 1 := ⟨fuel - 1, by omega⟩
    have := hT.2.1
    refine ⟨v, ?_, h5, fun _ _ => rfl, fun _ _ => rfl⟩
    simp only [f_Reader_passRun_0, f_Reader_passRun_0b, hT0 v w, bd1_s]
    rw [h5, hT.1, if_pos ((nI_leI (by omega) (by omega)).mpr (by omega))]
  | succ n ih =>
    intro fuel i v hf hin hT h5
    obtain ⟨m, rfl⟩ : ∃ m, fuel = m + 1 := ⟨fuel - 1, by omega⟩
    have hL := hT.2.1
    obtain ⟨t1, t2⟩ := hT.2.2 i (by omega)
    simp only [f_Reader_passRun_0, f_Reader_passRun_0b, hT0 v w, bd1_s]
    rw [h5, hT.1, if_neg (fun z => by have := (nI_leI (by omega) (by omega)).mp z; omega), rd_nI (by omega) (by decide), bd1_s, bd1_s, t1, ite_iff (nI_ltI (by omega) (by omega)), ite_iff (nI_ltI (by omega) (by omega)), nI_1]
    unfold ru
    by_cases c1 : K.2 i < lo
    · rw [if_pos c1, if_neg (by omega)]
      exact ⟨v, rfl, h5, fun _ _ => rfl, fun _ _ => rfl⟩
    · rw [if_neg c1]
      by_cases c2 : hi < K.2 i
      · rw [if_pos c2, if_neg (by omega)]
        exact ⟨v, rfl, h5, fun _ _ => rfl, fun _ _ => rfl⟩
      · rw [if_neg c2, if_pos (by omega)]
        obtain ⟨v', e1, e2, e3, e4⟩ := ih m (i + 1) (u2 v 1 5 (nI (i + 1))) (by omega) (by omega) (hT.fr (u2_n (by decide)) (u2_o (by decide))) (u2_at _ _ _ _)
        exact ⟨v', e1, e2, fun q hq => (e3 q hq).trans (u2_o hq), fun j hj => (e4 j hj).trans (u2_n hj)⟩
theorem C_passRun {lo hi i : Nat} (hlo : lo ≤ 127) (hhi : hi ≤ 127) (hT : CT K v) (h5 : v 1 5 = nI i) (hin : i ≤ K.1) : ∃ v', f_Reader_passRun 1 (nI lo) (nI hi) (bh v w) = some (bh v' w) ∧ v' 1 5 = nI (rn K lo hi i) ∧ (∀ q, q ≠ 1 → v' q = v q) ∧ ∀ j, j ≠ 5 → v' 1 j = v 1 j := by
  have := hT.2.1
  exact C_run hlo hhi (K.1 - i) FU i v (by unfold FU; omega) (by omega) hT h5
theorem C_kindHere {s : Nat} (hT : CT K v) (h5 : v 1 5 = nI s) (hs : s ≤ K.1) : f_Reader_kindHere 1 (bh v w) = some (nI (kc K s), bh v w) := by
  have hL := hT.2.1
  simp only [f_Reader_kindHere, f_Reader_kindHere_0, f_Reader_kindHere_45, f_Reader_kindHere_61, hT0 v w, bd1_s]
  rw [h5, hT.1, ite_iff (nI_ltI (by omega) (by omega))]
  unfold kc
  by_cases c : s < K.1
  · obtain ⟨t1, t2⟩ := hT.2.2 s c
    rw [if_pos c, if_pos c, rd_nI (by omega) (by decide), bd1_s, t1, show (59 : Int32) = nI 59 from rfl, show (97 : Int32) = nI 97 from rfl, show (122 : Int32) = nI 122 from rfl, show (48 : Int32) = nI 48 from rfl, show (57 : Int32) = nI 57 from rfl, ite_iff (nI_eqI (by omega) (by omega)), ite_iff (nI_ltI (by omega) (by omega)), ite_iff (nI_ltI (by omega) (by omega)), ite_iff (nI_ltI (by omega) (by omega)), ite_iff (nI_ltI (by omega) (by omega))]
    by_cases c1 : K.2 s = 59
    · rw [if_pos c1, if_pos c1]; rfl
    · rw [if_neg c1, if_neg c1]
      by_cases c2 : 97 ≤ K.2 s ∧ K.2 s ≤ 122
      · rw [if_neg (by omega), if_neg (by omega), if_pos c2]; rfl
      · rw [if_neg c2]
        by_cases c3 : 48 ≤ K.2 s ∧ K.2 s ≤ 57
        · rw [if_pos c3, if_pos (by omega), if_neg (by omega), if_neg (by omega)]; rfl
        · rw [if_neg c3]
          by_cases c4 : K.2 s < 97
          · rw [if_pos c4]
            by_cases c5 : K.2 s < 48
            · rw [if_pos c5]; rfl
            · rw [if_neg c5, if_pos (by omega)]; rfl
          · rw [if_neg c4, if_pos (by omega), if_neg (by omega), if_pos (by omega)]; rfl
  · rw [if_neg c, if_neg c]; rfl
end
end
/-! 8x2.text2.lean.txt -/
section
theorem u2_ap (v : Nat → Nat → Int32) (o k : Nat) (x : Int32) (p j : Nat) : u2 v o k x p j = if p = o ∧ j = k then x else v p j := by
  by_cases h : p = o
  · subst h
    by_cases g : j = k
    · subst g
      rw [u2_at, if_pos ⟨rfl, rfl⟩]
    · rw [u2_n g, if_neg (fun z => g z.2)]
  · rw [u2_o h, if_neg (fun z => h z.1)]
def vf (tp : Nat → Nat) : Nat → Int32 → Nat → Int32
  | 0, a, _ => a
  | n + 1, a, i => vf tp n (a * 10 + nI (tp i) - 48) (i + 1)
theorem vf_z (tp : Nat → Nat) (a : Int32) (i : Nat) : vf tp 0 a i = a := rfl
theorem vf_s (tp : Nat → Nat) (n : Nat) (a : Int32) (i : Nat) : vf tp (n + 1) a i = vf tp n (a * 10 + nI (tp i) - 48) (i + 1) := rfl
theorem vf_1 {tp : Nat → Nat} {s : Nat} (h : 48 ≤ tp s) : vf tp 1 0 s = nI (tp s - 48) := by
  show (0 : Int32) * 10 + nI (tp s) - 48 = _
  rw [Int32.zero_mul, Int32.zero_add, show (48 : Int32) = nI 48 from rfl, pk_sub h]
theorem vf_2 {tp : Nat → Nat} {s : Nat} (h : 48 ≤ tp s) (h' : 48 ≤ tp (s + 1)) : vf tp 2 0 s = nI (10 * (tp s - 48) + (tp (s + 1) - 48)) := by
  show (((0 : Int32) * 10 + nI (tp s) - 48) * 10 + nI (tp (s + 1)) - 48 : Int32) = _
  rw [Int32.zero_mul, Int32.zero_add, show (48 : Int32) = nI 48 from rfl, pk_sub h, show (10 : Int32) = nI 10 from rfl, pk_mul, nI_add, pk_sub (by omega)]
  congr 1
  omega
/-- what the reader's calls leave as it was -/
def FrR (v v' : Nat → Nat → Int32) : Prop := (∀ q, q ≠ 1 → v' q = v q) ∧ v' 1 1 = v 1 1 ∧ v' 1 4 = v 1 4
theorem FrR.rfl' (v : Nat → Nat → Int32) : FrR v v := ⟨fun _ _ => rfl, rfl, rfl⟩
theorem FrR.tr {v v1 v2 : Nat → Nat → Int32} (h : FrR v v1) (g : FrR v1 v2) : FrR v v2 := ⟨fun q hq => (g.1 q hq).trans (h.1 q hq), g.2.1.trans h.2.1, g.2.2.trans h.2.2⟩
theorem CT.fR {K : Tp} {v v' : Nat → Nat → Int32} (h : CT K v) (g : FrR v v') : CT K v' := h.fr g.2.1 (g.1 2 (by decide))
/-- the answer of a call of the reader: a FAULT, or what it read -/
def CX {α : Type} (X : Fa ⊕ α) (Q : α → (Nat → Nat → Int32) → Prop) (r : Int32) (v : Nat → Nat → Int32) : Prop := match X with
  | .inl f => r = 0 ∧ v 1 2 = nI f.1 ∧ v 1 3 = nI f.2
  | .inr a => r = 1 ∧ v 1 2 = 0 ∧ Q a v
def CTk (K : Tp) (P : Nat) (v : Nat → Nat → Int32) : Prop := v 1 5 = nI (eN K P) ∧ v 1 6 = nI (kD K P) ∧ v 1 7 = nI (sT K P) ∧ (kD K P = 2 → v 1 8 = nI (vL K P))
section
variable {K : Tp} {v : Nat → Nat → Int32} {w : Nat → Nat → Int64} {P : Nat}
theorem C_value {s e : Nat} (hT : CT K v) (h5 : v 1 5 = nI e) (h7 : v 1 7 = nI s) (hse : s ≤ e) (he : e ≤ K.1) : f_Reader_valueOfRun 1 (bh v w) = some (vf K.2 (e - s) 0 s, bh v w) := by
  have hL := hT.2.1
  have key : ∀ (n fuel i : Nat) (a : Int32), n < fuel → i + n = e → f_Reader_valueOfRun_7 fuel 1 a (nI i) (bh v w) = some (vf K.2 n a i, bh v w) := by
    intro n
    induction n with
    | zero =>
      intro fuel i a hf hi
      obtain ⟨m, rfl⟩ : ∃ m, fuel = m + 1 := ⟨fuel - 1, by omega⟩
      simp only [f_Reader_valueOfRun_7, f_Reader_valueOfRun_7b, hT0 v w, bd1_q]
      rw [h5, if_pos ((nI_leI (by omega) (by omega)).mpr (by omega)), vf_z]
    | succ n ih =>
      intro fuel i a hf hi
      obtain ⟨m, rfl⟩ : ∃ m, fuel = m + 1 := ⟨fuel - 1, by omega⟩
      simp only [f_Reader_valueOfRun_7, f_Reader_valueOfRun_7b, hT0 v w, bd1_q]
      rw [h5, if_neg (fun z => by have := (nI_leI (by omega) (by omega)).mp z; omega), rd_nI (by omega) (by decide), bd1_s, (hT.2.2 i (by omega)).1, nI_1]
      rw [vf_s]
      exact ih m (i + 1) _ (by omega) (by omega)
  unfold f_Reader_valueOfRun f_Reader_valueOfRun_0
  simp only [hT0 v w, bd1_q]
  rw [h7]
  exact key (e - s) FU s 0 (by unfold FU; omega) (by omega)
theorem C_takeToken (hT : CT K v) (h2 : v 1 2 = 0) (h5 : v 1 5 = nI P) (hP : P ≤ K.1) : ∃ r v', f_Reader_takeToken 1 (bh v w) = some (r, bh v' w) ∧ FrR v v' ∧ CX (tokX K P) (fun _ v' => CTk K P v') r v' := by
  have hs := sT_b hP
  have he := eN_b hP
  have hkc := kc_s (K := K) (s := sT K P)
  have ek : kD K P = kc K (sT K P) := rfl
  have hL := hT.2.1
  obtain ⟨v1, e1, a5, fq, fj⟩ := C_passRun (w := w) (lo := 32) (hi := 32) (by decide) (by decide) hT h5 hP
  have a5 : v1 1 5 = nI (sT K P) := a5
  have T1 : CT K v1 := hT.fr (fj 1 (by decide)) (fq 2 (by decide))
  have ekd := C_kindHere (w := w) (v := u2 v1 1 7 (nI (sT K P))) (s := sT K P) (T1.fr (u2_n (by decide)) (u2_o (by decide))) ((u2_n (by decide)).trans a5) hs.2
  have fin : ∀ v', (∀ q, q ≠ 1 → v' q = v1 q) → v' 1 1 = v1 1 1 → v' 1 4 = v1 1 4 → v' 1 2 = v1 1 2 → v' 1 5 = nI (eN K P) → v' 1 6 = nI (kD K P) → v' 1 7 = nI (sT K P) → (kD K P = 2 → v' 1 8 = nI (vL K P)) → ¬ (kD K P = 4 ∨ kD K P = 2 ∧ sT K P + 2 < eN K P) → FrR v v' ∧ CX (tokX K P) (fun _ v' => CTk K P v') 1 v' := by
    intro v' b1 b2 b3 b4 b5 b6 b7 b8 b9
    refine ⟨⟨fun q hq => (b1 q hq).trans (fq q hq), b2.trans (fj 1 (by decide)), b3.trans (fj 4 (by decide))⟩, ?_⟩
    unfold tokX
    rw [if_neg b9]
    exact ⟨rfl, (b4.trans (fj 2 (by decide))).trans h2, b5, b6, b7, b8⟩
  have fal : ∀ v', (∀ q, q ≠ 1 → v' q = v1 q) → v' 1 1 = v1 1 1 → v' 1 4 = v1 1 4 → v' 1 2 = 1 → v' 1 3 = nI (sT K P) → (kD K P = 4 ∨ kD K P = 2 ∧ sT K P + 2 < eN K P) → FrR v v' ∧ CX (tokX K P) (fun _ v' => CTk K P v') 0 v' := by
    intro v' b1 b2 b3 b4 b5 b9
    refine ⟨⟨fun q hq => (b1 q hq).trans (fq q hq), b2.trans (fj 1 (by decide)), b3.trans (fj 4 (by decide))⟩, ?_⟩
    unfold tokX
    rw [if_pos b9]
    exact ⟨rfl, b4, b5⟩
  unfold f_Reader_takeToken f_Reader_takeToken_0 f_Reader_takeToken_111 f_Reader_fail f_Reader_fail_0
  simp only [hT0, bd1_q]
  rw [show (32 : Int32) = nI 32 from rfl, e1]
  simp only [hT0, bd1_q]
  rw [a5, ekd]
  simp only [hT0, bd1_q, bd2_q, u2_at]
  rcases (show kc K (sT K P) = 0 ∨ kc K (sT K P) = 1 ∨ kc K (sT K P) = 2 ∨ kc K (sT K P) = 3 ∨ kc K (sT K P) = 4 by omega) with c | c | c | c | c
  · rw [c, if_pos (show nI 0 = 0 from rfl)]
    refine ⟨1, _, rfl, fin _ (fun q hq => (u2_o hq).trans (u2_o hq)) ?_ ?_ ?_ ?_ ?_ ?_ (fun z => by omega) (by omega)⟩
    · simp [u2_ap]
    · simp [u2_ap]
    · simp [u2_ap]
    · rw [show eN K P = sT K P by unfold eN; rw [if_neg (by omega), if_neg (by omega), if_neg (by omega)]]
      simp [u2_ap, a5]
    · simp [u2_ap, ek, c]
    · simp [u2_ap]
  · rw [c, if_neg (by decide), if_pos (show nI 1 = 1 from rfl)]
    obtain ⟨v2, e2, b5, gq, gj⟩ := C_passRun (w := w) (lo := 97) (hi := 122) (i := sT K P) (v := u2 (u2 v1 1 7 (nI (sT K P))) 1 6 (nI 1)) (by decide) (by decide) ((T1.fr (u2_n (by decide)) (u2_o (by decide))).fr (u2_n (by decide)) (u2_o (by decide))) (by simp [u2_ap, a5]) hs.2
    rw [show (97 : Int32) = nI 97 from rfl, show (122 : Int32) = nI 122 from rfl, e2, bd1_s]
    refine ⟨1, _, rfl, fin _ (fun q hq => (gq q hq).trans ((u2_o hq).trans (u2_o hq))) ?_ ?_ ?_ ?_ ?_ ?_ (fun z => by omega) (by omega)⟩
    · rw [gj 1 (by decide)]; simp [u2_ap]
    · rw [gj 4 (by decide)]; simp [u2_ap]
    · rw [gj 2 (by decide)]; simp [u2_ap]
    · rw [b5]; unfold eN; rw [if_pos (by omega)]
    · rw [gj 6 (by decide)]; simp [u2_ap, ek, c]
    · rw [gj 7 (by decide)]; simp [u2_ap]
  · rw [c, if_neg (by decide), if_neg (by decide), if_pos (show nI 2 = 2 from rfl)]
    obtain ⟨v2, e2, b5, gq, gj⟩ := C_passRun (w := w) (lo := 48) (hi := 57) (i := sT K P) (v := u2 (u2 v1 1 7 (nI (sT K P))) 1 6 (nI 2)) (by decide) (by decide) ((T1.fr (u2_n (by decide)) (u2_o (by decide))).fr (u2_n (by decide)) (u2_o (by decide))) (by simp [u2_ap, a5]) hs.2
    have ee : eN K P = rn K 48 57 (sT K P) := by unfold eN; rw [if_neg (by omega), if_pos (by omega)]
    rw [← ee] at b5
    have c7 : v2 1 7 = nI (sT K P) := by rw [gj 7 (by decide)]; simp [u2_ap]
    have T2 : CT K v2 := ((T1.fr (u2_n (by decide)) (u2_o (by decide))).fr (u2_n (by decide)) (u2_o (by decide))).fr (gj 1 (by decide)) (gq 2 (by decide))
    have ev := C_value (w := w) T2 b5 c7 he.1 he.2.1
    have h1 := he.2.2 (by omega) (by omega)
    rw [show (48 : Int32) = nI 48 from rfl, show (57 : Int32) = nI 57 from rfl, e2]
    simp only [hT0, bd1_q]
    rw [ev]
    simp only [hT0, bd1_q, bd2_q]
    rw [u2_n (show 5 ≠ 8 by decide), u2_n (show 7 ≠ 8 by decide), b5, c7, pk_sub he.1, show (2 : Int32) = nI 2 from rfl, ite_iff (nI_leI (by omega) (by omega))]
    have g1 : ∀ q, q ≠ 1 → u2 v2 1 8 (vf K.2 (eN K P - sT K P) 0 (sT K P)) q = v1 q := fun q hq => (u2_o hq).trans ((gq q hq).trans ((u2_o hq).trans (u2_o hq)))
    by_cases g : eN K P - sT K P ≤ 2
    · rw [if_pos g]
      refine ⟨1, _, rfl, fin _ g1 ?_ ?_ ?_ ?_ ?_ ?_ (fun _ => ?_) (by omega)⟩
      · rw [u2_n (by decide), gj 1 (by decide)]; simp [u2_ap]
      · rw [u2_n (by decide), gj 4 (by decide)]; simp [u2_ap]
      · rw [u2_n (by decide), gj 2 (by decide)]; simp [u2_ap]
      · rw [u2_n (by decide)]; exact b5
      · rw [u2_n (by decide), gj 6 (by decide)]; simp [u2_ap, ek, c]
      · rw [u2_n (by decide)]; exact c7
      · rw [u2_at]
        have d1 := rn_in (K := K) (lo := 48) (hi := 57) (Nat.le_refl (sT K P)) (by rw [← ee]; omega)
        unfold vL
        by_cases z : eN K P = sT K P + 1
        · rw [if_pos z, show eN K P - sT K P = 1 by omega, vf_1 d1.1]
        · have d2 := rn_in (K := K) (lo := 48) (hi := 57) (i := sT K P) (j := sT K P + 1) (by omega) (by rw [← ee]; omega)
          rw [if_neg z, show eN K P - sT K P = 2 by omega, vf_2 d1.1 d2.1]
    · rw [if_neg g, if_pos trivial]
      refine ⟨0, _, rfl, fal _ (fun q hq => (u2_o hq).trans ((u2_o hq).trans (g1 q hq))) ?_ ?_ ?_ ?_ (by omega)⟩
      · rw [u2_n (by decide), u2_n (by decide), u2_n (by decide), gj 1 (by decide)]; simp [u2_ap]
      · rw [u2_n (by decide), u2_n (by decide), u2_n (by decide), gj 4 (by decide)]; simp [u2_ap]
      · simp [u2_ap]
      · simp [u2_ap]
  · rw [c, if_neg (by decide), if_neg (by decide), if_neg (by decide), if_pos (show nI 3 = 3 from rfl)]
    refine ⟨1, _, rfl, fin _ (fun q hq => (u2_o hq).trans ((u2_o hq).trans (u2_o hq))) ?_ ?_ ?_ ?_ ?_ ?_ (fun z => by omega) (by omega)⟩
    · simp [u2_ap]
    · simp [u2_ap]
    · simp [u2_ap]
    · rw [show eN K P = sT K P + 1 by unfold eN; rw [if_neg (by omega), if_neg (by omega), if_pos (by omega)], u2_at, u2_n (show 5 ≠ 6 by decide), u2_n (show 5 ≠ 7 by decide), a5, nI_1]
    · simp [u2_ap, ek, c]
    · simp [u2_ap]
  · rw [c, if_neg (by decide), if_neg (by decide), if_neg (by decide), if_neg (by decide), if_pos (Or.inl trivial)]
    refine ⟨0, _, rfl, fal _ (fun q hq => (u2_o hq).trans ((u2_o hq).trans ((u2_o hq).trans (u2_o hq)))) ?_ ?_ ?_ ?_ (by omega)⟩
    · simp [u2_ap]
    · simp [u2_ap]
    · simp [u2_ap]
    · simp [u2_ap]
end
end
/-! 8x3.text3.lean.txt -/
section
theorem hU0 (v : Nat → Nat → Int32) (w : Nat → Nat → Int64) : kC (bh v w) 20 4 = some () ∧ gI (bh v w) 20 4 0 = some (v 20 0) ∧ (∀ x, pV (bh v w) 20 4 0 (.int x) = some (bh (u2 v 20 0 x) w)) ∧ gI (bh v w) 20 4 1 = some (v 20 1) ∧ (∀ x, pV (bh v w) 20 4 1 (.int x) = some (bh (u2 v 20 1 x) w)) ∧ gI (bh v w) 20 4 2 = some (v 20 2) ∧ (∀ x, pV (bh v w) 20 4 2 (.int x) = some (bh (u2 v 20 2 x) w)) ∧ gI (bh v w) 20 4 3 = some (v 20 3) ∧ (∀ x, pV (bh v w) 20 4 3 (.int x) = some (bh (u2 v 20 3 x) w)) ∧ gI (bh v w) 20 4 4 = some (v 20 4) ∧ (∀ x, pV (bh v w) 20 4 4 (.int x) = some (bh (u2 v 20 4 x) w)) ∧ gI (bh v w) 20 4 5 = some (v 20 5) ∧ (∀ x, pV (bh v w) 20 4 5 (.int x) = some (bh (u2 v 20 5 x) w)) ∧ gR (bh v w) 20 4 6 = some 21 ∧ gR (bh v w) 20 4 7 = some 22 ∧ gR (bh v w) 20 4 8 = some 23 ∧ gR (bh v w) 20 4 9 = some 24 ∧ gR (bh v w) 20 4 10 = some 25 ∧ gR (bh v w) 20 4 11 = some 26 ∧ gR (bh v w) 20 4 12 = some 27 ∧ gR (bh v w) 20 4 13 = some 28 ∧ gR (bh v w) 20 4 14 = some 29 ∧ gR (bh v w) 20 4 15 = some 30 ∧ gR (bh v w) 20 4 16 = some 31 ∧ gR (bh v w) 20 4 17 = some 32 ∧ gR (bh v w) 20 4 18 = some 33 ∧ (∀ i, aI (bh v w) 0 21 i = rd (v 21) 5 i) ∧ (∀ i x, sI (bh v w) 0 21 i x = wr v w 21 5 i x) ∧ (∀ i, aI (bh v w) 0 22 i = rd (v 22) 5 i) ∧ (∀ i x, sI (bh v w) 0 22 i x = wr v w 22 5 i x) ∧ (∀ i, aI (bh v w) 0 23 i = rd (v 23) 5 i) ∧ (∀ i x, sI (bh v w) 0 23 i x = wr v w 23 5 i x) ∧ (∀ i, aI (bh v w) 0 24 i = rd (v 24) 5 i) ∧ (∀ i x, sI (bh v w) 0 24 i x = wr v w 24 5 i x) ∧ (∀ i, aI (bh v w) 0 25 i = rd (v 25) 5 i) ∧ (∀ i x, sI (bh v w) 0 25 i x = wr v w 25 5 i x) ∧ (∀ i, aI (bh v w) 0 26 i = rd (v 26) 3 i) ∧ (∀ i x, sI (bh v w) 0 26 i x = wr v w 26 3 i x) ∧ (∀ i, aI (bh v w) 0 27 i = rd (v 27) 3 i) ∧ (∀ i x, sI (bh v w) 0 27 i x = wr v w 27 3 i x) ∧ (∀ i, aI (bh v w) 0 28 i = rd (v 28) 3 i) ∧ (∀ i x, sI (bh v w) 0 28 i x = wr v w 28 3 i x) ∧ (∀ i, aI (bh v w) 0 29 i = rd (v 29) 3 i) ∧ (∀ i x, sI (bh v w) 0 29 i x = wr v w 29 3 i x) ∧ (∀ i, aI (bh v w) 0 30 i = rd (v 30) 3 i) ∧ (∀ i x, sI (bh v w) 0 30 i x = wr v w 30 3 i x) ∧ (∀ i, aI (bh v w) 0 31 i = rd (v 31) 3 i) ∧ (∀ i x, sI (bh v w) 0 31 i x = wr v w 31 3 i x) ∧ (∀ i, aI (bh v w) 0 32 i = rd (v 32) 15 i) ∧ (∀ i x, sI (bh v w) 0 32 i x = wr v w 32 15 i x) ∧ gI (bh v w) 33 6 0 = some (v 33 0) ∧ (∀ x, pV (bh v w) 33 6 0 (.int x) = some (bh (u2 v 33 0 x) w)) := ⟨rfl, rfl, (fun _ => pV_bh rfl rfl), rfl, (fun _ => pV_bh rfl rfl), rfl, (fun _ => pV_bh rfl rfl), rfl, (fun _ => pV_bh rfl rfl), rfl, (fun _ => pV_bh rfl rfl), rfl, (fun _ => pV_bh rfl rfl), rfl, rfl, rfl, rfl, rfl, rfl, rfl, rfl, rfl, rfl, rfl, rfl, rfl, aI_bh rfl, sI_bh rfl, aI_bh rfl, sI_bh rfl, aI_bh rfl, sI_bh rfl, aI_bh rfl, sI_bh rfl, aI_bh rfl, sI_bh rfl, aI_bh rfl, sI_bh rfl, aI_bh rfl, sI_bh rfl, aI_bh rfl, sI_bh rfl, aI_bh rfl, sI_bh rfl, aI_bh rfl, sI_bh rfl, aI_bh rfl, sI_bh rfl, aI_bh rfl, sI_bh rfl, rfl, (fun _ => pV_bh rfl rfl)⟩
theorem up2_ap (ρ : Rho) (f i x g j : Nat) : up2 ρ f i x g j = if g = f ∧ j = i then x else ρ g j := by
  by_cases h : g = f
  · subst h
    by_cases k : j = i
    · subst k
      rw [up2_at, if_pos ⟨rfl, rfl⟩]
    · rw [up2_n k, if_neg (fun z => k z.2)]
  · rw [up2_f h, if_neg (fun z => h z.1)]
theorem u2_cg {v v' : Nat → Nat → Int32} {o k q : Nat} {x : Int32} (h : v q = v' q) : u2 v o k x q = u2 v' o k x q := by
  unfold u2 va_up
  by_cases e : q = o
  · subst e; rw [if_pos rfl, if_pos rfl, h]
  · rw [if_neg e, if_neg e, h]
def chkB (K : Tp) (lo hi P : Nat) : Fa ⊕ Nat := if lo ≤ vL K P ∧ vL K P ≤ hi then .inr (vL K P) else .inl (3, sT K P)
def chk (K : Tp) (lo hi P : Nat) : Fa ⊕ Nat := if kD K P = 2 then chkB K lo hi P else .inl (2, sT K P)
def sNum (K : Tp) (lo hi P : Nat) : Fa ⊕ Nat := sb (tokX K P) fun _ => chk K lo hi P
def sStp (K : Tp) (P : Nat) : Fa ⊕ Unit := if kD K P = 3 then .inr () else .inl (2, sT K P)
def addL (σ : Rho) (q c h f m : Nat) : Rho := up2 (up2 (up2 (up2 (up2 (up2 (up2 σ 1 (σ 0 0) q) 2 (σ 0 0) c) 3 (σ 0 0) h) 4 (σ 0 0) f) 5 (σ 0 0) m) 0 0 (σ 0 0 + 1)) 17 0 (max (σ 17 0) m)
def addO (σ : Rho) (t c n u R h : Nat) : Rho := up2 (up2 (up2 (up2 (up2 (up2 (up2 σ 6 (σ 0 1) t) 7 (σ 0 1) c) 8 (σ 0 1) n) 9 (σ 0 1) u) 10 (σ 0 1) R) 0 1 (σ 0 1 + 1)) 17 0 h
def addW (σ : Rho) (p m : Nat) : Rho := up2 (up2 (up2 σ 11 p (σ 11 p ||| 2 ^ m)) 17 0 (max (σ 17 0) (m + 1))) 17 1 (max (σ 17 1) (p + 1))
def addH (σ : Rho) (m : Nat) : Rho := up2 (up2 σ 0 5 (σ 0 5 ||| 2 ^ m)) 17 0 (max (σ 17 0) (m + 1))
def sFin {α : Type} (K : Tp) (P : Nat) (a : α) : Fa ⊕ (α × Nat) := sb (sStp K P) fun _ => .inr (a, eN K P)
def sCar (K : Tp) (σ : Rho) (q c h f Q : Nat) : Fa ⊕ (Rho × Nat) := sb (tokX K Q) fun _ => if kD K Q = 2 then sb (chkB K 0 4 Q) fun m => if m = σ 0 0 then .inl (4, sT K Q) else sb (tokX K (eN K Q)) fun _ => sFin K (eN K Q) (addL σ q c h f (m + 1)) else sFin K Q (addL σ q c h f 0)
def sLaw (K : Tp) (σ : Rho) (Q : Nat) : Fa ⊕ (Rho × Nat) := sb (sNum K 0 9 Q) fun q => sb (sNum K 1 3 (eN K Q)) fun c => sb (sNum K 0 9 (eN K (eN K Q))) fun h => sb (sNum K 0 9 (eN K (eN K (eN K Q)))) fun f => sCar K σ q c h f (eN K (eN K (eN K (eN K Q))))
def sRef (K : Tp) : Nat → Nat → Nat → Nat → Fa ⊕ ((Nat × Nat) × Nat)
  | 0, R, h, Q => .inr ((R, h), Q)
  | n + 1, R, h, Q => if kD K Q = 2 then sb (chkB K 0 4 Q) fun m => if bit R m = 1 then .inl (4, sT K Q) else sb (tokX K (eN K Q)) fun _ => sRef K n (R ||| 2 ^ m) (max h (m + 1)) (eN K Q) else .inr ((R, h), Q)
def sOne (K : Tp) (σ : Rho) (Q : Nat) : Fa ⊕ (Rho × Nat) := sb (sNum K 0 5 Q) fun t => sb (sNum K 0 3 (eN K Q)) fun c => sb (sNum K 0 10 (eN K (eN K Q))) fun n => sb (sNum K 0 99 (eN K (eN K (eN K Q)))) fun u => sb (tokX K (eN K (eN K (eN K (eN K Q))))) fun _ => sb (sRef K 6 0 (σ 17 0) (eN K (eN K (eN K (eN K Q))))) fun x => sFin K x.2 (addO σ t c n u x.1.1 x.1.2)
def sWant (K : Tp) (σ : Rho) (Q : Nat) : Fa ⊕ (Rho × Nat) := sb (sNum K 0 2 Q) fun p => sb (sNum K 0 4 (eN K Q)) fun m => if bit (σ 11 p) m = 1 then .inl (4, sT K (eN K Q)) else sb (tokX K (eN K (eN K Q))) fun _ => sFin K (eN K (eN K Q)) (addW σ p m)
def sWatch (K : Tp) (σ : Rho) (Q : Nat) : Fa ⊕ (Rho × Nat) := sb (sNum K 0 4 Q) fun m => if bit (σ 0 5) m = 1 then .inl (4, sT K Q) else sb (tokX K (eN K Q)) fun _ => sFin K (eN K Q) (addH σ m)
theorem CX01 {α : Type} {X : Fa ⊕ α} {Q : α → (Nat → Nat → Int32) → Prop} {r : Int32} {v : Nat → Nat → Int32} (h : CX X Q r v) : r = 0 ∨ r = 1 := by
  cases X with
  | inl f => exact Or.inl h.1
  | inr a => exact Or.inr h.1
section
variable {K : Tp} {v : Nat → Nat → Int32} {w : Nat → Nat → Int64} {P lo hi : Nat}
theorem vL_lt (hb : ∀ j, j < K.1 → K.2 j ≤ 127) (hP : P ≤ K.1) (hk : kD K P = 2) : vL K P < 2 ^ 31 := by
  have hs := sT_b hP
  have he := eN_b hP
  have h1 := he.2.2 (by omega) (by omega)
  have b1 := hb (sT K P) (by omega)
  unfold vL
  split
  · omega
  · have b2 := hb (sT K P + 1) (by omega)
    omega
theorem C_fail {c s : Nat} (h7 : v 1 7 = nI s) : ∃ v', f_Reader_fail 1 (nI c) (nI s) (bh v w) = some (0, bh v' w) ∧ FrR v v' ∧ v' 1 2 = nI c ∧ v' 1 3 = nI s := by
  unfold f_Reader_fail f_Reader_fail_0
  simp only [hT0, bd1_q]
  exact ⟨_, rfl, ⟨fun q hq => (u2_o hq).trans (u2_o hq), by simp [u2_ap], by simp [u2_ap]⟩, by simp [u2_ap], by simp [u2_ap]⟩
theorem C_isBounded (hk : CTk K P v) (h2 : v 1 2 = 0) (k2 : kD K P = 2) (hv : vL K P < 2 ^ 31) (hlo : lo < 200) (hhi : hi < 200) : ∃ r v', f_Reader_isBounded 1 (nI lo) (nI hi) (bh v w) = some (r, bh v' w) ∧ FrR v v' ∧ CX (chkB K lo hi P) (fun n v' => CTk K P v' ∧ v' 1 8 = nI n ∧ lo ≤ n ∧ n ≤ hi) r v' := by
  obtain ⟨v1, e1, f1, b1, b2⟩ := C_fail (w := w) (c := 3) hk.2.2.1
  unfold f_Reader_isBounded f_Reader_isBounded_0 f_Reader_isBounded_24
  simp only [hT0, bd1_q, Q_isWithin, bd2_q]
  rw [hk.2.2.2 k2, hk.2.2.1, nI_toInt hv, nI_toInt (show lo < 2 ^ 31 by omega), nI_toInt (show hi < 2 ^ 31 by omega)]
  unfold chkB
  by_cases c : lo ≤ vL K P ∧ vL K P ≤ hi
  · rw [if_pos (show ((lo : Nat) : Int) ≤ (vL K P : Nat) ∧ ((vL K P : Nat) : Int) ≤ (hi : Nat) by omega), if_neg (by decide), if_pos c]
    exact ⟨1, v, rfl, FrR.rfl' v, rfl, h2, hk, hk.2.2.2 k2, c⟩
  · rw [if_neg (show ¬ (((lo : Nat) : Int) ≤ (vL K P : Nat) ∧ ((vL K P : Nat) : Int) ≤ (hi : Nat)) by omega), if_pos rfl, if_neg c, show (3 : Int32) = nI 3 from rfl, e1, bd2_s, if_pos rfl]
    exact ⟨0, v1, rfl, f1, rfl, b1, b2⟩
theorem C_takeNumber (hT : CT K v) (h2 : v 1 2 = 0) (h5 : v 1 5 = nI P) (hP : P ≤ K.1) (hlo : lo < 200) (hhi : hi < 200) : ∃ r v', f_Reader_takeNumber 1 (nI lo) (nI hi) (bh v w) = some (r, bh v' w) ∧ FrR v v' ∧ CX (sNum K lo hi P) (fun n v' => CTk K P v' ∧ v' 1 8 = nI n ∧ lo ≤ n ∧ n ≤ hi) r v' := by
  obtain ⟨r, v1, e1, f1, x1⟩ := C_takeToken (w := w) hT h2 h5 hP
  unfold f_Reader_takeNumber f_Reader_takeNumber_0
  simp only [hT0, bd1_q]
  rw [e1, bd2_s]
  unfold sNum
  cases hX : tokX K P with
  | inl f =>
    rw [hX] at x1
    obtain ⟨rfl, a, b⟩ := x1
    rw [if_pos rfl]
    exact ⟨0, v1, rfl, f1, rfl, a, b⟩
  | inr u =>
    rw [hX] at x1
    obtain ⟨rfl, a2, tk⟩ := x1
    rw [if_neg (by decide)]
    simp only [hT0, bd1_q, sb_r]
    rw [tk.2.1, tk.2.2.1]
    have k4 := (kc_s (K := K) (s := sT K P)).2.2.2.2
    have ek : kD K P = kc K (sT K P) := rfl
    rw [show (2 : Int32) = nI 2 from rfl, ite_iff (nI_eqI (by omega) (by omega))]
    unfold chk
    by_cases k : kD K P = 2
    · rw [if_pos k, if_pos k]
      obtain ⟨r, v2, e2, f2, x2⟩ := C_isBounded (w := w) (lo := lo) (hi := hi) tk a2 k (vL_lt (fun j hj => (hT.2.2 j hj).2) hP k) hlo hhi
      rw [e2, bd2_s, if_pos (CX01 x2)]
      exact ⟨r, v2, rfl, f1.tr f2, x2⟩
    · rw [if_neg k, if_neg k]
      obtain ⟨v2, e2, f2, b1, b2⟩ := C_fail (w := w) (c := 2) tk.2.2.1
      rw [e2, bd2_s, if_pos (Or.inl rfl)]
      exact ⟨0, v2, rfl, f1.tr f2, rfl, b1, b2⟩
theorem C_isStop (hk : CTk K P v) (h2 : v 1 2 = 0) : ∃ r v', f_Reader_isStop 1 (bh v w) = some (r, bh v' w) ∧ FrR v v' ∧ CX (sStp K P) (fun _ v' => v' 1 5 = nI (eN K P)) r v' := by
  have k4 := (kc_s (K := K) (s := sT K P)).2.2.2.2
  have ek : kD K P = kc K (sT K P) := rfl
  obtain ⟨v1, e1, f1, b1, b2⟩ := C_fail (w := w) (c := 2) hk.2.2.1
  unfold f_Reader_isStop f_Reader_isStop_0 f_Reader_isStop_20
  simp only [hT0, bd1_q]
  rw [hk.2.1, hk.2.2.1, show (3 : Int32) = nI 3 from rfl, ite_iff (nI_eqI (by omega) (by omega))]
  unfold sStp
  by_cases k : kD K P = 3
  · rw [if_pos k, if_pos k]
    exact ⟨1, v, rfl, FrR.rfl' v, rfl, h2, hk.1⟩
  · rw [if_neg k, if_neg k, show (2 : Int32) = nI 2 from rfl, e1, bd2_s, if_pos rfl]
    exact ⟨0, v1, rfl, f1, rfl, b1, b2⟩
end
end
/-! 8x4.text4.lean.txt -/
section
/-! the class reads the lines -/
def CS (σ : Rho) (v : Nat → Nat → Int32) : Prop := (v 20 0 = nI (σ 0 0) ∧ v 20 1 = nI (σ 0 1) ∧ v 20 2 = 0 ∧ v 20 3 = 0 ∧ v 20 4 = nI (2 ^ σ 0 0 - 1) ∧ v 20 5 = nI (σ 0 5) ∧ v 33 0 = 0) ∧ (∀ l, l < σ 0 0 → v 21 l = nI (σ 1 l) ∧ v 22 l = nI (σ 2 l) ∧ v 23 l = nI (σ 3 l) ∧ v 24 l = nI (σ 4 l) ∧ v 25 l = cI (σ 5 l)) ∧ (∀ p, p < σ 0 1 → v 26 p = nI (σ 6 p) ∧ v 27 p = nI (σ 7 p) ∧ v 28 p = nI (σ 8 p) ∧ v 29 p = nI (σ 9 p)) ∧ (∀ p, p < 3 → v 30 p = nI (σ 10 p) ∧ v 31 p = nI (σ 11 p)) ∧ (∀ j, j < 15 → v 32 j = 0)
def SI (σ : Rho) : Prop :=
  (σ 0 0 ≤ 5 ∧ σ 0 1 ≤ 3 ∧ σ 0 2 = 0 ∧ σ 0 3 = 0 ∧ σ 0 5 < 32 ∧ σ 0 6 = 0 ∧ σ 17 0 ≤ 5 ∧ σ 17 1 ≤ 3) ∧
  (∀ l, l < σ 0 0 → σ 1 l ≤ 9 ∧ 1 ≤ σ 2 l ∧ σ 2 l ≤ 3 ∧ σ 3 l ≤ 9 ∧ σ 4 l ≤ 9 ∧ σ 5 l ≤ 5 ∧ σ 5 l ≠ l + 1) ∧
  (∀ p, p < σ 0 1 → σ 6 p ≤ 5 ∧ σ 7 p ≤ 3 ∧ σ 8 p ≤ 10 ∧ σ 9 p ≤ 99) ∧
  (∀ p, p < 3 → σ 10 p < 32 ∧ σ 11 p < 32 ∧ (σ 0 1 ≤ p → σ 10 p = 0)) ∧
  (∀ j, σ 12 j = 0) ∧
  (∀ n, n ≤ 5 → (σ 17 0 ≤ n ↔ σ 0 5 < 2 ^ n ∧ (∀ l, l < σ 0 0 → σ 5 l ≤ n) ∧ ∀ p, p < 3 → σ 10 p < 2 ^ n ∧ σ 11 p < 2 ^ n)) ∧
  (∀ n, n ≤ 3 → (σ 17 1 ≤ n ↔ ∀ p, p < 3 → σ 11 p ≠ 0 → p < n))
def Ch (v V v' : Nat → Nat → Int32) : Prop := (∀ q, q ≠ 1 → v' q = V q) ∧ v' 1 1 = v 1 1 ∧ v' 1 4 = v 1 4
theorem Ch.nm {v V v1 v2 : Nat → Nat → Int32} (h : Ch v V v1) (g : FrR v1 v2) : Ch v V v2 := ⟨fun q hq => (g.1 q hq).trans (h.1 q hq), g.2.1.trans h.2.1, g.2.2.trans h.2.2⟩
theorem Ch.wr {v V v1 : Nat → Nat → Int32} {o k : Nat} {x : Int32} (h : Ch v V v1) (ho : o ≠ 1) : Ch v (u2 V o k x) (u2 v1 o k x) := ⟨fun q hq => u2_cg (h.1 q hq), (congrFun (u2_o (fun z => ho z.symm)) 1).trans h.2.1, (congrFun (u2_o (fun z => ho z.symm)) 4).trans h.2.2⟩
/-- ready to read on at P -/
def Rdy (K : Tp) (P : Nat) (v : Nat → Nat → Int32) : Prop := CT K v ∧ v 1 2 = 0 ∧ v 1 5 = nI P
theorem Rdy.wr {K : Tp} {P o k : Nat} {x : Int32} {v : Nat → Nat → Int32} (h : Rdy K P v) (h1 : 1 ≠ o) (h2 : 2 ≠ o) : Rdy K P (u2 v o k x) := ⟨h.1.fr (congrFun (u2_o h1) 1) (u2_o h2), (congrFun (u2_o h1) 2).trans h.2.1, (congrFun (u2_o h1) 5).trans h.2.2⟩
theorem CS.of {σ : Rho} {v V : Nat → Nat → Int32} (h : CS σ V) (e : ∀ q, q ≠ 1 → v q = V q) : CS σ v := by
  unfold CS
  rw [e 20 (by decide), e 21 (by decide), e 22 (by decide), e 23 (by decide), e 24 (by decide), e 25 (by decide), e 26 (by decide), e 27 (by decide), e 28 (by decide), e 29 (by decide), e 30 (by decide), e 31 (by decide), e 32 (by decide), e 33 (by decide)]
  exact h
def FrL (v v' : Nat → Nat → Int32) : Prop := (∀ q, q ≠ 1 → q < 20 ∨ 37 ≤ q → v' q = v q) ∧ v' 1 1 = v 1 1 ∧ v' 1 4 = v 1 4
theorem or_pw : ∀ l, l < 5 → nI (2 ^ l - 1) ||| ((1 : Int32) <<< (nI l &&& 31)) = nI (2 ^ (l + 1) - 1) := by decide +kernel
def vLaw (σ : Rho) (v : Nat → Nat → Int32) : Nat → Nat → Int32 := u2 (u2 (u2 v 25 (σ 0 0) (-4)) 20 4 (nI (2 ^ (σ 0 0 + 1) - 1))) 20 0 (nI (σ 0 0 + 1))
theorem CS_addL {σ : Rho} {v : Nat → Nat → Int32} {q c h f : Nat} (hs : CS σ v) : CS (addL σ q c h f 0) (u2 (u2 (u2 (u2 (vLaw σ v) 21 (σ 0 0) (nI q)) 22 (σ 0 0) (nI c)) 23 (σ 0 0) (nI h)) 24 (σ 0 0) (nI f)) := by
  obtain ⟨⟨a1, a2, a3, a4, a5, a6, a7⟩, b, c', d, e⟩ := hs
  unfold CS addL vLaw
  simp [u2_ap, up2_ap, a2, a3, a4, a6, a7]
  refine ⟨fun l hl => ?_, c', d, e⟩
  by_cases z : l = σ 0 0
  · simp [z]; rfl
  · have := b l (by omega)
    simp [z, this]
theorem CS_addLm {σ : Rho} {v : Nat → Nat → Int32} {q c h f m : Nat} (hs : CS σ v) : CS (addL σ q c h f (m + 1)) (u2 (u2 (u2 (u2 (u2 (vLaw σ v) 21 (σ 0 0) (nI q)) 22 (σ 0 0) (nI c)) 23 (σ 0 0) (nI h)) 24 (σ 0 0) (nI f)) 25 (σ 0 0) (nI m)) := by
  obtain ⟨⟨a1, a2, a3, a4, a5, a6, a7⟩, b, c', d, e⟩ := hs
  unfold CS addL vLaw
  simp [u2_ap, up2_ap, a2, a3, a4, a6, a7]
  refine ⟨fun l hl => ?_, c', d, e⟩
  by_cases z : l = σ 0 0
  · simp [z]; rfl
  · have := b l (by omega)
    simp [z, this]
theorem Ch.fl {v V v' v0 : Nat → Nat → Int32} (h : Ch v0 V v') (e : ∀ q, q ≠ 1 → q < 20 ∨ 37 ≤ q → V q = v q) (e1 : v0 1 = v 1) : FrL v v' := ⟨fun q h1 h2 => (h.1 q h1).trans (e q h1 h2), h.2.1.trans (by rw [e1]), h.2.2.trans (by rw [e1])⟩
section
variable {K : Tp} {σ : Rho} {v : Nat → Nat → Int32} {w : Nat → Nat → Int64} {P : Nat}
theorem C_takeLaw (hR : Rdy K P v) (hP : P ≤ K.1) (hs : CS σ v) (hl : σ 0 0 < 5) : ∃ r v', f_Reader_takeLaw 1 20 (nI (σ 0 0)) (bh v w) = some (r, bh v' w) ∧ FrL v v' ∧ CX (sLaw K σ P) (fun x v' => v' 1 5 = nI x.2 ∧ CS x.1 v') r v' := by
  have s1 := fun q c h f => CS_addL (v := v) (q := q) (c := c) (h := h) (f := f) hs
  have s2 := fun q c h f m => CS_addLm (v := v) (q := q) (c := c) (h := h) (f := f) (m := m) hs
  have hb : ∀ j, j < K.1 → K.2 j ≤ 127 := fun j hj => (hR.1.2.2 j hj).2
  have z1 : vLaw σ v 1 = v 1 := by unfold vLaw; rw [u2_o (by decide), u2_o (by decide), u2_o (by decide)]
  have zq : ∀ q, q ≠ 1 → q < 20 ∨ 37 ≤ q → vLaw σ v q = v q := fun q _ h2 => by unfold vLaw; rw [u2_o (by omega), u2_o (by omega), u2_o (by omega)]
  have R0 : Rdy K P (vLaw σ v) := ((hR.wr (by decide) (by decide)).wr (by decide) (by decide)).wr (by decide) (by decide)
  have e0 : u2 (u2 (u2 v 25 (σ 0 0) (-4)) 20 4 (nI (2 ^ (σ 0 0 + 1) - 1))) 20 0 (nI (σ 0 0 + 1)) = vLaw σ v := rfl
  unfold f_Reader_takeLaw f_Reader_takeLaw_0 f_Reader_takeLaw_174 f_Reader_takeLaw_163 sLaw
  rw [if_pos (show nI (σ 0 0) < (5 : Int32) from nI_lt hl (by decide))]
  simp only [hU0, hT0, bd1_q]
  rw [wr_nI hl (by decide)]
  simp only [hU0, hT0, bd1_q]
  rw [u2_n (show (0 : Nat) ≠ 4 by decide), u2_o (show 20 ≠ 25 by decide), hs.1.1, hs.1.2.2.2.2.1, or_pw _ hl, nI_1, e0]
  clear e0
  generalize vLaw σ v = v0 at s1 s2 z1 zq R0
  have H0 : Ch v0 v0 v0 := ⟨fun _ _ => rfl, rfl, rfl⟩
  obtain ⟨r1, v1, e1, f1, x1⟩ := C_takeNumber (w := w) (lo := 0) (hi := 9) R0.1 R0.2.1 R0.2.2 hP (by decide) (by decide)
  have e1 : f_Reader_takeNumber 1 (0 : Int32) (9 : Int32) (bh (v0) w) = some (r1, bh v1 w) := e1
  rw [e1, bd2_s]
  have H1a := H0.nm f1
  have T1 := R0.1.fR f1
  clear e1
  generalize hX1 : sNum K 0 9 P = X1 at x1 ⊢
  cases X1 with
  | inl g =>
    obtain ⟨rfl, a, b⟩ := x1
    rw [if_pos rfl]
    exact ⟨0, v1, rfl, H1a.fl zq z1, rfl, a, b⟩
  | inr q =>
  obtain ⟨rfl, a2, tk1, a8, lo1, hi1⟩ := x1
  rw [if_neg (by decide), sb_r]
  simp only [hU0, hT0, bd1_q, f_Reader_putInto, f_Reader_putInto_0]
  rw [wr_nI hl (by decide), bd1_s, bd2_s, if_neg (by decide), a8]
  have R1 : Rdy K (eN K P) (u2 v1 21 (σ 0 0) (nI q)) := Rdy.wr ⟨T1, a2, tk1.1⟩ (by decide) (by decide)
  have H1 := H1a.wr (o := 21) (k := (σ 0 0)) (x := nI q) (by decide)
  have fr1 : ∀ qq, qq ≠ 1 → qq < 20 ∨ 37 ≤ qq → u2 (v0) 21 (σ 0 0) (nI q) qq = v qq := fun qq h1 h2 => (u2_o (by omega)).trans (zq qq h1 h2)
  have hP1 := (eN_b hP).2.1
  obtain ⟨r2, v2, e2, f2, x2⟩ := C_takeNumber (w := w) (lo := 1) (hi := 3) R1.1 R1.2.1 R1.2.2 hP1 (by decide) (by decide)
  have e2 : f_Reader_takeNumber 1 (1 : Int32) (3 : Int32) (bh (u2 v1 21 (σ 0 0) (nI q)) w) = some (r2, bh v2 w) := e2
  rw [e2, bd2_s]
  have H2a := H1.nm f2
  have T2 := R1.1.fR f2
  clear e2
  generalize hX2 : sNum K 1 3 (eN K P) = X2 at x2 ⊢
  cases X2 with
  | inl g =>
    obtain ⟨rfl, a, b⟩ := x2
    rw [if_pos rfl]
    exact ⟨0, v2, rfl, H2a.fl fr1 z1, rfl, a, b⟩
  | inr c =>
  obtain ⟨rfl, a2, tk2, a8, lo2, hi2⟩ := x2
  rw [if_neg (by decide), sb_r]
  simp only [hU0, hT0, bd1_q, f_Reader_putInto, f_Reader_putInto_0]
  rw [wr_nI hl (by decide), bd1_s, bd2_s, if_neg (by decide), a8]
  have R2 : Rdy K (eN K (eN K P)) (u2 v2 22 (σ 0 0) (nI c)) := Rdy.wr ⟨T2, a2, tk2.1⟩ (by decide) (by decide)
  have H2 := H2a.wr (o := 22) (k := (σ 0 0)) (x := nI c) (by decide)
  have fr2 : ∀ qq, qq ≠ 1 → qq < 20 ∨ 37 ≤ qq → u2 (u2 (v0) 21 (σ 0 0) (nI q)) 22 (σ 0 0) (nI c) qq = v qq := fun qq h1 h2 => (u2_o (by omega)).trans (fr1 qq h1 h2)
  have hP2 := (eN_b hP1).2.1
  obtain ⟨r3, v3, e3, f3, x3⟩ := C_takeNumber (w := w) (lo := 0) (hi := 9) R2.1 R2.2.1 R2.2.2 hP2 (by decide) (by decide)
  have e3 : f_Reader_takeNumber 1 (0 : Int32) (9 : Int32) (bh (u2 v2 22 (σ 0 0) (nI c)) w) = some (r3, bh v3 w) := e3
  rw [e3, bd2_s]
  have H3a := H2.nm f3
  have T3 := R2.1.fR f3
  clear e3
  generalize hX3 : sNum K 0 9 (eN K (eN K P)) = X3 at x3 ⊢
  cases X3 with
  | inl g =>
    obtain ⟨rfl, a, b⟩ := x3
    rw [if_pos rfl]
    exact ⟨0, v3, rfl, H3a.fl fr2 z1, rfl, a, b⟩
  | inr h =>
  obtain ⟨rfl, a2, tk3, a8, lo3, hi3⟩ := x3
  rw [if_neg (by decide), sb_r]
  simp only [hU0, hT0, bd1_q, f_Reader_putInto, f_Reader_putInto_0]
  rw [wr_nI hl (by decide), bd1_s, bd2_s, if_neg (by decide), a8]
  have R3 : Rdy K (eN K (eN K (eN K P))) (u2 v3 23 (σ 0 0) (nI h)) := Rdy.wr ⟨T3, a2, tk3.1⟩ (by decide) (by decide)
  have H3 := H3a.wr (o := 23) (k := (σ 0 0)) (x := nI h) (by decide)
  have fr3 : ∀ qq, qq ≠ 1 → qq < 20 ∨ 37 ≤ qq → u2 (u2 (u2 (v0) 21 (σ 0 0) (nI q)) 22 (σ 0 0) (nI c)) 23 (σ 0 0) (nI h) qq = v qq := fun qq h1 h2 => (u2_o (by omega)).trans (fr2 qq h1 h2)
  have hP3 := (eN_b hP2).2.1
  obtain ⟨r4, v4, e4, f4, x4⟩ := C_takeNumber (w := w) (lo := 0) (hi := 9) R3.1 R3.2.1 R3.2.2 hP3 (by decide) (by decide)
  have e4 : f_Reader_takeNumber 1 (0 : Int32) (9 : Int32) (bh (u2 v3 23 (σ 0 0) (nI h)) w) = some (r4, bh v4 w) := e4
  rw [e4, bd2_s]
  have H4a := H3.nm f4
  have T4 := R3.1.fR f4
  clear e4
  generalize hX4 : sNum K 0 9 (eN K (eN K (eN K P))) = X4 at x4 ⊢
  cases X4 with
  | inl g =>
    obtain ⟨rfl, a, b⟩ := x4
    rw [if_pos rfl]
    exact ⟨0, v4, rfl, H4a.fl fr3 z1, rfl, a, b⟩
  | inr f =>
  obtain ⟨rfl, a2, tk4, a8, lo4, hi4⟩ := x4
  rw [if_neg (by decide), sb_r]
  simp only [hU0, hT0, bd1_q, f_Reader_putInto, f_Reader_putInto_0]
  rw [wr_nI hl (by decide), bd1_s, bd2_s, if_neg (by decide), a8]
  have R4 : Rdy K (eN K (eN K (eN K (eN K P)))) (u2 v4 24 (σ 0 0) (nI f)) := Rdy.wr ⟨T4, a2, tk4.1⟩ (by decide) (by decide)
  have H4 := H4a.wr (o := 24) (k := (σ 0 0)) (x := nI f) (by decide)
  have fr4 : ∀ qq, qq ≠ 1 → qq < 20 ∨ 37 ≤ qq → u2 (u2 (u2 (u2 (v0) 21 (σ 0 0) (nI q)) 22 (σ 0 0) (nI c)) 23 (σ 0 0) (nI h)) 24 (σ 0 0) (nI f) qq = v qq := fun qq h1 h2 => (u2_o (by omega)).trans (fr3 qq h1 h2)
  have hP4 := (eN_b hP3).2.1
  unfold sCar
  simp only [hT0, bd1_q]
  obtain ⟨r5, v5, e5, f5, x5⟩ := C_takeToken (w := w) R4.1 R4.2.1 R4.2.2 hP4
  rw [e5, bd2_s]
  have H5 := H4.nm f5
  have T5 := R4.1.fR f5
  clear e5
  generalize hX5 : tokX K (eN K (eN K (eN K (eN K P)))) = X5 at x5 ⊢
  cases X5 with
  | inl g =>
    obtain ⟨rfl, a, b⟩ := x5
    rw [if_pos rfl]
    exact ⟨0, v5, rfl, H5.fl fr4 z1, rfl, a, b⟩
  | inr u =>
  obtain ⟨rfl, a2, tk⟩ := x5
  rw [if_neg (by decide), sb_r]
  simp only [hT0, bd1_q]
  generalize hQ4 : eN K (eN K (eN K (eN K P))) = Q4 at tk hP4 ⊢
  have k4 := (kc_s (K := K) (s := sT K Q4)).2.2.2.2
  have ek : kD K Q4 = kc K (sT K Q4) := rfl
  rw [tk.2.1, show (2 : Int32) = nI 2 from rfl, ite_iff (nI_eqI (by omega) (by omega))]
  by_cases k : kD K Q4 = 2
  · rw [if_pos k, if_pos k]
    obtain ⟨r6, v6, e6, f6, x6⟩ := C_isBounded (w := w) (lo := 0) (hi := 4) tk a2 k (vL_lt hb hP4 k) (by decide) (by decide)
    have e6 : f_Reader_isBounded 1 (0 : Int32) (4 : Int32) (bh v5 w) = some (r6, bh v6 w) := e6
    unfold f_Reader_takeCarried f_Reader_takeCarried_0 f_Reader_takeCarried_41
    simp only [hT0, bd1_q]
    rw [e6, bd2_s]
    have H6 := H5.nm f6
    have T6 := T5.fR f6
    clear e6
    generalize hX6 : chkB K 0 4 Q4 = X6 at x6 ⊢
    cases X6 with
    | inl g =>
      obtain ⟨rfl, a, b⟩ := x6
      rw [if_pos rfl, bd2_s, if_pos rfl]
      exact ⟨0, v6, rfl, H6.fl fr4 z1, rfl, a, b⟩
    | inr m =>
    obtain ⟨rfl, b2, tk6, b8, -, hm⟩ := x6
    rw [if_neg (by decide), sb_r]
    simp only [hU0, hT0, bd1_q]
    rw [wr_nI hl (by decide)]
    simp only [hU0, hT0, bd1_q]
    rw [u2_o (show 1 ≠ 25 by decide), b8, tk6.2.2.1, ite_iff (nI_eqI (by omega) (by omega))]
    have H7 := H6.wr (o := 25) (k := σ 0 0) (x := nI m) (by decide)
    have fr7 : ∀ qq, qq ≠ 1 → qq < 20 ∨ 37 ≤ qq → u2 (u2 (u2 (u2 (u2 (v0) 21 (σ 0 0) (nI q)) 22 (σ 0 0) (nI c)) 23 (σ 0 0) (nI h)) 24 (σ 0 0) (nI f)) 25 (σ 0 0) (nI m) qq = v qq := fun qq h1 h2 => (u2_o (by omega)).trans (fr4 qq h1 h2)
    by_cases g : m = σ 0 0
    · rw [if_pos g, if_pos g]
      obtain ⟨v8, e8, f8, b1, b2⟩ := C_fail (w := w) (c := 4) (v := u2 v6 25 (σ 0 0) (nI m)) (s := sT K Q4) ((congrFun (u2_o (by decide)) 7).trans tk6.2.2.1)
      rw [show (4 : Int32) = nI 4 from rfl, e8, bd2_s, if_pos rfl, bd2_s, if_pos rfl]
      exact ⟨0, v8, rfl, (H7.nm f8).fl fr7 z1, rfl, b1, b2⟩
    · rw [if_neg g, if_neg g, bd2_s, if_neg (by decide)]
      have R7 : Rdy K (eN K Q4) (u2 v6 25 (σ 0 0) (nI m)) := Rdy.wr ⟨T6, b2, tk6.1⟩ (by decide) (by decide)
      have hP5 := (eN_b hP4).2.1
      simp only [hT0, bd1_q]
      obtain ⟨r8, v8, e8, f8, x8⟩ := C_takeToken (w := w) R7.1 R7.2.1 R7.2.2 hP5
      rw [e8, bd2_s]
      have H8 := H7.nm f8
      clear e8
      generalize hX8 : tokX K (eN K Q4) = X8 at x8 ⊢
      cases X8 with
      | inl g =>
        obtain ⟨rfl, a, b⟩ := x8
        rw [if_pos rfl]
        exact ⟨0, v8, rfl, H8.fl fr7 z1, rfl, a, b⟩
      | inr u =>
      obtain ⟨rfl, c2, tk8⟩ := x8
      rw [if_neg (by decide), sb_r]
      simp only [hT0, bd1_q]
      obtain ⟨r9, v9, e9, f9, x9⟩ := C_isStop (w := w) tk8 c2
      rw [e9, bd2_s]
      have H9 := H8.nm f9
      unfold sFin
      generalize sStp K (eN K Q4) = X9 at x9 ⊢
      cases X9 with
      | inl g =>
        obtain ⟨rfl, a, b⟩ := x9
        rw [if_pos rfl]
        exact ⟨0, v9, rfl, H9.fl fr7 z1, rfl, a, b⟩
      | inr u =>
        obtain ⟨rfl, d2, d5⟩ := x9
        rw [if_neg (by decide)]
        exact ⟨1, v9, rfl, H9.fl fr7 z1, rfl, d2, d5, CS.of (s2 q c h f m) H9.1⟩
  · rw [if_neg k, if_neg k]
    obtain ⟨r9, v9, e9, f9, x9⟩ := C_isStop (w := w) tk a2
    rw [e9, bd2_s]
    have H9 := H5.nm f9
    unfold sFin
    generalize sStp K Q4 = X9 at x9 ⊢
    cases X9 with
    | inl g =>
      obtain ⟨rfl, a, b⟩ := x9
      rw [if_pos rfl]
      exact ⟨0, v9, rfl, H9.fl fr4 z1, rfl, a, b⟩
    | inr u =>
      obtain ⟨rfl, d2, d5⟩ := x9
      rw [if_neg (by decide)]
      exact ⟨1, v9, rfl, H9.fl fr4 z1, rfl, d2, d5, CS.of (s1 q c h f) H9.1⟩
end
end
/-! 8x5.text5.lean.txt -/
section
def vOne (σ : Rho) (v : Nat → Nat → Int32) : Nat → Nat → Int32 := u2 v 20 1 (nI (σ 0 1 + 1))
section
variable {K : Tp} {σ : Rho} {v : Nat → Nat → Int32} {w : Nat → Nat → Int64} {P : Nat}
theorem C_addLaw {q p m R s : Nat} (hq : q = 30 ∨ q = 31) (hp : p < 3) (hr : v q p = nI R) (hR : R < 32) (h8 : v 1 8 = nI m) (hm : m ≤ 4) (h7 : v 1 7 = nI s) : (bit R m = 1 → ∃ v', f_Reader_addLaw 1 q (nI p) (bh v w) = some (0, bh v' w) ∧ FrR v v' ∧ v' 1 2 = nI 4 ∧ v' 1 3 = nI s) ∧ (bit R m = 0 → f_Reader_addLaw 1 q (nI p) (bh v w) = some (1, bh (u2 v q p (nI (R ||| 2 ^ m))) w)) := by
  obtain ⟨v1, e1, f1, b1, b2⟩ := C_fail (w := w) (c := 4) h7
  rcases hq with rfl | rfl
  · refine ⟨fun b => ?_, fun b => ?_⟩
    · unfold f_Reader_addLaw f_Reader_addLaw_0
      simp only [hU0, hT0, bd1_q]
      rw [rd_nI hp (by decide), bd1_s, hr, h8, Q_hasBit (by omega) (by omega), bd2_s, b, if_neg (by decide)]
      simp only [hT0, bd1_q]
      rw [h7, show (4 : Int32) = nI 4 from rfl, e1, bd2_s, if_pos (Or.inl rfl)]
      exact ⟨v1, rfl, f1, b1, b2⟩
    · unfold f_Reader_addLaw f_Reader_addLaw_0
      simp only [hU0, hT0, bd1_q]
      rw [rd_nI hp (by decide), bd1_s, hr, h8, Q_hasBit (by omega) (by omega), bd2_s, b, if_pos (show nI 0 = 0 from rfl)]
      simp only [hU0, hT0, bd1_q]
      rw [rd_nI hp (by decide), bd1_s, hr, h8, shl_I (by omega), or_I, wr_nI hp (by decide), bd1_s]
  · refine ⟨fun b => ?_, fun b => ?_⟩
    · unfold f_Reader_addLaw f_Reader_addLaw_0
      simp only [hU0, hT0, bd1_q]
      rw [rd_nI hp (by decide), bd1_s, hr, h8, Q_hasBit (by omega) (by omega), bd2_s, b, if_neg (by decide)]
      simp only [hT0, bd1_q]
      rw [h7, show (4 : Int32) = nI 4 from rfl, e1, bd2_s, if_pos (Or.inl rfl)]
      exact ⟨v1, rfl, f1, b1, b2⟩
    · unfold f_Reader_addLaw f_Reader_addLaw_0
      simp only [hU0, hT0, bd1_q]
      rw [rd_nI hp (by decide), bd1_s, hr, h8, Q_hasBit (by omega) (by omega), bd2_s, b, if_pos (show nI 0 = 0 from rfl)]
      simp only [hU0, hT0, bd1_q]
      rw [rd_nI hp (by decide), bd1_s, hr, h8, shl_I (by omega), or_I, wr_nI hp (by decide), bd1_s]
theorem pw4 : ∀ x, x ≤ 4 → 2 ^ x < 32 := by decide
theorem C_refF (n b0 b1 : Nat) (b2 i : Int32) (h : mH) : f_Reader_takeOne_127 (n + 1) b0 b1 b2 0 i h = some (0, h) := by
  show f_Reader_takeOne_127b (f_Reader_takeOne_127 n) b0 b1 b2 0 i h = _
  unfold f_Reader_takeOne_127b f_Reader_takeOne_185 f_Reader_takeOne_200
  by_cases c : (5 : Int32) < i
  · rw [if_pos c, if_pos rfl]
  · rw [if_neg c, if_pos rfl, if_pos rfl]
theorem C_oneF (b0 b1 : Nat) (b2 : Int32) (h : mH) : f_Reader_takeOne_122 b0 b1 b2 h = some (0, h) := C_refF 599 b0 b1 b2 0 h
theorem C_one185 {α : Type} (a : α) (hk : CTk K P v) (h2 : v 1 2 = 0) : ∃ r v', f_Reader_takeOne_185 1 1 (bh v w) = some (r, bh v' w) ∧ FrR v v' ∧ CX (sFin K P a) (fun y v' => v' 1 5 = nI y.2 ∧ y.1 = a) r v' := by
  obtain ⟨r, v1, e1, f1, x1⟩ := C_isStop (w := w) hk h2
  unfold f_Reader_takeOne_185 f_Reader_takeOne_200 sFin
  rw [if_neg (by decide)]
  simp only [hT0, bd1_q]
  rw [e1, bd2_s]
  generalize sStp K P = X at x1 ⊢
  cases X with
  | inl g =>
    obtain ⟨rfl, a, b⟩ := x1
    rw [if_pos rfl]
    exact ⟨0, v1, rfl, f1, rfl, a, b⟩
  | inr u =>
    obtain ⟨rfl, d2, d5⟩ := x1
    rw [if_neg (by decide)]
    exact ⟨1, v1, rfl, f1, rfl, d2, d5, rfl⟩
def FrO (p : Nat) (v v' : Nat → Nat → Int32) : Prop := (∀ q, q ≠ 1 → q ≠ 30 → v' q = v q) ∧ (∀ j, j ≠ p → v' 30 j = v 30 j) ∧ v' 1 1 = v 1 1 ∧ v' 1 4 = v 1 4
theorem FrO.nm {p : Nat} {v v1 v2 : Nat → Nat → Int32} (h : FrO p v v1) (g : FrR v1 v2) : FrO p v v2 := ⟨fun q h1 h2 => (g.1 q h1).trans (h.1 q h1 h2), fun j hj => (congrFun (g.1 30 (by decide)) j).trans (h.2.1 j hj), g.2.1.trans h.2.2.1, g.2.2.trans h.2.2.2⟩
theorem FrO.rf (p : Nat) (v : Nat → Nat → Int32) : FrO p v v := ⟨fun _ _ _ => rfl, fun _ _ => rfl, rfl, rfl⟩
theorem FrO.wr {p : Nat} {v v1 : Nat → Nat → Int32} {x : Int32} (h : FrO p v v1) : FrO p v (u2 v1 30 p x) := ⟨fun q h1 h2 => (u2_o h2).trans (h.1 q h1 h2), fun j hj => (u2_n hj).trans (h.2.1 j hj), (congrFun (u2_o (by decide)) 1).trans h.2.2.1, (congrFun (u2_o (by decide)) 4).trans h.2.2.2⟩
theorem FrO.tr {p : Nat} {v v1 v2 : Nat → Nat → Int32} (h : FrO p v v1) (g : FrO p v1 v2) : FrO p v v2 := ⟨fun q h1 h2 => (g.1 q h1 h2).trans (h.1 q h1 h2), fun j hj => (g.2.1 j hj).trans (h.2.1 j hj), g.2.2.1.trans h.2.2.1, g.2.2.2.trans h.2.2.2⟩
theorem C_refL {p : Nat} (hp : p < 3) : ∀ (n fuel i R h Q : Nat) (v : Nat → Nat → Int32), n + 1 < fuel → i + n = 6 → CT K v → v 1 2 = 0 → CTk K Q v → Q ≤ K.1 → v 30 p = nI R → R < 32 → ∃ r v', f_Reader_takeOne_127 fuel 1 20 (nI p) 1 (nI i) (bh v w) = some (r, bh v' w) ∧ FrO p v v' ∧ CX (sb (sRef K n R h Q) fun x => sFin K x.2 x.1) (fun y v' => v' 1 5 = nI y.2 ∧ v' 30 p = nI y.1.1) r v' := by
  intro n
  have stp : ∀ (R h Q : Nat) (v : Nat → Nat → Int32), v 1 2 = 0 → CTk K Q v → v 30 p = nI R → ∃ r v', f_Reader_takeOne_185 1 1 (bh v w) = some (r, bh v' w) ∧ FrO p v v' ∧ CX (sFin K Q (R, h)) (fun y v' => v' 1 5 = nI y.2 ∧ v' 30 p = nI y.1.1) r v' := by
    intro R h Q v h2 hk h30
    obtain ⟨r, v1, e1, f1, x1⟩ := C_one185 (w := w) (R, h) hk h2
    refine ⟨r, v1, e1, (FrO.rf p v).nm f1, ?_⟩
    generalize sFin K Q (R, h) = X at x1 ⊢
    cases X with
    | inl g => exact x1
    | inr y =>
      obtain ⟨a, b, c, d⟩ := x1
      exact ⟨a, b, c, by rw [f1.1 30 (by decide), h30, d]⟩
  induction n with
  | zero =>
    intro fuel i R h Q v hf hi hT h2 hk hQ h30 hR
    obtain ⟨m, rfl⟩ : ∃ m, fuel = m + 1 := ⟨fuel - 1, by omega⟩
    obtain rfl : i = 6 := by omega
    show ∃ r v', f_Reader_takeOne_127b (f_Reader_takeOne_127 m) 1 20 (nI p) 1 (nI 6) (bh v w) = some (r, bh v' w) ∧ _
    unfold f_Reader_takeOne_127b
    rw [if_pos (by decide)]
    exact stp R h Q v h2 hk h30
  | succ n ih =>
    intro fuel i R h Q v hf hi hT h2 hk hQ h30 hR
    obtain ⟨m, rfl⟩ : ∃ m, fuel = m + 1 + 1 := ⟨fuel - 2, by omega⟩
    have k4 := (kc_s (K := K) (s := sT K Q)).2.2.2.2
    have ek : kD K Q = kc K (sT K Q) := rfl
    have hb : ∀ j, j < K.1 → K.2 j ≤ 127 := fun j hj => (hT.2.2 j hj).2
    show ∃ r v', f_Reader_takeOne_127b (f_Reader_takeOne_127 (m + 1)) 1 20 (nI p) 1 (nI i) (bh v w) = some (r, bh v' w) ∧ _
    unfold f_Reader_takeOne_127b sRef f_Reader_takeOne_177 f_Reader_takeOne_178
    rw [show (5 : Int32) = nI 5 from rfl, if_neg (fun z => by have := (nI_ltI (by omega) (by omega)).mp z; omega), if_neg (by decide)]
    simp only [hT0, hU0, bd1_q]
    rw [hk.2.1, show (2 : Int32) = nI 2 from rfl, ite_iff (nI_eqI (by omega) (by omega))]
    by_cases k : kD K Q = 2
    · rw [if_pos k, if_pos k]
      obtain ⟨r6, v6, e6, f6, x6⟩ := C_isBounded (w := w) (lo := 0) (hi := 4) hk h2 k (vL_lt hb hQ k) (by decide) (by decide)
      have e6 : f_Reader_isBounded 1 (0 : Int32) (4 : Int32) (bh v w) = some (r6, bh v6 w) := e6
      rw [e6, bd2_s]
      have T6 := hT.fR f6
      have F6 := (FrO.rf p v).nm f6
      clear e6
      generalize hX6 : chkB K 0 4 Q = X6 at x6 ⊢
      cases X6 with
      | inl g =>
        obtain ⟨rfl, a, b⟩ := x6
        rw [if_pos rfl, C_refF]
        exact ⟨0, v6, rfl, F6, rfl, a, b⟩
      | inr m' =>
      obtain ⟨rfl, b2, tk6, b8, -, hm⟩ := x6
      rw [if_neg (by decide), sb_r]
      simp only [hU0, hT0, bd1_q]
      obtain ⟨g1, g2⟩ := C_addLaw (w := w) (v := v6) (q := 30) (p := p) (R := R) (m := m') (s := sT K Q) (Or.inl rfl) hp ((congrFun (f6.1 30 (by decide)) p).trans h30) hR b8 hm tk6.2.2.1
      rcases bit_01 R m' with b | b
      · rw [g2 b, bd2_s, if_neg (by decide), if_neg (by omega)]
        simp only [hT0, bd1_q]
        obtain ⟨r8, v8, e8, f8, x8⟩ := C_takeToken (w := w) (K := K) (P := eN K Q) (v := u2 v6 30 p (nI (R ||| 2 ^ m'))) (T6.fr (congrFun (u2_o (by decide)) 1) (u2_o (by decide))) ((congrFun (u2_o (by decide)) 2).trans b2) ((congrFun (u2_o (by decide)) 5).trans tk6.1) (eN_b hQ).2.1
        rw [e8, bd2_s]
        have F8 := (F6.wr (x := nI (R ||| 2 ^ m'))).nm f8
        have T8 : CT K v8 := (T6.fr (congrFun (u2_o (by decide)) 1) (u2_o (by decide)) : CT K (u2 v6 30 p (nI (R ||| 2 ^ m')))).fR f8
        have c30 : v8 30 p = nI (R ||| 2 ^ m') := (congrFun (f8.1 30 (by decide)) p).trans (u2_at _ _ _ _)
        clear e8
        generalize hX8 : tokX K (eN K Q) = X8 at x8 ⊢
        cases X8 with
        | inl g =>
          obtain ⟨rfl, a, b⟩ := x8
          rw [if_pos rfl, C_refF]
          exact ⟨0, v8, rfl, F8, rfl, a, b⟩
        | inr u =>
        obtain ⟨rfl, c2, tk8⟩ := x8
        rw [if_neg (by decide), sb_r, nI_1]
        obtain ⟨r9, v9, e9, f9, x9⟩ := ih (m + 1) (i + 1) (R ||| 2 ^ m') (max h (m' + 1)) (eN K Q) v8 (by omega) (by omega) T8 c2 tk8 (eN_b hQ).2.1 c30 (or_lt R hR _ (pw4 m' hm))
        exact ⟨r9, v9, e9, F8.tr f9, x9⟩
      · obtain ⟨v7, e7, f7, b1, b3⟩ := g1 b
        rw [e7, bd2_s, if_pos rfl, C_refF, if_pos b]
        exact ⟨0, v7, rfl, F6.nm f7, rfl, b1, b3⟩
    · rw [if_neg k, if_neg k]
      exact stp R h Q v h2 hk h30
theorem CS_addO {σ : Rho} {v : Nat → Nat → Int32} {t c n u R h : Nat} (hs : CS σ v) (hp : σ 0 1 < 3) : CS (addO σ t c n u R h) (u2 (u2 (u2 (u2 (u2 (vOne σ v) 26 (σ 0 1) (nI t)) 27 (σ 0 1) (nI c)) 28 (σ 0 1) (nI n)) 29 (σ 0 1) (nI u)) 30 (σ 0 1) (nI R)) := by
  obtain ⟨⟨a1, a2, a3, a4, a5, a6, a7⟩, b, c', d, e⟩ := hs
  unfold CS addO vOne
  simp [u2_ap, up2_ap, a1, a3, a4, a5, a6, a7]
  refine ⟨b, fun l hl => ?_, fun p hp => ?_, e⟩
  · by_cases z : l = σ 0 1
    · simp [z]
    · have := c' l (by omega)
      simp [z, this]
  · by_cases z : p = σ 0 1
    · have := d p hp
      rw [z] at this
      simp [z, this]
    · have := d p hp
      simp [z, this]
theorem C_takeOne (hR : Rdy K P v) (hP : P ≤ K.1) (hs : CS σ v) (hI : SI σ) (hl : σ 0 1 < 3) : ∃ r v', f_Reader_takeOne 1 20 (nI (σ 0 1)) (bh v w) = some (r, bh v' w) ∧ FrL v v' ∧ CX (sOne K σ P) (fun x v' => v' 1 5 = nI x.2 ∧ CS x.1 v') r v' := by
  have s1 := fun t c n u R h => CS_addO (v := v) (t := t) (c := c) (n := n) (u := u) (R := R) (h := h) hs hl
  have z1 : vOne σ v 1 = v 1 := by unfold vOne; rw [u2_o (by decide)]
  have z30 : vOne σ v 30 = v 30 := by unfold vOne; rw [u2_o (by decide)]
  have zq : ∀ q, q ≠ 1 → q < 20 ∨ 37 ≤ q → vOne σ v q = v q := fun q _ h2 => by unfold vOne; rw [u2_o (by omega)]
  have R0 : Rdy K P (vOne σ v) := hR.wr (by decide) (by decide)
  have e0 : u2 v 20 1 (nI (σ 0 1 + 1)) = vOne σ v := rfl
  have h30 : v 30 (σ 0 1) = nI 0 := by rw [(hs.2.2.2.1 _ hl).1, (hI.2.2.2.1 _ hl).2.2 (Nat.le_refl _)]
  unfold f_Reader_takeOne f_Reader_takeOne_0 sOne
  rw [if_pos (show nI (σ 0 1) < (3 : Int32) from nI_lt hl (by decide))]
  simp only [hU0, hT0, bd1_q, C_oneF]
  rw [hs.1.2.1, nI_1, e0]
  clear e0
  generalize vOne σ v = v0 at s1 z1 z30 zq R0
  have H0 : Ch v0 v0 v0 := ⟨fun _ _ => rfl, rfl, rfl⟩
  obtain ⟨r1, v1, e1, f1, x1⟩ := C_takeNumber (w := w) (lo := 0) (hi := 5) R0.1 R0.2.1 R0.2.2 hP (by decide) (by decide)
  have e1 : f_Reader_takeNumber 1 (0 : Int32) (5 : Int32) (bh (v0) w) = some (r1, bh v1 w) := e1
  rw [e1, bd2_s]
  have H1a := H0.nm f1
  have T1 := R0.1.fR f1
  clear e1
  generalize hX1 : sNum K 0 5 P = X1 at x1 ⊢
  cases X1 with
  | inl g =>
    obtain ⟨rfl, a, b⟩ := x1
    rw [if_pos rfl]
    exact ⟨0, v1, rfl, H1a.fl zq z1, rfl, a, b⟩
  | inr t =>
  obtain ⟨rfl, a2, tk1, a8, lo1, hi1⟩ := x1
  rw [if_neg (by decide), sb_r]
  simp only [hU0, hT0, bd1_q, f_Reader_putInto, f_Reader_putInto_0]
  rw [wr_nI hl (by decide), bd1_s, bd2_s, if_neg (by decide), a8]
  have R1 : Rdy K (eN K P) (u2 v1 26 (σ 0 1) (nI t)) := Rdy.wr ⟨T1, a2, tk1.1⟩ (by decide) (by decide)
  have H1 := H1a.wr (o := 26) (k := (σ 0 1)) (x := nI t) (by decide)
  have fr1 : ∀ qq, qq ≠ 1 → qq < 20 ∨ 37 ≤ qq → u2 (v0) 26 (σ 0 1) (nI t) qq = v qq := fun qq h1 h2 => (u2_o (by omega)).trans (zq qq h1 h2)
  have hP1 := (eN_b hP).2.1
  obtain ⟨r2, v2, e2, f2, x2⟩ := C_takeNumber (w := w) (lo := 0) (hi := 3) R1.1 R1.2.1 R1.2.2 hP1 (by decide) (by decide)
  have e2 : f_Reader_takeNumber 1 (0 : Int32) (3 : Int32) (bh (u2 v1 26 (σ 0 1) (nI t)) w) = some (r2, bh v2 w) := e2
  rw [e2, bd2_s]
  have H2a := H1.nm f2
  have T2 := R1.1.fR f2
  clear e2
  generalize hX2 : sNum K 0 3 (eN K P) = X2 at x2 ⊢
  cases X2 with
  | inl g =>
    obtain ⟨rfl, a, b⟩ := x2
    rw [if_pos rfl]
    exact ⟨0, v2, rfl, H2a.fl fr1 z1, rfl, a, b⟩
  | inr c =>
  obtain ⟨rfl, a2, tk2, a8, lo2, hi2⟩ := x2
  rw [if_neg (by decide), sb_r]
  simp only [hU0, hT0, bd1_q, f_Reader_putInto, f_Reader_putInto_0]
  rw [wr_nI hl (by decide), bd1_s, bd2_s, if_neg (by decide), a8]
  have R2 : Rdy K (eN K (eN K P)) (u2 v2 27 (σ 0 1) (nI c)) := Rdy.wr ⟨T2, a2, tk2.1⟩ (by decide) (by decide)
  have H2 := H2a.wr (o := 27) (k := (σ 0 1)) (x := nI c) (by decide)
  have fr2 : ∀ qq, qq ≠ 1 → qq < 20 ∨ 37 ≤ qq → u2 (u2 (v0) 26 (σ 0 1) (nI t)) 27 (σ 0 1) (nI c) qq = v qq := fun qq h1 h2 => (u2_o (by omega)).trans (fr1 qq h1 h2)
  have hP2 := (eN_b hP1).2.1
  obtain ⟨r3, v3, e3, f3, x3⟩ := C_takeNumber (w := w) (lo := 0) (hi := 10) R2.1 R2.2.1 R2.2.2 hP2 (by decide) (by decide)
  have e3 : f_Reader_takeNumber 1 (0 : Int32) (10 : Int32) (bh (u2 v2 27 (σ 0 1) (nI c)) w) = some (r3, bh v3 w) := e3
  rw [e3, bd2_s]
  have H3a := H2.nm f3
  have T3 := R2.1.fR f3
  clear e3
  generalize hX3 : sNum K 0 10 (eN K (eN K P)) = X3 at x3 ⊢
  cases X3 with
  | inl g =>
    obtain ⟨rfl, a, b⟩ := x3
    rw [if_pos rfl]
    exact ⟨0, v3, rfl, H3a.fl fr2 z1, rfl, a, b⟩
  | inr n =>
  obtain ⟨rfl, a2, tk3, a8, lo3, hi3⟩ := x3
  rw [if_neg (by decide), sb_r]
  simp only [hU0, hT0, bd1_q, f_Reader_putInto, f_Reader_putInto_0]
  rw [wr_nI hl (by decide), bd1_s, bd2_s, if_neg (by decide), a8]
  have R3 : Rdy K (eN K (eN K (eN K P))) (u2 v3 28 (σ 0 1) (nI n)) := Rdy.wr ⟨T3, a2, tk3.1⟩ (by decide) (by decide)
  have H3 := H3a.wr (o := 28) (k := (σ 0 1)) (x := nI n) (by decide)
  have fr3 : ∀ qq, qq ≠ 1 → qq < 20 ∨ 37 ≤ qq → u2 (u2 (u2 (v0) 26 (σ 0 1) (nI t)) 27 (σ 0 1) (nI c)) 28 (σ 0 1) (nI n) qq = v qq := fun qq h1 h2 => (u2_o (by omega)).trans (fr2 qq h1 h2)
  have hP3 := (eN_b hP2).2.1
  obtain ⟨r4, v4, e4, f4, x4⟩ := C_takeNumber (w := w) (lo := 0) (hi := 99) R3.1 R3.2.1 R3.2.2 hP3 (by decide) (by decide)
  have e4 : f_Reader_takeNumber 1 (0 : Int32) (99 : Int32) (bh (u2 v3 28 (σ 0 1) (nI n)) w) = some (r4, bh v4 w) := e4
  rw [e4, bd2_s]
  have H4a := H3.nm f4
  have T4 := R3.1.fR f4
  clear e4
  generalize hX4 : sNum K 0 99 (eN K (eN K (eN K P))) = X4 at x4 ⊢
  cases X4 with
  | inl g =>
    obtain ⟨rfl, a, b⟩ := x4
    rw [if_pos rfl]
    exact ⟨0, v4, rfl, H4a.fl fr3 z1, rfl, a, b⟩
  | inr u =>
  obtain ⟨rfl, a2, tk4, a8, lo4, hi4⟩ := x4
  rw [if_neg (by decide), sb_r]
  simp only [hU0, hT0, bd1_q, f_Reader_putInto, f_Reader_putInto_0]
  rw [wr_nI hl (by decide), bd1_s, bd2_s, if_neg (by decide), a8]
  have R4 : Rdy K (eN K (eN K (eN K (eN K P)))) (u2 v4 29 (σ 0 1) (nI u)) := Rdy.wr ⟨T4, a2, tk4.1⟩ (by decide) (by decide)
  have H4 := H4a.wr (o := 29) (k := (σ 0 1)) (x := nI u) (by decide)
  have fr4 : ∀ qq, qq ≠ 1 → qq < 20 ∨ 37 ≤ qq → u2 (u2 (u2 (u2 (v0) 26 (σ 0 1) (nI t)) 27 (σ 0 1) (nI c)) 28 (σ 0 1) (nI n)) 29 (σ 0 1) (nI u) qq = v qq := fun qq h1 h2 => (u2_o (by omega)).trans (fr3 qq h1 h2)
  have hP4 := (eN_b hP3).2.1
  simp only [hT0, bd1_q]
  obtain ⟨r5, v5, e5, f5, x5⟩ := C_takeToken (w := w) R4.1 R4.2.1 R4.2.2 hP4
  rw [e5, bd2_s]
  have H5 := H4.nm f5
  have T5 := R4.1.fR f5
  clear e5
  generalize hX5 : tokX K (eN K (eN K (eN K (eN K P)))) = X5 at x5 ⊢
  cases X5 with
  | inl g =>
    obtain ⟨rfl, a, b⟩ := x5
    rw [if_pos rfl]
    exact ⟨0, v5, rfl, H5.fl fr4 z1, rfl, a, b⟩
  | inr uu =>
  obtain ⟨rfl, a2, tk⟩ := x5
  rw [if_neg (by decide), sb_r]
  unfold f_Reader_takeOne_123
  generalize hQ4 : eN K (eN K (eN K (eN K P))) = Q4 at tk hP4 ⊢
  have c30 : v5 30 (σ 0 1) = nI 0 := by
    rw [H5.1 30 (by decide), u2_o (by decide), u2_o (by decide), u2_o (by decide), u2_o (by decide), z30]
    exact h30
  obtain ⟨r9, v9, e9, f9, x9⟩ := C_refL (w := w) hl 6 FU 0 0 (σ 17 0) Q4 v5 (by decide) (by decide) T5 a2 tk hP4 c30 (by decide)
  refine ⟨r9, v9, e9, ⟨fun q h1 h2 => (f9.1 q h1 (by omega)).trans ((H5.1 q h1).trans (fr4 q h1 h2)), f9.2.2.1.trans (H5.2.1.trans (by rw [z1])), f9.2.2.2.trans (H5.2.2.trans (by rw [z1]))⟩, ?_⟩
  clear e9
  generalize sRef K 6 0 (σ 17 0) Q4 = X at x9 ⊢
  cases X with
  | inl g => exact x9
  | inr x =>
  rw [sb_r] at x9 ⊢
  unfold sFin at x9 ⊢
  generalize sStp K x.2 = X at x9 ⊢
  cases X with
  | inl g => exact x9
  | inr y =>
  obtain ⟨b1, b2, b3, b4⟩ := x9
  refine ⟨b1, b2, b3, CS.of (s1 t c n u x.1.1 x.1.2) (fun q hq => ?_)⟩
  by_cases e : q = 30
  · subst e
    funext j
    by_cases z : j = σ 0 1
    · rw [z, b4, u2_at]
    · rw [f9.2.1 j z, u2_n z, H5.1 30 (by decide)]
  · rw [f9.1 q hq e, H5.1 q hq, u2_o e]
end
end
end
/-! 8_08.joined -/
section
/-! 8x6.text6.lean.txt -/
section
/-! want, watch, the words of the lines, a line -/
section
variable {K : Tp} {σ : Rho} {v : Nat → Nat → Int32} {w : Nat → Nat → Int64} {P : Nat}
theorem CS_addW {p m : Nat} (hs : CS σ v) : CS (addW σ p m) (u2 v 31 p (nI (σ 11 p ||| 2 ^ m))) := by
  obtain ⟨⟨a1, a2, a3, a4, a5, a6, a7⟩, b, c', d, e⟩ := hs
  unfold CS addW
  simp [u2_ap, up2_ap, a1, a2, a3, a4, a5, a6, a7]
  refine ⟨b, c', fun l hl => ?_, e⟩
  by_cases z : l = p
  · have := d l hl
    rw [z] at this
    simp [z, this]
  · have := d l hl
    simp [z, this]
theorem CS_addH {m : Nat} (hs : CS σ v) : CS (addH σ m) (u2 v 20 5 (nI (σ 0 5 ||| 2 ^ m))) := by
  obtain ⟨⟨a1, a2, a3, a4, a5, a6, a7⟩, b, c', d, e⟩ := hs
  unfold CS addH
  simp [u2_ap, up2_ap, a1, a2, a3, a4, a5, a7]
  exact ⟨b, c', d, e⟩
theorem FrR.fl {v1 : Nat → Nat → Int32} (h : FrR v v1) : FrL v v1 := ⟨fun q h1 _ => h.1 q h1, h.2.1, h.2.2⟩
theorem FrL.nm {v1 v2 : Nat → Nat → Int32} (h : FrL v v1) (g : FrR v1 v2) : FrL v v2 := ⟨fun q h1 h2 => (g.1 q h1).trans (h.1 q h1 h2), g.2.1.trans h.2.1, g.2.2.trans h.2.2⟩
theorem FrL.wr {v1 : Nat → Nat → Int32} {o k : Nat} {x : Int32} (h : FrL v v1) (ho : 20 ≤ o ∧ o < 37) : FrL v (u2 v1 o k x) := ⟨fun q h1 h2 => (u2_o (by omega)).trans (h.1 q h1 h2), (congrFun (u2_o (by omega)) 1).trans h.2.1, (congrFun (u2_o (by omega)) 4).trans h.2.2⟩
theorem C_takeWant (hR : Rdy K P v) (hP : P ≤ K.1) (hs : CS σ v) (hI : SI σ) : ∃ r v', f_Reader_takeWant 1 20 (bh v w) = some (r, bh v' w) ∧ FrL v v' ∧ CX (sWant K σ P) (fun x v' => v' 1 5 = nI x.2 ∧ CS x.1 v') r v' := by
  unfold f_Reader_takeWant f_Reader_takeWant_0 f_Reader_takeWant_55 sWant
  simp only [hT0, bd1_q]
  obtain ⟨r1, v1, e1, f1, x1⟩ := C_takeNumber (w := w) (lo := 0) (hi := 2) hR.1 hR.2.1 hR.2.2 hP (by decide) (by decide)
  have e1 : f_Reader_takeNumber 1 (0 : Int32) (2 : Int32) (bh v w) = some (r1, bh v1 w) := e1
  rw [e1, bd2_s]
  have T1 := hR.1.fR f1
  clear e1
  generalize sNum K 0 2 P = X1 at x1 ⊢
  cases X1 with
  | inl g =>
    obtain ⟨rfl, a, b⟩ := x1
    rw [if_pos rfl]
    exact ⟨0, v1, rfl, f1.fl, rfl, a, b⟩
  | inr p =>
  obtain ⟨rfl, a2, tk1, a8, -, hp⟩ := x1
  rw [if_neg (by decide), sb_r]
  simp only [hT0, bd1_q]
  have hP1 := (eN_b hP).2.1
  obtain ⟨r2, v2, e2, f2, x2⟩ := C_takeNumber (w := w) (lo := 0) (hi := 4) T1 a2 tk1.1 hP1 (by decide) (by decide)
  have e2 : f_Reader_takeNumber 1 (0 : Int32) (4 : Int32) (bh v1 w) = some (r2, bh v2 w) := e2
  rw [e2, bd2_s, a8]
  have T2 := T1.fR f2
  have F2 := f1.fl.nm f2
  clear e2
  generalize sNum K 0 4 (eN K P) = X2 at x2 ⊢
  cases X2 with
  | inl g =>
    obtain ⟨rfl, a, b⟩ := x2
    rw [if_pos rfl]
    exact ⟨0, v2, rfl, F2, rfl, a, b⟩
  | inr m =>
  obtain ⟨rfl, b2, tk2, b8, -, hm⟩ := x2
  rw [if_neg (by decide), sb_r]
  simp only [hU0, hT0, bd1_q]
  have d := hs.2.2.2.1 p (by omega)
  have dI := hI.2.2.2.1 p (by omega)
  have q31 : v2 31 = v 31 := (f2.1 31 (by decide)).trans (f1.1 31 (by decide))
  obtain ⟨g1, g2⟩ := C_addLaw (w := w) (v := v2) (q := 31) (p := p) (R := σ 11 p) (m := m) (s := sT K (eN K P)) (Or.inr rfl) (by omega) ((congrFun q31 p).trans d.2) dI.2.1 b8 hm tk2.2.2.1
  rcases bit_01 (σ 11 p) m with b | b
  · rw [g2 b, bd2_s, if_neg (by decide), if_neg (by omega)]
    simp only [hT0, bd1_q]
    have R3 : Rdy K (eN K (eN K P)) (u2 v2 31 p (nI (σ 11 p ||| 2 ^ m))) := Rdy.wr ⟨T2, b2, tk2.1⟩ (by decide) (by decide)
    have hP2 := (eN_b hP1).2.1
    obtain ⟨r4, v4, e4, f4, x4⟩ := C_takeToken (w := w) R3.1 R3.2.1 R3.2.2 hP2
    rw [e4, bd2_s]
    have F4 := (F2.wr (o := 31) (k := p) (x := nI (σ 11 p ||| 2 ^ m)) (by omega)).nm f4
    clear e4
    generalize tokX K (eN K (eN K P)) = X4 at x4 ⊢
    cases X4 with
    | inl g =>
      obtain ⟨rfl, a, b⟩ := x4
      rw [if_pos rfl]
      exact ⟨0, v4, rfl, F4, rfl, a, b⟩
    | inr u =>
    obtain ⟨rfl, c2, tk4⟩ := x4
    rw [if_neg (by decide), sb_r]
    simp only [hT0, bd1_q]
    obtain ⟨r5, v5, e5, f5, x5⟩ := C_isStop (w := w) tk4 c2
    rw [e5, bd2_s]
    unfold sFin
    clear e5
    generalize sStp K (eN K (eN K P)) = X5 at x5 ⊢
    cases X5 with
    | inl g =>
      obtain ⟨rfl, a, b⟩ := x5
      rw [if_pos rfl]
      exact ⟨0, v5, rfl, F4.nm f5, rfl, a, b⟩
    | inr u =>
      obtain ⟨rfl, d2, d5⟩ := x5
      rw [if_neg (by decide)]
      refine ⟨1, v5, rfl, F4.nm f5, rfl, d2, d5, CS.of (CS_addW (m := m) (p := p) hs) (fun q hq => ?_)⟩
      rw [f5.1 q hq, f4.1 q hq]
      exact u2_cg ((f2.1 q hq).trans (f1.1 q hq))
  · obtain ⟨v7, e7, f7, b1, b3⟩ := g1 b
    rw [e7, bd2_s, if_pos rfl, if_pos b]
    exact ⟨0, v7, rfl, F2.nm f7, rfl, b1, b3⟩
theorem C_takeWatch (hR : Rdy K P v) (hP : P ≤ K.1) (hs : CS σ v) (hI : SI σ) : ∃ r v', f_Reader_takeWatch 1 20 (bh v w) = some (r, bh v' w) ∧ FrL v v' ∧ CX (sWatch K σ P) (fun x v' => v' 1 5 = nI x.2 ∧ CS x.1 v') r v' := by
  have hw := hI.1.2.2.2.2.1
  unfold f_Reader_takeWatch f_Reader_takeWatch_0 f_Reader_takeWatch_68 sWatch
  simp only [hT0, bd1_q]
  obtain ⟨r2, v2, e2, f2, x2⟩ := C_takeNumber (w := w) (lo := 0) (hi := 4) hR.1 hR.2.1 hR.2.2 hP (by decide) (by decide)
  have e2 : f_Reader_takeNumber 1 (0 : Int32) (4 : Int32) (bh v w) = some (r2, bh v2 w) := e2
  rw [e2, bd2_s]
  have T2 := hR.1.fR f2
  have F2 := f2.fl
  clear e2
  generalize sNum K 0 4 P = X2 at x2 ⊢
  cases X2 with
  | inl g =>
    obtain ⟨rfl, a, b⟩ := x2
    rw [if_pos rfl]
    exact ⟨0, v2, rfl, F2, rfl, a, b⟩
  | inr m =>
  obtain ⟨rfl, b2, tk2, b8, -, hm⟩ := x2
  rw [if_neg (by decide), sb_r]
  simp only [hU0, hT0, bd1_q]
  have q5 : v2 20 5 = nI (σ 0 5) := (congrFun (f2.1 20 (by decide)) 5).trans hs.1.2.2.2.2.2.1
  rw [q5, b8, Q_hasBit (by omega) (by omega), bd2_s]
  rcases bit_01 (σ 0 5) m with b | b
  · rw [b, if_pos (show nI 0 = 0 from rfl), if_neg (by decide)]
    simp only [hU0, hT0, bd1_q]
    rw [q5, b8, shl_I (by omega), or_I]
    have R3 : Rdy K (eN K P) (u2 v2 20 5 (nI (σ 0 5 ||| 2 ^ m))) := Rdy.wr ⟨T2, b2, tk2.1⟩ (by decide) (by decide)
    have hP2 := (eN_b hP).2.1
    obtain ⟨r4, v4, e4, f4, x4⟩ := C_takeToken (w := w) R3.1 R3.2.1 R3.2.2 hP2
    rw [e4, bd2_s]
    have F4 := (F2.wr (o := 20) (k := 5) (x := nI (σ 0 5 ||| 2 ^ m)) (by omega)).nm f4
    clear e4
    generalize tokX K (eN K P) = X4 at x4 ⊢
    cases X4 with
    | inl g =>
      obtain ⟨rfl, a, b⟩ := x4
      rw [if_pos rfl]
      exact ⟨0, v4, rfl, F4, rfl, a, b⟩
    | inr u =>
    obtain ⟨rfl, c2, tk4⟩ := x4
    rw [if_neg (by decide), sb_r]
    simp only [hT0, bd1_q]
    obtain ⟨r5, v5, e5, f5, x5⟩ := C_isStop (w := w) tk4 c2
    rw [e5, bd2_s]
    unfold sFin
    clear e5
    generalize sStp K (eN K P) = X5 at x5 ⊢
    cases X5 with
    | inl g =>
      obtain ⟨rfl, a, b⟩ := x5
      rw [if_pos rfl]
      exact ⟨0, v5, rfl, F4.nm f5, rfl, a, b⟩
    | inr u =>
      obtain ⟨rfl, d2, d5⟩ := x5
      rw [if_neg (by decide)]
      refine ⟨1, v5, rfl, F4.nm f5, rfl, d2, d5, CS.of (CS_addH (m := m) hs) (fun q hq => ?_)⟩
      rw [f5.1 q hq, f4.1 q hq]
      exact u2_cg (f2.1 q hq)
  · obtain ⟨v7, e7, f7, b1, b3⟩ := C_fail (w := w) (c := 4) tk2.2.2.1
    rw [b, if_neg (by decide)]
    simp only [hT0, bd1_q]
    rw [tk2.2.2.1, show (4 : Int32) = nI 4 from rfl, e7, bd2_s, if_pos (Or.inl rfl), if_pos trivial]
    exact ⟨0, v7, rfl, F2.nm f7, rfl, b1, b3⟩
end
def wLt (o j : Nat) : Nat := ((match o with
  | 0 => [108, 97, 119]
  | 1 => [111, 110, 101]
  | 2 => [119, 97, 110, 116]
  | _ => [119, 97, 116, 99, 104]) : List Nat).getD j 0
def wLn (o : Nat) : Nat := match o with
  | 0 => 3
  | 1 => 3
  | 2 => 4
  | _ => 5
def wLm (K : Tp) (s o : Nat) : Nat → Nat → Bool
  | 0, _ => true
  | n + 1, i => if K.2 (s + i) = wLt o i then wLm K s o n (i + 1) else false
def isW (K : Tp) (P o : Nat) : Bool := if kD K P = 1 ∧ eN K P = sT K P + wLn o then wLm K (sT K P) o (wLn o) 0 else false
theorem str_len {o : Nat} (ho : o < 4) (h : mH) : f_String_length (1000 + o) h = some (nI (wLn o), h) := by
  rcases (show o = 0 ∨ o = 1 ∨ o = 2 ∨ o = 3 by omega) with rfl | rfl | rfl | rfl <;> rfl
theorem str_at {o j : Nat} (ho : o < 4) (hj : j < wLn o) (h : mH) : f_String_charAt (1000 + o) (nI j) h = some (nI (wLt o j), h) := by
  rcases (show o = 0 ∨ o = 1 ∨ o = 2 ∨ o = 3 by omega) with rfl | rfl | rfl | rfl
  · have hj : j < 3 := hj
    rcases (show j = 0 ∨ j = 1 ∨ j = 2 by omega) with rfl | rfl | rfl <;> rfl
  · have hj : j < 3 := hj
    rcases (show j = 0 ∨ j = 1 ∨ j = 2 by omega) with rfl | rfl | rfl <;> rfl
  · have hj : j < 4 := hj
    rcases (show j = 0 ∨ j = 1 ∨ j = 2 ∨ j = 3 by omega) with rfl | rfl | rfl | rfl <;> rfl
  · have hj : j < 5 := hj
    rcases (show j = 0 ∨ j = 1 ∨ j = 2 ∨ j = 3 ∨ j = 4 by omega) with rfl | rfl | rfl | rfl | rfl <;> rfl
theorem wLt_lt : ∀ o, o < 4 → ∀ j, j < 5 → wLt o j < 128 := by decide
theorem wLn_lt : ∀ o, o < 4 → wLn o ≤ 5 := by decide
section
variable {K : Tp} {σ : Rho} {v : Nat → Nat → Int32} {w : Nat → Nat → Int64} {P : Nat}
theorem C_isWord (hT : CT K v) (hk : CTk K P v) (hP : P ≤ K.1) {o : Nat} (ho : o < 4) : f_Reader_isWord 1 (1000 + o) (bh v w) = some (if isW K P o = true then 1 else 0, bh v w) := by
  have hL := hT.2.1
  have he := eN_b hP
  have hs := sT_b hP
  have k4 := (kc_s (K := K) (s := sT K P)).2.2.2.2
  have ek : kD K P = kc K (sT K P) := rfl
  have h5 := wLn_lt o ho
  have key : ∀ (n fuel i : Nat), n < fuel → i + n = wLn o → eN K P = sT K P + wLn o → f_Reader_isWord_28 fuel 1 (1000 + o) (nI i) (bh v w) = some (if wLm K (sT K P) o n i = true then 1 else 0, bh v w) := by
    intro n
    induction n with
    | zero =>
      intro fuel i hf hi hx
      obtain ⟨m, rfl⟩ : ∃ m, fuel = m + 1 := ⟨fuel - 1, by omega⟩
      show f_Reader_isWord_28b (f_Reader_isWord_28 m) 1 (1000 + o) (nI i) (bh v w) = _
      unfold f_Reader_isWord_28b
      rw [str_len ho, bd2_s, if_pos ((nI_leI (by omega) (by omega)).mpr (by omega))]
      rfl
    | succ n ih =>
      intro fuel i hf hi hx
      obtain ⟨m, rfl⟩ : ∃ m, fuel = m + 1 := ⟨fuel - 1, by omega⟩
      have wb := wLt_lt o ho i (by omega)
      have tb := hT.2.2 (sT K P + i) (by omega)
      show f_Reader_isWord_28b (f_Reader_isWord_28 m) 1 (1000 + o) (nI i) (bh v w) = _
      unfold f_Reader_isWord_28b
      rw [str_len ho, bd2_s, if_neg (fun z => by have := (nI_leI (by omega) (by omega)).mp z; omega)]
      simp only [hT0, bd1_q]
      rw [hk.2.2.1, nI_add, rd_nI (by omega) (by decide), bd1_s, str_at ho (by omega), bd2_s, tb.1, ite_iff (nI_eqI (by omega) (by omega)), nI_1]
      unfold wLm
      by_cases c : K.2 (sT K P + i) = wLt o i
      · rw [if_pos c, if_pos c]
        exact ih m (i + 1) (by omega) (by omega) hx
      · rw [if_neg c, if_neg c]
        rfl
  unfold f_Reader_isWord f_Reader_isWord_0 f_Reader_isWord_24
  simp only [hT0, bd1_q]
  have q1 : nI (kD K P) = (1 : Int32) ↔ kD K P = 1 := nI_eqI (a := kD K P) (b := 1) (by omega) (by omega)
  rw [hk.2.1, hk.1, hk.2.2.1, ite_iff q1, pk_sub he.1, str_len ho, bd2_s, ite_iff (nI_eqI (by omega) (by omega))]
  by_cases c1 : kD K P = 1
  · rw [if_pos c1]
    by_cases c2 : eN K P - sT K P = wLn o
    · have e : isW K P o = wLm K (sT K P) o (wLn o) 0 := by unfold isW; rw [if_pos ⟨c1, by omega⟩]
      rw [if_pos c2, e]
      exact key (wLn o) FU 0 (by unfold FU; omega) (by omega) (by omega)
    · have e : isW K P o = false := by unfold isW; rw [if_neg (fun z => by have := z.2; omega)]
      rw [if_neg c2, e, if_neg (by decide)]
  · have e : isW K P o = false := by unfold isW; rw [if_neg (fun z => c1 z.1)]
    rw [if_neg c1, e, if_neg (by decide)]
def sLine (K : Tp) (σ : Rho) (P : Nat) : Fa ⊕ (Rho × Nat) := if isW K P 0 = true then (if σ 0 0 < 5 then sLaw K σ (eN K P) else .inl (5, sT K P)) else if isW K P 1 = true then (if σ 0 1 < 3 then sOne K σ (eN K P) else .inl (5, sT K P)) else if isW K P 2 = true then sWant K σ (eN K P) else if isW K P 3 = true then sWatch K σ (eN K P) else .inl (2, sT K P)
theorem C_takeLine (hT : CT K v) (h2 : v 1 2 = 0) (hk : CTk K P v) (hP : P ≤ K.1) (hs : CS σ v) (hI : SI σ) : ∃ r v', f_Reader_takeLine 1 20 (bh v w) = some (r, bh v' w) ∧ FrL v v' ∧ CX (sLine K σ P) (fun x v' => v' 1 5 = nI x.2 ∧ CS x.1 v') r v' := by
  have hP1 := (eN_b hP).2.1
  have R1 : Rdy K (eN K P) v := ⟨hT, h2, hk.1⟩
  have w0 := C_isWord (w := w) hT hk hP (o := 0) (by decide)
  have w1 := C_isWord (w := w) hT hk hP (o := 1) (by decide)
  have w2 := C_isWord (w := w) hT hk hP (o := 2) (by decide)
  have w3 := C_isWord (w := w) hT hk hP (o := 3) (by decide)
  have hn0 := hI.1.1
  have hn1 := hI.1.2.1
  unfold f_Reader_takeLine f_Reader_takeLine_0 sLine
  simp only [hT0, bd1_q]
  rw [w0, bd2_s]
  by_cases c0 : isW K P 0 = true
  · rw [if_pos c0, if_pos c0, if_neg (by decide)]
    simp only [hU0, hT0, bd1_q]
    rw [hs.1.1]
    by_cases g : σ 0 0 < 5
    · rw [if_pos g]
      obtain ⟨r, v1, e1, f1, x1⟩ := C_takeLaw (w := w) R1 hP1 hs g
      rw [e1, bd2_s, if_pos (CX01 x1)]
      exact ⟨r, v1, rfl, f1, x1⟩
    · rw [if_neg g]
      obtain ⟨v7, e7, f7, b1, b3⟩ := C_fail (w := w) (c := 5) hk.2.2.1
      have : f_Reader_takeLaw 1 20 (nI (σ 0 0)) (bh v w) = some (0, bh v7 w) := by
        unfold f_Reader_takeLaw f_Reader_takeLaw_0
        rw [show (5 : Int32) = nI 5 from rfl, if_neg (fun z => g ((nI_ltI (by omega) (by omega)).mp z))]
        simp only [hT0, bd1_q]
        rw [hk.2.2.1, e7, bd2_s, if_pos (Or.inl rfl)]
      rw [this, bd2_s, if_pos (Or.inl rfl)]
      exact ⟨0, v7, rfl, f7.fl, rfl, b1, b3⟩
  rw [if_neg c0, if_neg c0, if_pos rfl]
  simp only [hT0, bd1_q]
  rw [w1, bd2_s]
  by_cases c1 : isW K P 1 = true
  · rw [if_pos c1, if_pos c1, if_neg (by decide)]
    simp only [hU0, hT0, bd1_q]
    rw [hs.1.2.1]
    by_cases g : σ 0 1 < 3
    · rw [if_pos g]
      obtain ⟨r, v1, e1, f1, x1⟩ := C_takeOne (w := w) R1 hP1 hs hI g
      rw [e1, bd2_s, if_pos (CX01 x1)]
      exact ⟨r, v1, rfl, f1, x1⟩
    · rw [if_neg g]
      obtain ⟨v7, e7, f7, b1, b3⟩ := C_fail (w := w) (c := 5) hk.2.2.1
      have : f_Reader_takeOne 1 20 (nI (σ 0 1)) (bh v w) = some (0, bh v7 w) := by
        unfold f_Reader_takeOne f_Reader_takeOne_0
        rw [show (3 : Int32) = nI 3 from rfl, if_neg (fun z => g ((nI_ltI (by omega) (by omega)).mp z))]
        simp only [hT0, bd1_q]
        rw [hk.2.2.1, show (5 : Int32) = nI 5 from rfl, e7, bd2_s, if_pos (Or.inl rfl)]
      rw [this, bd2_s, if_pos (Or.inl rfl)]
      exact ⟨0, v7, rfl, f7.fl, rfl, b1, b3⟩
  rw [if_neg c1, if_neg c1, if_pos rfl]
  simp only [hT0, bd1_q]
  rw [w2, bd2_s]
  by_cases c2 : isW K P 2 = true
  · rw [if_pos c2, if_pos c2, if_neg (by decide)]
    simp only [hT0, bd1_q]
    obtain ⟨r, v1, e1, f1, x1⟩ := C_takeWant (w := w) R1 hP1 hs hI
    rw [e1, bd2_s, if_pos (CX01 x1)]
    exact ⟨r, v1, rfl, f1, x1⟩
  rw [if_neg c2, if_neg c2, if_pos rfl]
  simp only [hT0, bd1_q]
  rw [w3, bd2_s]
  by_cases c3 : isW K P 3 = true
  · rw [if_pos c3, if_pos c3, if_neg (by decide)]
    simp only [hT0, bd1_q]
    obtain ⟨r, v1, e1, f1, x1⟩ := C_takeWatch (w := w) R1 hP1 hs hI
    rw [e1, bd2_s, if_pos (CX01 x1)]
    exact ⟨r, v1, rfl, f1, x1⟩
  rw [if_neg c3, if_neg c3, if_pos rfl]
  simp only [hT0, bd1_q]
  obtain ⟨v7, e7, f7, b1, b3⟩ := C_fail (w := w) (c := 2) hk.2.2.1
  rw [hk.2.2.1, show (2 : Int32) = nI 2 from rfl, e7, bd2_s, if_pos (Or.inl rfl)]
  exact ⟨0, v7, rfl, f7.fl, rfl, b1, b3⟩
end
end
/-! 8x7.text7.lean.txt -/
section
/-! what the lines keep; the end of a text -/
theorem sb_inr {α β : Type} {x : Fa ⊕ α} {f : α → Fa ⊕ β} {b : β} (h : sb x f = .inr b) : ∃ a, x = .inr a ∧ f a = .inr b := by
  cases x with
  | inl e => cases h
  | inr a => exact ⟨a, rfl, h⟩
theorem chkB_inr {K : Tp} {lo hi P n : Nat} (h : chkB K lo hi P = .inr n) : lo ≤ n ∧ n ≤ hi := by
  unfold chkB at h
  split at h
  · next c => cases h; exact c
  · cases h
theorem sNum_inr {K : Tp} {lo hi P n : Nat} (h : sNum K lo hi P = .inr n) : lo ≤ n ∧ n ≤ hi := by
  obtain ⟨u, -, h2⟩ := sb_inr h
  unfold chk at h2
  split at h2
  · exact chkB_inr h2
  · cases h2
theorem sFin_inr {α : Type} {K : Tp} {P : Nat} {a : α} {y : α × Nat} (h : sFin K P a = .inr y) : y = (a, eN K P) := by
  obtain ⟨u, -, h2⟩ := sb_inr h
  cases h2
  rfl
theorem ite_inr {α : Type} {c : Prop} [Decidable c] {e : Fa} {x : Fa ⊕ α} {b : α} (h : (if c then .inl e else x) = .inr b) : ¬ c ∧ x = .inr b := by
  split at h
  · cases h
  · next c => exact ⟨c, h⟩
theorem or_pw_lt : ∀ x, x < 32 → ∀ m, m ≤ 4 → ∀ n, n ≤ 5 → (x ||| 2 ^ m < 2 ^ n ↔ x < 2 ^ n ∧ m + 1 ≤ n) := by decide +kernel
theorem or_2_lt : ∀ x, x < 32 → ∀ y, y < 32 → ∀ n, n ≤ 5 → (x ||| y < 2 ^ n ↔ x < 2 ^ n ∧ y < 2 ^ n) := by decide +kernel
theorem or_pw_0 : ∀ x, x < 32 → ∀ m, m ≤ 4 → x ||| 2 ^ m ≠ 0 := by decide +kernel
theorem SI_addL {σ : Rho} {q c h f m : Nat} (hI : SI σ) (hl : σ 0 0 < 5) (hq : q ≤ 9) (hc : 1 ≤ c ∧ c ≤ 3) (hh : h ≤ 9) (hf : f ≤ 9) (hm : m ≤ 5) (hm2 : m ≠ σ 0 0 + 1) : SI (addL σ q c h f m) := by
  obtain ⟨⟨a1, a2, a3, a4, a5, a6, a7, a8⟩, b, c', d, e, g, k⟩ := hI
  unfold SI addL
  simp [up2_ap]
  refine ⟨⟨by omega, a2, a3, a4, a5, a6, by omega, a8⟩, fun l hl2 => ?_, c', d, e, fun n hn => ?_, k⟩
  · by_cases z : l = σ 0 0
    · simp [z]; omega
    · have := b l (by omega)
      simp [z]; omega
  · have gn := g n hn
    constructor
    · intro hx
      obtain ⟨x1, x2, x3⟩ := gn.mp (by omega)
      refine ⟨x1, fun l hl2 => ?_, x3⟩
      by_cases z : l = σ 0 0
      · simp [z]; omega
      · simp [z]; exact x2 l (by omega)
    · rintro ⟨x1, x2, x3⟩
      have y := x2 (σ 0 0) (by omega)
      simp at y
      have := gn.mpr ⟨x1, fun l hl2 => by
        have z := x2 l (by omega)
        simp [show ¬ l = σ 0 0 by omega] at z
        exact z, x3⟩
      omega
theorem SI_addO {σ : Rho} {t c n u R h : Nat} (hI : SI σ) (hl : σ 0 1 < 3) (ht : t ≤ 5) (hc : c ≤ 3) (hn : n ≤ 10) (hu : u ≤ 99) (hR : R < 32) (hh : ∀ n, n ≤ 5 → (h ≤ n ↔ σ 17 0 ≤ n ∧ R < 2 ^ n)) : SI (addO σ t c n u R h) := by
  obtain ⟨⟨a1, a2, a3, a4, a5, a6, a7, a8⟩, b, c', d, e, g, k⟩ := hI
  have h5 : h ≤ 5 := (hh 5 (by decide)).mpr ⟨a7, hR⟩
  unfold SI addO
  simp [up2_ap]
  refine ⟨⟨a1, by omega, a3, a4, a5, a6, h5, a8⟩, b, fun p hp => ?_, fun p hp => ?_, e, fun n hn => ?_, k⟩
  · by_cases z : p = σ 0 1
    · simp [z]; omega
    · have := c' p (by omega)
      simp [z]; omega
  · have := d p hp
    by_cases z : p = σ 0 1
    · simp [z]
      refine ⟨hR, ?_⟩
      rw [← z]
      exact ⟨this.2.1, fun q => by omega⟩
    · simp [z]
      exact ⟨this.1, this.2.1, fun q => this.2.2 (by omega)⟩
  · rw [hh n hn, g n hn]
    constructor
    · rintro ⟨⟨x1, x2, x3⟩, x4⟩
      refine ⟨x1, x2, fun p hp => ⟨?_, (x3 p hp).2⟩⟩
      by_cases z : p = σ 0 1
      · simp [z]; exact x4
      · simp [z]; exact (x3 p hp).1
    · rintro ⟨x1, x2, x3⟩
      refine ⟨⟨x1, x2, fun p hp => ⟨?_, (x3 p hp).2⟩⟩, ?_⟩
      · by_cases z : p = σ 0 1
        · have := (d p hp).2.2 (by omega)
          rw [this]
          exact Nat.pow_pos (by decide)
        · have := (x3 p hp).1
          simp [z] at this
          exact this
      · have := (x3 (σ 0 1) hl).1
        simp at this
        exact this
theorem SI_addW {σ : Rho} {p m : Nat} (hI : SI σ) (hp : p ≤ 2) (hm : m ≤ 4) : SI (addW σ p m) := by
  obtain ⟨⟨a1, a2, a3, a4, a5, a6, a7, a8⟩, b, c', d, e, g, k⟩ := hI
  have dp := d p (by omega)
  unfold SI addW
  simp [up2_ap]
  refine ⟨⟨a1, a2, a3, a4, a5, a6, by omega, by omega⟩, b, c', fun j hj => ?_, e, fun n hn => ?_, fun n hn => ?_⟩
  · have := d j hj
    by_cases z : j = p
    · simp [z]
      rw [z] at this
      exact ⟨this.1, or_lt _ this.2.1 _ (pw4 m hm), this.2.2⟩
    · simp [z]; exact this
  · have o := or_pw_lt _ dp.2.1 m hm n hn
    rw [show max (σ 17 0) (m + 1) ≤ n ↔ σ 17 0 ≤ n ∧ m + 1 ≤ n by omega, g n hn]
    constructor
    · rintro ⟨⟨x1, x2, x3⟩, x4⟩
      refine ⟨x1, x2, fun j hj => ⟨(x3 j hj).1, ?_⟩⟩
      by_cases z : j = p
      · simp [z]
        have := (x3 j hj).2
        rw [z] at this
        exact o.mpr ⟨this, x4⟩
      · simp [z]; exact (x3 j hj).2
    · rintro ⟨x1, x2, x3⟩
      have y := (x3 p (by omega)).2
      simp at y
      refine ⟨⟨x1, x2, fun j hj => ⟨(x3 j hj).1, ?_⟩⟩, (o.mp y).2⟩
      by_cases z : j = p
      · rw [z]; exact (o.mp y).1
      · have := (x3 j hj).2
        simp [z] at this
        exact this
  · rw [show max (σ 17 1) (p + 1) ≤ n ↔ σ 17 1 ≤ n ∧ p + 1 ≤ n by omega, k n hn]
    constructor
    · rintro ⟨x1, x2⟩ j hj hz
      by_cases z : j = p
      · omega
      · simp [z] at hz
        exact x1 j hj hz
    · intro x
      have y := x p (by omega) (by simp)
      refine ⟨fun j hj hz => ?_, by omega⟩
      by_cases z : j = p
      · omega
      · exact x j hj (by simp [z]; exact hz)
theorem SI_addH {σ : Rho} {m : Nat} (hI : SI σ) (hm : m ≤ 4) : SI (addH σ m) := by
  obtain ⟨⟨a1, a2, a3, a4, a5, a6, a7, a8⟩, b, c', d, e, g, k⟩ := hI
  unfold SI addH
  simp [up2_ap]
  refine ⟨⟨a1, a2, a3, a4, or_lt _ a5 _ (pw4 m hm), a6, by omega, a8⟩, b, c', d, e, fun n hn => ?_, k⟩
  have o := or_pw_lt _ a5 m hm n hn
  rw [show max (σ 17 0) (m + 1) ≤ n ↔ σ 17 0 ≤ n ∧ m + 1 ≤ n by omega, g n hn]
  constructor
  · rintro ⟨⟨x1, x2, x3⟩, x4⟩
    exact ⟨o.mpr ⟨x1, x4⟩, x2, x3⟩
  · rintro ⟨x1, x2, x3⟩
    exact ⟨⟨(o.mp x1).1, x2, x3⟩, (o.mp x1).2⟩
theorem sRef_ok {K : Tp} {h0 : Nat} : ∀ (n R h Q : Nat) (y : (Nat × Nat) × Nat), sRef K n R h Q = .inr y → Q ≤ K.1 → R < 32 → (∀ n, n ≤ 5 → (h ≤ n ↔ h0 ≤ n ∧ R < 2 ^ n)) → y.1.1 < 32 ∧ (∀ n, n ≤ 5 → (y.1.2 ≤ n ↔ h0 ≤ n ∧ y.1.1 < 2 ^ n)) ∧ Q ≤ y.2 ∧ y.2 ≤ K.1
  | 0, R, h, Q, y, e, hQ, hR, hh => by cases e; exact ⟨hR, hh, Nat.le_refl _, hQ⟩
  | n + 1, R, h, Q, y, e, hQ, hR, hh => by
    unfold sRef at e
    split at e
    · obtain ⟨m, e1, e2⟩ := sb_inr e
      have hm := (chkB_inr e1).2
      obtain ⟨-, e3⟩ := ite_inr e2
      obtain ⟨u, -, e4⟩ := sb_inr e3
      have hs := sT_b hQ
      have he := eN_b hQ
      have := sRef_ok (h0 := h0) n _ _ _ y e4 he.2.1 (or_lt _ hR _ (pw4 m hm)) (fun n hn => by rw [show max h (m + 1) ≤ n ↔ h ≤ n ∧ m + 1 ≤ n by omega, hh n hn, or_pw_lt R hR m hm n hn]; omega)
      exact ⟨this.1, this.2.1, by omega, this.2.2.2⟩
    · cases e
      exact ⟨hR, hh, Nat.le_refl _, hQ⟩
theorem sLaw_ok {K : Tp} {σ : Rho} {Q : Nat} {y : Rho × Nat} (h : sLaw K σ Q = .inr y) (hI : SI σ) (hl : σ 0 0 < 5) (hQ : Q ≤ K.1) : SI y.1 ∧ Q ≤ y.2 ∧ y.2 ≤ K.1 := by
  obtain ⟨q, h1, h⟩ := sb_inr h
  obtain ⟨c, h2, h⟩ := sb_inr h
  obtain ⟨hh, h3, h⟩ := sb_inr h
  obtain ⟨f, h4, h⟩ := sb_inr h
  have b1 := sNum_inr h1
  have b2 := sNum_inr h2
  have b3 := sNum_inr h3
  have b4 := sNum_inr h4
  have e1 := eN_b hQ
  have s1 := sT_b hQ
  have e2 := eN_b e1.2.1
  have s2 := sT_b e1.2.1
  have e3 := eN_b e2.2.1
  have s3 := sT_b e2.2.1
  have e4 := eN_b e3.2.1
  have s4 := sT_b e3.2.1
  have e5 := eN_b e4.2.1
  have s5 := sT_b e4.2.1
  have e6 := eN_b e5.2.1
  have s6 := sT_b e5.2.1
  obtain ⟨u, -, h⟩ := sb_inr h
  split at h
  · obtain ⟨m, h5, h⟩ := sb_inr h
    have b5 := chkB_inr h5
    obtain ⟨n5, h⟩ := ite_inr h
    obtain ⟨u, -, h⟩ := sb_inr h
    have := sFin_inr h
    subst this
    exact ⟨SI_addL hI hl b1.2 b2 b3.2 b4.2 (by omega) (by omega), by show Q ≤ eN K _; omega, by show eN K _ ≤ K.1; omega⟩
  · have := sFin_inr h
    subst this
    exact ⟨SI_addL hI hl b1.2 b2 b3.2 b4.2 (by omega) (by omega), by show Q ≤ eN K _; omega, by show eN K _ ≤ K.1; omega⟩
theorem sOne_ok {K : Tp} {σ : Rho} {Q : Nat} {y : Rho × Nat} (h : sOne K σ Q = .inr y) (hI : SI σ) (hl : σ 0 1 < 3) (hQ : Q ≤ K.1) : SI y.1 ∧ Q ≤ y.2 ∧ y.2 ≤ K.1 := by
  obtain ⟨q, h1, h⟩ := sb_inr h
  obtain ⟨c, h2, h⟩ := sb_inr h
  obtain ⟨hh, h3, h⟩ := sb_inr h
  obtain ⟨f, h4, h⟩ := sb_inr h
  have b1 := sNum_inr h1
  have b2 := sNum_inr h2
  have b3 := sNum_inr h3
  have b4 := sNum_inr h4
  have e1 := eN_b hQ
  have s1 := sT_b hQ
  have e2 := eN_b e1.2.1
  have s2 := sT_b e1.2.1
  have e3 := eN_b e2.2.1
  have s3 := sT_b e2.2.1
  have e4 := eN_b e3.2.1
  have s4 := sT_b e3.2.1
  obtain ⟨u, -, h⟩ := sb_inr h
  obtain ⟨x, h5, h⟩ := sb_inr h
  obtain ⟨g1, g2, g3, g4⟩ := sRef_ok (h0 := σ 17 0) 6 0 (σ 17 0) _ x h5 e4.2.1 (by decide) (fun n hn => ⟨fun z => ⟨z, Nat.pow_pos (by decide)⟩, fun z => z.1⟩)
  have e5 := eN_b g4
  have s5 := sT_b g4
  have := sFin_inr h
  subst this
  exact ⟨SI_addO hI hl b1.2 b2.2 b3.2 b4.2 g1 g2, by show Q ≤ eN K _; omega, by show eN K _ ≤ K.1; omega⟩
theorem sWant_ok {K : Tp} {σ : Rho} {Q : Nat} {y : Rho × Nat} (h : sWant K σ Q = .inr y) (hI : SI σ) (hQ : Q ≤ K.1) : SI y.1 ∧ Q ≤ y.2 ∧ y.2 ≤ K.1 := by
  obtain ⟨q, h1, h⟩ := sb_inr h
  obtain ⟨c, h2, h⟩ := sb_inr h
  have b1 := sNum_inr h1
  have b2 := sNum_inr h2
  have e1 := eN_b hQ
  have s1 := sT_b hQ
  have e2 := eN_b e1.2.1
  have s2 := sT_b e1.2.1
  have e3 := eN_b e2.2.1
  have s3 := sT_b e2.2.1
  obtain ⟨-, h⟩ := ite_inr h
  obtain ⟨u, -, h⟩ := sb_inr h
  have := sFin_inr h
  subst this
  exact ⟨SI_addW hI b1.2 b2.2, by show Q ≤ eN K _; omega, by show eN K _ ≤ K.1; omega⟩
theorem sWatch_ok {K : Tp} {σ : Rho} {Q : Nat} {y : Rho × Nat} (h : sWatch K σ Q = .inr y) (hI : SI σ) (hQ : Q ≤ K.1) : SI y.1 ∧ Q ≤ y.2 ∧ y.2 ≤ K.1 := by
  obtain ⟨c, h2, h⟩ := sb_inr h
  have b2 := sNum_inr h2
  have e1 := eN_b hQ
  have s1 := sT_b hQ
  have e2 := eN_b e1.2.1
  have s2 := sT_b e1.2.1
  obtain ⟨-, h⟩ := ite_inr h
  obtain ⟨u, -, h⟩ := sb_inr h
  have := sFin_inr h
  subst this
  exact ⟨SI_addH hI b2.2, by show Q ≤ eN K _; omega, by show eN K _ ≤ K.1; omega⟩
theorem isW_k {K : Tp} {P o : Nat} (h : isW K P o = true) : kD K P = 1 := by
  unfold isW at h
  split at h
  · next c => exact c.1
  · cases h
theorem sLine_ok {K : Tp} {σ : Rho} {P : Nat} {y : Rho × Nat} (h : sLine K σ P = .inr y) (hI : SI σ) (hP : P ≤ K.1) : SI y.1 ∧ P < y.2 ∧ y.2 ≤ K.1 := by
  have he := eN_b hP
  have hs := sT_b hP
  unfold sLine at h
  split at h
  · next c =>
    have k := isW_k c
    have := he.2.2 (by omega) (by omega)
    split at h
    · next g =>
      have := sLaw_ok h hI g he.2.1
      exact ⟨this.1, by omega, this.2.2⟩
    · cases h
  · split at h
    · next c =>
      have k := isW_k c
      have := he.2.2 (by omega) (by omega)
      split at h
      · next g =>
        have := sOne_ok h hI g he.2.1
        exact ⟨this.1, by omega, this.2.2⟩
      · cases h
    · split at h
      · next c =>
        have k := isW_k c
        have := he.2.2 (by omega) (by omega)
        have := sWant_ok h hI he.2.1
        exact ⟨this.1, by omega, this.2.2⟩
      · split at h
        · next c =>
          have k := isW_k c
          have := he.2.2 (by omega) (by omega)
          have := sWatch_ok h hI he.2.1
          exact ⟨this.1, by omega, this.2.2⟩
        · cases h
end
/-! 8x8.text8.lean.txt -/
section
theorem part_I : ∀ n, n ≤ 5 → ∀ x, x < 32 → (nI x &&& ((((1 : Int32) <<< (nI n &&& 31)) - (1 : Int32)) ^^^ ((-1) : Int32)) = 0 ↔ x < 2 ^ n) := by decide +kernel
theorem Q_isPart {x n : Nat} (hx : x < 32) (hn : n ≤ 5) (h : mH) : f_Q_isPart (nI x) (((1 : Int32) <<< (nI n &&& 31)) - (1 : Int32)) h = some (if x < 2 ^ n then 1 else 0, h) := by
  unfold f_Q_isPart f_Q_isPart_0
  rw [ite_iff (part_I n hn x hx)]
  split <;> rfl
def sLines (K : Tp) : Nat → Rho → Nat → Nat → Fa ⊕ (Rho × Nat)
  | 0, σ, _, c => .inr (σ, c)
  | n + 1, σ, P, c => if kD K P = 0 then .inr (σ, c) else sb (sLine K σ P) fun x => sb (tokX K x.2) fun _ => sLines K n x.1 x.2 (c + 1)
def sEnd (K : Tp) (x : Rho × Nat) : Fa ⊕ (Rho × Nat) := if x.1 17 0 ≤ x.1 0 0 ∧ x.1 17 1 ≤ x.1 0 1 then .inr x else .inl (6, K.1)
def sText (K : Tp) : Fa ⊕ (Rho × Nat) := sb (tokX K 0) fun _ => sb (sLines K 160 (fun _ _ => 0) 0 0) fun x => sEnd K x
def fin (σ : Rho) : Rho := up2 σ 0 4 (2 ^ σ 0 0 - 1)
theorem SI_0 : SI (fun _ _ => 0) := by
  refine ⟨by decide, fun l hl => absurd hl (Nat.not_lt_zero _), fun p hp => absurd hp (Nat.not_lt_zero _), fun p hp => ⟨show 0 < 32 by decide, show 0 < 32 by decide, fun _ => rfl⟩, fun _ => rfl, fun n hn => ⟨fun _ => ⟨Nat.pow_pos (by decide), fun l hl => absurd hl (Nat.not_lt_zero _), fun p hp => ⟨Nat.pow_pos (by decide), Nat.pow_pos (by decide)⟩⟩, fun _ => Nat.zero_le _⟩, fun n hn => ⟨fun _ p hp z => absurd rfl z, fun _ => Nat.zero_le _⟩⟩
theorem ROK_fin {σ : Rho} (hI : SI σ) (h1 : σ 17 0 ≤ σ 0 0) (h2 : σ 17 1 ≤ σ 0 1) : ROK (fin σ) := by
  obtain ⟨⟨a1, a2, a3, a4, a5, a6, a7, a8⟩, b, c', d, e, g, k⟩ := hI
  obtain ⟨g1, g2, g3⟩ := (g _ a1).mp h1
  have pw : 0 < 2 ^ σ 0 0 := Nat.pow_pos (by decide)
  unfold ROK fin
  simp [up2_ap]
  refine ⟨⟨a1, a2, by omega, by omega, by omega, g1, by omega⟩, fun l hl => ?_, fun p hp => ?_, fun p l hp hl => by rw [e]; omega, fun i hi => by omega⟩
  · have := b l hl
    have := g2 l hl
    omega
  · have := c' p hp
    have q := g3 p (by omega)
    refine ⟨by omega, by omega, by omega, by omega, q.1, q.2, ?_⟩
    rw [sumN_congr (g := fun _ => 0) (fun i _ => e _), sumN_0]
    omega
section
variable {K : Tp} {σ : Rho} {v : Nat → Nat → Int32} {w : Nat → Nat → Int64} {P : Nat}
theorem CR_fin (hs : CS σ v) (hI : SI σ) : CR 20 (fin σ) v := by
  obtain ⟨⟨b1, b2, b3, b4, b5, b6, b7⟩, bb, bc, bd, be⟩ := hs
  obtain ⟨⟨a1, a2, a3, a4, a5, a6, a7, a8⟩, b, c', d, e, g, k⟩ := hI
  unfold CR fin
  simp [up2_ap, a3, a4, a6, b1, b2, b3, b4, b5, b6, b7]
  refine ⟨rfl, bb, fun p hp => ?_, fun p l hp hl => ?_⟩
  · have x := bc p hp
    have y := bd p (by omega)
    exact ⟨x.1, x.2.1, x.2.2.1, x.2.2.2, y.1, y.2⟩
  · rw [be _ (by omega), e]; rfl
theorem S_hasOne (hs : CS σ v) (hI : SI σ) {p : Nat} (hp : p < 3) : f_Realm_hasOne 20 (nI p) (bh v w) = some (if p < σ 0 1 then 1 else 0, bh v w) := by
  have a2 := hI.1.2.1
  unfold f_Realm_hasOne f_Realm_hasOne_0 f_Realm_hasOne_16
  rw [if_neg (nI_pos (by omega))]
  simp only [hU0, bd1_q]
  rw [hs.1.2.1, ite_iff (nI_leI (by omega) (by omega))]
  by_cases c : p < σ 0 1
  · rw [if_neg (by omega), if_pos c]
  · rw [if_pos (by omega), if_neg c]
theorem S_hasLaw (hs : CS σ v) (hI : SI σ) {m : Nat} (hm : m < 5) : f_Realm_hasLaw 20 (nI m) (bh v w) = some (if m < σ 0 0 then 1 else 0, bh v w) := by
  have a1 := hI.1.1
  unfold f_Realm_hasLaw f_Realm_hasLaw_0 f_Realm_hasLaw_16
  rw [if_neg (nI_pos (by omega))]
  simp only [hU0, bd1_q]
  rw [hs.1.1, ite_iff (nI_leI (by omega) (by omega))]
  by_cases c : m < σ 0 0
  · rw [if_neg (by omega), if_pos c]
  · rw [if_pos (by omega), if_neg c]
theorem C_allThere (hs : CS σ v) (hI : SI σ) : ∃ r, f_Reader_allThere 20 (bh v w) = some (r, bh v w) ∧ (r = 1 ∧ (σ 17 0 ≤ σ 0 0 ∧ σ 17 1 ≤ σ 0 1) ∨ r = 0 ∧ ¬ (σ 17 0 ≤ σ 0 0 ∧ σ 17 1 ≤ σ 0 1)) := by
  have hI' := hI
  obtain ⟨⟨a1, a2, a3, a4, a5, a6, a7, a8⟩, b, c', d, e, g, k⟩ := hI'
  have k66 : ∀ (n fuel p : Nat), n < fuel → p + n = 3 → ∃ r, f_Reader_allThere_66 fuel 20 (((1 : Int32) <<< (nI (σ 0 0) &&& 31)) - (1 : Int32)) (nI p) (bh v w) = some (r, bh v w) ∧ (r = 1 ∧ (∀ j, p ≤ j → j < 3 → (σ 0 1 ≤ j → σ 11 j = 0) ∧ σ 10 j ||| σ 11 j < 2 ^ σ 0 0) ∨ r = 0 ∧ ¬ ∀ j, p ≤ j → j < 3 → (σ 0 1 ≤ j → σ 11 j = 0) ∧ σ 10 j ||| σ 11 j < 2 ^ σ 0 0) := by
    intro n
    induction n with
    | zero =>
      intro fuel p hf hp
      obtain ⟨m, rfl⟩ : ∃ m, fuel = m + 1 := ⟨fuel - 1, by omega⟩
      show ∃ r, f_Reader_allThere_66b (f_Reader_allThere_66 m) 20 _ (nI p) (bh v w) = some (r, bh v w) ∧ _
      unfold f_Reader_allThere_66b
      rw [show (3 : Int32) = nI 3 from rfl, if_pos ((nI_leI (by omega) (by omega)).mpr (by omega))]
      exact ⟨1, rfl, Or.inl ⟨rfl, fun j h1 h2 => by omega⟩⟩
    | succ n ih =>
      intro fuel p hf hp
      obtain ⟨m, rfl⟩ : ∃ m, fuel = m + 1 := ⟨fuel - 1, by omega⟩
      have dp := d p (by omega)
      have sp := hs.2.2.2.1 p (by omega)
      obtain ⟨r, er, hr⟩ := ih m (p + 1) (by omega) (by omega)
      have f93 : (σ 0 1 ≤ p → σ 11 p = 0) → ∃ r, f_Reader_allThere_93 (f_Reader_allThere_66 m) 20 (((1 : Int32) <<< (nI (σ 0 0) &&& 31)) - (1 : Int32)) (nI p) 0 (bh v w) = some (r, bh v w) ∧ (r = 1 ∧ (∀ j, p ≤ j → j < 3 → (σ 0 1 ≤ j → σ 11 j = 0) ∧ σ 10 j ||| σ 11 j < 2 ^ σ 0 0) ∨ r = 0 ∧ ¬ ∀ j, p ≤ j → j < 3 → (σ 0 1 ≤ j → σ 11 j = 0) ∧ σ 10 j ||| σ 11 j < 2 ^ σ 0 0) := by
        intro hw
        unfold f_Reader_allThere_93 f_Reader_allThere_118
        rw [if_pos rfl]
        simp only [hU0, bd1_q]
        rw [rd_nI (by omega) (by decide), bd1_s, rd_nI (by omega) (by decide), bd1_s, sp.1, sp.2, or_I, Q_isPart (or_lt _ dp.1 _ dp.2.1) a1, bd2_s, nI_1, er]
        by_cases c : σ 10 p ||| σ 11 p < 2 ^ σ 0 0
        · rw [if_pos c, if_neg (by decide)]
          refine ⟨r, rfl, ?_⟩
          rcases hr with ⟨h1, h2⟩ | ⟨h1, h2⟩
          · refine Or.inl ⟨h1, fun j q1 q2 => ?_⟩
            by_cases z : j = p
            · rw [z]; exact ⟨hw, c⟩
            · exact h2 j (by omega) q2
          · exact Or.inr ⟨h1, fun z => h2 (fun j q1 q2 => z j (by omega) q2)⟩
        · rw [if_neg c, if_pos rfl]
          exact ⟨0, rfl, Or.inr ⟨rfl, fun z => c (z p (Nat.le_refl _) (by omega)).2⟩⟩
      show ∃ r, f_Reader_allThere_66b (f_Reader_allThere_66 m) 20 _ (nI p) (bh v w) = some (r, bh v w) ∧ _
      unfold f_Reader_allThere_66b f_Reader_allThere_92
      rw [show (3 : Int32) = nI 3 from rfl, if_neg (fun z => by have := (nI_leI (by omega) (by omega)).mp z; omega)]
      simp only [hU0, bd1_q]
      rw [S_hasOne hs hI (by omega), bd2_s]
      by_cases c : p < σ 0 1
      · rw [if_pos c, if_neg (by decide)]
        exact f93 (fun z => by omega)
      · rw [if_neg c, if_pos rfl]
        simp only [hU0, bd1_q]
        rw [rd_nI (by omega) (by decide), bd1_s, sp.2, ite_iff (nI_eq0 (by omega))]
        by_cases z : σ 11 p = 0
        · rw [if_pos z]
          exact f93 (fun _ => z)
        · rw [if_neg z]
          unfold f_Reader_allThere_93 f_Reader_allThere_118
          rw [if_neg (by decide)]
          exact ⟨0, rfl, Or.inr ⟨rfl, fun q => z ((q p (Nat.le_refl _) (by omega)).1 (by omega))⟩⟩
  have k24 : ∀ (n fuel l : Nat), n < fuel → l + n = σ 0 0 → ∃ r, f_Reader_allThere_24 fuel 20 (((1 : Int32) <<< (nI (σ 0 0) &&& 31)) - (1 : Int32)) (nI l) (bh v w) = some (r, bh v w) ∧ (r = 1 ∧ ((∀ j, l ≤ j → j < σ 0 0 → σ 5 j ≤ σ 0 0) ∧ ∀ j, 0 ≤ j → j < 3 → (σ 0 1 ≤ j → σ 11 j = 0) ∧ σ 10 j ||| σ 11 j < 2 ^ σ 0 0) ∨ r = 0 ∧ ¬ ((∀ j, l ≤ j → j < σ 0 0 → σ 5 j ≤ σ 0 0) ∧ ∀ j, 0 ≤ j → j < 3 → (σ 0 1 ≤ j → σ 11 j = 0) ∧ σ 10 j ||| σ 11 j < 2 ^ σ 0 0)) := by
    intro n
    induction n with
    | zero =>
      intro fuel l hf hl
      obtain ⟨m, rfl⟩ : ∃ m, fuel = m + 1 := ⟨fuel - 1, by omega⟩
      obtain ⟨r, er, hr⟩ := k66 3 FU 0 (by decide) (by decide)
      refine ⟨r, ?_, ?_⟩
      · show f_Reader_allThere_24b (f_Reader_allThere_24 m) 20 _ (nI l) (bh v w) = _
        unfold f_Reader_allThere_24b
        simp only [hU0, bd1_q]
        rw [hs.1.1, if_pos ((nI_leI (by omega) (by omega)).mpr (by omega))]
        exact er
      · rcases hr with ⟨h1, h2⟩ | ⟨h1, h2⟩
        · exact Or.inl ⟨h1, fun j q1 q2 => by omega, h2⟩
        · exact Or.inr ⟨h1, fun z => h2 z.2⟩
    | succ n ih =>
      intro fuel l hf hl
      obtain ⟨m, rfl⟩ : ∃ m, fuel = m + 1 := ⟨fuel - 1, by omega⟩
      obtain ⟨r, er, hr⟩ := ih m (l + 1) (by omega) (by omega)
      have bl := b l (by omega)
      have sl := (hs.2.1 l (by omega)).2.2.2.2
      have go : σ 5 l ≤ σ 0 0 → (r = 1 ∧ ((∀ j, l ≤ j → j < σ 0 0 → σ 5 j ≤ σ 0 0) ∧ ∀ j, 0 ≤ j → j < 3 → (σ 0 1 ≤ j → σ 11 j = 0) ∧ σ 10 j ||| σ 11 j < 2 ^ σ 0 0) ∨ r = 0 ∧ ¬ ((∀ j, l ≤ j → j < σ 0 0 → σ 5 j ≤ σ 0 0) ∧ ∀ j, 0 ≤ j → j < 3 → (σ 0 1 ≤ j → σ 11 j = 0) ∧ σ 10 j ||| σ 11 j < 2 ^ σ 0 0)) := by
        intro h5
        rcases hr with ⟨h1, h2⟩ | ⟨h1, h2⟩
        · refine Or.inl ⟨h1, fun j q1 q2 => ?_, h2.2⟩
          by_cases z : j = l
          · rw [z]; exact h5
          · exact h2.1 j (by omega) q2
        · exact Or.inr ⟨h1, fun z => h2 ⟨fun j q1 q2 => z.1 j (by omega) q2, z.2⟩⟩
      show ∃ r, f_Reader_allThere_24b (f_Reader_allThere_24 m) 20 _ (nI l) (bh v w) = some (r, bh v w) ∧ _
      unfold f_Reader_allThere_24b f_Reader_allThere_58
      simp only [hU0, bd1_q]
      rw [hs.1.1, if_neg (fun z => by have := (nI_leI (by omega) (by omega)).mp z; omega), rd_nI (by omega) (by decide), bd1_s, bd1_s, sl, nI_1, er]
      rcases h5 : σ 5 l with _ | m5
      · rw [if_pos (show cI 0 = -4 from rfl)]
        exact ⟨r, rfl, go (by omega)⟩
      · rw [if_neg (show ¬ cI (m5 + 1) = -4 from fun z => by
          have z2 : nI m5 = -4 := z
          have := congrArg Int32.toInt z2
          rw [nI_toInt (by omega)] at this
          have q : (-4 : Int32).toInt = -4 := by decide
          omega), show cI (m5 + 1) = nI m5 from rfl, S_hasLaw hs hI (by omega), bd2_s]
        by_cases c : m5 < σ 0 0
        · rw [if_pos c, if_neg (by decide)]
          exact ⟨r, er, go (by omega)⟩
        · rw [if_neg c, if_pos rfl]
          exact ⟨0, rfl, Or.inr ⟨rfl, fun z => by have := z.1 l (Nat.le_refl _) (by omega); omega⟩⟩
  have iff1 : (σ 17 0 ≤ σ 0 0 ∧ σ 17 1 ≤ σ 0 1) ↔ σ 0 5 < 2 ^ σ 0 0 ∧ (∀ j, 0 ≤ j → j < σ 0 0 → σ 5 j ≤ σ 0 0) ∧ ∀ j, 0 ≤ j → j < 3 → (σ 0 1 ≤ j → σ 11 j = 0) ∧ σ 10 j ||| σ 11 j < 2 ^ σ 0 0 := by
    rw [g _ a1, k _ a2]
    constructor
    · rintro ⟨⟨x1, x2, x3⟩, x4⟩
      refine ⟨x1, fun j _ q => x2 j q, fun j _ q => ⟨fun z => ?_, (or_2_lt _ (d j q).1 _ (d j q).2.1 _ a1).mpr (x3 j q)⟩⟩
      rcases Nat.eq_zero_or_pos (σ 11 j) with y | y
      · exact y
      · have := x4 j q (by omega)
        omega
    · rintro ⟨x1, x2, x3⟩
      refine ⟨⟨x1, fun l q => x2 l (Nat.zero_le _) q, fun p q => (or_2_lt _ (d p q).1 _ (d p q).2.1 _ a1).mp (x3 p (Nat.zero_le _) q).2⟩, fun p q z => ?_⟩
      rcases Nat.lt_or_ge p (σ 0 1) with y | y
      · exact y
      · exact absurd ((x3 p (Nat.zero_le _) q).1 y) z
  unfold f_Reader_allThere f_Reader_allThere_0
  simp only [hU0, bd1_q]
  rw [hs.1.1, hs.1.2.2.2.2.2.1, Q_isPart a5 a1, bd2_s]
  by_cases c : σ 0 5 < 2 ^ σ 0 0
  · rw [if_pos c, if_neg (by decide)]
    obtain ⟨r, er, hr⟩ := k24 (σ 0 0) FU 0 (by unfold FU; omega) (by omega)
    refine ⟨r, er, ?_⟩
    rcases hr with ⟨h1, h2⟩ | ⟨h1, h2⟩
    · exact Or.inl ⟨h1, iff1.mpr ⟨c, h2⟩⟩
    · exact Or.inr ⟨h1, fun z => h2 (iff1.mp z).2⟩
  · rw [if_neg c, if_pos rfl]
    exact ⟨0, rfl, Or.inr ⟨rfl, fun z => c (iff1.mp z).1⟩⟩
end
end
/-! 8x9.text9.lean.txt -/
section
theorem hZ0 (v : Nat → Nat → Int32) (w : Nat → Nat → Int64) : kC (bh v w) 0 0 = some () ∧ gR (bh v w) 0 0 0 = some 1 ∧ gR (bh v w) 0 0 1 = some 3 ∧ gR (bh v w) 0 0 2 = some 20 ∧ gR (bh v w) 0 0 4 = some 38 ∧ kC (bh v w) 3 4 = some () ∧ (∀ i x, sI (bh v w) 2 38 i x = wr v w 38 2 i x) := ⟨rfl, rfl, rfl, rfl, rfl, rfl, sI_bh rfl⟩
section
variable {K : Tp} {σ : Rho} {v : Nat → Nat → Int32} {w : Nat → Nat → Int64} {P : Nat}
theorem C_empty : ∃ v', f_Realm_empty 20 (bh v w) = some (bh v' w) ∧ CS (fun _ _ => 0) v' ∧ ∀ q, q < 20 ∨ 37 ≤ q → v' q = v q := by
  unfold f_Realm_empty f_Realm_empty_0
  simp only [hU0, bd1_q]
  obtain ⟨v1, e1, g1, h1, -⟩ := fill_I (q := 30) (n := 3) (x := 0) (by omega) (fun _ _ => rfl) (fun v w i x => sI_bh rfl i x) (u2 (u2 (u2 (u2 (u2 (u2 (u2 v 20 0 0) 20 1 0) 20 2 0) 20 3 0) 20 4 0) 20 5 0) 33 0 0) w
  rw [e1]
  simp only [hU0, bd1_q]
  obtain ⟨v2, e2, g2, h2, -⟩ := fill_I (q := 31) (n := 3) (x := 0) (by omega) (fun _ _ => rfl) (fun v w i x => sI_bh rfl i x) v1 w
  rw [e2]
  simp only [hU0, bd1_q]
  obtain ⟨v3, e3, g3, h3, -⟩ := fill_I (q := 32) (n := 15) (x := 0) (by omega) (fun _ _ => rfl) (fun v w i x => sI_bh rfl i x) v2 w
  rw [e3]
  simp only [hU0, bd1_q]
  have fr : ∀ q, q ≠ 30 → q ≠ 31 → q ≠ 32 → v3 q = u2 (u2 (u2 (u2 (u2 (u2 (u2 v 20 0 0) 20 1 0) 20 2 0) 20 3 0) 20 4 0) 20 5 0) 33 0 0 q := fun q a b c => (g3 q c).trans ((g2 q b).trans (g1 q a))
  refine ⟨v3, rfl, ⟨?_, fun l hl => absurd hl (Nat.not_lt_zero _), fun p hp => absurd hp (Nat.not_lt_zero _), fun p hp => ⟨?_, ?_⟩, h3⟩, fun q hq => ?_⟩
  · rw [fr 20 (by decide) (by decide) (by decide), fr 33 (by decide) (by decide) (by decide)]
    simp [u2_ap]
    rfl
  · rw [g3 30 (by decide), g2 30 (by decide)]; exact h1 p hp
  · rw [g3 31 (by decide)]; exact h2 p hp
  · rw [fr q (by omega) (by omega) (by omega), u2_o (by omega), u2_o (by omega), u2_o (by omega), u2_o (by omega), u2_o (by omega), u2_o (by omega), u2_o (by omega)]
theorem C_fail0 (c s : Nat) : ∃ v', f_Reader_fail 1 (nI c) (nI s) (bh v w) = some (0, bh v' w) ∧ FrR v v' ∧ v' 1 2 = nI c ∧ v' 1 3 = nI s := by
  unfold f_Reader_fail f_Reader_fail_0
  simp only [hT0, bd1_q]
  exact ⟨_, rfl, ⟨fun q hq => (u2_o hq).trans (u2_o hq), by simp [u2_ap], by simp [u2_ap]⟩, by simp [u2_ap], by simp [u2_ap]⟩
/-- what is left when a text was read -/
def TQ (x : Rho × Nat) (v : Nat → Nat → Int32) : Prop := CS x.1 v ∧ v 1 4 = nI x.2 ∧ SI x.1 ∧ (x.1 17 0 ≤ x.1 0 0 ∧ x.1 17 1 ≤ x.1 0 1)
theorem C_ri86 {c : Nat} (hT : CT K v) (h2 : v 1 2 = 0) (hs : CS σ v) (hI : SI σ) (h4 : v 1 4 = nI c) : ∃ r v', f_Reader_readInto_86 1 20 1 (bh v w) = some (r, bh v' w) ∧ FrR v v' ∧ CX (sEnd K (σ, c)) TQ r v' := by
  unfold f_Reader_readInto_86 f_Reader_readInto_114 f_Reader_readInto_110 sEnd
  rw [if_neg (by decide)]
  obtain ⟨r, er, hr⟩ := C_allThere (w := w) hs hI
  rw [er, bd2_s]
  rcases hr with ⟨rfl, h⟩ | ⟨rfl, h⟩
  · rw [if_neg (by decide), if_pos h]
    exact ⟨1, v, rfl, FrR.rfl' v, rfl, h2, hs, h4, hI, h⟩
  · rw [if_pos rfl, if_neg h]
    simp only [hT0, bd1_q]
    obtain ⟨v1, e1, f1, b1, b2⟩ := C_fail0 (v := v) (w := w) 6 K.1
    rw [hT.1, show (6 : Int32) = nI 6 from rfl, e1, bd2_s, if_pos rfl]
    exact ⟨0, v1, rfl, f1, rfl, b1, b2⟩
theorem C_riF (n b0 b1 : Nat) (i : Int32) (h : mH) : f_Reader_readInto_31 (n + 1) b0 b1 0 i h = some (0, h) := by
  show f_Reader_readInto_31b (f_Reader_readInto_31 n) b0 b1 0 i h = _
  unfold f_Reader_readInto_31b f_Reader_readInto_86 f_Reader_readInto_114
  by_cases c : (160 : Int32) ≤ i
  · rw [if_pos c, if_pos rfl]
  · rw [if_neg c, if_pos rfl, if_pos rfl]
def FrT (v v' : Nat → Nat → Int32) : Prop := (∀ q, q ≠ 1 → q < 20 ∨ 37 ≤ q → v' q = v q) ∧ v' 1 1 = v 1 1
theorem FrT.tr {v1 v2 : Nat → Nat → Int32} (h : FrT v v1) (g : FrT v1 v2) : FrT v v2 := ⟨fun q h1 h2 => (g.1 q h1 h2).trans (h.1 q h1 h2), g.2.trans h.2⟩
theorem FrL.t {v1 : Nat → Nat → Int32} (h : FrL v v1) : FrT v v1 := ⟨h.1, h.2.1⟩
theorem FrT.ln {v1 : Nat → Nat → Int32} {x : Int32} (h : FrT v v1) : FrT v (u2 v1 1 4 x) := ⟨fun q h1 h2 => (u2_o h1).trans (h.1 q h1 h2), (u2_n (by decide)).trans h.2⟩
theorem CT.ft {v1 : Nat → Nat → Int32} (h : CT K v) (g : FrT v v1) : CT K v1 := h.fr g.2 (g.1 2 (by decide) (by decide))
theorem C_readL : ∀ (n fuel i c : Nat) (σ : Rho) (P : Nat) (v : Nat → Nat → Int32), n + 1 < fuel → i + n = 160 → CT K v → v 1 2 = 0 → CTk K P v → CS σ v → SI σ → P ≤ K.1 → v 1 4 = nI c → ∃ r v', f_Reader_readInto_31 fuel 1 20 1 (nI i) (bh v w) = some (r, bh v' w) ∧ FrT v v' ∧ CX (sb (sLines K n σ P c) fun x => sEnd K x) TQ r v' := by
  intro n
  induction n with
  | zero =>
    intro fuel i c σ P v hf hi hT h2 hk hs hI hP h4
    obtain ⟨m, rfl⟩ : ∃ m, fuel = m + 1 := ⟨fuel - 1, by omega⟩
    obtain ⟨r, v1, e1, f1, x1⟩ := C_ri86 (w := w) hT h2 hs hI h4
    refine ⟨r, v1, ?_, f1.fl.t, x1⟩
    show f_Reader_readInto_31b (f_Reader_readInto_31 m) 1 20 1 (nI i) (bh v w) = _
    unfold f_Reader_readInto_31b
    rw [show (160 : Int32) = nI 160 from rfl, if_pos ((nI_leI (by omega) (by omega)).mpr (by omega))]
    exact e1
  | succ n ih =>
    intro fuel i c σ P v hf hi hT h2 hk hs hI hP h4
    obtain ⟨m, rfl⟩ : ∃ m, fuel = m + 1 + 1 := ⟨fuel - 2, by omega⟩
    have k4 := (kc_s (K := K) (s := sT K P)).2.2.2.2
    have ek : kD K P = kc K (sT K P) := rfl
    show ∃ r v', f_Reader_readInto_31b (f_Reader_readInto_31 (m + 1)) 1 20 1 (nI i) (bh v w) = some (r, bh v' w) ∧ _
    unfold f_Reader_readInto_31b f_Reader_readInto_68 f_Reader_readInto_69 sLines
    rw [show (160 : Int32) = nI 160 from rfl, if_neg (fun z => by have := (nI_leI (by omega) (by omega)).mp z; omega), if_neg (by decide)]
    simp only [hT0, bd1_q]
    rw [hk.2.1, ite_iff (nI_eq0 (by omega))]
    by_cases z : kD K P = 0
    · rw [if_pos z, if_pos z]
      obtain ⟨r, v1, e1, f1, x1⟩ := C_ri86 (w := w) hT h2 hs hI h4
      exact ⟨r, v1, e1, f1.fl.t, x1⟩
    rw [if_neg z, if_neg z]
    obtain ⟨r1, v1, e1, f1, x1⟩ := C_takeLine (w := w) hT h2 hk hP hs hI
    rw [e1, bd2_s]
    have T1 : CT K v1 := hT.ft f1.t
    have l4 : v1 1 4 = nI c := f1.2.2.trans h4
    clear e1
    generalize hX : sLine K σ P = X at x1 ⊢
    cases X with
    | inl g =>
      obtain ⟨rfl, a, b⟩ := x1
      rw [if_pos rfl]
      simp only [hT0, bd1_q, C_riF]
      exact ⟨0, _, rfl, f1.t.ln, rfl, (u2_n (by decide)).trans a, (u2_n (by decide)).trans b⟩
    | inr y =>
    obtain ⟨rfl, a2, a5, as⟩ := x1
    obtain ⟨yI, yP, yL⟩ := sLine_ok hX hI hP
    rw [if_neg (by decide), sb_r]
    simp only [hT0, bd1_q]
    obtain ⟨r2, v2, e2, f2, x2⟩ := C_takeToken (w := w) T1 a2 a5 yL
    rw [e2, bd2_s]
    have T2 : CT K v2 := T1.fR f2
    have m4 : v2 1 4 = nI c := f2.2.2.trans l4
    have s2 : CS y.1 v2 := as.of f2.1
    have F2 : FrT v v2 := f1.t.tr f2.fl.t
    clear e2
    generalize tokX K y.2 = X2 at x2 ⊢
    cases X2 with
    | inl g =>
      obtain ⟨rfl, a, b⟩ := x2
      rw [if_pos rfl]
      simp only [hT0, bd1_q, C_riF]
      exact ⟨0, _, rfl, F2.ln, rfl, (u2_n (by decide)).trans a, (u2_n (by decide)).trans b⟩
    | inr u =>
    obtain ⟨rfl, b2, tk⟩ := x2
    rw [if_neg (by decide), sb_r]
    simp only [hT0, bd1_q]
    rw [m4, nI_1, nI_1]
    obtain ⟨r3, v3, e3, f3, x3⟩ := ih (m + 1) (i + 1) (c + 1) y.1 y.2 (u2 v2 1 4 (nI (c + 1))) (by omega) (by omega) (T2.fr (u2_n (by decide)) (u2_o (by decide))) ((u2_n (by decide)).trans b2) ⟨(u2_n (by decide)).trans tk.1, (u2_n (by decide)).trans tk.2.1, (u2_n (by decide)).trans tk.2.2.1, fun q => (u2_n (by decide)).trans (tk.2.2.2 q)⟩ (s2.of (fun q hq => u2_o hq)) yI yL (u2_at _ _ _ _)
    exact ⟨r3, v3, e3, F2.ln.tr f3, x3⟩
theorem C_readInto (hT : CT K v) : ∃ r v', f_Reader_readInto 1 20 (bh v w) = some (r, bh v' w) ∧ FrT v v' ∧ CX (sText K) TQ r v' := by
  unfold f_Reader_readInto f_Reader_readInto_0 sText
  obtain ⟨v1, e1, s1, q1⟩ := C_empty (v := v) (w := w)
  simp only [hU0, bd1_q]
  rw [e1]
  simp only [hT0, bd1_q]
  have z1 : v1 1 = v 1 := q1 1 (by decide)
  have T1 : CT K v1 := hT.fr (by rw [z1]) (q1 2 (by decide))
  have F1 : FrT v (u2 (u2 (u2 (u2 v1 1 2 0) 1 3 0) 1 4 0) 1 5 0) := ⟨fun q h1 h2 => by rw [u2_o h1, u2_o h1, u2_o h1, u2_o h1]; exact q1 q h2, by simp [u2_ap]; rw [z1]⟩
  have T2 : CT K (u2 (u2 (u2 (u2 v1 1 2 0) 1 3 0) 1 4 0) 1 5 0) := hT.ft F1
  have s2 : CS (fun _ _ => 0) (u2 (u2 (u2 (u2 v1 1 2 0) 1 3 0) 1 4 0) 1 5 0) := s1.of (fun q hq => by rw [u2_o hq, u2_o hq, u2_o hq, u2_o hq])
  have a2 : u2 (u2 (u2 (u2 v1 1 2 0) 1 3 0) 1 4 0) 1 5 0 1 2 = 0 := by simp [u2_ap]
  have a4 : u2 (u2 (u2 (u2 v1 1 2 0) 1 3 0) 1 4 0) 1 5 0 1 4 = 0 := by simp [u2_ap]
  have a5 : u2 (u2 (u2 (u2 v1 1 2 0) 1 3 0) 1 4 0) 1 5 0 1 5 = nI 0 := by simp [u2_ap]; rfl
  generalize u2 (u2 (u2 (u2 v1 1 2 0) 1 3 0) 1 4 0) 1 5 0 = v2 at F1 T2 s2 a2 a4 a5 ⊢
  obtain ⟨r3, v3, e3, f3, x3⟩ := C_takeToken (w := w) T2 a2 a5 (Nat.zero_le _)
  rw [e3, bd2_s]
  have F3 : FrT v v3 := F1.tr f3.fl.t
  have T3 : CT K v3 := T2.fR f3
  have b4 : v3 1 4 = nI 0 := f3.2.2.trans a4
  clear e3
  generalize tokX K 0 = X at x3 ⊢
  cases X with
  | inl g =>
    obtain ⟨rfl, a, b⟩ := x3
    rw [show f_Reader_readInto_31 FU 1 20 0 0 (bh v3 w) = some (0, bh v3 w) from C_riF 599 1 20 0 _]
    exact ⟨0, v3, rfl, F3, rfl, a, b⟩
  | inr u =>
  obtain ⟨rfl, b2, tk⟩ := x3
  obtain ⟨r4, v4, e4, f4, x4⟩ := C_readL (w := w) 160 FU 0 0 (fun _ _ => 0) 0 v3 (by decide) (by decide) T3 b2 tk (s2.of f3.1) SI_0 (Nat.zero_le _) b4
  exact ⟨r4, v4, e4, F3.tr f4, x4⟩
/-- the class's text() -/
theorem C_text (hT : CT K v) : ∃ r v', f_Q_text 0 (bh v w) = some (r, bh v' w) ∧ v' 1 1 = 0 ∧ match sText K with
    | .inl f => r = ((-10) : Int32) - nI f.2 ∧ v' 1 2 = nI f.1 ∧ ∀ q, q ≠ 1 → q < 20 ∨ 37 ≤ q → v' q = v q
    | .inr x => r = nI x.2 ∧ v' 1 2 = 0 ∧ CR 3 (fin x.1) v' ∧ v' 38 0 = 0 ∧ v' 38 1 = 0 ∧ (SI x.1 ∧ x.1 17 0 ≤ x.1 0 0 ∧ x.1 17 1 ≤ x.1 0 1) ∧ ∀ q, q ≠ 1 → q ≠ 38 → q < 3 ∨ 37 ≤ q → v' q = v q := by
  unfold f_Q_text f_Q_text_0
  simp only [hZ0, hT0, bd1_q]
  obtain ⟨r1, v1, e1, f1, x1⟩ := C_readInto (w := w) hT
  rw [e1, bd2_s]
  simp only [hZ0, hT0, bd1_q]
  clear e1
  generalize sText K = X at x1 ⊢
  cases X with
  | inl g =>
    obtain ⟨rfl, a, b⟩ := x1
    rw [if_pos rfl, u2_n (show 3 ≠ 1 by decide), b]
    exact ⟨_, _, rfl, u2_at _ _ _ _, rfl, (u2_n (by decide)).trans a, fun q h1 h2 => (u2_o h1).trans (f1.1 q h1 h2)⟩
  | inr y =>
  obtain ⟨rfl, a2, ts, t4, tI, te⟩ := x1
  rw [if_neg (by decide)]
  obtain ⟨v2, e2, c2⟩ := C_copyFrom (a := 3) (b := 20) (Or.inl rfl) (Or.inr (Or.inl rfl)) (by decide) (u2 v1 1 1 0) w
  rw [e2, bd1_s]
  have hR : CR 3 (fin y.1) v2 := CR_copy (CR_fin (ts.of (fun q hq => u2_o hq)) tI) (ROK_fin tI te.1 te.2) c2
  have z1 : v2 1 = u2 v1 1 1 0 1 := c2.1 1 (by decide)
  refine ⟨nI y.2, u2 (u2 v2 38 0 0) 38 1 0, ?_, ?_, rfl, ?_, ?_, ?_, ?_, ⟨tI, te⟩, ?_⟩
  · show f_Q_text_48b (f_Q_text_48 599) 0 0 (bh v2 w) = _
    unfold f_Q_text_48b
    rw [if_neg (by decide)]
    simp only [hZ0, bd1_q]
    rw [show (0 : Int32) = nI 0 from rfl, wr_nI (by decide) (by decide), bd1_s]
    show f_Q_text_48b (f_Q_text_48 598) 0 (nI 1) (bh (u2 v2 38 0 0) w) = _
    unfold f_Q_text_48b
    rw [if_neg (by decide)]
    simp only [hZ0, bd1_q]
    rw [wr_nI (by decide) (by decide), bd1_s]
    show f_Q_text_48b (f_Q_text_48 597) 0 (nI 2) (bh (u2 (u2 v2 38 0 0) 38 1 0) w) = _
    unfold f_Q_text_48b
    rw [if_pos (by decide)]
    simp only [hZ0, hT0, bd1_q]
    rw [u2_o (by decide), u2_o (by decide), z1, u2_n (by decide), t4]
    rfl
  · rw [u2_o (by decide), u2_o (by decide), z1, u2_at]
  · rw [u2_o (by decide), u2_o (by decide), z1, u2_n (by decide)]; exact a2
  · exact hR.frame (fun p h1 h2 => (u2_o (by omega)).trans (u2_o (by omega)))
  · rw [u2_n (by decide), u2_at]
  · rw [u2_at]
  · intro q h1 h2 h3
    rw [u2_o h2, u2_o h2, c2.1 q (by omega), u2_o h1]
    exact f1.1 q h1 (by omega)
end
end
/-! 8xa.texta.lean.txt -/
section
/-! the reference's tokens -/
theorem nin_I {a lo hi : Nat} (ha : a < 2 ^ 31) (hl : lo < 2 ^ 31) (hh : hi < 2 ^ 31) (h : mH) : f_M_in (nI a).toInt64 (nI lo).toInt64 (nI hi).toInt64 h = some (if lo ≤ a ∧ a ≤ hi then 1 else 0, h) := by
  rw [M_in]
  have e : ((nI lo).toInt64 ≤ (nI a).toInt64 ∧ (nI a).toInt64 ≤ (nI hi).toInt64) ↔ (lo ≤ a ∧ a ≤ hi) := by
    rw [i64_le, i64_le, nI_toInt ha, nI_toInt hl, nI_toInt hh]
    omega
  rw [ite_iff e]
def FL (f : Fa) (v : Nat → Nat → Int32) : Prop := v 100 25 = nI f.1 ∧ v 100 26 = nI f.2 ∧ 1 ≤ f.1 ∧ f.1 ≤ 6
def FrN (v v' : Nat → Nat → Int32) : Prop := (∀ q, q ≠ 100 → v' q = v q) ∧ ∀ j, j < 21 ∨ 26 < j → v' 100 j = v 100 j
theorem FrN.rf (v : Nat → Nat → Int32) : FrN v v := ⟨fun _ _ => rfl, fun _ _ => rfl⟩
theorem FrN.tr {v v1 v2 : Nat → Nat → Int32} (h : FrN v v1) (g : FrN v1 v2) : FrN v v2 := ⟨fun q hq => (g.1 q hq).trans (h.1 q hq), fun j hj => (g.2 j hj).trans (h.2 j hj)⟩
theorem FrN.u {v v1 : Nat → Nat → Int32} {k : Nat} {x : Int32} (h : FrN v v1) (hk : 21 ≤ k ∧ k ≤ 26) : FrN v (u2 v1 100 k x) := ⟨fun q hq => (u2_o hq).trans (h.1 q hq), fun j hj => (u2_n (by omega)).trans (h.2 j hj)⟩
def MX {α : Type} (X : Fa ⊕ α) (Q : α → (Nat → Nat → Int32) → Prop) (v : Nat → Nat → Int32) : Prop := match X with
  | .inl f => FL f v
  | .inr a => v 100 25 = 0 ∧ Q a v
def MTk (K : Tp) (P : Nat) (v : Nat → Nat → Int32) : Prop := P ≤ K.1 ∧ v 100 21 = nI (eN K P) ∧ v 100 22 = nI (sT K P) ∧ v 100 23 = nI (kD K P) ∧ (kD K P = 2 → v 100 24 = nI (vL K P))
theorem MT.fr {K : Tp} {v v' : Nat → Nat → Int32} (h : MT K v) (h1 : v' 100 20 = v 100 20) (h2 : v' 114 = v 114) : MT K v' := by
  unfold MT
  rw [h1, h2]
  exact h
theorem MT.fN {K : Tp} {v v' : Nat → Nat → Int32} (h : MT K v) (g : FrN v v') : MT K v' := h.fr (g.2 20 (by decide)) (g.1 114 (by decide))
section
variable {K : Tp} {v : Nat → Nat → Int32} {w : Nat → Nat → Int64} {P : Nat}
theorem M_look (hT : MT K v) {p : Nat} (hp : p < 2 ^ 31) : f_M_look 100 (nI p) (bh v w) = some (if p < K.1 then nI (K.2 p) else -1, bh v w) := by
  have hL := hT.2.1
  unfold f_M_look f_M_look_0
  simp only [hN0, bd1_q]
  rw [hT.1, ite_iff (nI_leI (by omega) hp)]
  by_cases c : p < K.1
  · rw [if_neg (by omega), if_pos c, rd_nI (by omega) (by decide), bd1_s, (hT.2.2 p c).1]
  · rw [if_pos (by omega), if_neg c]
theorem M_needs1 (c : Int32) (h : mH) : f_M_needs 100 1 c h = some h := by
  unfold f_M_needs f_M_needs_0
  rw [if_neg (by decide)]
theorem M_needs0 (h25 : v 100 25 = 0) (c : Int32) : f_M_needs 100 0 c (bh v w) = some (bh (u2 (u2 v 100 25 c) 100 26 (v 100 22)) w) := by
  unfold f_M_needs f_M_needs_0
  rw [if_pos rfl]
  simp only [hN0, bd1_q]
  rw [h25, if_pos rfl, u2_n (by decide)]
theorem M_needsF {f : Fa} (hF : FL f v) (b c : Int32) : f_M_needs 100 b c (bh v w) = some (bh v w) := by
  have h1 := hF.2.2
  unfold f_M_needs f_M_needs_0
  by_cases z : b = 0
  · rw [if_pos z]
    simp only [hN0, bd1_q]
    rw [hF.1, if_neg (nI_ne0 (by omega) (by omega))]
  · rw [if_neg z]
theorem M_run82 : ∀ (n fuel i : Nat) (v : Nat → Nat → Int32), n < fuel → i + n = K.1 → MT K v → v 100 21 = nI i → ∃ v', f_M_next_82 fuel 100 (bh v w) = some (bh v' w) ∧ v' 100 21 = nI (ru K.2 97 122 n i) ∧ (∀ q, q ≠ 100 → v' q = v q) ∧ ∀ j, j ≠ 21 → v' 100 j = v 100 j := by
  intro n
  induction n with
  | zero =>
    intro fuel i v hf hi hT h21
    obtain ⟨m, rfl⟩ : ∃ m, fuel = m + 1 := ⟨fuel - 1, by omega⟩
    have hL := hT.2.1
    refine ⟨v, ?_, h21, fun _ _ => rfl, fun _ _ => rfl⟩
    show f_M_next_82b (f_M_next_82 m) 100 (bh v w) = _
    unfold f_M_next_82b
    simp only [hN0, bd1_q]
    rw [h21, M_look hT (by omega), bd2_s, if_neg (by omega), show f_M_in (-1 : Int32).toInt64 97 122 (bh v w) = some (0, bh v w) from rfl, bd2_s, if_pos rfl]
  | succ n ih =>
    intro fuel i v hf hi hT h21
    obtain ⟨m, rfl⟩ : ∃ m, fuel = m + 1 := ⟨fuel - 1, by omega⟩
    have hL := hT.2.1
    obtain ⟨t1, t2⟩ := hT.2.2 i (by omega)
    show ∃ v', f_M_next_82b (f_M_next_82 m) 100 (bh v w) = _ ∧ _
    unfold f_M_next_82b ru
    simp only [hN0, bd1_q]
    rw [h21, M_look hT (by omega), bd2_s, if_pos (show i < K.1 by omega), show (97 : Int64) = (nI 97).toInt64 from rfl, show (122 : Int64) = (nI 122).toInt64 from rfl, nin_I (by omega) (by omega) (by omega), bd2_s]
    by_cases c : 97 ≤ K.2 i ∧ K.2 i ≤ 122
    · rw [if_pos c, if_neg (by decide), if_pos c]
      simp only [hN0, bd1_q]
      rw [h21, nI_1]
      obtain ⟨v', e1, e2, e3, e4⟩ := ih m (i + 1) (u2 v 100 21 (nI (i + 1))) (by omega) (by omega) (hT.fr (u2_n (by decide)) (u2_o (by decide))) (u2_at _ _ _ _)
      exact ⟨v', e1, e2, fun q hq => (e3 q hq).trans (u2_o hq), fun j hj => (e4 j hj).trans (u2_n hj)⟩
    · rw [if_neg c, if_pos rfl, if_neg c]
      exact ⟨v, rfl, h21, fun _ _ => rfl, fun _ _ => rfl⟩
/-- the first two figures from s on, below i -/
def pv (K : Tp) (s i : Nat) : Nat := if i = s then 0 else if i = s + 1 then K.2 s - 48 else 10 * (K.2 s - 48) + (K.2 (s + 1) - 48)
theorem M_run140 {s : Nat} : ∀ (n fuel i : Nat) (v : Nat → Nat → Int32), n < fuel → i + n = K.1 → s ≤ i → (∀ j, s ≤ j → j < i → 48 ≤ K.2 j ∧ K.2 j ≤ 57) → MT K v → v 100 25 = 0 → v 100 21 = nI i → v 100 22 = nI s → v 100 24 = nI (pv K s i) → ∃ v', f_M_next_140 fuel 100 (bh v w) = some (bh v' w) ∧ FrN v v' ∧ v' 100 23 = v 100 23 ∧ (s + 2 < ru K.2 48 57 n i → FL (1, s) v') ∧ (¬ s + 2 < ru K.2 48 57 n i → v' 100 25 = 0 ∧ v' 100 21 = nI (ru K.2 48 57 n i) ∧ v' 100 22 = nI s ∧ v' 100 24 = nI (pv K s (ru K.2 48 57 n i))) := by
  intro n
  have ext : ∀ (i : Nat) (v : Nat → Nat → Int32), i ≤ K.1 → s ≤ i → MT K v → v 100 25 = 0 → v 100 21 = nI i → v 100 22 = nI s → v 100 24 = nI (pv K s i) → ∃ v', (if (2 : Int32) < nI i - nI s then f_M_next_236 100 0 (bh v w) else f_M_next_236 100 1 (bh v w)) = some (bh v' w) ∧ FrN v v' ∧ v' 100 23 = v 100 23 ∧ (s + 2 < i → FL (1, s) v') ∧ (¬ s + 2 < i → v' 100 25 = 0 ∧ v' 100 21 = nI i ∧ v' 100 22 = nI s ∧ v' 100 24 = nI (pv K s i)) := by
    intro i v hi hs hT h25 h21 h22 h24
    have hL := hT.2.1
    rw [pk_sub hs, show (2 : Int32) = nI 2 from rfl, ite_iff (nI_ltI (by omega) (by omega))]
    unfold f_M_next_236
    simp only [hN0, bd1_q]
    by_cases c : 2 < i - s
    · rw [if_pos c, M_needs0 h25, bd1_s]
      refine ⟨_, rfl, ((FrN.rf v).u (by omega)).u (by omega), by simp [u2_ap], fun _ => ⟨by simp [u2_ap]; rfl, by simp [u2_ap, h22], Nat.le_refl 1, show 1 ≤ 6 by decide⟩, fun z => by omega⟩
    · rw [if_neg c, M_needs1, bd1_s]
      exact ⟨v, rfl, FrN.rf v, rfl, fun z => by omega, fun _ => ⟨h25, h21, h22, h24⟩⟩
  induction n with
  | zero =>
    intro fuel i v hf hi hs hd hT h25 h21 h22 h24
    obtain ⟨m, rfl⟩ : ∃ m, fuel = m + 1 := ⟨fuel - 1, by omega⟩
    have hL := hT.2.1
    show ∃ v', f_M_next_140b (f_M_next_140 m) 100 (bh v w) = _ ∧ _
    unfold f_M_next_140b
    simp only [hN0, bd1_q]
    rw [h21, M_look hT (by omega), bd2_s, if_neg (by omega), show f_M_in (-1 : Int32).toInt64 48 57 (bh v w) = some (0, bh v w) from rfl, bd2_s, if_pos rfl]
    simp only [hN0, bd1_q]
    rw [h21, h22]
    exact ext i v (by omega) hs hT h25 h21 h22 h24
  | succ n ih =>
    intro fuel i v hf hi hs hd hT h25 h21 h22 h24
    obtain ⟨m, rfl⟩ : ∃ m, fuel = m + 1 := ⟨fuel - 1, by omega⟩
    have hL := hT.2.1
    obtain ⟨t1, t2⟩ := hT.2.2 i (by omega)
    show ∃ v', f_M_next_140b (f_M_next_140 m) 100 (bh v w) = _ ∧ _
    unfold f_M_next_140b ru
    simp only [hN0, bd1_q]
    rw [h21, M_look hT (by omega), bd2_s, if_pos (show i < K.1 by omega), show (48 : Int64) = (nI 48).toInt64 from rfl, show (57 : Int64) = (nI 57).toInt64 from rfl, nin_I (by omega) (by omega) (by omega), bd2_s]
    by_cases c : 48 ≤ K.2 i ∧ K.2 i ≤ 57
    · rw [if_pos c, if_neg (by decide), if_pos c]
      unfold f_M_next_201
      simp only [hN0, bd1_q]
      have go : ∀ x : Nat, x = pv K s (i + 1) → ∃ v', f_M_next_140 m 100 (bh (u2 (u2 v 100 24 (nI x)) 100 21 (nI (i + 1))) w) = some (bh v' w) ∧ FrN v v' ∧ v' 100 23 = v 100 23 ∧ (s + 2 < ru K.2 48 57 n (i + 1) → FL (1, s) v') ∧ (¬ s + 2 < ru K.2 48 57 n (i + 1) → v' 100 25 = 0 ∧ v' 100 21 = nI (ru K.2 48 57 n (i + 1)) ∧ v' 100 22 = nI s ∧ v' 100 24 = nI (pv K s (ru K.2 48 57 n (i + 1)))) := by
        intro x hx
        have hd' : ∀ j, s ≤ j → j < i + 1 → 48 ≤ K.2 j ∧ K.2 j ≤ 57 := fun j q1 q2 => by
          by_cases z : j = i
          · rw [z]; exact c
          · exact hd j q1 (by omega)
        obtain ⟨v', e1, e2, e3, e4, e5⟩ := ih m (i + 1) (u2 (u2 v 100 24 (nI x)) 100 21 (nI (i + 1))) (by omega) (by omega) (by omega) hd' (hT.fr (by simp [u2_ap]) ((u2_o (by decide)).trans (u2_o (by decide)))) (by simp [u2_ap, h25]) (u2_at _ _ _ _) (by simp [u2_ap, h22]) (by simp [u2_ap, hx])
        exact ⟨v', e1, (((FrN.rf v).u (by omega)).u (by omega)).tr e2, by rw [e3]; simp [u2_ap], e4, e5⟩
      have q1 : (u2 (u2 v 100 24 (v 100 24)) 100 21 (nI (i + 1))) = (u2 (u2 v 100 24 (v 100 24)) 100 21 (nI (i + 1))) := rfl
      rw [h21, h22, pk_sub hs, show (2 : Int32) = nI 2 from rfl, ite_iff (nI_leI (by omega) (by omega))]
      by_cases g : 2 ≤ i - s
      · rw [if_pos g, u2_n (show 21 ≠ 24 by decide), h21, nI_1, h24]
        refine go _ ?_
        unfold pv
        rw [if_neg (by omega), if_neg (by omega), if_neg (by omega), if_neg (by omega)]
      · rw [if_neg g, M_look hT (by omega), bd2_s, if_pos (show i < K.1 by omega)]
        simp only [hN0, bd1_q]
        rw [u2_n (show 21 ≠ 24 by decide), h21, nI_1, h24, show (10 : Int32) = nI 10 from rfl, pk_mul, nI_add, show (48 : Int32) = nI 48 from rfl, pk_sub (by omega)]
        refine go _ ?_
        unfold pv
        by_cases z : i = s
        · subst z
          rw [if_pos rfl, if_neg (by omega), if_pos rfl]
          omega
        · have z2 : i = s + 1 := by omega
          subst z2
          have := hd s (Nat.le_refl _) (by omega)
          rw [if_neg (by omega), if_pos rfl, if_neg (by omega), if_neg (by omega)]
          omega
    · rw [if_neg c, if_pos rfl, if_neg c]
      simp only [hN0, bd1_q]
      rw [h21, h22]
      exact ext i v (by omega) hs hT h25 h21 h22 h24
end
end
/-! 8xb.textb.lean.txt -/
section
section
variable {K : Tp} {v : Nat → Nat → Int32} {w : Nat → Nat → Int64} {P : Nat}
theorem MTk.of {v1 : Nat → Nat → Int32} (h : MTk K P v) (e : ∀ j, 21 ≤ j ∧ j ≤ 24 → v1 100 j = v 100 j) : MTk K P v1 := by
  obtain ⟨a, b, c, d, f⟩ := h
  exact ⟨a, (e 21 (by omega)).trans b, (e 22 (by omega)).trans c, (e 23 (by omega)).trans d, fun z => (e 24 (by omega)).trans (f z)⟩
theorem M_nextX (rec8 : Nat → mH → Option mH) (hT : MT K v) (h25 : v 100 25 = 0) (h21 : v 100 21 = nI (sT K P)) (hP : P ≤ K.1) (hn : ¬ (sT K P < K.1 ∧ K.2 (sT K P) = 32)) : ∃ v', f_M_next_8b rec8 100 (bh v w) = some (bh v' w) ∧ FrN v v' ∧ MX (tokX K P) (fun _ v' => MTk K P v') v' := by
  have hL := hT.2.1
  have hs := sT_b hP
  have he := eN_b hP
  have hkc := kc_s (K := K) (s := sT K P)
  have ek : kD K P = kc K (sT K P) := rfl
  have T1 : MT K (u2 v 100 22 (nI (sT K P))) := hT.fr (u2_n (by decide)) (u2_o (by decide))
  unfold f_M_next_8b
  simp only [hN0, bd1_q]
  rw [h21, M_look hT (by omega), bd2_s, if_neg (show ¬ (if sT K P < K.1 then nI (K.2 (sT K P)) else -1) = (32 : Int32) from fun z => by
    by_cases c : sT K P < K.1
    · rw [if_pos c] at z
      have := (hT.2.2 _ c).2
      exact hn ⟨c, (nI_eqI (a := K.2 (sT K P)) (b := 32) (by omega) (by omega)).mp z⟩
    · rw [if_neg c] at z
      exact absurd z (by decide))]
  simp only [hN0, bd1_q]
  rw [h21, u2_n (show 21 ≠ 22 by decide), h21, M_look T1 (by omega), bd2_s]
  by_cases c : sT K P < K.1
  · obtain ⟨t1, t2⟩ := hT.2.2 _ c
    rw [if_pos c, if_pos (nI_pos' (by omega)), show (97 : Int64) = (nI 97).toInt64 from rfl, show (122 : Int64) = (nI 122).toInt64 from rfl, nin_I (by omega) (by omega) (by omega), bd2_s]
    by_cases c1 : 97 ≤ K.2 (sT K P) ∧ K.2 (sT K P) ≤ 122
    · have hk : kD K P = 1 := by rw [ek]; unfold kc; rw [if_pos c, if_neg (by omega), if_pos c1]
      rw [if_pos c1, if_neg (by decide)]
      simp only [hN0, bd1_q]
      obtain ⟨v2, e2, b21, gq, gj⟩ := M_run82 (w := w) (K.1 - sT K P) FU (sT K P) (u2 (u2 v 100 22 (nI (sT K P))) 100 23 1) (by unfold FU; omega) (by omega) (T1.fr (u2_n (by decide)) (u2_o (by decide))) (by simp [u2_ap, h21])
      refine ⟨v2, e2, ⟨fun q hq => (gq q hq).trans ((u2_o hq).trans (u2_o hq)), fun j hj => by rw [gj j (by omega), u2_n (by omega), u2_n (by omega)]⟩, ?_⟩
      unfold tokX
      rw [if_neg (by omega)]
      refine ⟨by rw [gj 25 (by decide)]; simp [u2_ap, h25], hP, ?_, ?_, ?_, fun z => by omega⟩
      · rw [b21]; unfold eN rn; rw [if_pos hk]
      · rw [gj 22 (by decide)]; simp [u2_ap]
      · rw [gj 23 (by decide), hk]; simp [u2_ap]; rfl
    · rw [if_neg c1, if_pos rfl, show (48 : Int64) = (nI 48).toInt64 from rfl, show (57 : Int64) = (nI 57).toInt64 from rfl, nin_I (by omega) (by omega) (by omega), bd2_s]
      by_cases c2 : 48 ≤ K.2 (sT K P) ∧ K.2 (sT K P) ≤ 57
      · have hk : kD K P = 2 := by rw [ek]; unfold kc; rw [if_pos c, if_neg (by omega), if_neg c1, if_pos c2]
        have ee : eN K P = ru K.2 48 57 (K.1 - sT K P) (sT K P) := by unfold eN rn; rw [if_neg (by omega), if_pos hk]
        rw [if_pos c2, if_neg (by decide)]
        simp only [hN0, bd1_q]
        have T3 : MT K (u2 (u2 (u2 v 100 22 (nI (sT K P))) 100 23 2) 100 24 0) := (T1.fr (u2_n (by decide)) (u2_o (by decide))).fr (u2_n (by decide)) (u2_o (by decide))
        obtain ⟨v2, e2, f2, b23, g1, g2⟩ := M_run140 (w := w) (s := sT K P) (K.1 - sT K P) FU (sT K P) (u2 (u2 (u2 v 100 22 (nI (sT K P))) 100 23 2) 100 24 0) (by unfold FU; omega) (by omega) (Nat.le_refl _) (fun j q1 q2 => by omega) T3 (by simp [u2_ap, h25]) (by simp [u2_ap, h21]) (by simp [u2_ap]) (by simp [u2_ap, pv]; rfl)
        rw [← ee] at g1 g2
        refine ⟨v2, e2, ((((FrN.rf v).u (by omega)).u (by omega)).u (by omega)).tr f2, ?_⟩
        unfold tokX
        have h1 := he.2.2 (by omega) (by omega)
        by_cases z : sT K P + 2 < eN K P
        · rw [if_pos (Or.inr ⟨hk, z⟩)]
          exact g1 z
        · rw [if_neg (by omega)]
          obtain ⟨x1, x2, x3, x4⟩ := g2 z
          refine ⟨x1, hP, x2, x3, by rw [b23, hk]; simp [u2_ap]; rfl, fun _ => ?_⟩
          rw [x4]
          unfold pv vL
          rw [if_neg (by omega)]
      · rw [if_neg c2, if_pos rfl]
        simp only [hN0, bd1_q]
        rw [show (59 : Int32) = nI 59 from rfl, ite_iff (nI_eqI (by omega) (by omega))]
        unfold f_M_next_260
        simp only [hN0, bd1_q]
        by_cases c3 : K.2 (sT K P) = 59
        · have hk : kD K P = 3 := by rw [ek]; unfold kc; rw [if_pos c, if_pos c3]
          rw [if_pos c3, M_needs1]
          simp only [hN0, bd1_q]
          refine ⟨_, rfl, (((FrN.rf v).u (by omega)).u (by omega)).u (by omega), ?_⟩
          unfold tokX
          rw [if_neg (by omega)]
          refine ⟨by simp [u2_ap, h25], hP, ?_, by simp [u2_ap], by rw [hk]; simp [u2_ap]; rfl, fun z => by omega⟩
          rw [u2_at, u2_n (show 21 ≠ 23 by decide), u2_n (show 21 ≠ 22 by decide), h21, nI_1]
          unfold eN
          rw [if_neg (by omega), if_neg (by omega), if_pos hk]
        · have hk : kD K P = 4 := by rw [ek]; unfold kc; rw [if_pos c, if_neg c3, if_neg c1, if_neg c2]
          rw [if_neg c3, M_needs0 (by simp [u2_ap, h25])]
          simp only [hN0, bd1_q]
          refine ⟨_, rfl, (((((FrN.rf v).u (by omega)).u (by omega)).u (by omega)).u (by omega)).u (by omega), ?_⟩
          unfold tokX
          rw [if_pos (Or.inl hk)]
          exact ⟨by simp [u2_ap]; rfl, by simp [u2_ap], Nat.le_refl 1, show 1 ≤ 6 by decide⟩
  · have hk : kD K P = 0 := by rw [ek]; unfold kc; rw [if_neg c]
    rw [if_neg c, if_neg (by decide)]
    simp only [hN0, bd1_q]
    refine ⟨_, rfl, ((FrN.rf v).u (by omega)).u (by omega), ?_⟩
    unfold tokX
    rw [if_neg (by omega)]
    refine ⟨by simp [u2_ap, h25], hP, ?_, by simp [u2_ap], by rw [hk]; simp [u2_ap]; rfl, fun z => by omega⟩
    unfold eN
    rw [if_neg (by omega), if_neg (by omega), if_neg (by omega)]
    simp [u2_ap, h21]
theorem M_next8 (hP : P ≤ K.1) : ∀ (n fuel i : Nat) (v : Nat → Nat → Int32), n < fuel → i + n = K.1 → ru K.2 32 32 n i = sT K P → MT K v → v 100 25 = 0 → v 100 21 = nI i → ∃ v', f_M_next_8 fuel 100 (bh v w) = some (bh v' w) ∧ FrN v v' ∧ MX (tokX K P) (fun _ v' => MTk K P v') v' := by
  intro n
  induction n with
  | zero =>
    intro fuel i v hf hi hr hT h25 h21
    obtain ⟨m, rfl⟩ : ∃ m, fuel = m + 1 := ⟨fuel - 1, by omega⟩
    have hr : i = sT K P := hr
    exact M_nextX (f_M_next_8 m) hT h25 (by rw [← hr]; exact h21) hP (by omega)
  | succ n ih =>
    intro fuel i v hf hi hr hT h25 h21
    obtain ⟨m, rfl⟩ : ∃ m, fuel = m + 1 := ⟨fuel - 1, by omega⟩
    have hL := hT.2.1
    obtain ⟨t1, t2⟩ := hT.2.2 i (by omega)
    unfold ru at hr
    by_cases c : 32 ≤ K.2 i ∧ K.2 i ≤ 32
    · rw [if_pos c] at hr
      obtain ⟨v', e1, e2, e3⟩ := ih m (i + 1) (u2 v 100 21 (nI (i + 1))) (by omega) (by omega) hr (hT.fr (u2_n (by decide)) (u2_o (by decide))) ((u2_n (by decide)).trans h25) (u2_at _ _ _ _)
      refine ⟨v', ?_, ((FrN.rf v).u (by omega)).tr e2, e3⟩
      show f_M_next_8b (f_M_next_8 m) 100 (bh v w) = _
      unfold f_M_next_8b
      simp only [hN0, bd1_q]
      rw [h21, M_look hT (by omega), bd2_s, if_pos (show i < K.1 by omega), if_pos (show nI (K.2 i) = (32 : Int32) by rw [show K.2 i = 32 by omega]; rfl)]
      simp only [hN0, bd1_q]
      rw [h21, nI_1]
      exact e1
    · rw [if_neg c] at hr
      exact M_nextX (f_M_next_8 m) hT h25 (by rw [← hr]; exact h21) hP (fun z => c (by rw [hr]; omega))
theorem M_next (hT : MT K v) (h25 : v 100 25 = 0) (h21 : v 100 21 = nI P) (hP : P ≤ K.1) : ∃ v', f_M_next 100 (bh v w) = some (bh v' w) ∧ FrN v v' ∧ MX (tokX K P) (fun _ v' => MTk K P v') v' := by
  have hL := hT.2.1
  obtain ⟨v', e1, e2, e3⟩ := M_next8 (w := w) hP (K.1 - P) FU P v (by unfold FU; omega) (by omega) rfl hT h25 h21
  refine ⟨v', ?_, e2, e3⟩
  unfold f_M_next f_M_next_0
  simp only [hN0, bd1_q]
  rw [h25, if_pos (by decide)]
  exact e1
theorem M_nextF {f : Fa} (hF : FL f v) : f_M_next 100 (bh v w) = some (bh v w) := by
  have := hF.2.2
  unfold f_M_next f_M_next_0
  simp only [hN0, bd1_q]
  rw [hF.1, if_neg (nI_nle (by omega) (by omega))]
theorem M_lookedF {f : Fa} (hF : FL f v) (lo hi : Int32) : f_M_looked 100 lo hi (bh v w) = some (0, bh v w) := by
  have := hF.2.2
  have n0 : ¬ nI f.1 = 0 := nI_ne0 (by omega) (by omega)
  unfold f_M_looked f_M_looked_0 f_M_looked_25 f_M_looked_49
  simp only [hN0, bd1_q]
  rw [hF.1, if_neg n0, if_neg n0, if_neg n0]
theorem M_looked {lo hi : Nat} (hk : MTk K P v) (h25 : v 100 25 = 0) (hb : ∀ j, j < K.1 → K.2 j ≤ 127) (hlo : lo < 200) (hhi : hi < 200) : ∃ r v', f_M_looked 100 (nI lo) (nI hi) (bh v w) = some (r, bh v' w) ∧ FrN v v' ∧ MX (chk K lo hi P) (fun n v' => r = nI n ∧ MTk K P v') v' ∧ (∀ f, chk K lo hi P = .inl f → r = 0) := by
  have k4 := (kc_s (K := K) (s := sT K P)).2.2.2.2
  have ek : kD K P = kc K (sT K P) := rfl
  obtain ⟨hP, k21, k22, k23, k24⟩ := hk
  unfold f_M_looked f_M_looked_0 f_M_looked_21 f_M_looked_25 f_M_looked_49
  simp only [hN0, bd1_q]
  rw [h25, if_pos rfl, k23, show (2 : Int32) = nI 2 from rfl, ite_iff (nI_eqI (by omega) (by omega))]
  unfold chk chkB
  by_cases c : kD K P = 2
  · have hv := vL_lt hb hP c
    rw [if_pos c, if_pos c, M_needs1]
    simp only [hN0, bd1_q]
    rw [h25, if_pos rfl, k24 c, nin_I hv (by omega) (by omega), bd2_s]
    by_cases g : lo ≤ vL K P ∧ vL K P ≤ hi
    · rw [if_pos g, if_pos g]
      simp only [hN0, bd1_q]
      rw [M_needs1]
      simp only [hN0, bd1_q]
      rw [h25, if_pos rfl, k24 c]
      exact ⟨_, v, rfl, FrN.rf v, ⟨h25, rfl, hP, k21, k22, k23, k24⟩, fun f z => by cases z⟩
    · rw [if_neg g, if_neg g]
      simp only [hN0, bd1_q]
      rw [M_needs0 h25]
      simp only [hN0, bd1_q]
      rw [u2_n (show 25 ≠ 26 by decide), u2_at, if_neg (by decide)]
      exact ⟨0, _, rfl, ((FrN.rf v).u (by omega)).u (by omega), ⟨by simp [u2_ap]; rfl, by simp [u2_ap, k22], show 1 ≤ 3 by decide, show 3 ≤ 6 by decide⟩, fun f z => rfl⟩
  · rw [if_neg c, if_neg c, M_needs0 h25]
    simp only [hN0, bd1_q]
    rw [u2_n (show 25 ≠ 26 by decide), u2_at, if_neg (by decide), if_neg (by decide)]
    exact ⟨0, _, rfl, ((FrN.rf v).u (by omega)).u (by omega), ⟨by simp [u2_ap], by simp [u2_ap, k22], show 1 ≤ 2 by decide, show 2 ≤ 6 by decide⟩, fun f z => rfl⟩
end
end
/-! 8xc.textc.lean.txt -/
section
/-! the reference reads numbers and laws -/
def MS (σ : Rho) (v : Nat → Nat → Int32) : Prop := (v 100 10 = nI (σ 0 0) ∧ v 100 11 = nI (σ 0 1) ∧ v 100 17 = cI (σ 17 0) ∧ v 100 18 = cI (σ 17 1) ∧ v 108 11 = nI (σ 0 5)) ∧ (∀ l, l < σ 0 0 → v 108 l = nI (σ 1 l) ∧ v 109 l = nI (σ 2 l) ∧ v 110 l = nI (σ 3 l) ∧ v 111 l = nI (σ 4 l) ∧ v 108 (5 + l) = cI (σ 5 l)) ∧ (∀ l, σ 0 0 ≤ l → l < 5 → v 108 (5 + l) = -4) ∧ (∀ p, p < σ 0 1 → v 108 (12 + p) = nI (σ 6 p) ∧ v 112 p = nI (σ 7 p) ∧ v 113 p = nI (σ 8 p) ∧ v 108 (15 + p) = nI (σ 9 p)) ∧ (∀ p, p < 3 → v 108 (18 + p) = nI (σ 10 p) ∧ v 108 (21 + p) = nI (σ 11 p)) ∧ (∀ j, 24 ≤ j → j < 66 → v 108 j = 0)
/-- what MS reads -/
def rdS (σ : Rho) (q j : Nat) : Prop := q = 100 ∧ (j = 10 ∨ j = 11 ∨ j = 17 ∨ j = 18) ∨ q = 108 ∧ (j < σ 0 0 ∨ 5 ≤ j ∧ j < 10 ∨ j = 11 ∨ 12 ≤ j ∧ j < 12 + σ 0 1 ∨ 15 ≤ j ∧ j < 15 + σ 0 1 ∨ 18 ≤ j ∧ j < 66) ∨ (q = 109 ∨ q = 110 ∨ q = 111) ∧ j < σ 0 0 ∨ (q = 112 ∨ q = 113) ∧ j < σ 0 1
theorem MS.of {σ : Rho} {v v' : Nat → Nat → Int32} (h : MS σ v) (h0 : σ 0 0 ≤ 5) (e : ∀ q j, rdS σ q j → v' q j = v q j) : MS σ v' := by
  obtain ⟨⟨a1, a2, a3, a4, a5⟩, b, c, d, f, g⟩ := h
  refine ⟨⟨(e _ _ (by unfold rdS; omega)).trans a1, (e _ _ (by unfold rdS; omega)).trans a2, (e _ _ (by unfold rdS; omega)).trans a3, (e _ _ (by unfold rdS; omega)).trans a4, (e _ _ (by unfold rdS; omega)).trans a5⟩, fun l hl => ?_, fun l h1 h2 => (e _ _ (by unfold rdS; omega)).trans (c l h1 h2), fun p hp => ?_, fun p hp => ?_, fun j h1 h2 => (e _ _ (by unfold rdS; omega)).trans (g j h1 h2)⟩
  · obtain ⟨x1, x2, x3, x4, x5⟩ := b l hl
    exact ⟨(e _ _ (by unfold rdS; omega)).trans x1, (e _ _ (by unfold rdS; omega)).trans x2, (e _ _ (by unfold rdS; omega)).trans x3, (e _ _ (by unfold rdS; omega)).trans x4, (e _ _ (by unfold rdS; omega)).trans x5⟩
  · obtain ⟨x1, x2, x3, x4⟩ := d p hp
    exact ⟨(e _ _ (by unfold rdS; omega)).trans x1, (e _ _ (by unfold rdS; omega)).trans x2, (e _ _ (by unfold rdS; omega)).trans x3, (e _ _ (by unfold rdS; omega)).trans x4⟩
  · obtain ⟨x1, x2⟩ := f p hp
    exact ⟨(e _ _ (by unfold rdS; omega)).trans x1, (e _ _ (by unfold rdS; omega)).trans x2⟩
theorem MS.fN {σ : Rho} {v v' : Nat → Nat → Int32} (h : MS σ v) (h0 : σ 0 0 ≤ 5) (g : FrN v v') : MS σ v' := h.of h0 (fun q j hr => by
  by_cases z : q = 100
  · subst z
    exact g.2 j (by unfold rdS at hr; omega)
  · rw [g.1 q z])
/-- what the lines may change -/
def FrD (v v' : Nat → Nat → Int32) : Prop := (∀ q, q < 100 ∨ 100 < q ∧ q < 108 ∨ 113 < q → v' q = v q) ∧ ∀ j, j < 10 ∨ j = 20 ∨ 26 < j → v' 100 j = v 100 j
theorem FrN.d {v v' : Nat → Nat → Int32} (h : FrN v v') : FrD v v' := ⟨fun q hq => h.1 q (by omega), fun j hj => h.2 j (by omega)⟩
theorem FrD.rf (v : Nat → Nat → Int32) : FrD v v := ⟨fun _ _ => rfl, fun _ _ => rfl⟩
theorem FrD.tr {v v1 v2 : Nat → Nat → Int32} (h : FrD v v1) (g : FrD v1 v2) : FrD v v2 := ⟨fun q hq => (g.1 q hq).trans (h.1 q hq), fun j hj => (g.2 j hj).trans (h.2 j hj)⟩
theorem FrD.w {v v1 : Nat → Nat → Int32} {o k : Nat} {x : Int32} (h : FrD v v1) (ho : 108 ≤ o ∧ o ≤ 113) : FrD v (u2 v1 o k x) := ⟨fun q hq => (u2_o (by omega)).trans (h.1 q hq), fun j hj => (congrFun (u2_o (by omega)) j).trans (h.2 j hj)⟩
theorem FrD.u {v v1 : Nat → Nat → Int32} {k : Nat} {x : Int32} (h : FrD v v1) (hk : 10 ≤ k ∧ k ≤ 26 ∧ k ≠ 20) : FrD v (u2 v1 100 k x) := ⟨fun q hq => (u2_o (by omega)).trans (h.1 q hq), fun j hj => (u2_n (by omega)).trans (h.2 j hj)⟩
theorem MT.fD {K : Tp} {v v' : Nat → Nat → Int32} (h : MT K v) (g : FrD v v') : MT K v' := h.fr (g.2 20 (by decide)) (g.1 114 (by decide))
theorem FL.w {f : Fa} {v : Nat → Nat → Int32} {o k : Nat} {x : Int32} (h : FL f v) (ho : 100 ≠ o) : FL f (u2 v o k x) := ⟨(congrFun (u2_o ho) 25).trans h.1, (congrFun (u2_o ho) 26).trans h.2.1, h.2.2⟩
theorem FL.u {f : Fa} {v : Nat → Nat → Int32} {k : Nat} {x : Int32} (h : FL f v) (h1 : 25 ≠ k) (h2 : 26 ≠ k) : FL f (u2 v 100 k x) := ⟨(u2_n h1).trans h.1, (u2_n h2).trans h.2.1, h.2.2⟩
theorem MTk.w {K : Tp} {P o k : Nat} {x : Int32} {v : Nat → Nat → Int32} (h : MTk K P v) (ho : 100 ≠ o) : MTk K P (u2 v o k x) := h.of (fun j _ => congrFun (u2_o ho) j)
theorem MTk.u {K : Tp} {P k : Nat} {x : Int32} {v : Nat → Nat → Int32} (h : MTk K P v) (hk : k < 21 ∨ 24 < k) : MTk K P (u2 v 100 k x) := h.of (fun j hj => u2_n (by omega))
def sNw {α : Type} (K : Tp) (lo hi : Nat) (X : Fa ⊕ (α × Nat)) : Fa ⊕ ((α × Nat) × Nat) := sb X fun y => sb (chk K lo hi y.2) fun n => sb (tokX K (eN K y.2)) fun _ => .inr ((y.1, n), eN K y.2)
section
variable {K : Tp} {σ : Rho} {v : Nat → Nat → Int32} {w : Nat → Nat → Int64} {P lo hi : Nat}
theorem chk_inr {n : Nat} (h : chk K lo hi P = .inr n) : lo ≤ n ∧ n ≤ hi := by
  unfold chk at h
  split at h
  · exact chkB_inr h
  · cases h
theorem M_rn {α : Type} {X : Fa ⊕ (α × Nat)} {A : α → Prop} (hT : MT K v) (h : MX X (fun y v => MTk K y.2 v ∧ A y.1) v) (hlo : lo < 200) (hhi : hi < 200) : ∃ r v', f_M_readNumber 100 (nI lo) (nI hi) (bh v w) = some (r, bh v' w) ∧ FrN v v' ∧ (∃ n, n ≤ hi ∧ r = nI n) ∧ MX (sNw K lo hi X) (fun y v' => MTk K y.2 v' ∧ A y.1.1 ∧ r = nI y.1.2 ∧ lo ≤ y.1.2 ∧ y.1.2 ≤ hi) v' := by
  have hb : ∀ j, j < K.1 → K.2 j ≤ 127 := fun j hj => (hT.2.2 j hj).2
  unfold f_M_readNumber f_M_readNumber_0 sNw
  simp only [hN0, bd1_q]
  cases X with
  | inl f =>
    have h : FL f v := h
    rw [M_lookedF h, bd2_s]
    simp only [hN0, bd1_q]
    rw [M_nextF h, bd1_s]
    exact ⟨0, v, rfl, FrN.rf v, ⟨0, Nat.zero_le _, rfl⟩, h⟩
  | inr y =>
    obtain ⟨h25, hk, hA⟩ := h
    obtain ⟨r, v1, e1, f1, x1, z1⟩ := M_looked (w := w) (lo := lo) (hi := hi) hk h25 hb hlo hhi
    rw [e1, bd2_s, sb_r]
    simp only [hN0, bd1_q]
    clear e1
    cases hc : chk K lo hi y.2 with
    | inl f =>
      rw [hc] at x1
      have x1 : FL f v1 := x1
      rw [M_nextF x1, bd1_s, z1 f hc]
      exact ⟨0, v1, rfl, f1, ⟨0, Nat.zero_le _, rfl⟩, x1⟩
    | inr n =>
      rw [hc] at x1
      obtain ⟨b25, rfl, bk⟩ := x1
      obtain ⟨v2, e2, f2, x2⟩ := M_next (w := w) (hT.fN f1) b25 bk.2.1 (eN_b hk.1).2.1
      rw [e2, bd1_s, sb_r]
      have hn := chk_inr hc
      refine ⟨nI n, v2, rfl, f1.tr f2, ⟨n, hn.2, rfl⟩, ?_⟩
      clear e2
      cases hx : tokX K (eN K y.2) with
      | inl f => rw [hx] at x2; exact x2
      | inr u =>
        rw [hx] at x2
        exact ⟨x2.1, x2.2, hA, rfl, hn⟩
theorem M_nw {α : Type} {X : Fa ⊕ (α × Nat)} {A : α → (Nat → Nat → Int32) → Prop} {B : α × Nat → (Nat → Nat → Int32) → Prop} (o k : Nat) (hT : MT K v) (h : MX X (fun y v => MTk K y.2 v ∧ A y.1 v) v) (hlo : lo < 200) (hhi : hi < 200) (ho : 100 ≠ o) (hB : ∀ a n v', FrN v v' → A a v → B (a, n) (u2 v' o k (nI n))) : ∃ r v', f_M_readNumber 100 (nI lo) (nI hi) (bh v w) = some (r, bh v' w) ∧ FrN v v' ∧ MX (sNw K lo hi X) (fun y v => MTk K y.2 v ∧ B y.1 v) (u2 v' o k r) := by
  have h' : MX X (fun y v2 => MTk K y.2 v2 ∧ A y.1 v) v := by
    cases X with
    | inl f => exact h
    | inr y => exact h
  obtain ⟨r, v1, e1, f1, -, x1⟩ := M_rn (w := w) (lo := lo) (hi := hi) (A := fun a => A a v) hT h' hlo hhi
  refine ⟨r, v1, e1, f1, ?_⟩
  clear e1
  generalize sNw K lo hi X = Y at x1 ⊢
  cases Y with
  | inl f => exact FL.w x1 ho
  | inr y =>
    obtain ⟨a25, ak, aA, ar, -⟩ := x1
    refine ⟨(congrFun (u2_o ho) 25).trans a25, ak.w ho, ?_⟩
    rw [ar]
    exact hB y.1.1 y.1.2 v1 f1 aA
theorem M_rloF {f : Fa} (hF : FL f v) (R : Int32) : f_M_readLawOf 100 R (bh v w) = some (R ||| ((1 : Int32) <<< ((0 : Int32) &&& 31)), bh v w) := by
  have := hF.2.2
  have n0 : ¬ nI f.1 = 0 := nI_ne0 (by omega) (by omega)
  unfold f_M_readLawOf f_M_readLawOf_0 f_M_readLawOf_32 f_M_readLawOf_59
  simp only [hN0, bd1_q]
  rw [M_lookedF hF, bd2_s]
  simp only [hN0, bd1_q]
  rw [hF.1, if_neg n0, if_neg n0, M_nextF hF, bd1_s]
theorem cI_le : ∀ m, m ≤ 4 → ∀ h, h ≤ 5 → (nI m ≤ cI h ↔ m + 1 ≤ h) := by decide +kernel
def sLx (K : Tp) (R P : Nat) : Fa ⊕ (Nat × Nat) := sb (chk K 0 4 P) fun m => if bit R m = 1 then .inl (4, sT K P) else sb (tokX K (eN K P)) fun _ => .inr (m, eN K P)
theorem M_rlo {R h : Nat} (hT : MT K v) (hk : MTk K P v) (h25 : v 100 25 = 0) (hR : R < 32) (h17 : v 100 17 = cI h) (hh : h ≤ 5) : ∃ r v', f_M_readLawOf 100 (nI R) (bh v w) = some (r, bh v' w) ∧ (∀ q, q ≠ 100 → v' q = v q) ∧ (∀ j, j ≠ 17 → j < 21 ∨ 26 < j → v' 100 j = v 100 j) ∧ MX (sLx K R P) (fun y v' => r = nI (R ||| 2 ^ y.1) ∧ v' 100 17 = cI (max h (y.1 + 1)) ∧ y.1 ≤ 4 ∧ MTk K y.2 v') v' := by
  have hb : ∀ j, j < K.1 → K.2 j ≤ 127 := fun j hj => (hT.2.2 j hj).2
  obtain ⟨r, v1, e1, f1, x1, z1⟩ := M_looked (w := w) (lo := 0) (hi := 4) hk h25 hb (by decide) (by decide)
  have e1 : f_M_looked 100 (0 : Int32) (4 : Int32) (bh v w) = some (r, bh v1 w) := e1
  unfold f_M_readLawOf f_M_readLawOf_0 f_M_readLawOf_28 f_M_readLawOf_32 f_M_readLawOf_56 f_M_readLawOf_59 sLx
  simp only [hN0, bd1_q]
  rw [e1, bd2_s]
  simp only [hN0, bd1_q]
  clear e1
  cases hc : chk K 0 4 P with
  | inl f =>
    rw [hc] at x1
    have x1 : FL f v1 := x1
    have := x1.2.2
    have n0 : ¬ nI f.1 = 0 := nI_ne0 (by omega) (by omega)
    rw [x1.1, if_neg n0, if_neg n0, M_nextF x1, bd1_s]
    exact ⟨_, v1, rfl, f1.1, fun j _ hj => f1.2 j hj, x1⟩
  | inr m =>
    rw [hc] at x1
    obtain ⟨b25, rfl, bk⟩ := x1
    have hm := (chk_inr hc).2
    rw [b25, if_pos rfl, bit_I (by omega) (by omega), sb_r]
    rcases bit_01 R m with b | b
    · rw [b, if_pos (show nI 0 = 0 from rfl), M_needs1, if_neg (by decide)]
      simp only [hN0, bd1_q]
      have b17 : v1 100 17 = cI h := (f1.2 17 (by decide)).trans h17
      rw [b25, if_pos rfl, b17, ite_iff (cI_le m hm h hh), shl_I (by omega), or_I]
      have go : ∀ x : Int32, x = cI (max h (m + 1)) → ∃ r v', (bd1 (f_M_next 100 (bh (u2 v1 100 17 x) w)) fun h26 => some (nI (R ||| 2 ^ m), h26)) = some (r, bh v' w) ∧ (∀ q, q ≠ 100 → v' q = v q) ∧ (∀ j, j ≠ 17 → j < 21 ∨ 26 < j → v' 100 j = v 100 j) ∧ MX (sb (tokX K (eN K P)) fun _ => .inr (m, eN K P)) (fun y v' => r = nI (R ||| 2 ^ y.1) ∧ v' 100 17 = cI (max h (y.1 + 1)) ∧ y.1 ≤ 4 ∧ MTk K y.2 v') v' := by
        intro x hx
        obtain ⟨v2, e2, f2, x2⟩ := M_next (w := w) (K := K) (P := eN K P) (v := u2 v1 100 17 x) ((hT.fN f1).fr (u2_n (by decide)) (u2_o (by decide))) ((u2_n (by decide)).trans b25) ((u2_n (by decide)).trans bk.2.1) (eN_b hk.1).2.1
        rw [e2, bd1_s]
        refine ⟨_, v2, rfl, fun q hq => (f2.1 q hq).trans ((u2_o hq).trans (f1.1 q hq)), fun j h1 h2 => (f2.2 j h2).trans ((u2_n h1).trans (f1.2 j h2)), ?_⟩
        clear e2
        cases hx2 : tokX K (eN K P) with
        | inl f => rw [hx2] at x2; exact x2
        | inr u =>
          rw [hx2] at x2
          exact ⟨x2.1, rfl, (f2.2 17 (by decide)).trans ((u2_at _ _ _ _).trans hx), hm, x2.2⟩
      by_cases g : m + 1 ≤ h
      · rw [if_pos g]
        exact go _ (by rw [show max h (m + 1) = h by omega])
      · rw [if_neg g]
        exact go _ (by rw [show max h (m + 1) = m + 1 by omega]; rfl)
    · rw [b, if_neg (by decide), M_needs0 b25, if_pos rfl]
      simp only [hN0, bd1_q]
      have F2 : FL (4, sT K P) (u2 (u2 v1 100 25 4) 100 26 (v1 100 22)) := ⟨by simp [u2_ap]; rfl, by simp [u2_ap]; exact bk.2.2.1, show 1 ≤ 4 by decide, show 4 ≤ 6 by decide⟩
      rw [F2.1, if_neg (show ¬ nI 4 = 0 by decide), M_nextF F2, bd1_s]
      exact ⟨_, _, rfl, fun q hq => (u2_o hq).trans ((u2_o hq).trans (f1.1 q hq)), fun j h1 h2 => by rw [u2_n (by omega), u2_n (by omega)]; exact f1.2 j h2, F2⟩
end
end
end
/-! 8_09.joined -/
section
/-! 8xd.textd.lean.txt -/
section
section
variable {K : Tp} {σ : Rho} {v v' : Nat → Nat → Int32} {w : Nat → Nat → Int64} {P : Nat}
theorem MS.put {o k : Nat} {x : Int32} (h : MS σ v) (h0 : σ 0 0 ≤ 5) (hn : ¬ rdS σ o k) : MS σ (u2 v o k x) := h.of h0 (fun q j hr => by rw [u2_ap, if_neg (fun z => hn (by rw [← z.1, ← z.2]; exact hr))])
theorem MS_addL {q c h f m : Nat} (hS : MS σ v) (hl : σ 0 0 < 5) (a1 : v 108 (σ 0 0) = nI q) (a2 : v 109 (σ 0 0) = nI c) (a3 : v 110 (σ 0 0) = nI h) (a4 : v 111 (σ 0 0) = nI f) (b1 : v' 100 10 = nI (σ 0 0 + 1)) (b2 : v' 100 17 = cI (max (σ 17 0) m)) (b3 : v' 108 (5 + σ 0 0) = cI m) (e0 : v' 100 11 = v 100 11) (e1 : v' 100 18 = v 100 18) (e2 : ∀ j, j ≠ 5 + σ 0 0 → v' 108 j = v 108 j) (e3 : ∀ q, 109 ≤ q → q ≤ 113 → v' q = v q) : MS (addL σ q c h f m) v' := by
  obtain ⟨⟨s1, s2, s3, s4, s5⟩, b, c', d, g, k⟩ := hS
  unfold MS addL
  simp [up2_ap]
  rw [e3 109 (by decide) (by decide), e3 110 (by decide) (by decide), e3 111 (by decide) (by decide), e3 112 (by decide) (by decide), e3 113 (by decide) (by decide)]
  refine ⟨⟨b1, e0.trans s2, b2, e1.trans s4, (e2 11 (by omega)).trans s5⟩, fun l hl2 => ?_, fun l h1 h2 => (e2 _ (by omega)).trans (c' l (by omega) h2), fun p hp => ?_, fun p hp => ?_, fun j h1 h2 => (e2 j (by omega)).trans (k j h1 h2)⟩
  · by_cases z : l = σ 0 0
    · subst z
      simp
      exact ⟨(e2 _ (by omega)).trans a1, a2, a3, a4, b3⟩
    · have := b l (by omega)
      simp [z]
      exact ⟨(e2 _ (by omega)).trans this.1, this.2.1, this.2.2.1, this.2.2.2.1, (e2 _ (by omega)).trans this.2.2.2.2⟩
  · have := d p hp
    exact ⟨(e2 _ (by omega)).trans this.1, this.2.1, this.2.2.1, (e2 _ (by omega)).trans this.2.2.2⟩
  · have := g p hp
    exact ⟨(e2 _ (by omega)).trans this.1, (e2 _ (by omega)).trans this.2⟩
theorem MS_addO {t c n u R h : Nat} (hS : MS σ v) (h0 : σ 0 0 ≤ 5) (hl : σ 0 1 < 3) (a1 : v 108 (12 + σ 0 1) = nI t) (a2 : v 112 (σ 0 1) = nI c) (a3 : v 113 (σ 0 1) = nI n) (a4 : v 108 (15 + σ 0 1) = nI u) (b1 : v' 100 11 = nI (σ 0 1 + 1)) (b2 : v' 100 17 = cI h) (b3 : v' 108 (18 + σ 0 1) = nI R) (e0 : v' 100 10 = v 100 10) (e1 : v' 100 18 = v 100 18) (e2 : ∀ j, j ≠ 18 + σ 0 1 → v' 108 j = v 108 j) (e3 : ∀ q, 109 ≤ q → q ≤ 113 → v' q = v q) : MS (addO σ t c n u R h) v' := by
  obtain ⟨⟨s1, s2, s3, s4, s5⟩, b, c', d, g, k⟩ := hS
  unfold MS addO
  simp [up2_ap]
  rw [e3 109 (by decide) (by decide), e3 110 (by decide) (by decide), e3 111 (by decide) (by decide), e3 112 (by decide) (by decide), e3 113 (by decide) (by decide)]
  refine ⟨⟨e0.trans s1, b1, b2, e1.trans s4, (e2 11 (by omega)).trans s5⟩, fun l hl2 => ?_, fun l h1 h2 => (e2 _ (by omega)).trans (c' l (by omega) h2), fun p hp => ?_, fun p hp => ?_, fun j h1 h2 => (e2 j (by omega)).trans (k j h1 h2)⟩
  · have := b l (by omega)
    exact ⟨(e2 _ (by omega)).trans this.1, this.2.1, this.2.2.1, this.2.2.2.1, (e2 _ (by omega)).trans this.2.2.2.2⟩
  · by_cases z : p = σ 0 1
    · subst z
      simp
      exact ⟨(e2 _ (by omega)).trans a1, a2, a3, (e2 _ (by omega)).trans a4⟩
    · have := d p (by omega)
      simp [z]
      exact ⟨(e2 _ (by omega)).trans this.1, this.2.1, this.2.2.1, (e2 _ (by omega)).trans this.2.2.2⟩
  · have := g p hp
    by_cases z : p = σ 0 1
    · subst z
      simp
      exact ⟨b3, (e2 _ (by omega)).trans this.2⟩
    · simp [z]
      exact ⟨(e2 _ (by omega)).trans this.1, (e2 _ (by omega)).trans this.2⟩
theorem pw_inj : ∀ a, a < 5 → ∀ b, b < 5 → nI (2 ^ a) = nI (2 ^ b) → a = b := by decide +kernel
theorem M_car {l : Nat} (hl : l < 5) (b2 : Int32) : ∀ (n fuel m : Nat) (v : Nat → Nat → Int32), n < fuel → m + n = 5 → ∃ v', f_M_readLaw_89 fuel 100 (nI l) b2 (nI m) (bh v w) = some (bh v' w) ∧ (∀ q, q ≠ 100 → q ≠ 108 → v' q = v q) ∧ (∀ j, j ≠ 10 → v' 100 j = v 100 j) ∧ v' 100 10 = v 100 10 + 1 ∧ (∀ j, j ≠ 5 + l → v' 108 j = v 108 j) ∧ (∀ k, m ≤ k → k < 5 → b2 = nI (2 ^ k) → v' 108 (5 + l) = nI k) ∧ ((∀ k, m ≤ k → k < 5 → b2 ≠ nI (2 ^ k)) → v' 108 (5 + l) = v 108 (5 + l)) := by
  intro n
  induction n with
  | zero =>
    intro fuel m v hf hm
    obtain ⟨n', rfl⟩ : ∃ n', fuel = n' + 1 := ⟨fuel - 1, by omega⟩
    show ∃ v', f_M_readLaw_89b (f_M_readLaw_89 n') 100 (nI l) b2 (nI m) (bh v w) = _ ∧ _
    unfold f_M_readLaw_89b f_M_readLaw_127
    rw [show (5 : Int32) = nI 5 from rfl, if_pos ((nI_leI (by omega) (by omega)).mpr (by omega))]
    simp only [hN0, bd1_q]
    exact ⟨_, rfl, fun q h1 h2 => u2_o h1, fun j hj => u2_n hj, u2_at _ _ _ _, fun j hj => congrFun (u2_o (by decide)) j, fun k h1 h2 => by omega, fun _ => congrFun (u2_o (by decide)) _⟩
  | succ n ih =>
    intro fuel m v hf hm
    obtain ⟨n', rfl⟩ : ∃ n', fuel = n' + 1 := ⟨fuel - 1, by omega⟩
    have go : ∀ x : Int32, (b2 = nI (2 ^ m) → x = nI m) → (b2 ≠ nI (2 ^ m) → x = v 108 (5 + l)) → ∃ v', f_M_readLaw_89 n' 100 (nI l) b2 (nI (m + 1)) (bh (u2 v 108 (5 + l) x) w) = some (bh v' w) ∧ (∀ q, q ≠ 100 → q ≠ 108 → v' q = v q) ∧ (∀ j, j ≠ 10 → v' 100 j = v 100 j) ∧ v' 100 10 = v 100 10 + 1 ∧ (∀ j, j ≠ 5 + l → v' 108 j = v 108 j) ∧ (∀ k, m ≤ k → k < 5 → b2 = nI (2 ^ k) → v' 108 (5 + l) = nI k) ∧ ((∀ k, m ≤ k → k < 5 → b2 ≠ nI (2 ^ k)) → v' 108 (5 + l) = v 108 (5 + l)) := by
      intro x hx1 hx2
      obtain ⟨v', e1, e2, e3, e4, e5, e6, e7⟩ := ih n' (m + 1) (u2 v 108 (5 + l) x) (by omega) (by omega)
      refine ⟨v', e1, fun q h1 h2 => (e2 q h1 h2).trans (u2_o h2), fun j hj => (e3 j hj).trans (congrFun (u2_o (by decide)) j), e4.trans (by rw [u2_o (by decide)]), fun j hj => (e5 j hj).trans (u2_n hj), fun k h1 h2 h3 => ?_, fun h => ?_⟩
      · by_cases z : k = m
        · subst z
          rw [e7 (fun k' q1 q2 q3 => by have := pw_inj k (by omega) k' q2 (h3.symm.trans q3); omega), u2_at]
          exact hx1 h3
        · exact e6 k (by omega) h2 h3
      · rw [e7 (fun k' q1 q2 => h k' (by omega) q2), u2_at]
        exact hx2 (h m (Nat.le_refl _) (by omega))
    show ∃ v', f_M_readLaw_89b (f_M_readLaw_89 n') 100 (nI l) b2 (nI m) (bh v w) = _ ∧ _
    unfold f_M_readLaw_89b f_M_readLaw_120
    rw [show (5 : Int32) = nI 5 from rfl, if_neg (fun z => by have := (nI_leI (by omega) (by omega)).mp z; omega)]
    simp only [hN0, bd1_q]
    rw [shl_I (by omega), nI_add, nI_1]
    by_cases c : b2 = nI (2 ^ m)
    · rw [if_pos c, wr_nI (by omega) (by decide), bd1_s]
      exact go _ (fun _ => rfl) (fun z => absurd c z)
    · rw [if_neg c, rd_nI (by omega) (by decide), bd1_s, wr_nI (by omega) (by decide), bd1_s]
      exact go _ (fun z => absurd z c) (fun _ => rfl)
abbrev Y4 : Type := (((Unit × Nat) × Nat) × Nat) × Nat
def sCr (K : Tp) (σ : Rho) (y : Y4 × Nat) : Fa ⊕ (Rho × Nat) := if kD K y.2 = 2 then sb (chkB K 0 4 y.2) fun m => if m = σ 0 0 then .inl (4, sT K y.2) else sb (tokX K (eN K y.2)) fun _ => .inr (addL σ y.1.1.1.1.2 y.1.1.1.2 y.1.1.2 y.1.2 (m + 1), eN K y.2) else .inr (addL σ y.1.1.1.1.2 y.1.1.1.2 y.1.1.2 y.1.2 0, y.2)
theorem bit_pw : ∀ l, l < 5 → ∀ m, m ≤ 4 → (bit (2 ^ l) m = 1 ↔ m = l) := by decide +kernel
theorem car_I : ∀ l, l < 5 → ∀ m, m ≤ 4 → m ≠ l → nI (2 ^ l ||| 2 ^ m) &&& (nI (2 ^ l) ^^^ ((-1) : Int32)) = nI (2 ^ m) := by decide +kernel
theorem pw5 : ∀ l, l < 5 → 2 ^ l < 32 := by decide
theorem M_readLaw (hT : MT K v) (hk : MTk K P v) (h25 : v 100 25 = 0) (hS : MS σ v) (hI : SI σ) (hl : σ 0 0 < 5) : ∃ v', f_M_readLaw 100 (bh v w) = some (bh v' w) ∧ FrD v v' ∧ MX (sb (sNw K 0 9 (sNw K 0 9 (sNw K 1 3 (sNw K 0 9 (.inr ((), P)))))) fun y => sCr K σ y) (fun z v' => MTk K z.2 v' ∧ MS z.1 v') v' := by
  have h0 : σ 0 0 ≤ 5 := by omega
  unfold f_M_readLaw f_M_readLaw_0
  simp only [hN0, bd1_q]
  rw [hS.1.1]
  have hX0 : MX ((.inr ((), P)) : Fa ⊕ (Unit × Nat)) (fun y v => MTk K y.2 v ∧ MS σ v) v := ⟨h25, hk, hS⟩
  have T0 := hT
  have D0 := FrD.rf v
  obtain ⟨r1, v1, e1, f1, hX1⟩ := M_nw (α := Unit) (w := w) (lo := 0) (hi := 9) (A := fun a v => MS σ v) (B := fun a v => MS σ v ∧ v 108 (σ 0 0) = nI a.2) 108 (σ 0 0) T0 hX0 (by decide) (by decide) (by decide) (fun a n v' g hs => by
    have s : MS σ v := hs
    exact ⟨(s.fN h0 g).put h0 (by unfold rdS; omega), u2_at _ _ _ _⟩)
  have e1 : f_M_readNumber 100 (0 : Int32) (9 : Int32) (bh (v) w) = some (r1, bh v1 w) := e1
  rw [e1, bd2_s]
  simp only [hN0, bd1_q]
  rw [show (0 : Int32) + nI (σ 0 0) = nI (σ 0 0) from Int32.zero_add _, wr_nI (by omega) (by decide), bd1_s]
  have D1 := (D0.tr f1.d).w (o := 108) (k := σ 0 0) (x := r1) (by omega)
  have T1 := hT.fD D1
  clear e1
  simp only [hN0, bd1_q]
  obtain ⟨r2, v2, e2, f2, hX2⟩ := M_nw (α := Unit × Nat) (w := w) (lo := 1) (hi := 3) (A := fun a v => MS σ v ∧ v 108 (σ 0 0) = nI a.2) (B := fun a v => MS σ v ∧ v 108 (σ 0 0) = nI a.1.2 ∧ v 109 (σ 0 0) = nI a.2) 109 (σ 0 0) T1 hX1 (by decide) (by decide) (by decide) (fun a n v' g hs => by
    obtain ⟨s, z1⟩ := hs
    exact ⟨(s.fN h0 g).put h0 (by unfold rdS; omega), (u2_ap _ _ _ _ _ _).trans ((if_neg (by omega)).trans ((congrFun (g.1 108 (by decide)) _).trans z1)), u2_at _ _ _ _⟩)
  have e2 : f_M_readNumber 100 (1 : Int32) (3 : Int32) (bh (u2 v1 108 (σ 0 0) r1) w) = some (r2, bh v2 w) := e2
  rw [e2, bd2_s]
  simp only [hN0, bd1_q]
  rw [wr_nI (by omega) (by decide), bd1_s]
  have D2 := (D1.tr f2.d).w (o := 109) (k := σ 0 0) (x := r2) (by omega)
  have T2 := hT.fD D2
  clear e2
  simp only [hN0, bd1_q]
  obtain ⟨r3, v3, e3, f3, hX3⟩ := M_nw (α := (Unit × Nat) × Nat) (w := w) (lo := 0) (hi := 9) (A := fun a v => MS σ v ∧ v 108 (σ 0 0) = nI a.1.2 ∧ v 109 (σ 0 0) = nI a.2) (B := fun a v => MS σ v ∧ v 108 (σ 0 0) = nI a.1.1.2 ∧ v 109 (σ 0 0) = nI a.1.2 ∧ v 110 (σ 0 0) = nI a.2) 110 (σ 0 0) T2 hX2 (by decide) (by decide) (by decide) (fun a n v' g hs => by
    obtain ⟨s, z1, z2⟩ := hs
    exact ⟨(s.fN h0 g).put h0 (by unfold rdS; omega), (u2_ap _ _ _ _ _ _).trans ((if_neg (by omega)).trans ((congrFun (g.1 108 (by decide)) _).trans z1)), (u2_ap _ _ _ _ _ _).trans ((if_neg (by omega)).trans ((congrFun (g.1 109 (by decide)) _).trans z2)), u2_at _ _ _ _⟩)
  have e3 : f_M_readNumber 100 (0 : Int32) (9 : Int32) (bh (u2 v2 109 (σ 0 0) r2) w) = some (r3, bh v3 w) := e3
  rw [e3, bd2_s]
  simp only [hN0, bd1_q]
  rw [wr_nI (by omega) (by decide), bd1_s]
  have D3 := (D2.tr f3.d).w (o := 110) (k := σ 0 0) (x := r3) (by omega)
  have T3 := hT.fD D3
  clear e3
  simp only [hN0, bd1_q]
  obtain ⟨r4, v4, e4, f4, hX4⟩ := M_nw (α := ((Unit × Nat) × Nat) × Nat) (w := w) (lo := 0) (hi := 9) (A := fun a v => MS σ v ∧ v 108 (σ 0 0) = nI a.1.1.2 ∧ v 109 (σ 0 0) = nI a.1.2 ∧ v 110 (σ 0 0) = nI a.2) (B := fun a v => MS σ v ∧ v 108 (σ 0 0) = nI a.1.1.1.2 ∧ v 109 (σ 0 0) = nI a.1.1.2 ∧ v 110 (σ 0 0) = nI a.1.2 ∧ v 111 (σ 0 0) = nI a.2) 111 (σ 0 0) T3 hX3 (by decide) (by decide) (by decide) (fun a n v' g hs => by
    obtain ⟨s, z1, z2, z3⟩ := hs
    exact ⟨(s.fN h0 g).put h0 (by unfold rdS; omega), (u2_ap _ _ _ _ _ _).trans ((if_neg (by omega)).trans ((congrFun (g.1 108 (by decide)) _).trans z1)), (u2_ap _ _ _ _ _ _).trans ((if_neg (by omega)).trans ((congrFun (g.1 109 (by decide)) _).trans z2)), (u2_ap _ _ _ _ _ _).trans ((if_neg (by omega)).trans ((congrFun (g.1 110 (by decide)) _).trans z3)), u2_at _ _ _ _⟩)
  have e4 : f_M_readNumber 100 (0 : Int32) (9 : Int32) (bh (u2 v3 110 (σ 0 0) r3) w) = some (r4, bh v4 w) := e4
  rw [e4, bd2_s]
  simp only [hN0, bd1_q]
  rw [wr_nI (by omega) (by decide), bd1_s]
  have D4 := (D3.tr f4.d).w (o := 111) (k := σ 0 0) (x := r4) (by omega)
  have T4 := hT.fD D4
  clear e4
  simp only [hN0, bd1_q]
  generalize hv5 : u2 v4 111 (σ 0 0) r4 = v5 at hX4 D4 T4 ⊢
  generalize sNw K 0 9 (sNw K 0 9 (sNw K 1 3 (sNw K 0 9 ((.inr ((), P)) : Fa ⊕ (Unit × Nat))))) = X4 at hX4 ⊢
  cases X4 with
  | inl f =>
    have F : FL f v5 := hX4
    have := F.2.2
    rw [F.1, if_neg (nI_ne0 (by omega) (by omega))]
    unfold f_M_readLaw_127
    simp only [hN0, bd1_q]
    exact ⟨_, rfl, D4.u (by decide), F.u (by decide) (by decide)⟩
  | inr y =>
    obtain ⟨b25, bk, bS, z1, z2, z3, z4⟩ := hX4
    have k4 := (kc_s (K := K) (s := sT K y.2)).2.2.2.2
    have ek : kD K y.2 = kc K (sT K y.2) := rfl
    rw [b25, if_pos rfl, bk.2.2.2.1, show (2 : Int32) = nI 2 from rfl, ite_iff (nI_eqI (by omega) (by omega)), sb_r]
    unfold sCr
    by_cases c : kD K y.2 = 2
    · rw [if_pos c, if_pos c, shl_I (by omega)]
      obtain ⟨r6, v6, e6, q6, j6, x6⟩ := M_rlo (w := w) (R := 2 ^ σ 0 0) T4 bk b25 (pw5 _ hl) bS.1.2.2.1 hI.1.2.2.2.2.2.2.1
      rw [e6, bd2_s]
      obtain ⟨v7, e7, q7, j7, a10, j8, m7, -⟩ := M_car (w := w) hl (r6 &&& (nI (2 ^ σ 0 0) ^^^ ((-1) : Int32))) 5 FU 0 v6 (by decide) (by decide)
      have e7 : f_M_readLaw_89 FU 100 (nI (σ 0 0)) (r6 &&& (nI (2 ^ σ 0 0) ^^^ ((-1) : Int32))) (0 : Int32) (bh v6 w) = some (bh v7 w) := e7
      rw [e7]
      have D7 : FrD v v7 := D4.tr ⟨fun q hq => (q7 q (by omega) (by omega)).trans (q6 q (by omega)), fun j hj => (j7 j (by omega)).trans (j6 j (by omega) (by omega))⟩
      refine ⟨v7, rfl, D7, ?_⟩
      clear e6 e7
      unfold sLx chk at x6
      rw [if_pos c] at x6
      cases hc : chkB K 0 4 y.2 with
      | inl f =>
        rw [hc] at x6
        exact ⟨(j7 25 (by decide)).trans x6.1, (j7 26 (by decide)).trans x6.2.1, x6.2.2⟩
      | inr m =>
        rw [hc, sb_r] at x6
        have hm := (chkB_inr hc).2
        rw [sb_r]
        by_cases g : m = σ 0 0
        · rw [if_pos ((bit_pw _ hl m hm).mpr g)] at x6
          rw [if_pos g]
          exact ⟨(j7 25 (by decide)).trans x6.1, (j7 26 (by decide)).trans x6.2.1, x6.2.2⟩
        · rw [if_neg (fun z => g ((bit_pw _ hl m hm).mp z))] at x6
          rw [if_neg g]
          cases hx : tokX K (eN K y.2) with
          | inl f =>
            rw [hx] at x6
            exact ⟨(j7 25 (by decide)).trans x6.1, (j7 26 (by decide)).trans x6.2.1, x6.2.2⟩
          | inr u =>
            rw [hx] at x6
            obtain ⟨c25, cr, c17, -, ck⟩ := x6
            refine ⟨(j7 25 (by decide)).trans c25, ck.of (fun j hj => j7 j (by omega)), ?_⟩
            refine MS_addL bS hl z1 z2 z3 z4 ?_ ((j7 17 (by decide)).trans c17) ?_ ((j7 11 (by decide)).trans (j6 11 (by decide) (by decide))) ((j7 18 (by decide)).trans (j6 18 (by decide) (by decide))) (fun j hj => (j8 j hj).trans (congrFun (q6 108 (by decide)) j)) (fun q h1 h2 => (q7 q (by omega) (by omega)).trans (q6 q (by omega)))
            · rw [a10, j6 10 (by decide) (by decide), bS.1.1, nI_1]
            · exact m7 m (Nat.zero_le _) (by omega) (by rw [cr]; exact car_I _ hl m hm g)
    · rw [if_neg c, if_neg c]
      unfold f_M_readLaw_127
      simp only [hN0, bd1_q]
      refine ⟨_, rfl, D4.u (by decide), (u2_n (by decide)).trans b25, bk.u (by decide), ?_⟩
      refine MS_addL bS hl z1 z2 z3 z4 ?_ ?_ ?_ (u2_n (by decide)) (u2_n (by decide)) (fun j _ => congrFun (u2_o (by decide)) j) (fun q h1 h2 => u2_o (by omega))
      · rw [u2_at, bS.1.1, nI_1]
      · rw [u2_n (by decide), bS.1.2.2.1, show max (σ 17 0) 0 = σ 17 0 by omega]
      · rw [u2_o (by decide)]; exact bS.2.2.1 _ (Nat.le_refl _) hl
end
end
/-! 8xe.texte.lean.txt -/
section
section
variable {K : Tp} {σ : Rho} {v v' : Nat → Nat → Int32} {w : Nat → Nat → Int64} {P : Nat}
theorem M_61F {f : Fa} (hF : FL f v) (m : Nat) (b : Int32) : f_M_readOne_61 (m + 1) 100 b (bh v w) = some (bh (u2 v 100 11 (v 100 11 + 1)) w) := by
  have := hF.2.2
  show f_M_readOne_61b (f_M_readOne_61 m) 100 b (bh v w) = _
  unfold f_M_readOne_61b f_M_readOne_101
  simp only [hN0, bd1_q]
  rw [hF.1, if_neg (nI_ne0 (by omega) (by omega))]
theorem M_refL {p : Nat} (hp : p < 3) : ∀ (n fuel R h Q : Nat) (v : Nat → Nat → Int32), mu5 R < n → n + 1 < fuel → MT K v → v 100 25 = 0 → MTk K Q v → v 100 17 = cI h → h ≤ 5 → v 108 (18 + p) = nI R → R < 32 → ∃ v', f_M_readOne_61 fuel 100 (nI p) (bh v w) = some (bh v' w) ∧ (∀ q, q ≠ 100 → q ≠ 108 → v' q = v q) ∧ (∀ j, j ≠ 18 + p → v' 108 j = v 108 j) ∧ (∀ j, j ≠ 17 → j ≠ 11 → j < 21 ∨ 26 < j → v' 100 j = v 100 j) ∧ v' 100 11 = v 100 11 + 1 ∧ MX (sRef K n R h Q) (fun y v' => MTk K y.2 v' ∧ v' 100 17 = cI y.1.2 ∧ v' 108 (18 + p) = nI y.1.1) v' := by
  intro n
  induction n with
  | zero =>
    intro fuel R h Q v hm
    exact absurd hm (Nat.not_lt_zero _)
  | succ n ih =>
    intro fuel R h Q v hm hf hT h25 hk h17 hh h18 hR
    obtain ⟨m, rfl⟩ : ∃ m, fuel = m + 1 + 1 := ⟨fuel - 2, by omega⟩
    have k4 := (kc_s (K := K) (s := sT K Q)).2.2.2.2
    have ek : kD K Q = kc K (sT K Q) := rfl
    show ∃ v', f_M_readOne_61b (f_M_readOne_61 (m + 1)) 100 (nI p) (bh v w) = _ ∧ _
    unfold f_M_readOne_61b f_M_readOne_101 sRef
    simp only [hN0, bd1_q]
    rw [h25, if_pos rfl, hk.2.2.2.1, show (2 : Int32) = nI 2 from rfl, ite_iff (nI_eqI (by omega) (by omega))]
    by_cases c : kD K Q = 2
    · rw [if_pos c, if_pos c, show (18 : Int32) = nI 18 from rfl, nI_add, rd_nI (by omega) (by decide), bd1_s, h18]
      obtain ⟨r1, v1, e1, q1, j1, x1⟩ := M_rlo (w := w) hT hk h25 hR h17 hh
      rw [e1, bd2_s]
      simp only [hN0, bd1_q]
      rw [wr_nI (by omega) (by decide), bd1_s]
      clear e1
      unfold sLx chk at x1
      rw [if_pos c] at x1
      have fq : ∀ q, q ≠ 100 → q ≠ 108 → u2 v1 108 (18 + p) r1 q = v q := fun q a b => (u2_o b).trans (q1 q a)
      have fj : ∀ j, j ≠ 18 + p → u2 v1 108 (18 + p) r1 108 j = v 108 j := fun j a => (u2_n a).trans (congrFun (q1 108 (by decide)) j)
      have fh : ∀ j, j ≠ 17 → j < 21 ∨ 26 < j → u2 v1 108 (18 + p) r1 100 j = v 100 j := fun j a b => (congrFun (u2_o (by decide)) j).trans (j1 j a b)
      have bad : ∀ f : Fa, FL f v1 → ∃ v', f_M_readOne_61 (m + 1) 100 (nI p) (bh (u2 v1 108 (18 + p) r1) w) = some (bh v' w) ∧ (∀ q, q ≠ 100 → q ≠ 108 → v' q = v q) ∧ (∀ j, j ≠ 18 + p → v' 108 j = v 108 j) ∧ (∀ j, j ≠ 17 → j ≠ 11 → j < 21 ∨ 26 < j → v' 100 j = v 100 j) ∧ v' 100 11 = v 100 11 + 1 ∧ FL f v' := by
        intro f hF
        have F2 : FL f (u2 v1 108 (18 + p) r1) := hF.w (by decide)
        rw [M_61F F2]
        exact ⟨_, rfl, fun q a b => (u2_o a).trans (fq q a b), fun j a => (congrFun (u2_o (by decide)) j).trans (fj j a), fun j a b c => (u2_n b).trans (fh j a c), by rw [u2_at, fh 11 (by decide) (by decide)], F2.u (by decide) (by decide)⟩
      cases hc : chkB K 0 4 Q with
      | inl f =>
        rw [hc] at x1
        exact bad f x1
      | inr x =>
        rw [hc, sb_r] at x1
        have hx := (chkB_inr hc).2
        rw [sb_r]
        rcases bit_01 R x with b | b
        · rw [if_neg (by omega)] at x1
          rw [if_neg (by omega)]
          cases ht : tokX K (eN K Q) with
          | inl f =>
            rw [ht] at x1
            exact bad f x1
          | inr u =>
            rw [ht] at x1
            obtain ⟨c25, cr, c17, -, ck⟩ := x1
            obtain ⟨s1, s2⟩ := mu5_step R hR x (by omega) b
            obtain ⟨v2, e2, q2, j2, g2, a11, x2⟩ := ih (m + 1) (R ||| 2 ^ x) (max h (x + 1)) (eN K Q) (u2 v1 108 (18 + p) r1) (by omega) (by omega) (hT.fr (fh 20 (by decide) (by decide)) (fq 114 (by decide) (by decide))) ((congrFun (u2_o (by decide)) 25).trans c25) (ck.w (by decide)) ((congrFun (u2_o (by decide)) 17).trans c17) (by omega) (by rw [u2_at, cr]) s1
            exact ⟨v2, e2, fun q a b => (q2 q a b).trans (fq q a b), fun j a => (j2 j a).trans (fj j a), fun j a b c => (g2 j a b c).trans (fh j a c), a11.trans (by rw [fh 11 (by decide) (by decide)]), x2⟩
        · rw [if_pos b] at x1
          rw [if_pos b]
          exact bad _ x1
    · rw [if_neg c, if_neg c]
      exact ⟨_, rfl, fun q a b => u2_o a, fun j a => congrFun (u2_o (by decide)) j, fun j a b c => u2_n b, u2_at _ _ _ _, (u2_n (by decide)).trans h25, hk.u (by decide), (u2_n (by decide)).trans h17, (congrFun (u2_o (by decide)) _).trans h18⟩
def sOr (K : Tp) (σ : Rho) (y : Y4 × Nat) : Fa ⊕ (Rho × Nat) := sb (sRef K 6 0 (σ 17 0) y.2) fun x => .inr (addO σ y.1.1.1.1.2 y.1.1.1.2 y.1.1.2 y.1.2 x.1.1 x.1.2, x.2)
theorem M_readOne (hT : MT K v) (hk : MTk K P v) (h25 : v 100 25 = 0) (hS : MS σ v) (hI : SI σ) (hl : σ 0 1 < 3) : ∃ v', f_M_readOne 100 (bh v w) = some (bh v' w) ∧ FrD v v' ∧ MX (sb (sNw K 0 99 (sNw K 0 10 (sNw K 0 3 (sNw K 0 5 (.inr ((), P)))))) fun y => sOr K σ y) (fun z v' => MTk K z.2 v' ∧ MS z.1 v') v' := by
  have h0 : σ 0 0 ≤ 5 := hI.1.1
  have hR0 : σ 10 (σ 0 1) = 0 := (hI.2.2.2.1 _ hl).2.2 (Nat.le_refl _)
  unfold f_M_readOne f_M_readOne_0
  simp only [hN0, bd1_q]
  rw [hS.1.2.1]
  have hX0 : MX ((.inr ((), P)) : Fa ⊕ (Unit × Nat)) (fun y v => MTk K y.2 v ∧ MS σ v) v := ⟨h25, hk, hS⟩
  have T0 := hT
  have D0 := FrD.rf v
  obtain ⟨r1, v1, e1, f1, hX1⟩ := M_nw (α := Unit) (w := w) (lo := 0) (hi := 5) (A := fun a v => MS σ v) (B := fun a v => MS σ v ∧ v 108 (12 + σ 0 1) = nI a.2) 108 (12 + σ 0 1) T0 hX0 (by decide) (by decide) (by decide) (fun a n v' g hs => by
    have s : MS σ v := hs
    exact ⟨(s.fN h0 g).put h0 (by unfold rdS; omega), u2_at _ _ _ _⟩)
  have e1 : f_M_readNumber 100 (0 : Int32) (5 : Int32) (bh (v) w) = some (r1, bh v1 w) := e1
  rw [e1, bd2_s]
  simp only [hN0, bd1_q]
  rw [show (12 : Int32) = nI 12 from rfl, nI_add, wr_nI (by omega) (by decide), bd1_s]
  have D1 := (D0.tr f1.d).w (o := 108) (k := 12 + σ 0 1) (x := r1) (by omega)
  have T1 := hT.fD D1
  clear e1
  simp only [hN0, bd1_q]
  obtain ⟨r2, v2, e2, f2, hX2⟩ := M_nw (α := Unit × Nat) (w := w) (lo := 0) (hi := 3) (A := fun a v => MS σ v ∧ v 108 (12 + σ 0 1) = nI a.2) (B := fun a v => MS σ v ∧ v 108 (12 + σ 0 1) = nI a.1.2 ∧ v 112 (σ 0 1) = nI a.2) 112 (σ 0 1) T1 hX1 (by decide) (by decide) (by decide) (fun a n v' g hs => by
    obtain ⟨s, z1⟩ := hs
    exact ⟨(s.fN h0 g).put h0 (by unfold rdS; omega), (u2_ap _ _ _ _ _ _).trans ((if_neg (by omega)).trans ((congrFun (g.1 108 (by decide)) _).trans z1)), u2_at _ _ _ _⟩)
  have e2 : f_M_readNumber 100 (0 : Int32) (3 : Int32) (bh (u2 v1 108 (12 + σ 0 1) r1) w) = some (r2, bh v2 w) := e2
  rw [e2, bd2_s]
  simp only [hN0, bd1_q]
  rw [wr_nI (by omega) (by decide), bd1_s]
  have D2 := (D1.tr f2.d).w (o := 112) (k := σ 0 1) (x := r2) (by omega)
  have T2 := hT.fD D2
  clear e2
  simp only [hN0, bd1_q]
  obtain ⟨r3, v3, e3, f3, hX3⟩ := M_nw (α := (Unit × Nat) × Nat) (w := w) (lo := 0) (hi := 10) (A := fun a v => MS σ v ∧ v 108 (12 + σ 0 1) = nI a.1.2 ∧ v 112 (σ 0 1) = nI a.2) (B := fun a v => MS σ v ∧ v 108 (12 + σ 0 1) = nI a.1.1.2 ∧ v 112 (σ 0 1) = nI a.1.2 ∧ v 113 (σ 0 1) = nI a.2) 113 (σ 0 1) T2 hX2 (by decide) (by decide) (by decide) (fun a n v' g hs => by
    obtain ⟨s, z1, z2⟩ := hs
    exact ⟨(s.fN h0 g).put h0 (by unfold rdS; omega), (u2_ap _ _ _ _ _ _).trans ((if_neg (by omega)).trans ((congrFun (g.1 108 (by decide)) _).trans z1)), (u2_ap _ _ _ _ _ _).trans ((if_neg (by omega)).trans ((congrFun (g.1 112 (by decide)) _).trans z2)), u2_at _ _ _ _⟩)
  have e3 : f_M_readNumber 100 (0 : Int32) (10 : Int32) (bh (u2 v2 112 (σ 0 1) r2) w) = some (r3, bh v3 w) := e3
  rw [e3, bd2_s]
  simp only [hN0, bd1_q]
  rw [wr_nI (by omega) (by decide), bd1_s]
  have D3 := (D2.tr f3.d).w (o := 113) (k := σ 0 1) (x := r3) (by omega)
  have T3 := hT.fD D3
  clear e3
  simp only [hN0, bd1_q]
  obtain ⟨r4, v4, e4, f4, hX4⟩ := M_nw (α := ((Unit × Nat) × Nat) × Nat) (w := w) (lo := 0) (hi := 99) (A := fun a v => MS σ v ∧ v 108 (12 + σ 0 1) = nI a.1.1.2 ∧ v 112 (σ 0 1) = nI a.1.2 ∧ v 113 (σ 0 1) = nI a.2) (B := fun a v => MS σ v ∧ v 108 (12 + σ 0 1) = nI a.1.1.1.2 ∧ v 112 (σ 0 1) = nI a.1.1.2 ∧ v 113 (σ 0 1) = nI a.1.2 ∧ v 108 (15 + σ 0 1) = nI a.2) 108 (15 + σ 0 1) T3 hX3 (by decide) (by decide) (by decide) (fun a n v' g hs => by
    obtain ⟨s, z1, z2, z3⟩ := hs
    exact ⟨(s.fN h0 g).put h0 (by unfold rdS; omega), (u2_ap _ _ _ _ _ _).trans ((if_neg (by omega)).trans ((congrFun (g.1 108 (by decide)) _).trans z1)), (u2_ap _ _ _ _ _ _).trans ((if_neg (by omega)).trans ((congrFun (g.1 112 (by decide)) _).trans z2)), (u2_ap _ _ _ _ _ _).trans ((if_neg (by omega)).trans ((congrFun (g.1 113 (by decide)) _).trans z3)), u2_at _ _ _ _⟩)
  have e4 : f_M_readNumber 100 (0 : Int32) (99 : Int32) (bh (u2 v3 113 (σ 0 1) r3) w) = some (r4, bh v4 w) := e4
  rw [e4, bd2_s]
  simp only [hN0, bd1_q]
  rw [show (15 : Int32) = nI 15 from rfl, nI_add, wr_nI (by omega) (by decide), bd1_s]
  have D4 := (D3.tr f4.d).w (o := 108) (k := 15 + σ 0 1) (x := r4) (by omega)
  have T4 := hT.fD D4
  clear e4
  generalize hv5 : u2 v4 108 (15 + σ 0 1) r4 = v5 at hX4 D4 T4 ⊢
  generalize sNw K 0 99 (sNw K 0 10 (sNw K 0 3 (sNw K 0 5 ((.inr ((), P)) : Fa ⊕ (Unit × Nat))))) = X4 at hX4 ⊢
  cases X4 with
  | inl f =>
    have F : FL f v5 := hX4
    have e5 : f_M_readOne_61 FU 100 (nI (σ 0 1)) (bh v5 w) = some (bh (u2 v5 100 11 (v5 100 11 + 1)) w) := M_61F F 599 _
    rw [e5]
    exact ⟨_, rfl, D4.u (by decide), F.u (by decide) (by decide)⟩
  | inr y =>
    obtain ⟨b25, bk, bS, z1, z2, z3, z4⟩ := hX4
    obtain ⟨v6, e6, q6, j6, g6, a11, x6⟩ := M_refL (w := w) hl 6 FU 0 (σ 17 0) y.2 v5 (by decide) (by decide) T4 b25 bk bS.1.2.2.1 hI.1.2.2.2.2.2.2.1 (by rw [(bS.2.2.2.2.1 _ hl).1, hR0]) (by decide)
    have D6 : FrD v v6 := D4.tr ⟨fun q hq => q6 q (by omega) (by omega), fun j hj => g6 j (by omega) (by omega) (by omega)⟩
    refine ⟨v6, e6, D6, ?_⟩
    clear e6
    rw [sb_r]
    unfold sOr
    generalize sRef K 6 0 (σ 17 0) y.2 = X at x6 ⊢
    cases X with
    | inl f => exact x6
    | inr x =>
      obtain ⟨c25, ck, c17, c18⟩ := x6
      refine ⟨c25, ck, MS_addO bS h0 hl z1 z2 z3 z4 ?_ c17 c18 (g6 10 (by decide) (by decide) (by decide)) (g6 18 (by decide) (by decide) (by decide)) j6 (fun q h1 h2 => q6 q (by omega) (by omega))⟩
      rw [a11, bS.1.2.1, nI_1]
end
end
/-! 8xf.textf.lean.txt -/
section
section
variable {K : Tp} {σ : Rho} {v v' : Nat → Nat → Int32} {w : Nat → Nat → Int64} {P : Nat}
theorem MS_addW {p m : Nat} (hS : MS σ v) (h0 : σ 0 0 ≤ 5) (h1 : σ 0 1 ≤ 3) (hp : p ≤ 2) (b1 : v' 100 18 = cI (max (σ 17 1) (p + 1))) (b2 : v' 100 17 = cI (max (σ 17 0) (m + 1))) (b3 : v' 108 (21 + p) = nI (σ 11 p ||| 2 ^ m)) (e0 : v' 100 10 = v 100 10) (e1 : v' 100 11 = v 100 11) (e2 : ∀ j, j ≠ 21 + p → v' 108 j = v 108 j) (e3 : ∀ q, 109 ≤ q → q ≤ 113 → v' q = v q) : MS (addW σ p m) v' := by
  obtain ⟨⟨s1, s2, s3, s4, s5⟩, b, c', d, g, k⟩ := hS
  unfold MS addW
  simp [up2_ap]
  rw [e3 109 (by decide) (by decide), e3 110 (by decide) (by decide), e3 111 (by decide) (by decide), e3 112 (by decide) (by decide), e3 113 (by decide) (by decide)]
  refine ⟨⟨e0.trans s1, e1.trans s2, b2, b1, (e2 11 (by omega)).trans s5⟩, fun l hl2 => ?_, fun l h1 h2 => (e2 _ (by omega)).trans (c' l (by omega) h2), fun p hp => ?_, fun j hj => ?_, fun j h1 h2 => (e2 j (by omega)).trans (k j h1 h2)⟩
  · have := b l (by omega)
    exact ⟨(e2 _ (by omega)).trans this.1, this.2.1, this.2.2.1, this.2.2.2.1, (e2 _ (by omega)).trans this.2.2.2.2⟩
  · have := d p (by omega)
    exact ⟨(e2 _ (by omega)).trans this.1, this.2.1, this.2.2.1, (e2 _ (by omega)).trans this.2.2.2⟩
  · have := g j hj
    by_cases z : j = p
    · subst z
      simp
      exact ⟨(e2 _ (by omega)).trans this.1, b3⟩
    · simp [z]
      exact ⟨(e2 _ (by omega)).trans this.1, (e2 _ (by omega)).trans this.2⟩
theorem MS_addH {m : Nat} (hS : MS σ v) (h0 : σ 0 0 ≤ 5) (h1 : σ 0 1 ≤ 3) (b1 : v' 100 18 = v 100 18) (b2 : v' 100 17 = cI (max (σ 17 0) (m + 1))) (b3 : v' 108 11 = nI (σ 0 5 ||| 2 ^ m)) (e0 : v' 100 10 = v 100 10) (e1 : v' 100 11 = v 100 11) (e2 : ∀ j, j ≠ 11 → v' 108 j = v 108 j) (e3 : ∀ q, 109 ≤ q → q ≤ 113 → v' q = v q) : MS (addH σ m) v' := by
  obtain ⟨⟨s1, s2, s3, s4, s5⟩, b, c', d, g, k⟩ := hS
  unfold MS addH
  simp [up2_ap]
  rw [e3 109 (by decide) (by decide), e3 110 (by decide) (by decide), e3 111 (by decide) (by decide), e3 112 (by decide) (by decide), e3 113 (by decide) (by decide)]
  refine ⟨⟨e0.trans s1, e1.trans s2, b2, b1.trans s4, b3⟩, fun l hl2 => ?_, fun l h1 h2 => (e2 _ (by omega)).trans (c' l (by omega) h2), fun p hp => ?_, fun j hj => ?_, fun j h1 h2 => (e2 j (by omega)).trans (k j h1 h2)⟩
  · have := b l (by omega)
    exact ⟨(e2 _ (by omega)).trans this.1, this.2.1, this.2.2.1, this.2.2.2.1, (e2 _ (by omega)).trans this.2.2.2.2⟩
  · have := d p (by omega)
    exact ⟨(e2 _ (by omega)).trans this.1, this.2.1, this.2.2.1, (e2 _ (by omega)).trans this.2.2.2⟩
  · have := g j hj
    exact ⟨(e2 _ (by omega)).trans this.1, (e2 _ (by omega)).trans this.2⟩
def sWr (K : Tp) (σ : Rho) (P : Nat) : Fa ⊕ (Rho × Nat) := sb (sNw K 0 2 ((.inr ((), P)) : Fa ⊕ (Unit × Nat))) fun y => sb (sLx K (σ 11 y.1.2) y.2) fun z => .inr (addW σ y.1.2 z.1, z.2)
def sHr (K : Tp) (σ : Rho) (P : Nat) : Fa ⊕ (Rho × Nat) := sb (sLx K (σ 0 5) P) fun z => .inr (addH σ z.1, z.2)
theorem cI_le3 : ∀ m, m ≤ 2 → ∀ h, h ≤ 3 → (nI m ≤ cI h ↔ m + 1 ≤ h) := by decide +kernel
theorem M_want (hT : MT K v) (hk : MTk K P v) (h25 : v 100 25 = 0) (hS : MS σ v) (hI : SI σ) : ∃ v', f_M_readLineOf 100 2 (bh v w) = some (bh v' w) ∧ FrD v v' ∧ MX (sWr K σ P) (fun z v' => MTk K z.2 v' ∧ MS z.1 v') v' := by
  have h0 := hI.1.1
  have h1 := hI.1.2.1
  have h8 := hI.1.2.2.2.2.2.2.2
  unfold f_M_readLineOf f_M_readLineOf_0 f_M_readLineOf_69 f_M_readLineOf_73 sWr
  rw [if_neg (by decide), if_neg (by decide), if_pos rfl]
  simp only [hN0, bd1_q]
  obtain ⟨r1, v1, e1, f1, ⟨n, hn, rn⟩, x1⟩ := M_rn (w := w) (lo := 0) (hi := 2) (X := ((.inr ((), P)) : Fa ⊕ (Unit × Nat))) (A := fun _ => True) hT ⟨h25, hk, trivial⟩ (by decide) (by decide)
  have e1 : f_M_readNumber 100 (0 : Int32) (2 : Int32) (bh v w) = some (r1, bh v1 w) := e1
  rw [e1, bd2_s]
  simp only [hN0, bd1_q]
  clear e1
  have T1 := hT.fN f1
  have S1 := hS.fN h0 f1
  generalize sNw K 0 2 ((.inr ((), P)) : Fa ⊕ (Unit × Nat)) = X at x1 ⊢
  cases X with
  | inl f =>
    have F : FL f v1 := x1
    have := F.2.2
    rw [F.1, if_neg (nI_ne0 (by omega) (by omega)), rn, show (21 : Int32) = nI 21 from rfl, nI_add, rd_nI (by omega) (by decide), bd1_s]
    have F2 : FL f (u2 v1 100 18 (v1 100 18)) := F.u (by decide) (by decide)
    rw [M_rloF F2, bd2_s]
    simp only [hN0, bd1_q]
    rw [wr_nI (by omega) (by decide), bd1_s]
    exact ⟨_, rfl, (f1.d.u (by decide)).w (by decide), F2.w (by decide)⟩
  | inr y =>
    obtain ⟨b25, bk, -, br, -, hp⟩ := x1
    have dI := hI.2.2.2.1 y.1.2 (by omega)
    have dS := (S1.2.2.2.2.1 y.1.2 (by omega)).2
    rw [b25, if_pos rfl, br, S1.1.2.2.2.1, ite_iff (cI_le3 _ hp _ h8), sb_r, show (21 : Int32) = nI 21 from rfl, nI_add]
    have go : ∀ x : Int32, x = cI (max (σ 17 1) (y.1.2 + 1)) → ∃ v', (bd1 (rd (u2 v1 100 18 x 108) 66 (nI (21 + y.1.2))) fun x42 => bd2 (f_M_readLawOf 100 x42 (bh (u2 v1 100 18 x) w)) fun x48 h46 => bd1 (sI h46 0 108 (nI (21 + y.1.2)) x48) fun h49 => some h49) = some (bh v' w) ∧ FrD v v' ∧ MX (sb (sLx K (σ 11 y.1.2) y.2) fun z => .inr (addW σ y.1.2 z.1, z.2)) (fun z v' => MTk K z.2 v' ∧ MS z.1 v') v' := by
      intro x hx
      rw [rd_nI (by omega) (by decide), bd1_s, u2_o (by decide), dS]
      obtain ⟨r2, v2, e2, q2, j2, x2⟩ := M_rlo (w := w) (v := u2 v1 100 18 x) (R := σ 11 y.1.2) (h := σ 17 0) (T1.fr (u2_n (by decide)) (u2_o (by decide))) (bk.u (by decide)) ((u2_n (by decide)).trans b25) dI.2.1 ((u2_n (by decide)).trans S1.1.2.2.1) hI.1.2.2.2.2.2.2.1
      rw [e2, bd2_s]
      simp only [hN0, bd1_q]
      rw [wr_nI (by omega) (by decide), bd1_s]
      have D2 : FrD v v2 := (f1.d.u (k := 18) (x := x) (by decide)).tr ⟨fun q hq => q2 q (by omega), fun j hj => j2 j (by omega) (by omega)⟩
      refine ⟨_, rfl, D2.w (by decide), ?_⟩
      clear e2
      generalize sLx K (σ 11 y.1.2) y.2 = X2 at x2 ⊢
      cases X2 with
      | inl f => exact FL.w x2 (by decide)
      | inr z =>
        obtain ⟨c25, cr, c17, cm, ck⟩ := x2
        refine ⟨(congrFun (u2_o (by decide)) 25).trans c25, ck.w (by decide), MS_addW S1 h0 h1 hp ?_ ((congrFun (u2_o (by decide)) 17).trans c17) ?_ ?_ ?_ (fun j hj => ?_) (fun q a b => ?_)⟩
        · rw [u2_o (by decide), j2 18 (by decide) (by decide), u2_at, hx]
        · rw [u2_at, cr]
        · rw [u2_o (by decide), j2 10 (by decide) (by decide), u2_n (by decide)]
        · rw [u2_o (by decide), j2 11 (by decide) (by decide), u2_n (by decide)]
        · rw [u2_n hj, q2 108 (by decide), u2_o (by decide)]
        · rw [u2_o (by omega), q2 q (by omega), u2_o (by omega)]
    by_cases g : y.1.2 + 1 ≤ σ 17 1
    · rw [if_pos g]
      exact go _ (by rw [show max (σ 17 1) (y.1.2 + 1) = σ 17 1 by omega])
    · rw [if_neg g]
      exact go _ (by rw [show max (σ 17 1) (y.1.2 + 1) = y.1.2 + 1 by omega]; rfl)
theorem M_watchL (hT : MT K v) (hk : MTk K P v) (h25 : v 100 25 = 0) (hS : MS σ v) (hI : SI σ) : ∃ v', f_M_readLineOf 100 3 (bh v w) = some (bh v' w) ∧ FrD v v' ∧ MX (sHr K σ P) (fun z v' => MTk K z.2 v' ∧ MS z.1 v') v' := by
  have h0 := hI.1.1
  have h1 := hI.1.2.1
  unfold f_M_readLineOf f_M_readLineOf_0 sHr
  rw [if_neg (by decide), if_neg (by decide), if_neg (by decide)]
  simp only [hN0, bd1_q]
  rw [show (11 : Int32) = nI 11 from rfl, rd_nI (by decide) (by decide), bd1_s, hS.1.2.2.2.2]
  obtain ⟨r2, v2, e2, q2, j2, x2⟩ := M_rlo (w := w) (R := σ 0 5) (h := σ 17 0) hT hk h25 hI.1.2.2.2.2.1 hS.1.2.2.1 hI.1.2.2.2.2.2.2.1
  rw [e2, bd2_s]
  simp only [hN0, bd1_q]
  rw [wr_nI (by decide) (by decide), bd1_s]
  have D2 : FrD v v2 := ⟨fun q hq => q2 q (by omega), fun j hj => j2 j (by omega) (by omega)⟩
  refine ⟨_, rfl, D2.w (by decide), ?_⟩
  clear e2
  generalize sLx K (σ 0 5) P = X2 at x2 ⊢
  cases X2 with
  | inl f => exact FL.w x2 (by decide)
  | inr z =>
    obtain ⟨c25, cr, c17, cm, ck⟩ := x2
    refine ⟨(congrFun (u2_o (by decide)) 25).trans c25, ck.w (by decide), MS_addH hS h0 h1 ?_ ((congrFun (u2_o (by decide)) 17).trans c17) ?_ ?_ ?_ (fun j hj => ?_) (fun q a b => ?_)⟩
    · rw [u2_o (by decide), j2 18 (by decide) (by decide)]
    · rw [u2_at, cr]
    · rw [u2_o (by decide), j2 10 (by decide) (by decide)]
    · rw [u2_o (by decide), j2 11 (by decide) (by decide)]
    · rw [u2_n hj, q2 108 (by decide)]
    · rw [u2_o (by omega), q2 q (by omega)]
/-- behind what a line holds -/
theorem M_tail {X : Fa ⊕ (Rho × Nat)} (h0 : ∀ z, X = .inr z → z.1 0 0 ≤ 5) (hT : MT K v) (h : MX X (fun z v => MTk K z.2 v ∧ MS z.1 v) v) : ∃ v', (if v 100 25 = 0 then (if v 100 23 = (3 : Int32) then f_M_readLine_107 100 100 1 (bh v w) else f_M_readLine_107 100 100 0 (bh v w)) else f_M_readLine_111 100 (bh v w)) = some (bh v' w) ∧ FrN v v' ∧ MX (sb X fun z => sb (sFin K z.2 z.1) fun y => sb (tokX K y.2) fun _ => .inr y) (fun y v' => MTk K y.2 v' ∧ MS y.1 v') v' := by
  unfold f_M_readLine_107 f_M_readLine_111
  simp only [hN0, bd1_q]
  cases X with
  | inl f =>
    have F : FL f v := h
    have := F.2.2
    rw [F.1, if_neg (nI_ne0 (by omega) (by omega)), M_nextF F, bd1_s]
    exact ⟨v, rfl, FrN.rf v, F⟩
  | inr z =>
    obtain ⟨b25, bk, bS⟩ := h
    have k4 := (kc_s (K := K) (s := sT K z.2)).2.2.2.2
    have ek : kD K z.2 = kc K (sT K z.2) := rfl
    rw [b25, if_pos rfl, bk.2.2.2.1, show (3 : Int32) = nI 3 from rfl, ite_iff (nI_eqI (by omega) (by omega)), sb_r]
    unfold sFin sStp
    by_cases c : kD K z.2 = 3
    · rw [if_pos c, if_pos c, sb_r, sb_r, M_needs1]
      simp only [hN0, bd1_q]
      obtain ⟨v2, e2, f2, x2⟩ := M_next (w := w) hT b25 bk.2.1 (eN_b bk.1).2.1
      rw [e2, bd1_s]
      refine ⟨v2, rfl, f2, ?_⟩
      clear e2
      generalize tokX K (eN K z.2) = Y at x2 ⊢
      cases Y with
      | inl f => exact x2
      | inr u => exact ⟨x2.1, x2.2, bS.fN (h0 z rfl) f2⟩
    · rw [if_neg c, if_neg c, M_needs0 b25]
      simp only [hN0, bd1_q]
      have F : FL (2, sT K z.2) (u2 (u2 v 100 25 2) 100 26 (v 100 22)) := ⟨by simp [u2_ap]; rfl, by simp [u2_ap]; exact bk.2.2.1, show 1 ≤ 2 by decide, show 2 ≤ 6 by decide⟩
      rw [M_nextF F, bd1_s]
      exact ⟨_, rfl, ((FrN.rf v).u (by decide)).u (by decide), F⟩
end
end
/-! 8xg.textg.lean.txt -/
section
section
variable {K : Tp} {σ : Rho} {v v' : Nat → Nat → Int32} {w : Nat → Nat → Int64} {P : Nat}
theorem M_is {n a b c : Nat} (hT : MT K v) (hk : MTk K P v) (h3 : 3 ≤ n) (hn : n < 200) (ha : a < 200) (hb : b < 200) (hc : c < 200) : f_M_is 100 (nI n) (nI a) (nI b) (nI c) (bh v w) = some (if eN K P = sT K P + n ∧ K.2 (sT K P) = a ∧ K.2 (sT K P + 1) = b ∧ K.2 (sT K P + 2) = c then 1 else 0, bh v w) := by
  have hL := hT.2.1
  have he := eN_b hk.1
  have hs := sT_b hk.1
  unfold f_M_is f_M_is_0 f_M_is_58
  simp only [hN0, bd1_q]
  rw [hk.2.1, hk.2.2.1, pk_sub he.1, ite_iff (nI_eqI (by omega) (by omega))]
  by_cases c1 : eN K P - sT K P = n
  · have t0 := (hT.2.2 (sT K P) (by omega)).2
    have t1 := (hT.2.2 (sT K P + 1) (by omega)).2
    have t2 := (hT.2.2 (sT K P + 2) (by omega)).2
    rw [if_pos c1, M_look hT (by omega), bd2_s, if_pos (show sT K P < K.1 by omega), ite_iff (nI_eqI (by omega) (by omega))]
    by_cases c2 : K.2 (sT K P) = a
    · rw [if_pos c2]
      simp only [hN0, bd1_q]
      rw [hk.2.2.1, nI_1, M_look hT (by omega), bd2_s, if_pos (show sT K P + 1 < K.1 by omega), ite_iff (nI_eqI (by omega) (by omega))]
      by_cases c3 : K.2 (sT K P + 1) = b
      · rw [if_pos c3]
        simp only [hN0, bd1_q]
        rw [hk.2.2.1, show nI (sT K P) + (2 : Int32) = nI (sT K P + 2) from nI_add _ 2, M_look hT (by omega), bd2_s, if_pos (show sT K P + 2 < K.1 by omega), ite_iff (nI_eqI (by omega) (by omega))]
        by_cases c4 : K.2 (sT K P + 2) = c
        · rw [if_pos c4, if_pos ⟨by omega, c2, c3, c4⟩]
        · rw [if_neg c4, if_neg (fun z => c4 z.2.2.2)]
      · rw [if_neg c3, if_neg (fun z => c3 z.2.2.1)]
    · rw [if_neg c2, if_neg (fun z => c2 z.2.1)]
  · rw [if_neg c1, if_neg (fun z => c1 (by omega))]
def lkI (K : Tp) (P : Nat) : Int32 := if isW K P 0 = true then 0 else if isW K P 1 = true then 1 else if isW K P 2 = true then 2 else if isW K P 3 = true then 3 else -4
theorem M_lineNow (hT : MT K v) (hk : MTk K P v) (k1 : kD K P = 1) : f_M_lineNow 100 (bh v w) = some (lkI K P, bh v w) := by
  have hL := hT.2.1
  have he := eN_b hk.1
  have hs := sT_b hk.1
  have w0 : isW K P 0 = true ↔ eN K P = sT K P + 3 ∧ K.2 (sT K P) = 108 ∧ K.2 (sT K P + 1) = 97 ∧ K.2 (sT K P + 2) = 119 := by
    simp [isW, k1, wLn, wLm, wLt]
  have w1 : isW K P 1 = true ↔ eN K P = sT K P + 3 ∧ K.2 (sT K P) = 111 ∧ K.2 (sT K P + 1) = 110 ∧ K.2 (sT K P + 2) = 101 := by
    simp [isW, k1, wLn, wLm, wLt]
  have w2 : isW K P 2 = true ↔ (eN K P = sT K P + 4 ∧ K.2 (sT K P) = 119 ∧ K.2 (sT K P + 1) = 97 ∧ K.2 (sT K P + 2) = 110) ∧ K.2 (sT K P + 3) = 116 := by
    simp [isW, k1, wLn, wLm, wLt, and_assoc]
  have w3 : isW K P 3 = true ↔ (eN K P = sT K P + 5 ∧ K.2 (sT K P) = 119 ∧ K.2 (sT K P + 1) = 97 ∧ K.2 (sT K P + 2) = 116) ∧ K.2 (sT K P + 3) = 99 ∧ K.2 (sT K P + 4) = 104 := by
    simp [isW, k1, wLn, wLm, wLt, and_assoc]
  have i0 : f_M_is 100 (3 : Int32) (108 : Int32) (97 : Int32) (119 : Int32) (bh v w) = _ := M_is (w := w) (n := 3) (a := 108) (b := 97) (c := 119) hT hk (by decide) (by decide) (by decide) (by decide) (by decide)
  have i1 : f_M_is 100 (3 : Int32) (111 : Int32) (110 : Int32) (101 : Int32) (bh v w) = _ := M_is (w := w) (n := 3) (a := 111) (b := 110) (c := 101) hT hk (by decide) (by decide) (by decide) (by decide) (by decide)
  have i2 : f_M_is 100 (4 : Int32) (119 : Int32) (97 : Int32) (110 : Int32) (bh v w) = _ := M_is (w := w) (n := 4) (a := 119) (b := 97) (c := 110) hT hk (by decide) (by decide) (by decide) (by decide) (by decide)
  have i3 : f_M_is 100 (5 : Int32) (119 : Int32) (97 : Int32) (116 : Int32) (bh v w) = _ := M_is (w := w) (n := 5) (a := 119) (b := 97) (c := 116) hT hk (by decide) (by decide) (by decide) (by decide) (by decide)
  have l63 : isW K P 2 ≠ true → f_M_lineNow_63 100 (bh v w) = some (if isW K P 3 = true then 3 else -4, bh v w) := by
    intro n2
    unfold f_M_lineNow_63 f_M_lineNow_111
    simp only [hN0, bd1_q]
    rw [i3, bd2_s]
    by_cases c : eN K P = sT K P + 5 ∧ K.2 (sT K P) = 119 ∧ K.2 (sT K P + 1) = 97 ∧ K.2 (sT K P + 2) = 116
    · have t3 := (hT.2.2 (sT K P + 3) (by omega)).2
      have t4 := (hT.2.2 (sT K P + 4) (by omega)).2
      rw [if_pos c, if_neg (by decide)]
      simp only [hN0, bd1_q]
      rw [hk.2.2.1, show nI (sT K P) + (3 : Int32) = nI (sT K P + 3) from nI_add _ 3, M_look hT (by omega), bd2_s, if_pos (show sT K P + 3 < K.1 by omega), show (99 : Int32) = nI 99 from rfl, ite_iff (nI_eqI (by omega) (by omega))]
      by_cases d : K.2 (sT K P + 3) = 99
      · rw [if_pos d]
        simp only [hN0, bd1_q]
        rw [hk.2.2.1, show nI (sT K P) + (4 : Int32) = nI (sT K P + 4) from nI_add _ 4, M_look hT (by omega), bd2_s, if_pos (show sT K P + 4 < K.1 by omega), show (104 : Int32) = nI 104 from rfl, ite_iff (nI_eqI (by omega) (by omega))]
        by_cases e : K.2 (sT K P + 4) = 104
        · rw [if_pos e, if_pos (w3.mpr ⟨c, d, e⟩)]
        · rw [if_neg e, if_neg (fun z => e (w3.mp z).2.2)]
      · rw [if_neg d, if_neg (fun z => d (w3.mp z).2.1)]
    · rw [if_neg c, if_pos rfl, if_neg (fun z => c (w3.mp z).1)]
  unfold f_M_lineNow f_M_lineNow_0 lkI
  simp only [hN0, bd1_q]
  rw [i0, bd2_s]
  by_cases c0 : isW K P 0 = true
  · rw [if_pos (w0.mp c0), if_neg (by decide), if_pos c0]
  rw [if_neg (fun z => c0 (w0.mpr z)), if_pos rfl, if_neg c0]
  simp only [hN0, bd1_q]
  rw [i1, bd2_s]
  by_cases c1 : isW K P 1 = true
  · rw [if_pos (w1.mp c1), if_neg (by decide), if_pos c1]
  rw [if_neg (fun z => c1 (w1.mpr z)), if_pos rfl, if_neg c1]
  simp only [hN0, bd1_q]
  rw [i2, bd2_s]
  by_cases c : eN K P = sT K P + 4 ∧ K.2 (sT K P) = 119 ∧ K.2 (sT K P + 1) = 97 ∧ K.2 (sT K P + 2) = 110
  · have t3 := (hT.2.2 (sT K P + 3) (by omega)).2
    rw [if_pos c, if_neg (by decide)]
    simp only [hN0, bd1_q]
    rw [hk.2.2.1, show nI (sT K P) + (3 : Int32) = nI (sT K P + 3) from nI_add _ 3, M_look hT (by omega), bd2_s, if_pos (show sT K P + 3 < K.1 by omega), show (116 : Int32) = nI 116 from rfl, ite_iff (nI_eqI (by omega) (by omega))]
    by_cases d : K.2 (sT K P + 3) = 116
    · rw [if_pos d, if_pos (w2.mpr ⟨c, d⟩)]
    · have n2 : ¬ isW K P 2 = true := fun z => d (w2.mp z).2
      rw [if_neg d, l63 n2, if_neg n2]
  · have n2 : ¬ isW K P 2 = true := fun z => c (w2.mp z).1
    rw [if_neg c, if_pos rfl, l63 n2, if_neg n2]
theorem sLaw_eq (Q : Nat) : sLaw K σ Q = sb (tokX K Q) fun _ => sb (sb (sNw K 0 9 (sNw K 0 9 (sNw K 1 3 (sNw K 0 9 ((.inr ((), Q)) : Fa ⊕ (Unit × Nat)))))) fun y => sCr K σ y) fun z => sFin K z.2 z.1 := by
  unfold sLaw sNum sNw sCar sCr
  simp only [sb_r]
  rcases tokX K Q with f | u
  · rfl
  simp only [sb_r]
  rcases chk K 0 9 Q with f | q
  · rfl
  simp only [sb_r]
  rcases tokX K (eN K Q) with f | u
  · rfl
  simp only [sb_r]
  rcases chk K 1 3 (eN K Q) with f | c
  · rfl
  simp only [sb_r]
  rcases tokX K (eN K (eN K Q)) with f | u
  · rfl
  simp only [sb_r]
  rcases chk K 0 9 (eN K (eN K Q)) with f | h
  · rfl
  simp only [sb_r]
  rcases tokX K (eN K (eN K (eN K Q))) with f | u
  · rfl
  simp only [sb_r]
  rcases chk K 0 9 (eN K (eN K (eN K Q))) with f | g
  · rfl
  simp only [sb_r]
  rcases tokX K (eN K (eN K (eN K (eN K Q)))) with f | u
  · rfl
  simp only [sb_r]
  by_cases k : kD K (eN K (eN K (eN K (eN K Q)))) = 2
  · rw [if_pos k, if_pos k]
    rcases chkB K 0 4 (eN K (eN K (eN K (eN K Q)))) with f | m
    · rfl
    simp only [sb_r]
    by_cases z : m = σ 0 0
    · rw [if_pos z, if_pos z]; rfl
    · rw [if_neg z, if_neg z]
      rcases tokX K (eN K (eN K (eN K (eN K (eN K Q))))) with f | u
      · rfl
      · rfl
  · rw [if_neg k, if_neg k]; rfl
theorem sOne_eq (Q : Nat) : sOne K σ Q = sb (tokX K Q) fun _ => sb (sb (sNw K 0 99 (sNw K 0 10 (sNw K 0 3 (sNw K 0 5 ((.inr ((), Q)) : Fa ⊕ (Unit × Nat)))))) fun y => sOr K σ y) fun z => sFin K z.2 z.1 := by
  unfold sOne sNum sNw sOr
  simp only [sb_r]
  rcases tokX K Q with f | u
  · rfl
  simp only [sb_r]
  rcases chk K 0 5 Q with f | q
  · rfl
  simp only [sb_r]
  rcases tokX K (eN K Q) with f | u
  · rfl
  simp only [sb_r]
  rcases chk K 0 3 (eN K Q) with f | c
  · rfl
  simp only [sb_r]
  rcases tokX K (eN K (eN K Q)) with f | u
  · rfl
  simp only [sb_r]
  rcases chk K 0 10 (eN K (eN K Q)) with f | h
  · rfl
  simp only [sb_r]
  rcases tokX K (eN K (eN K (eN K Q))) with f | u
  · rfl
  simp only [sb_r]
  rcases chk K 0 99 (eN K (eN K (eN K Q))) with f | g
  · rfl
  simp only [sb_r]
  rcases tokX K (eN K (eN K (eN K (eN K Q)))) with f | u
  · rfl
  simp only [sb_r]
  rcases sRef K 6 0 (σ 17 0) (eN K (eN K (eN K (eN K Q)))) with f | x
  · rfl
  · rfl
theorem sWant_eq (Q : Nat) : sWant K σ Q = sb (tokX K Q) fun _ => sb (sWr K σ Q) fun z => sFin K z.2 z.1 := by
  unfold sWant sNum sWr sNw sLx
  simp only [sb_r]
  rcases tokX K Q with f | u
  · rfl
  simp only [sb_r]
  rcases chk K 0 2 Q with f | q
  · rfl
  simp only [sb_r]
  rcases tokX K (eN K Q) with f | u
  · rfl
  simp only [sb_r]
  rcases chk K 0 4 (eN K Q) with f | m
  · rfl
  simp only [sb_r]
  by_cases z : bit (σ 11 q) m = 1
  · rw [if_pos z, if_pos z]; rfl
  · rw [if_neg z, if_neg z]
    rcases tokX K (eN K (eN K Q)) with f | u
    · rfl
    · rfl
theorem sWatch_eq (Q : Nat) : sWatch K σ Q = sb (tokX K Q) fun _ => sb (sHr K σ Q) fun z => sFin K z.2 z.1 := by
  unfold sWatch sNum sHr sLx
  rcases tokX K Q with f | u
  · rfl
  simp only [sb_r]
  rcases chk K 0 4 Q with f | m
  · rfl
  simp only [sb_r]
  by_cases z : bit (σ 0 5) m = 1
  · rw [if_pos z, if_pos z]; rfl
  · rw [if_neg z, if_neg z]
    rcases tokX K (eN K Q) with f | u
    · rfl
    · rfl
theorem M_l65F {f : Fa} (hF : FL f v) (b1 s1 : Int32) : f_M_readLine_65 100 b1 100 s1 (bh v w) = some (bh v w) := by
  have := hF.2.2
  unfold f_M_readLine_65
  simp only [hN0, bd1_q]
  rw [M_needsF hF]
  simp only [hN0, bd1_q]
  rw [M_nextF hF]
  simp only [hN0, bd1_q]
  rw [hF.1, if_neg (nI_nle (by omega) (by omega))]
theorem M_l65_5 (hk : MTk K P v) (h25 : v 100 25 = 0) (b1 : Int32) : ∃ v', f_M_readLine_65 100 b1 100 0 (bh v w) = some (bh v' w) ∧ FrD v v' ∧ FL (5, sT K P) v' := by
  have F : FL (5, sT K P) (u2 (u2 v 100 25 5) 100 26 (v 100 22)) := ⟨by simp [u2_ap]; rfl, by simp [u2_ap]; exact hk.2.2.1, show 1 ≤ 5 by decide, show 5 ≤ 6 by decide⟩
  unfold f_M_readLine_65
  simp only [hN0, bd1_q]
  rw [M_needs0 h25]
  simp only [hN0, bd1_q]
  rw [M_nextF F]
  simp only [hN0, bd1_q]
  rw [F.1, if_neg (show ¬ nI 5 ≤ 0 by decide)]
  exact ⟨_, rfl, ((FrD.rf v).u (by decide)).u (by decide), F⟩
theorem M_l65 {X : Fa ⊕ (Rho × Nat)} {b1 : Int32} (hT : MT K v) (hk : MTk K P v) (h25 : v 100 25 = 0) (hS : MS σ v) (h5 : σ 0 0 ≤ 5) (h0 : ∀ z, X = .inr z → z.1 0 0 ≤ 5) (hline : ∀ v2, MT K v2 → MTk K (eN K P) v2 → v2 100 25 = 0 → MS σ v2 → ∃ v3, f_M_readLineOf 100 b1 (bh v2 w) = some (bh v3 w) ∧ FrD v2 v3 ∧ MX X (fun z v' => MTk K z.2 v' ∧ MS z.1 v') v3) : ∃ v', f_M_readLine_65 100 b1 100 1 (bh v w) = some (bh v' w) ∧ FrD v v' ∧ MX (sb (tokX K (eN K P)) fun _ => sb X fun z => sb (sFin K z.2 z.1) fun y => sb (tokX K y.2) fun _ => .inr y) (fun y v' => MTk K y.2 v' ∧ MS y.1 v') v' := by
  unfold f_M_readLine_65
  simp only [hN0, bd1_q]
  rw [M_needs1]
  simp only [hN0, bd1_q]
  obtain ⟨v2, e2, f2, x2⟩ := M_next (w := w) hT h25 hk.2.1 (eN_b hk.1).2.1
  rw [e2]
  simp only [hN0, bd1_q]
  clear e2
  generalize tokX K (eN K P) = Y at x2 ⊢
  cases Y with
  | inl f =>
    have F : FL f v2 := x2
    have := F.2.2
    rw [F.1, if_neg (nI_nle (by omega) (by omega))]
    exact ⟨v2, rfl, f2.d, F⟩
  | inr u =>
    obtain ⟨b25, bk⟩ := x2
    have T2 := hT.fN f2
    obtain ⟨v3, e3, f3, x3⟩ := hline v2 T2 bk b25 (hS.fN h5 f2)
    rw [b25, if_pos (by decide), e3]
    simp only [hN0, bd1_q]
    obtain ⟨v4, e4, f4, x4⟩ := M_tail (w := w) h0 (T2.fD f3) x3
    exact ⟨v4, e4, (f2.d.tr f3).tr f4.d, x4⟩
theorem sb_as {α β γ : Type} (x : Fa ⊕ α) (f : α → Fa ⊕ β) (g : β → Fa ⊕ γ) : sb (sb x f) g = sb x fun a => sb (f a) g := by
  cases x <;> rfl
theorem M_readLine (hT : MT K v) (hk : MTk K P v) (h25 : v 100 25 = 0) (hS : MS σ v) (hI : SI σ) : ∃ v', f_M_readLine 100 (bh v w) = some (bh v' w) ∧ FrD v v' ∧ MX (sb (sLine K σ P) fun y => sb (tokX K y.2) fun _ => .inr y) (fun y v' => MTk K y.2 v' ∧ MS y.1 v') v' := by
  have k4 := (kc_s (K := K) (s := sT K P)).2.2.2.2
  have ek : kD K P = kc K (sT K P) := rfl
  have h5 := hI.1.1
  have h3 := hI.1.2.1
  have e17 : f_M_readLine 100 (bh v w) = f_M_readLine_17 100 (lkI K P) (bh v w) := by
    unfold f_M_readLine f_M_readLine_0
    simp only [hN0, bd1_q]
    have q1 : v 100 23 = (1 : Int32) ↔ kD K P = 1 := by rw [hk.2.2.2.1]; exact nI_eqI (a := kD K P) (b := 1) (by omega) (by omega)
    rw [ite_iff q1]
    by_cases c : kD K P = 1
    · rw [if_pos c, M_lineNow hT hk c, bd2_s]
    · have nw : ∀ o, ¬ isW K P o = true := fun o z => c (isW_k z)
      rw [if_neg c]
      unfold lkI
      rw [if_neg (nw 0), if_neg (nw 1), if_neg (nw 2), if_neg (nw 3)]
  rw [e17]
  unfold f_M_readLine_17 f_M_readLine_30 f_M_readLine_47 f_M_readLine_64 f_M_readLine_60 lkI sLine
  by_cases c0 : isW K P 0 = true
  · rw [if_pos c0, if_pos c0, if_neg (by decide)]
    simp only [hN0, bd1_q]
    rw [M_needs1]
    simp only [hN0, bd1_q]
    rw [if_pos trivial, hS.1.1, show (5 : Int32) = nI 5 from rfl, ite_iff (nI_leI (by omega) (by omega))]
    by_cases g : σ 0 0 < 5
    · rw [if_neg (by omega), if_neg (by decide), if_pos g, sLaw_eq, sb_as]
      have := M_l65 (w := w) (b1 := 0) (X := sb (sNw K 0 9 (sNw K 0 9 (sNw K 1 3 (sNw K 0 9 ((.inr ((), eN K P)) : Fa ⊕ (Unit × Nat)))))) fun y => sCr K σ y) hT hk h25 hS h5 (fun z hz => by
        obtain ⟨y, -, hy⟩ := sb_inr hz
        unfold sCr at hy
        split at hy
        · obtain ⟨m, -, hy⟩ := sb_inr hy
          obtain ⟨-, hy⟩ := ite_inr hy
          obtain ⟨u, -, hy⟩ := sb_inr hy
          cases hy
          simp [addL, up2_ap]
          omega
        · cases hy
          simp [addL, up2_ap]
          omega) (fun v2 a1 a2 a3 a4 => by
        obtain ⟨v3, e3, f3, x3⟩ := M_readLaw (w := w) a1 a2 a3 a4 hI g
        refine ⟨v3, ?_, f3, x3⟩
        unfold f_M_readLineOf f_M_readLineOf_0
        rw [if_pos rfl]
        simp only [hN0, bd1_q]
        rw [e3, bd1_s])
      obtain ⟨v4, e4, f4, x4⟩ := this
      refine ⟨v4, e4, f4, ?_⟩
      simp only [sb_as] at x4 ⊢
      exact x4
    · rw [if_pos (by omega), if_neg g]
      obtain ⟨v4, e4, f4, x4⟩ := M_l65_5 (w := w) hk h25 0
      exact ⟨v4, e4, f4, x4⟩
  rw [if_neg c0, if_neg c0]
  by_cases c1 : isW K P 1 = true
  · rw [if_pos c1, if_pos c1, if_neg (by decide)]
    simp only [hN0, bd1_q]
    rw [M_needs1]
    simp only [hN0, bd1_q]
    rw [if_neg (by decide), if_pos trivial, hS.1.2.1, show (3 : Int32) = nI 3 from rfl, ite_iff (nI_leI (by omega) (by omega))]
    by_cases g : σ 0 1 < 3
    · rw [if_neg (by omega), if_pos g, sOne_eq, sb_as]
      have := M_l65 (w := w) (b1 := 1) (X := sb (sNw K 0 99 (sNw K 0 10 (sNw K 0 3 (sNw K 0 5 ((.inr ((), eN K P)) : Fa ⊕ (Unit × Nat)))))) fun y => sOr K σ y) hT hk h25 hS h5 (fun z hz => by
        obtain ⟨y, -, hy⟩ := sb_inr hz
        obtain ⟨x, -, hy⟩ := sb_inr hy
        cases hy
        simp [addO, up2_ap]
        exact h5) (fun v2 a1 a2 a3 a4 => by
        obtain ⟨v3, e3, f3, x3⟩ := M_readOne (w := w) a1 a2 a3 a4 hI g
        refine ⟨v3, ?_, f3, x3⟩
        unfold f_M_readLineOf f_M_readLineOf_0
        rw [if_neg (by decide), if_pos rfl]
        simp only [hN0, bd1_q]
        rw [e3, bd1_s])
      obtain ⟨v4, e4, f4, x4⟩ := this
      refine ⟨v4, e4, f4, ?_⟩
      simp only [sb_as] at x4 ⊢
      exact x4
    · rw [if_pos (by omega), if_neg g]
      obtain ⟨v4, e4, f4, x4⟩ := M_l65_5 (w := w) hk h25 1
      exact ⟨v4, e4, f4, x4⟩
  rw [if_neg c1, if_neg c1]
  by_cases c2 : isW K P 2 = true
  · rw [if_pos c2, if_pos c2, if_neg (by decide)]
    simp only [hN0, bd1_q]
    rw [M_needs1]
    simp only [hN0, bd1_q]
    rw [if_neg (by decide), if_neg (by decide), sWant_eq, sb_as]
    have := M_l65 (w := w) (b1 := 2) (X := sWr K σ (eN K P)) hT hk h25 hS h5 (fun z hz => by
      obtain ⟨y, -, hy⟩ := sb_inr hz
      obtain ⟨x, -, hy⟩ := sb_inr hy
      cases hy
      simp [addW, up2_ap]
      exact h5) (fun v2 a1 a2 a3 a4 => M_want (w := w) a1 a2 a3 a4 hI)
    obtain ⟨v4, e4, f4, x4⟩ := this
    refine ⟨v4, e4, f4, ?_⟩
    simp only [sb_as] at x4 ⊢
    exact x4
  rw [if_neg c2, if_neg c2]
  by_cases c3 : isW K P 3 = true
  · rw [if_pos c3, if_pos c3, if_neg (by decide)]
    simp only [hN0, bd1_q]
    rw [M_needs1]
    simp only [hN0, bd1_q]
    rw [if_neg (by decide), if_neg (by decide), sWatch_eq, sb_as]
    have := M_l65 (w := w) (b1 := 3) (X := sHr K σ (eN K P)) hT hk h25 hS h5 (fun z hz => by
      obtain ⟨x, -, hy⟩ := sb_inr hz
      cases hy
      simp [addH, up2_ap]
      exact h5) (fun v2 a1 a2 a3 a4 => M_watchL (w := w) a1 a2 a3 a4 hI)
    obtain ⟨v4, e4, f4, x4⟩ := this
    refine ⟨v4, e4, f4, ?_⟩
    simp only [sb_as] at x4 ⊢
    exact x4
  rw [if_neg c3, if_neg c3, if_pos rfl]
  simp only [hN0, bd1_q]
  rw [M_needs0 h25]
  simp only [hN0, bd1_q]
  have F : FL (2, sT K P) (u2 (u2 v 100 25 2) 100 26 (v 100 22)) := ⟨by simp [u2_ap]; rfl, by simp [u2_ap]; exact hk.2.2.1, show 1 ≤ 2 by decide, show 2 ≤ 6 by decide⟩
  rw [if_neg (by decide), if_neg (by decide), M_l65F F]
  exact ⟨_, rfl, ((FrD.rf v).u (by decide)).u (by decide), F⟩
end
end
/-! 8xh.texth.lean.txt -/
section
theorem hN1 (v : Nat → Nat → Int32) (w : Nat → Nat → Int64) : (∀ i x, sI (bh v w) 0 101 i x = wr v w 101 198 i x) ∧ (∀ i x, sI (bh v w) 0 103 i x = wr v w 103 5 i x) ∧ (∀ i x, sI (bh v w) 0 104 i x = wr v w 104 5 i x) ∧ (∀ i x, sI (bh v w) 0 105 i x = wr v w 105 5 i x) ∧ (∀ i x, sI (bh v w) 0 106 i x = wr v w 106 3 i x) ∧ (∀ i x, sI (bh v w) 0 107 i x = wr v w 107 3 i x) ∧ (∀ i x, sI (bh v w) 2 102 i x = wr v w 102 2 i x) := ⟨sI_bh rfl, sI_bh rfl, sI_bh rfl, sI_bh rfl, sI_bh rfl, sI_bh rfl, sI_bh rfl⟩
section
variable {K : Tp} {σ : Rho} {v v' : Nat → Nat → Int32} {w : Nat → Nat → Int64} {P : Nat}
theorem M_fd23 : ∀ (n fuel l : Nat) (v : Nat → Nat → Int32), n < fuel → l + n = 5 → (∀ j, j < l → v 108 (5 + j) = -4) → (∀ j, j < 5 ∨ 10 ≤ j ∧ j < 66 → v 108 j = 0) → ∃ v', f_M_firstDraft_23 fuel 100 (nI l) (bh v w) = some (bh v' w) ∧ MS (fun _ _ => 0) v' ∧ (∀ q, q ≠ 100 → q ≠ 108 → v' q = v q) ∧ ∀ j, j ≠ 10 → j ≠ 11 → j ≠ 17 → j ≠ 18 → v' 100 j = v 100 j := by
  intro n
  induction n with
  | zero =>
    intro fuel l v hf hl h1 h2
    obtain ⟨m, rfl⟩ : ∃ m, fuel = m + 1 := ⟨fuel - 1, by omega⟩
    show ∃ v', f_M_firstDraft_23b (f_M_firstDraft_23 m) 100 (nI l) (bh v w) = _ ∧ _
    unfold f_M_firstDraft_23b
    rw [show (5 : Int32) = nI 5 from rfl, if_pos ((nI_leI (by omega) (by omega)).mpr (by omega))]
    simp only [hN0, bd1_q]
    refine ⟨_, rfl, ⟨⟨by simp [u2_ap]; rfl, by simp [u2_ap]; rfl, by simp [u2_ap]; rfl, by simp [u2_ap]; rfl, ?_⟩, fun l hl => absurd hl (Nat.not_lt_zero _), fun l _ hl => ?_, fun p hp => absurd hp (Nat.not_lt_zero _), fun p hp => ⟨?_, ?_⟩, fun j a b => ?_⟩, fun q a b => by rw [u2_o a, u2_o a, u2_o a, u2_o a], fun j a b c d => by rw [u2_n d, u2_n c, u2_n b, u2_n a]⟩
    · rw [u2_o (by decide), u2_o (by decide), u2_o (by decide), u2_o (by decide)]; exact h2 11 (by omega)
    · rw [u2_o (by decide), u2_o (by decide), u2_o (by decide), u2_o (by decide)]; exact h1 l (by omega)
    · rw [u2_o (by decide), u2_o (by decide), u2_o (by decide), u2_o (by decide)]; exact h2 _ (by omega)
    · rw [u2_o (by decide), u2_o (by decide), u2_o (by decide), u2_o (by decide)]; exact h2 _ (by omega)
    · rw [u2_o (by decide), u2_o (by decide), u2_o (by decide), u2_o (by decide)]; exact h2 _ (by omega)
  | succ n ih =>
    intro fuel l v hf hl h1 h2
    obtain ⟨m, rfl⟩ : ∃ m, fuel = m + 1 := ⟨fuel - 1, by omega⟩
    obtain ⟨v', e1, e2, e3, e4⟩ := ih m (l + 1) (u2 v 108 (5 + l) (-4)) (by omega) (by omega) (fun j hj => by
      by_cases z : j = l
      · rw [z, u2_at]
      · rw [u2_n (by omega)]; exact h1 j (by omega)) (fun j hj => by rw [u2_n (by omega)]; exact h2 j hj)
    refine ⟨v', ?_, e2, fun q a b => (e3 q a b).trans (u2_o b), fun j a b c d => (e4 j a b c d).trans (congrFun (u2_o (by decide)) j)⟩
    show f_M_firstDraft_23b (f_M_firstDraft_23 m) 100 (nI l) (bh v w) = _
    unfold f_M_firstDraft_23b
    rw [show (5 : Int32) = nI 5 from rfl, if_neg (fun z => by have := (nI_leI (by omega) (by omega)).mp z; omega)]
    simp only [hN0, bd1_q]
    rw [nI_add, wr_nI (by omega) (by decide), bd1_s, nI_1]
    exact e1
theorem M_fd2 : ∀ (n fuel k : Nat) (v : Nat → Nat → Int32), n < fuel → k + n = 66 → (∀ j, j < k → v 108 j = 0) → ∃ v', f_M_firstDraft_2 fuel 100 (nI k) (bh v w) = some (bh v' w) ∧ MS (fun _ _ => 0) v' ∧ (∀ q, q ≠ 100 → q ≠ 108 → v' q = v q) ∧ ∀ j, j ≠ 10 → j ≠ 11 → j ≠ 17 → j ≠ 18 → v' 100 j = v 100 j := by
  intro n
  induction n with
  | zero =>
    intro fuel k v hf hk h1
    obtain ⟨m, rfl⟩ : ∃ m, fuel = m + 1 := ⟨fuel - 1, by omega⟩
    obtain ⟨v', e1, e2⟩ := M_fd23 (w := w) 5 FU 0 v (by decide) (by decide) (fun j hj => by omega) (fun j hj => h1 j (by omega))
    refine ⟨v', ?_, e2⟩
    show f_M_firstDraft_2b (f_M_firstDraft_2 m) 100 (nI k) (bh v w) = _
    unfold f_M_firstDraft_2b
    rw [show (66 : Int32) = nI 66 from rfl, if_pos ((nI_leI (by omega) (by omega)).mpr (by omega))]
    exact e1
  | succ n ih =>
    intro fuel k v hf hk h1
    obtain ⟨m, rfl⟩ : ∃ m, fuel = m + 1 := ⟨fuel - 1, by omega⟩
    obtain ⟨v', e1, e2, e3, e4⟩ := ih m (k + 1) (u2 v 108 k 0) (by omega) (by omega) (fun j hj => by
      by_cases z : j = k
      · rw [z, u2_at]
      · rw [u2_n z]; exact h1 j (by omega))
    refine ⟨v', ?_, e2, fun q a b => (e3 q a b).trans (u2_o b), fun j a b c d => (e4 j a b c d).trans (congrFun (u2_o (by decide)) j)⟩
    show f_M_firstDraft_2b (f_M_firstDraft_2 m) 100 (nI k) (bh v w) = _
    unfold f_M_firstDraft_2b
    rw [show (66 : Int32) = nI 66 from rfl, if_neg (fun z => by have := (nI_leI (by omega) (by omega)).mp z; omega)]
    simp only [hN0, bd1_q]
    rw [wr_nI (by omega) (by decide), bd1_s, nI_1]
    exact e1
theorem M_firstDraft : ∃ v', f_M_firstDraft 100 (bh v w) = some (bh v' w) ∧ MS (fun _ _ => 0) v' ∧ (∀ q, q ≠ 100 → q ≠ 108 → v' q = v q) ∧ ∀ j, j ≠ 10 → j ≠ 11 → j ≠ 17 → j ≠ 18 → v' 100 j = v 100 j := by
  unfold f_M_firstDraft f_M_firstDraft_0
  rw [show (0 : Int32) = nI 0 from rfl]
  exact M_fd2 66 FU 0 v (by decide) (by decide) (fun j hj => by omega)
theorem M_kd111 {n3 : Nat} (h3 : n3 ≤ 3) : ∀ (n fuel l : Nat) (v : Nat → Nat → Int32), n < fuel → l + n = n3 → v 100 3 = nI n3 → ∃ v', f_M_keepDraft_111 fuel 100 (nI l) (bh v w) = some (bh v' w) ∧ v' 102 0 = 0 ∧ v' 102 1 = 0 ∧ (∀ q, q ≠ 102 → q ≠ 106 → q ≠ 107 → v' q = v q) ∧ (∀ j, l ≤ j → j < n3 → v' 106 j = v 112 j ∧ v' 107 j = v 113 j) ∧ ∀ j, j < l → v' 106 j = v 106 j ∧ v' 107 j = v 107 j := by
  intro n
  induction n with
  | zero =>
    intro fuel l v hf hl hv
    obtain ⟨m, rfl⟩ : ∃ m, fuel = m + 1 := ⟨fuel - 1, by omega⟩
    show ∃ v', f_M_keepDraft_111b (f_M_keepDraft_111 m) 100 (nI l) (bh v w) = _ ∧ _
    unfold f_M_keepDraft_111b
    simp only [hN0, hN1, bd1_q]
    rw [hv, if_pos ((nI_leI (by omega) (by omega)).mpr (by omega)), show wr v w 102 2 (0 : Int32) (vp_nar .boolean (0 : Int32)) = some (bh (u2 v 102 0 0) w) from wr_nI (j := 0) (by decide) (by decide), bd1_s]
    simp only [hN0, hN1, bd1_q]
    rw [show wr (u2 v 102 0 0) w 102 2 (1 : Int32) (vp_nar .boolean (0 : Int32)) = some (bh (u2 (u2 v 102 0 0) 102 1 0) w) from wr_nI (j := 1) (by decide) (by decide), bd1_s]
    exact ⟨_, rfl, by simp [u2_ap], by simp [u2_ap], fun q a b c => (u2_o a).trans (u2_o a), fun j a b => by omega, fun j a => ⟨by simp [u2_ap], by simp [u2_ap]⟩⟩
  | succ n ih =>
    intro fuel l v hf hl hv
    obtain ⟨m, rfl⟩ : ∃ m, fuel = m + 1 := ⟨fuel - 1, by omega⟩
    obtain ⟨v', e1, e2, e3, e4, e5, e6⟩ := ih m (l + 1) (u2 (u2 v 106 l (v 112 l)) 107 l (v 113 l)) (by omega) (by omega) (by simp [u2_ap, hv])
    refine ⟨v', ?_, e2, e3, fun q a b c => (e4 q a b c).trans ((u2_o c).trans (u2_o b)), fun j a b => ?_, fun j a => ?_⟩
    · show f_M_keepDraft_111b (f_M_keepDraft_111 m) 100 (nI l) (bh v w) = _
      unfold f_M_keepDraft_111b
      simp only [hN0, hN1, bd1_q]
      rw [hv, if_neg (fun z => by have := (nI_leI (by omega) (by omega)).mp z; omega), rd_nI (by omega) (by decide), bd1_s, wr_nI (by omega) (by decide), bd1_s]
      simp only [hN0, hN1, bd1_q]
      rw [rd_nI (by omega) (by decide), bd1_s, wr_nI (by omega) (by decide), bd1_s, u2_o (by decide), nI_1]
      exact e1
    · by_cases z : j = l
      · have := e6 j (by omega)
        rw [this.1, this.2, z]
        simp [u2_ap]
      · have := e5 j (by omega) b
        rw [this.1, this.2]
        simp [u2_ap]
    · have := e6 j (by omega)
      rw [this.1, this.2]
      simp [u2_ap, show ¬ j = l by omega]
theorem M_kd59 {n5 n3 : Nat} (h5 : n5 ≤ 5) (h3 : n3 ≤ 3) : ∀ (n fuel l : Nat) (v : Nat → Nat → Int32), n < fuel → l + n = n5 → v 100 2 = nI n5 → v 100 3 = nI n3 → ∃ v', f_M_keepDraft_59 fuel 100 (nI l) (bh v w) = some (bh v' w) ∧ v' 102 0 = 0 ∧ v' 102 1 = 0 ∧ (∀ q, q < 102 ∨ 107 < q → v' q = v q) ∧ (∀ j, l ≤ j → j < n5 → v' 103 j = v 109 j ∧ v' 104 j = v 110 j ∧ v' 105 j = v 111 j) ∧ (∀ j, j < l → v' 103 j = v 103 j ∧ v' 104 j = v 104 j ∧ v' 105 j = v 105 j) ∧ ∀ j, j < n3 → v' 106 j = v 112 j ∧ v' 107 j = v 113 j := by
  intro n
  induction n with
  | zero =>
    intro fuel l v hf hl hv hv3
    obtain ⟨m, rfl⟩ : ∃ m, fuel = m + 1 := ⟨fuel - 1, by omega⟩
    obtain ⟨v', e1, e2, e3, e4, e5, e6⟩ := M_kd111 (w := w) h3 n3 FU 0 v (by unfold FU; omega) (by omega) hv3
    refine ⟨v', ?_, e2, e3, fun q a => e4 q (by omega) (by omega) (by omega), fun j a b => by omega, fun j a => ?_, fun j a => e5 j (Nat.zero_le _) a⟩
    · show f_M_keepDraft_59b (f_M_keepDraft_59 m) 100 (nI l) (bh v w) = _
      unfold f_M_keepDraft_59b
      simp only [hN0, hN1, bd1_q]
      rw [hv, if_pos ((nI_leI (by omega) (by omega)).mpr (by omega))]
      exact e1
    · rw [e4 103 (by decide) (by decide) (by decide), e4 104 (by decide) (by decide) (by decide), e4 105 (by decide) (by decide) (by decide)]
      exact ⟨rfl, rfl, rfl⟩
  | succ n ih =>
    intro fuel l v hf hl hv hv3
    obtain ⟨m, rfl⟩ : ∃ m, fuel = m + 1 := ⟨fuel - 1, by omega⟩
    obtain ⟨v', e1, e2, e3, e4, e5, e6, e7⟩ := ih m (l + 1) (u2 (u2 (u2 v 103 l (v 109 l)) 104 l (v 110 l)) 105 l (v 111 l)) (by omega) (by omega) (by simp [u2_ap, hv]) (by simp [u2_ap, hv3])
    refine ⟨v', ?_, e2, e3, fun q a => (e4 q a).trans ((u2_o (by omega)).trans ((u2_o (by omega)).trans (u2_o (by omega)))), fun j a b => ?_, fun j a => ?_, fun j a => ?_⟩
    · show f_M_keepDraft_59b (f_M_keepDraft_59 m) 100 (nI l) (bh v w) = _
      unfold f_M_keepDraft_59b
      simp only [hN0, hN1, bd1_q]
      rw [hv, if_neg (fun z => by have := (nI_leI (by omega) (by omega)).mp z; omega), rd_nI (by omega) (by decide), bd1_s, wr_nI (by omega) (by decide), bd1_s]
      simp only [hN0, hN1, bd1_q]
      rw [rd_nI (by omega) (by decide), bd1_s, wr_nI (by omega) (by decide), bd1_s]
      simp only [hN0, hN1, bd1_q]
      rw [rd_nI (by omega) (by decide), bd1_s, wr_nI (by omega) (by decide), bd1_s, u2_o (show 111 ≠ 104 by decide), u2_o (show 111 ≠ 103 by decide), u2_o (show 110 ≠ 103 by decide), nI_1]
      exact e1
    · by_cases z : j = l
      · have := e6 j (by omega)
        rw [this.1, this.2.1, this.2.2, z]
        simp [u2_ap]
      · have := e5 j (by omega) b
        rw [this.1, this.2.1, this.2.2]
        simp [u2_ap]
    · have := e6 j (by omega)
      rw [this.1, this.2.1, this.2.2]
      simp [u2_ap, show ¬ j = l by omega]
    · have := e7 j a
      rw [this.1, this.2]
      simp [u2_ap]
theorem pw_m1 : ∀ n, n ≤ 5 → ((1 : Int32) <<< (nI n &&& 31)) - (1 : Int32) = nI (2 ^ n - 1) := by decide +kernel
theorem M_keepDraft (hS : MS σ v) (hI : SI σ) : ∃ v', f_M_keepDraft 100 (bh v w) = some (bh v' w) ∧ MR (fin σ) v' ∧ v' 102 0 = 0 ∧ v' 102 1 = 0 ∧ (∀ q, q < 100 ∨ 107 < q → v' q = v q) ∧ ∀ j, j ≠ 2 → j ≠ 3 → v' 100 j = v 100 j := by
  have hI' := hI
  obtain ⟨⟨a1, a2, a3, a4, a5, a6, a7, a8⟩, b, c', d, e, g, k⟩ := hI'
  have key : ∀ (n fuel i : Nat) (u : Nat → Nat → Int32), n < fuel → i + n = 66 → (∀ q, q ≠ 101 → u q = v q) → (∀ j, j < i → u 101 j = v 108 j) → ∃ v', f_M_keepDraft_2 fuel 100 (nI i) (bh u w) = some (bh v' w) ∧ MR (fin σ) v' ∧ v' 102 0 = 0 ∧ v' 102 1 = 0 ∧ (∀ q, q < 100 ∨ 107 < q → v' q = v q) ∧ ∀ j, j ≠ 2 → j ≠ 3 → v' 100 j = v 100 j := by
    intro n
    induction n with
    | zero =>
      intro fuel i u hf hi hq hj
      obtain ⟨m, rfl⟩ : ∃ m, fuel = m + 1 := ⟨fuel - 1, by omega⟩
      have u10 : u 100 10 = nI (σ 0 0) := (congrFun (hq 100 (by decide)) 10).trans hS.1.1
      have u11 : u 100 11 = nI (σ 0 1) := (congrFun (hq 100 (by decide)) 11).trans hS.1.2.1
      obtain ⟨v', e1, e2, e3, e4, e5, -, e7⟩ := M_kd59 (w := w) a1 a2 (σ 0 0) FU 0 (u2 (u2 (u2 u 100 2 (nI (σ 0 0))) 100 3 (nI (σ 0 1))) 101 10 (nI (2 ^ σ 0 0 - 1))) (by unfold FU; omega) (by omega) (by simp [u2_ap]) (by simp [u2_ap])
      refine ⟨v', ?_, ?_, e2, e3, fun q a => ?_, fun j a b => ?_⟩
      · show f_M_keepDraft_2b (f_M_keepDraft_2 m) 100 (nI i) (bh u w) = _
        unfold f_M_keepDraft_2b
        rw [show (66 : Int32) = nI 66 from rfl, if_pos ((nI_leI (by omega) (by omega)).mpr (by omega))]
        simp only [hN0, hN1, bd1_q]
        rw [u2_n (show 2 ≠ 3 by decide), u2_at, u2_n (show 11 ≠ 2 by decide), u10, u11, pw_m1 _ a1, show (10 : Int32) = nI 10 from rfl, wr_nI (by decide) (by decide), bd1_s]
        exact e1
      · have w101 : ∀ j, j < 66 → j ≠ 10 → v' 101 j = v 108 j := fun j h1 h2 => by
          rw [e4 101 (by decide), u2_n h2, u2_o (by decide), u2_o (by decide)]; exact hj j (by omega)
        refine ⟨⟨?_, ?_, fun l hl => ?_, fun p hp => ?_⟩, ?_⟩
        · rw [e4 100 (by decide), u2_o (by decide), u2_n (by decide), u2_at]; rfl
        · rw [e4 100 (by decide), u2_o (by decide), u2_at]; rfl
        · have hl : l < σ 0 0 := hl
          have x := e5 l (Nat.zero_le _) hl
          have y := hS.2.1 l hl
          rw [x.1, x.2.1, x.2.2]
          simp [u2_ap]
          rw [hq 109 (by decide), hq 110 (by decide), hq 111 (by decide)]
          exact ⟨y.2.1, y.2.2.1, y.2.2.2.1⟩
        · have hp : p < σ 0 1 := hp
          have x := e7 p hp
          have y := hS.2.2.2.1 p hp
          rw [x.1, x.2]
          simp [u2_ap]
          rw [hq 112 (by decide), hq 113 (by decide)]
          exact ⟨y.2.1, y.2.2.1⟩
        · unfold MB fin
          simp [up2_ap, a3, a4, a6, e]
          refine ⟨fun l hl => ?_, fun l hl => ?_, ?_, ?_, fun p hp => ?_, fun p hp => ?_, fun p hp => ?_, fun p hp => ?_, fun p l hp hl => ?_, ?_, ?_, ?_⟩
          · rw [w101 l (by omega) (by omega)]; exact (hS.2.1 l hl).1
          · rw [w101 _ (by omega) (by omega)]; exact (hS.2.1 l hl).2.2.2.2
          · rw [e4 101 (by decide), u2_at]
          · rw [w101 _ (by omega) (by omega)]; exact hS.1.2.2.2.2
          · rw [w101 _ (by omega) (by omega)]; exact (hS.2.2.2.1 p hp).1
          · rw [w101 _ (by omega) (by omega)]; exact (hS.2.2.2.1 p hp).2.2.2
          · rw [w101 _ (by omega) (by omega)]; exact (hS.2.2.2.2.1 p (by omega)).1
          · rw [w101 _ (by omega) (by omega)]; exact (hS.2.2.2.2.1 p (by omega)).2
          · rw [w101 _ (by omega) (by omega)]; exact hS.2.2.2.2.2 _ (by omega) (by omega)
          · rw [w101 _ (by omega) (by omega)]; exact hS.2.2.2.2.2 _ (by omega) (by omega)
          · rw [w101 _ (by omega) (by omega)]; exact hS.2.2.2.2.2 _ (by omega) (by omega)
          · rw [w101 _ (by omega) (by omega)]; exact hS.2.2.2.2.2 _ (by omega) (by omega)
      · rw [e4 q (by omega), u2_o (by omega), u2_o (by omega), u2_o (by omega)]; exact hq q (by omega)
      · rw [e4 100 (by decide), u2_o (by decide), u2_n b, u2_n a, hq 100 (by decide)]
    | succ n ih =>
      intro fuel i u hf hi hq hj
      obtain ⟨m, rfl⟩ : ∃ m, fuel = m + 1 := ⟨fuel - 1, by omega⟩
      obtain ⟨v', e1, e2⟩ := ih m (i + 1) (u2 u 101 i (u 108 i)) (by omega) (by omega) (fun q a => (u2_o a).trans (hq q a)) (fun j a => by
        by_cases z : j = i
        · rw [z, u2_at, hq 108 (by decide)]
        · rw [u2_n z]; exact hj j (by omega))
      refine ⟨v', ?_, e2⟩
      show f_M_keepDraft_2b (f_M_keepDraft_2 m) 100 (nI i) (bh u w) = _
      unfold f_M_keepDraft_2b
      rw [show (66 : Int32) = nI 66 from rfl, if_neg (fun z => by have := (nI_leI (by omega) (by omega)).mp z; omega)]
      simp only [hN0, hN1, bd1_q]
      rw [rd_nI (by omega) (by decide), bd1_s, wr_nI (by omega) (by decide), bd1_s, nI_1]
      exact e1
  exact key 66 FU 0 v (by decide) (by decide) (fun _ _ => rfl) (fun j hj => by omega)
theorem M_textL : ∀ (n fuel c : Nat) (σ : Rho) (P : Nat) (v : Nat → Nat → Int32), n + 1 < fuel → K.1 ≤ P + n → MT K v → v 100 25 = 0 → MTk K P v → MS σ v → SI σ → ∃ c' v', f_M_text_20 fuel 100 (nI c) (bh v w) = f_M_text_44 100 (nI c') (bh v' w) ∧ FrD v v' ∧ MX (sLines K n σ P c) (fun x v' => c' = x.2 ∧ MS x.1 v' ∧ SI x.1 ∧ v' 100 22 = nI K.1) v' := by
  intro n
  have ends : ∀ (m c : Nat) (P : Nat) (v : Nat → Nat → Int32), kD K P = 0 → v 100 25 = 0 → MTk K P v → f_M_text_20 (m + 1) 100 (nI c) (bh v w) = f_M_text_44 100 (nI c) (bh v w) ∧ v 100 22 = nI K.1 := by
    intro m c P v hz h25 hk
    have s1 := sT_b hk.1
    have s2 := (kc_s (K := K) (s := sT K P)).1.mp hz
    refine ⟨?_, by rw [hk.2.2.1, show sT K P = K.1 by omega]⟩
    show f_M_text_20b (f_M_text_20 m) 100 (nI c) (bh v w) = _
    unfold f_M_text_20b
    simp only [hN0, bd1_q]
    rw [h25, if_pos rfl, hk.2.2.2.1, hz, if_pos (show nI 0 = 0 from rfl)]
  have flt : ∀ (m c : Nat) (f : Fa) (v : Nat → Nat → Int32), FL f v → f_M_text_20 (m + 1) 100 (nI c) (bh v w) = f_M_text_44 100 (nI c) (bh v w) := by
    intro m c f v hF
    have := hF.2.2
    show f_M_text_20b (f_M_text_20 m) 100 (nI c) (bh v w) = _
    unfold f_M_text_20b
    simp only [hN0, bd1_q]
    rw [hF.1, if_neg (nI_ne0 (by omega) (by omega))]
  induction n with
  | zero =>
    intro fuel c σ P v hf hP hT h25 hk hS hI
    obtain ⟨m, rfl⟩ : ∃ m, fuel = m + 1 := ⟨fuel - 1, by omega⟩
    have s1 := sT_b hk.1
    have hz : kD K P = 0 := (kc_s (K := K) (s := sT K P)).1.mpr (by omega)
    obtain ⟨e1, e2⟩ := ends m c P v hz h25 hk
    exact ⟨c, v, e1, FrD.rf v, h25, rfl, hS, hI, e2⟩
  | succ n ih =>
    intro fuel c σ P v hf hP hT h25 hk hS hI
    obtain ⟨m, rfl⟩ : ∃ m, fuel = m + 1 + 1 := ⟨fuel - 2, by omega⟩
    have k4 := (kc_s (K := K) (s := sT K P)).2.2.2.2
    have ek : kD K P = kc K (sT K P) := rfl
    unfold sLines
    by_cases hz : kD K P = 0
    · obtain ⟨e1, e2⟩ := ends (m + 1) c P v hz h25 hk
      rw [if_pos hz]
      exact ⟨c, v, e1, FrD.rf v, h25, rfl, hS, hI, e2⟩
    · rw [if_neg hz]
      obtain ⟨v1, e1, f1, x1⟩ := M_readLine (w := w) hT hk h25 hS hI
      have go : f_M_text_20 (m + 1 + 1) 100 (nI c) (bh v w) = f_M_text_20 (m + 1) 100 (nI (c + 1)) (bh v1 w) := by
        show f_M_text_20b (f_M_text_20 (m + 1)) 100 (nI c) (bh v w) = _
        unfold f_M_text_20b
        simp only [hN0, bd1_q]
        rw [h25, if_pos rfl, hk.2.2.2.1, if_neg (nI_ne0 (by omega) (by omega)), e1, bd1_s, nI_1]
      rw [go]
      clear e1
      cases hX : sLine K σ P with
      | inl f =>
        rw [hX] at x1
        exact ⟨c + 1, v1, flt m (c + 1) f v1 x1, f1, x1⟩
      | inr y =>
        rw [hX, sb_r] at x1
        obtain ⟨yI, yP, yL⟩ := sLine_ok hX hI hk.1
        rw [sb_r]
        cases hY : tokX K y.2 with
        | inl f =>
          rw [hY] at x1
          exact ⟨c + 1, v1, flt m (c + 1) f v1 x1, f1, x1⟩
        | inr u =>
          rw [hY] at x1
          obtain ⟨b25, bk, bS⟩ := x1
          obtain ⟨c', v2, e2, f2, x2⟩ := ih (m + 1) (c + 1) y.1 y.2 v1 (by omega) (by omega) (hT.fD f1) b25 bk bS yI
          exact ⟨c', v2, e2, f1.tr f2, x2⟩
theorem cI_le5 : ∀ m, m ≤ 5 → ∀ h, h ≤ 5 → (nI m ≤ cI h ↔ m + 1 ≤ h) := by decide +kernel
/-- the reference's text() -/
theorem M_text (hT : MT K v) : ∃ r v', f_M_text 100 (bh v w) = some (r, bh v' w) ∧ v' 100 20 = 0 ∧ match sText K with
    | .inl f => (r = ((-10) : Int32) - nI f.2 ∧ v' 100 25 = nI f.1 ∧ f.1 ≤ 6) ∧ (∀ q, q < 100 ∨ 100 < q ∧ q < 108 ∨ 113 < q → v' q = v q) ∧ ∀ j, j < 10 ∨ 26 < j → v' 100 j = v 100 j
    | .inr x => r = nI x.2 ∧ v' 100 25 = 0 ∧ MR (fin x.1) v' ∧ v' 102 0 = 0 ∧ v' 102 1 = 0 ∧ (∀ q, q < 100 ∨ 113 < q → v' q = v q) ∧ ∀ j, 26 < j → v' 100 j = v 100 j := by
  unfold f_M_text f_M_text_0 sText
  simp only [hN0, bd1_q]
  obtain ⟨v1, e1, S1, q1, j1⟩ := M_firstDraft (v := u2 (u2 v 100 25 0) 100 21 0) (w := w)
  rw [e1]
  simp only [hN0, bd1_q]
  have D1 : FrD v v1 := (((FrD.rf v).u (k := 25) (x := 0) (by decide)).u (k := 21) (x := 0) (by decide)).tr ⟨fun q hq => q1 q (by omega) (by omega), fun j hj => j1 j (by omega) (by omega) (by omega) (by omega)⟩
  have a25 : v1 100 25 = 0 := by rw [j1 25 (by decide) (by decide) (by decide) (by decide)]; simp [u2_ap]
  have a21 : v1 100 21 = nI 0 := by rw [j1 21 (by decide) (by decide) (by decide) (by decide)]; simp [u2_ap]; rfl
  have T1 := hT.fD D1
  obtain ⟨v2, e2, f2, x2⟩ := M_next (w := w) T1 a25 a21 (Nat.zero_le _)
  rw [e2, bd1_s]
  clear e1 e2
  have D2 := D1.tr f2.d
  have S2 : MS (fun _ _ => 0) v2 := S1.fN (show 0 ≤ 5 by decide) f2
  have lp : ∃ c' v3, f_M_text_20 FU 100 0 (bh v2 w) = f_M_text_44 100 (nI c') (bh v3 w) ∧ FrD v v3 ∧ MX (sb (tokX K 0) fun _ => sLines K 160 (fun _ _ => 0) 0 0) (fun x v' => c' = x.2 ∧ MS x.1 v' ∧ SI x.1 ∧ v' 100 22 = nI K.1) v3 := by
    cases hX : tokX K 0 with
    | inl f =>
      rw [hX] at x2
      have F : FL f v2 := x2
      have := F.2.2
      refine ⟨0, v2, ?_, D2, F⟩
      show f_M_text_20b (f_M_text_20 599) 100 (nI 0) (bh v2 w) = _
      unfold f_M_text_20b
      simp only [hN0, bd1_q]
      rw [F.1, if_neg (nI_ne0 (by omega) (by omega))]
    | inr u =>
      rw [hX] at x2
      obtain ⟨b25, bk⟩ := x2
      obtain ⟨c', v3, e3, f3, x3⟩ := M_textL (w := w) 160 FU 0 (fun _ _ => 0) 0 v2 (by decide) (by have := hT.2.1; omega) (T1.fN f2) b25 bk S2 SI_0
      exact ⟨c', v3, e3, D2.tr f3, x3⟩
  obtain ⟨c', v3, e3, D3, x3⟩ := lp
  rw [e3]
  rw [show (sb (tokX K 0) fun _ => sb (sLines K 160 (fun _ _ => 0) 0 0) fun x => sEnd K x) = sb (sb (tokX K 0) fun _ => sLines K 160 (fun _ _ => 0) 0 0) fun x => sEnd K x from (sb_as _ _ _).symm]
  generalize (sb (tokX K 0) fun _ => sLines K 160 (fun _ _ => 0) 0 0) = X at x3 ⊢
  have t84 : ∀ (f : Fa) (u : Nat → Nat → Int32), FL f u → FrD v u → ∃ r v', f_M_text_84 100 (nI c') (bh u w) = some (r, bh v' w) ∧ v' 100 20 = 0 ∧ (r = ((-10) : Int32) - nI f.2 ∧ v' 100 25 = nI f.1 ∧ f.1 ≤ 6) ∧ (∀ q, q < 100 ∨ 100 < q ∧ q < 108 ∨ 113 < q → v' q = v q) ∧ ∀ j, j < 10 ∨ 26 < j → v' 100 j = v 100 j := by
    intro f u hF hD
    have := hF.2.2
    unfold f_M_text_84
    simp only [hN0, bd1_q]
    rw [u2_n (show 25 ≠ 20 by decide), u2_n (show 26 ≠ 20 by decide), hF.1, hF.2.1, if_neg (nI_nle (by omega) (by omega))]
    exact ⟨_, _, rfl, u2_at _ _ _ _, ⟨rfl, (u2_n (by decide)).trans hF.1, hF.2.2.2⟩, fun q hq => (u2_o (by omega)).trans (hD.1 q hq), fun j hj => (u2_n (by omega)).trans (hD.2 j (by omega))⟩
  unfold f_M_text_44 f_M_text_78 f_M_text_79
  simp only [hN0, bd1_q]
  cases X with
  | inl f =>
    have F : FL f v3 := x3
    have := F.2.2
    rw [F.1, if_neg (nI_ne0 (by omega) (by omega))]
    exact t84 f v3 F D3
  | inr x =>
    obtain ⟨b25, rfl, bS, bI, b22⟩ := x3
    have h0 := bI.1.1
    have h1 := bI.1.2.1
    have h7 := bI.1.2.2.2.2.2.2.1
    have h8 := bI.1.2.2.2.2.2.2.2
    rw [b25, if_pos rfl, bS.1.2.2.1, bS.1.1, bS.1.2.2.2.1, bS.1.2.1, ite_iff (cI_le5 _ h0 _ h7), ite_iff (cI_le5 _ (by omega) _ (by omega)), sb_r, M_needs0 b25, M_needs1]
    simp only [bd1_q]
    unfold sEnd
    have F : FL (6, K.1) (u2 (u2 v3 100 25 6) 100 26 (v3 100 22)) := ⟨by simp [u2_ap]; rfl, by simp [u2_ap]; exact b22, show 1 ≤ 6 by decide, show 6 ≤ 6 by decide⟩
    have bad := t84 (6, K.1) _ F ((D3.u (by decide)).u (by decide))
    by_cases g1 : x.1 0 0 + 1 ≤ x.1 17 0
    · rw [if_pos g1, if_neg (fun z => by omega)]
      exact bad
    · rw [if_neg g1]
      by_cases g2 : x.1 0 1 + 1 ≤ x.1 17 1
      · rw [if_pos g2, if_neg (fun z => by omega)]
        exact bad
      · rw [if_neg g2, if_pos ⟨by omega, by omega⟩]
        unfold f_M_text_84
        simp only [hN0, bd1_q]
        have S4 : MS x.1 (u2 v3 100 20 0) := bS.put h0 (by unfold rdS; omega)
        obtain ⟨v5, e5, R5, k0, k1, q5, j5⟩ := M_keepDraft (w := w) S4 bI
        rw [u2_n (show 25 ≠ 20 by decide), b25, if_pos (by decide), e5, bd1_s]
        refine ⟨_, v5, rfl, ?_, rfl, ?_, R5, k0, k1, fun q hq => ?_, fun j hj => ?_⟩
        · rw [j5 20 (by decide) (by decide), u2_at]
        · rw [j5 25 (by decide) (by decide), u2_n (by decide)]; exact b25
        · rw [q5 q (by omega), u2_o (by omega)]; exact D3.1 q (by omega)
        · rw [j5 j (by omega) (by omega), u2_n (by omega)]; exact D3.2 j (by omega)
end
end
/-! 8xi.texti.lean.txt -/
section
theorem upX_ap (X : Nat → Nat → Int) (f i : Nat) (x : Int) (g j : Nat) : upX X f i x g j = if g = f ∧ j = i then x else X g j := by
  by_cases h : g = f
  · subst h
    by_cases k : j = i
    · subst k
      rw [upX_at, if_pos ⟨rfl, rfl⟩]
    · rw [upX_n k, if_neg (fun z => k z.2)]
  · rw [upX_f h, if_neg (fun z => h z.1)]
section
variable {S : Sg} {v v1 v2 : Nat → Nat → Int32} {w : Nat → Nat → Int64}
theorem CI_tx {ρ : Rho} {X : Nat → Nat → Int} (h : CI S v) (hq : ∀ q, q ≠ 1 → q ≠ 38 → q < 3 ∨ 37 ≤ q ∧ q < 100 → v2 q = v q) (hR : CR 3 ρ v2) (e0 : X 0 0 = 0) (e2 : v2 1 2 = zI (X 2 0)) (e1 : v2 1 1 = 0) (ek : ∀ k, k < 2 → v2 38 k = zI (X 3 k) ∧ (X 3 k = 1 → S.2.2 3 k = 1)) (e4 : ∀ f, 4 ≤ f → X f = S.2.2 f) : CI (ρ, S.2.1, X) v2 := by
  obtain ⟨h1, h2, h3, h4, h5, h6, h7⟩ := h
  refine ⟨hR, fun k hk => ⟨(ek k hk).1, fun z => ((h2 k hk).2 ((ek k hk).2 z)).frame (fun p _ _ => hq p (by omega) (by omega) (by omega))⟩, ?_, fun j hj => ?_, e2, fun k hk => ?_, ?_⟩
  · show v2 1 1 = zI (X 0 0)
    rw [e1, e0]; rfl
  · have hj : (j : Int) < X 0 0 := hj
    rw [e0] at hj
    omega
  · show v2 (92 + 2 * k) 0 = zI (if X 4 k = -4 then -4 else X 5 k) ∧ (X 4 k ≠ -4 → v2 (92 + 2 * k) 1 = zI (X 4 k)) ∧ ∀ i, i < 40 → v2 (93 + 2 * k) i = zI (X 6 (40 * k + i))
    rw [e4 4 (by omega), e4 5 (by omega), e4 6 (by omega), hq (92 + 2 * k) (by omega) (by omega) (by omega), hq (93 + 2 * k) (by omega) (by omega) (by omega)]
    exact h6 k hk
  · show v2 0 9 = zI (X 7 0) ∧ v2 43 0 = 0
    rw [e4 7 (by omega), hq 0 (by omega) (by omega) (by omega), hq 43 (by omega) (by omega) (by omega)]
    exact h7
theorem MI_tx {ρ : Rho} {X : Nat → Nat → Int} (h : MI S v) (hq : ∀ q, 113 < q → v2 q = v q) (hR : MR ρ v2) (e0 : X 0 0 = 0) (e2 : v2 100 25 = zI (X 2 0)) (e1 : v2 100 20 = 0) (ek : ∀ k, k < 2 → v2 102 k = zI (X 3 k) ∧ (X 3 k = 1 → S.2.2 3 k = 1 ∧ v2 101 = v 101)) (e4 : ∀ f, 4 ≤ f → X f = S.2.2 f) (e38 : v2 100 38 = v 100 38) : MI (ρ, S.2.1, X) v2 := by
  obtain ⟨h1, h2, h3, h4, h5, h6, h7⟩ := h
  refine ⟨hR, fun k hk => ⟨(ek k hk).1, fun z => ((h2 k hk).2 ((ek k hk).2 z).1).frame ((ek k hk).2 z).2⟩, ?_, fun j hj => ?_, e2, fun k hk => ?_, ?_⟩
  · show v2 100 20 = zI (X 0 0)
    rw [e1, e0]; rfl
  · have hj : (j : Int) < X 0 0 := hj
    rw [e0] at hj
    omega
  · show v2 123 k = zI (X 4 k) ∧ v2 124 k = zI (X 5 k) ∧ ∀ i, i < 40 → v2 125 (40 * k + i) = zI (X 6 (40 * k + i))
    rw [e4 4 (by omega), e4 5 (by omega), e4 6 (by omega), hq 123 (by omega), hq 124 (by omega), hq 125 (by omega)]
    exact h6 k hk
  · show v2 100 38 = zI (X 8 0)
    rw [e4 8 (by omega), e38]
    exact h7
theorem E_text (hs : SOK S) (hc : CI S v) (hm : MI S v) : Eqv S v w (f_Q_text 0) (f_M_text 100) := by
  have hs' := hs
  obtain ⟨hR, hK, hL, hB, hF, hSh⟩ := hs'
  obtain ⟨n, hn⟩ : ∃ n : Nat, S.2.2 0 0 = n := ⟨(S.2.2 0 0).toNat, by omega⟩
  have ej : ∀ j : Nat, j < n → zI (S.2.2 1 j) = nI (S.2.2 1 j).toNat ∧ (S.2.2 1 j).toNat ≤ 127 := by
    intro j hj
    have b := hB j (by omega)
    refine ⟨?_, by omega⟩
    rw [← zI_n, Int.toNat_of_nonneg b.1]
  have T : CT (n, fun j => (S.2.2 1 j).toNat) v := ⟨by rw [hc.2.2.1, hn]; exact zI_n n, by show n ≤ 160; omega, fun j hj => ⟨by rw [hc.2.2.2.1 j (by rw [hn]; exact Int.ofNat_lt.mpr hj)]; exact (ej j hj).1, (ej j hj).2⟩⟩
  have TM : MT (n, fun j => (S.2.2 1 j).toNat) v := ⟨by rw [hm.2.2.1, hn]; exact zI_n n, by show n ≤ 160; omega, fun j hj => ⟨by rw [hm.2.2.2.1 j (by rw [hn]; exact Int.ofNat_lt.mpr hj)]; exact (ej j hj).1, (ej j hj).2⟩⟩
  generalize ((n, fun j => (S.2.2 1 j).toNat) : Tp) = K at T TM
  obtain ⟨r, v1, e1, l1, x1⟩ := C_text (w := w) T
  have hi1 : ∀ q, 100 ≤ q → v1 q = v q := by
    intro q hq
    cases hX : sText K with
    | inl f => rw [hX] at x1; exact x1.2.2 q (by omega) (by omega)
    | inr y => rw [hX] at x1; exact x1.2.2.2.2.2.2 q (by omega) (by omega) (by omega)
  have hm1 : MI S v1 := hm.frame hi1
  have TM1 : MT K v1 := TM.fr (by rw [hi1 100 (by omega)]) (hi1 114 (by omega))
  obtain ⟨r', v2, e2, l2, x2⟩ := M_text (w := w) TM1
  cases hX : sText K with
  | inl f =>
    rw [hX] at x1 x2
    obtain ⟨y1, y2, y3⟩ := x1
    obtain ⟨⟨z1, z2, z3⟩, z4, z5⟩ := x2
    rw [z1, ← y1] at e2
    have lo : ∀ q, q ≠ 1 → q < 20 ∨ 37 ≤ q ∧ q < 100 → v2 q = v q := fun q a b => (z4 q (by omega)).trans (y3 q a (by omega))
    refine ⟨r, v1, w, v2, w, (S.1, S.2.1, upX (upX S.2.2 0 0 0) 2 0 (f.1 : Int)), e1, e2, ?_, ?_, ?_⟩
    · refine ⟨hR, fun k hk => ?_, ?_, fun j hj => ?_, ?_, fun k hk => ?_⟩
      · show upX (upX S.2.2 0 0 0) 2 0 (f.1 : Int) 3 k = 0 ∨ upX (upX S.2.2 0 0 0) 2 0 (f.1 : Int) 3 k = 1 ∧ _
        rw [upX_f (by decide), upX_f (by decide)]
        exact hK k hk
      · show 0 ≤ upX (upX S.2.2 0 0 0) 2 0 (f.1 : Int) 0 0 ∧ upX (upX S.2.2 0 0 0) 2 0 (f.1 : Int) 0 0 ≤ 160
        rw [upX_f (by decide), upX_at]
        omega
      · have hj : (j : Int) < upX (upX S.2.2 0 0 0) 2 0 (f.1 : Int) 0 0 := hj
        rw [upX_f (by decide), upX_at] at hj
        omega
      · show 0 ≤ upX (upX S.2.2 0 0 0) 2 0 (f.1 : Int) 2 0 ∧ upX (upX S.2.2 0 0 0) 2 0 (f.1 : Int) 2 0 ≤ 6
        rw [upX_at]
        omega
      · show (upX (upX S.2.2 0 0 0) 2 0 (f.1 : Int) 4 k = -4 ∨ 0 ≤ upX (upX S.2.2 0 0 0) 2 0 (f.1 : Int) 4 k ∧ upX (upX S.2.2 0 0 0) 2 0 (f.1 : Int) 4 k ≤ 2) ∧ 0 ≤ upX (upX S.2.2 0 0 0) 2 0 (f.1 : Int) 5 k ∧ upX (upX S.2.2 0 0 0) 2 0 (f.1 : Int) 5 k ≤ 40
        rw [upX_f (show 4 ≠ 2 by decide), upX_f (show 4 ≠ 0 by decide), upX_f (show 5 ≠ 2 by decide), upX_f (show 5 ≠ 0 by decide)]
        exact hSh k hk
    · refine CI_tx hc (fun q a b c => lo q a (by omega)) (hc.1.frame (fun p a b => lo p (by omega) (by omega))) ?_ ?_ ?_ (fun k hk => ?_) (fun g hg => ?_)
      · rw [upX_f (by decide), upX_at]
      · rw [upX_at, z4 1 (by decide), y2, zI_n]
      · rw [z4 1 (by decide)]; exact l1
      · rw [upX_f (show 3 ≠ 2 by decide), upX_f (show 3 ≠ 0 by decide), lo 38 (by decide) (by decide)]
        exact ⟨(hc.2.1 k hk).1, fun z => z⟩
      · rw [upX_f (by omega), upX_f (by omega)]
    · have hf : MR S.1 v2 := by
        have hr := hm1.1
        unfold MR MF MB at hr ⊢
        rw [z5 2 (by decide), z5 3 (by decide), z4 101 (by decide), z4 103 (by decide), z4 104 (by decide), z4 105 (by decide), z4 106 (by decide), z4 107 (by decide)]
        exact hr
      refine MI_tx hm1 (fun q a => z4 q (by omega)) hf ?_ ?_ l2 (fun k hk => ?_) (fun g hg => ?_) (z5 38 (by decide))
      · rw [upX_f (by decide), upX_at]
      · rw [upX_at, z2, zI_n]
      · rw [upX_f (show 3 ≠ 2 by decide), upX_f (show 3 ≠ 0 by decide), z4 102 (by decide)]
        exact ⟨(hm1.2.1 k hk).1, fun z => ⟨z, z4 101 (by decide)⟩⟩
      · rw [upX_f (by omega), upX_f (by omega)]
  | inr y =>
    rw [hX] at x1 x2
    obtain ⟨y1, y2, y3, y4, y5, ⟨yI, ya, yb⟩, y6⟩ := x1
    obtain ⟨z1, z2, z3, z4, z5, z6, z7⟩ := x2
    rw [z1, ← y1] at e2
    have lo : ∀ q, q ≠ 1 → q ≠ 38 → q < 3 ∨ 37 ≤ q ∧ q < 100 → v2 q = v q := fun q a b c => (z6 q (by omega)).trans (y6 q a b (by omega))
    have xk : ∀ k, k < 2 → upX (upX (upX (upX S.2.2 0 0 0) 2 0 0) 3 0 0) 3 1 0 3 k = 0 := by
      intro k hk
      rcases (show k = 0 ∨ k = 1 by omega) with rfl | rfl
      · rw [upX_n (by decide), upX_at]
      · rw [upX_at]
    refine ⟨r, v1, w, v2, w, (fin y.1, S.2.1, upX (upX (upX (upX S.2.2 0 0 0) 2 0 0) 3 0 0) 3 1 0), e1, e2, ?_, ?_, ?_⟩
    · refine ⟨ROK_fin yI ya yb, fun k hk => Or.inl (xk k hk), ?_, fun j hj => ?_, ?_, fun k hk => ?_⟩
      · show 0 ≤ upX (upX (upX (upX S.2.2 0 0 0) 2 0 0) 3 0 0) 3 1 0 0 0 ∧ upX (upX (upX (upX S.2.2 0 0 0) 2 0 0) 3 0 0) 3 1 0 0 0 ≤ 160
        rw [upX_f (by decide), upX_f (by decide), upX_f (by decide), upX_at]
        omega
      · have hj : (j : Int) < upX (upX (upX (upX S.2.2 0 0 0) 2 0 0) 3 0 0) 3 1 0 0 0 := hj
        rw [upX_f (by decide), upX_f (by decide), upX_f (by decide), upX_at] at hj
        omega
      · show 0 ≤ upX (upX (upX (upX S.2.2 0 0 0) 2 0 0) 3 0 0) 3 1 0 2 0 ∧ upX (upX (upX (upX S.2.2 0 0 0) 2 0 0) 3 0 0) 3 1 0 2 0 ≤ 6
        rw [upX_f (by decide), upX_f (by decide), upX_at]
        omega
      · show (upX (upX (upX (upX S.2.2 0 0 0) 2 0 0) 3 0 0) 3 1 0 4 k = -4 ∨ 0 ≤ upX (upX (upX (upX S.2.2 0 0 0) 2 0 0) 3 0 0) 3 1 0 4 k ∧ upX (upX (upX (upX S.2.2 0 0 0) 2 0 0) 3 0 0) 3 1 0 4 k ≤ 2) ∧ 0 ≤ upX (upX (upX (upX S.2.2 0 0 0) 2 0 0) 3 0 0) 3 1 0 5 k ∧ upX (upX (upX (upX S.2.2 0 0 0) 2 0 0) 3 0 0) 3 1 0 5 k ≤ 40
        simp only [upX_ap]
        simp
        have := hSh k hk
        simpa using this
    · refine CI_tx hc (fun q a b c => lo q a b (by omega)) (y3.frame (fun p a b => z6 p (by omega))) ?_ ?_ ?_ (fun k hk => ?_) (fun g hg => ?_)
      · rw [upX_f (by decide), upX_f (by decide), upX_f (by decide), upX_at]
      · rw [upX_f (by decide), upX_f (by decide), upX_at, z6 1 (by decide), y2]; rfl
      · rw [z6 1 (by decide)]; exact l1
      · rw [xk k hk, z6 38 (by decide)]
        refine ⟨?_, fun z => absurd z (by decide)⟩
        rcases (show k = 0 ∨ k = 1 by omega) with rfl | rfl
        · rw [y4]; rfl
        · rw [y5]; rfl
      · rw [upX_f (by omega), upX_f (by omega), upX_f (by omega), upX_f (by omega)]
    · refine MI_tx hm1 (fun q a => z6 q (by omega)) z3 ?_ ?_ l2 (fun k hk => ?_) (fun g hg => ?_) (z7 38 (by decide))
      · rw [upX_f (by decide), upX_f (by decide), upX_f (by decide), upX_at]
      · rw [upX_f (by decide), upX_f (by decide), upX_at, z2]; rfl
      · rw [xk k hk]
        refine ⟨?_, fun z => absurd z (by decide)⟩
        rcases (show k = 0 ∨ k = 1 by omega) with rfl | rfl
        · rw [z4]; rfl
        · rw [z5]; rfl
      · rw [upX_f (by omega), upX_f (by omega), upX_f (by omega), upX_f (by omega)]
end
end
end
