/-! 8w.rota3.lean.txt -/
section
section
variable {ρ : Rho} {v : Nat → Nat → Int32} {w : Nat → Nat → Int64} {T : Nat → Nat} {s A B C : Nat}
theorem M_bLoop (hk : ROK ρ) (hA : A < 16) (hB : B < 16) (hC : C < 16) (rec5 : Nat → Int32 → mH → Option (Int32 × mH)) (rec11 : Nat → Int32 → Int32 → mH → Option (Int32 × mH)) {l a : Nat} (hl : l ≤ ρ 0 0) (ha : a ≤ A) : ∀ (k fuel b : Nat) (v : Nat → Nat → Int32), k < fuel → b + k = B + 1 → rBase ρ s T A B C v → rP ρ s A B C l a b 0 v → ∃ v', f_M_findRota_23 rec5 rec11 fuel 100 (nI l) (nI a) (nI b) (bh v w) = rec11 100 (nI l) (nI (a + 1)) (bh v' w) ∧ rP ρ s A B C l (a + 1) 0 0 v' ∧ ∀ q, q ≠ 115 → v' q = v q := by
  intro k
  induction k with
  | zero =>
    intro fuel b v hf hbk hb hp
    obtain ⟨n, rfl⟩ : ∃ n, fuel = n + 1 := ⟨fuel - 1, by omega⟩
    refine ⟨v, ?_, fun l' a' b' c' q1 q2 q3 q4 q5 => hp l' a' b' c' q1 q2 q3 q4 (by omega), fun _ _ => rfl⟩
    show f_M_findRota_23b rec5 rec11 (f_M_findRota_23 rec5 rec11 n) 100 (nI l) (nI a) (nI b) (bh v w) = _
    unfold f_M_findRota_23b
    simp only [hM v w, bd1_s]
    have e2 : rd (v 117) 3 (1 : Int32) = some (nI B) := by rw [← hb.2.2.2.1]; rfl
    rw [e2, bd1_s, if_pos ((nI_ltI (by omega) (by omega)).mpr (by omega)), nI_1]
  | succ k ih =>
    intro fuel b v hf hbk hb hp
    obtain ⟨n, rfl⟩ : ∃ n, fuel = n + 1 := ⟨fuel - 1, by omega⟩
    obtain ⟨v1, e1, p1, q1⟩ := M_cLoop (w := w) hk hA hB hC rec5 rec11 (f_M_findRota_23 rec5 rec11 n) hl ha (show b ≤ B by omega) (C + 1) FU 0 v (by unfold FU; omega) (by omega) hb hp
    obtain ⟨v2, e2, p2, q2⟩ := ih n (b + 1) v1 (by omega) (by omega) (hb.frame q1) p1
    refine ⟨v2, ?_, p2, fun q hq => (q2 q hq).trans (q1 q hq)⟩
    show f_M_findRota_23b rec5 rec11 (f_M_findRota_23 rec5 rec11 n) 100 (nI l) (nI a) (nI b) (bh v w) = _
    unfold f_M_findRota_23b
    simp only [hM v w, bd1_s]
    have e3 : rd (v 117) 3 (1 : Int32) = some (nI B) := by rw [← hb.2.2.2.1]; rfl
    rw [e3, bd1_s, if_neg (fun z => by have := (nI_ltI (by omega) (by omega)).mp z; omega)]
    exact e1.trans e2
theorem M_aLoop (hk : ROK ρ) (hA : A < 16) (hB : B < 16) (hC : C < 16) (rec5 : Nat → Int32 → mH → Option (Int32 × mH)) {l : Nat} (hl : l ≤ ρ 0 0) : ∀ (k fuel a : Nat) (v : Nat → Nat → Int32), k < fuel → a + k = A + 1 → rBase ρ s T A B C v → rP ρ s A B C l a 0 0 v → ∃ v', f_M_findRota_11 rec5 fuel 100 (nI l) (nI a) (bh v w) = rec5 100 (nI l + -1) (bh v' w) ∧ rP ρ s A B C l (A + 1) 0 0 v' ∧ ∀ q, q ≠ 115 → v' q = v q := by
  intro k
  induction k with
  | zero =>
    intro fuel a v hf hbk hb hp
    obtain ⟨n, rfl⟩ : ∃ n, fuel = n + 1 := ⟨fuel - 1, by omega⟩
    refine ⟨v, ?_, fun l' a' b' c' q1 q2 q3 q4 q5 => hp l' a' b' c' q1 q2 q3 q4 (by omega), fun _ _ => rfl⟩
    show f_M_findRota_11b rec5 (f_M_findRota_11 rec5 n) 100 (nI l) (nI a) (bh v w) = _
    unfold f_M_findRota_11b
    simp only [hM v w, bd1_s]
    have e2 : rd (v 117) 3 (0 : Int32) = some (nI A) := by rw [← hb.2.2.1]; rfl
    rw [e2, bd1_s, if_pos ((nI_ltI (by omega) (by omega)).mpr (by omega))]
  | succ k ih =>
    intro fuel a v hf hbk hb hp
    obtain ⟨n, rfl⟩ : ∃ n, fuel = n + 1 := ⟨fuel - 1, by omega⟩
    obtain ⟨v1, e1, p1, q1⟩ := M_bLoop (w := w) hk hA hB hC rec5 (f_M_findRota_11 rec5 n) hl (show a ≤ A by omega) (B + 1) FU 0 v (by unfold FU; omega) (by omega) hb hp
    obtain ⟨v2, e2, p2, q2⟩ := ih n (a + 1) v1 (by omega) (by omega) (hb.frame q1) p1
    refine ⟨v2, ?_, p2, fun q hq => (q2 q hq).trans (q1 q hq)⟩
    show f_M_findRota_11b rec5 (f_M_findRota_11 rec5 n) 100 (nI l) (nI a) (bh v w) = _
    unfold f_M_findRota_11b
    simp only [hM v w, bd1_s]
    have e3 : rd (v 117) 3 (0 : Int32) = some (nI A) := by rw [← hb.2.2.1]; rfl
    rw [e3, bd1_s, if_neg (fun z => by have := (nI_ltI (by omega) (by omega)).mp z; omega)]
    exact e1.trans e2
/-- the whole table -/
def rAll (ρ : Rho) (s A B C : Nat) (v : Nat → Nat → Int32) : Prop := ∀ l a b c, l ≤ ρ 0 0 → a ≤ A → b ≤ B → c ≤ C → v 115 (atN l a b c) = nI (rBst ρ s (ρ 0 0 - l) a b c)
theorem M_fLast (hk : ROK ρ) (hA : A < 16) (hB : B < 16) (hC : C < 16) : ∀ (n : Nat) (v : Nat → Nat → Int32), rBase ρ s T A B C v → rAll ρ s A B C v → f_M_findRota_5 (n + 1) 100 (-1) (bh v w) = some (nI (rBst ρ s (ρ 0 0) A B C), bh v w) := by
    have h1 := hk.1.1
    intro n v hb ha
    show f_M_findRota_5b (f_M_findRota_5 n) 100 (-1) (bh v w) = _
    unfold f_M_findRota_5b
    rw [if_pos (by decide)]
    have g27 : gR (bh v w) 100 8 27 = some 115 := rfl
    have g29 : gR (bh v w) 100 8 29 = some 117 := rfl
    have a117 : ∀ i, aI (bh v w) 0 117 i = rd (v 117) 3 i := aI_bh rfl
    have a115 : ∀ i, aI (bh v w) 0 115 i = rd (v 115) 24576 i := aI_bh rfl
    have e0 : rd (v 117) 3 (0 : Int32) = some (nI A) := by rw [← hb.2.2.1]; rfl
    have e1 : rd (v 117) 3 (1 : Int32) = some (nI B) := by rw [← hb.2.2.2.1]; rfl
    have e2 : rd (v 117) 3 (2 : Int32) = some (nI C) := by rw [← hb.2.2.2.2]; rfl
    have eat : f_M_at 0 (nI A) (nI B) (nI C) (bh v w) = some (nI (atN 0 A B C), bh v w) := M_at 0 A B C _
    have hat : atN 0 A B C < 24576 := by
      have : atN 0 A B C = (A * 16 + B) * 16 + C := by unfold atN; rw [Nat.mul_zero, Nat.zero_add]
      omega
    have hal := ha 0 A B C (Nat.zero_le _) (Nat.le_refl _) (Nat.le_refl _) (Nat.le_refl _)
    rw [Nat.sub_zero] at hal
    generalize atN 0 A B C = u at eat hat hal
    rw [g27, bd1_s, g29, bd1_s, a117, e0, bd1_s, bd1_s, a117, e1, bd1_s, bd1_s, a117, e2, bd1_s, eat, bd2_s, a115, rd_nI hat (by decide), bd1_s, hal]
theorem M_fKey (hk : ROK ρ) (hA : A < 16) (hB : B < 16) (hC : C < 16) : ∀ (l fuel : Nat) (v : Nat → Nat → Int32), l + 1 < fuel → l ≤ ρ 0 0 → rBase ρ s T A B C v → rP ρ s A B C l 0 0 0 v → ∃ v', f_M_findRota_5 fuel 100 (nI l) (bh v w) = some (nI (rBst ρ s (ρ 0 0) A B C), bh v' w) ∧ rAll ρ s A B C v' ∧ ∀ q, q ≠ 115 → v' q = v q := by
    have h1 := hk.1.1
    intro l
    induction l with
    | zero =>
      intro fuel v hf hl hb hp
      obtain ⟨n, rfl⟩ : ∃ n, fuel = n + 1 + 1 := ⟨fuel - 2, by omega⟩
      obtain ⟨v1, e1, p1, q1⟩ := M_aLoop (w := w) hk hA hB hC (f_M_findRota_5 (n + 1)) hl (A + 1) FU 0 v (by unfold FU; omega) (by omega) hb hp
      have al : rAll ρ s A B C v1 := fun l a b c z1 z2 z3 z4 => p1 l a b c z1 z2 z3 z4 (by omega)
      refine ⟨v1, ?_, al, q1⟩
      show f_M_findRota_5b (f_M_findRota_5 (n + 1)) 100 (nI 0) (bh v w) = _
      unfold f_M_findRota_5b
      rw [if_neg (by decide)]
      rw [show nI 0 + (-1 : Int32) = -1 by decide] at e1
      exact e1.trans (M_fLast hk hA hB hC n v1 (hb.frame q1) al)
    | succ l ih =>
      intro fuel v hf hl hb hp
      obtain ⟨n, rfl⟩ : ∃ n, fuel = n + 1 := ⟨fuel - 1, by omega⟩
      obtain ⟨v1, e1, p1, q1⟩ := M_aLoop (w := w) hk hA hB hC (f_M_findRota_5 n) hl (A + 1) FU 0 v (by unfold FU; omega) (by omega) hb hp
      obtain ⟨v2, e2, p2, q2⟩ := ih n v1 (by omega) (by omega) (hb.frame q1) (fun l' a b c z1 z2 z3 z4 z5 => p1 l' a b c z1 z2 z3 z4 (by omega))
      refine ⟨v2, ?_, p2, fun q hq => (q2 q hq).trans (q1 q hq)⟩
      show f_M_findRota_5b (f_M_findRota_5 n) 100 (nI (l + 1)) (bh v w) = _
      unfold f_M_findRota_5b
      rw [if_neg (fun z => by have := (nI_ltI (a := l + 1) (b := 0) (by omega) (by omega)).mp z; omega)]
      rw [m1_I l (by omega)] at e1
      exact e1.trans e2
theorem M_findRota (hk : ROK ρ) (hA : A < 16) (hB : B < 16) (hC : C < 16) (hb : rBase ρ s T A B C v) : ∃ v', f_M_findRota 100 (bh v w) = some (nI (rBst ρ s (ρ 0 0) A B C), bh v' w) ∧ rAll ρ s A B C v' ∧ ∀ q, q ≠ 115 → v' q = v q := by
  have h1 := hk.1.1
  obtain ⟨v', e1, p1, q1⟩ := M_fKey (w := w) hk hA hB hC (ρ 0 0) FU v (by unfold FU; omega) (Nat.le_refl _) hb (fun l a b c z1 _ _ _ z5 => by omega)
  refine ⟨v', ?_, p1, q1⟩
  simp only [f_M_findRota, f_M_findRota_0, hM v w, bd1_s]
  rw [hb.1.1.1]
  exact e1
/-- time left, with other TIMES -/
def rL (ρ : Rho) (T : Nat → Nat) (p : Nat) : Nat := if p < ρ 0 1 then T p - sAll ρ p else 0
theorem N_timeLeft (hr : MRt T ρ v) (hk : ROK ρ) {p : Nat} (hp : p < ρ 0 1) (hT : T p ≤ 20) : f_M_timeLeft 100 (nI p) (bh v w) = some (nI (T p - sAll ρ p), bh v w) := by
  have h2 := hk.1.2.1
  have hs : sAll ρ p ≤ 5 := (hk.2.2.1 p hp).2.2.2.2.2.2
  have a12 : v 101 (12 + p) = nI (T p) := by have := hr.2.2.2.2.2.1 p hp; rwa [show 0 + 12 + p = 12 + p by omega] at this
  simp only [f_M_timeLeft, f_M_timeLeft_0, hM v w, bd1_s]
  rw [show (12 : Int32) = nI 12 from rfl, nI_add, rd_nI (by omega) (by decide), bd1_s, a12, N_allBy hr hk hp, bd2_s, ← zI_n (T p), zI_subn]
  by_cases h : sAll ρ p ≤ T p
  · rw [if_pos ((zI_ge (by omega) (by omega)).mpr (by omega)), show ((T p : Nat) : Int) - (sAll ρ p : Nat) = ((T p - sAll ρ p : Nat) : Int) by omega, zI_n]
  · rw [if_neg (fun z => by have := (zI_ge (by omega) (by omega)).mp z; omega), show T p - sAll ρ p = 0 by omega]
    rfl
theorem M_startsRota (hr : MRt T ρ v) (hk : ROK ρ) (hT : ∀ p, p < ρ 0 1 → T p ≤ 20) {s : Nat} (hs : s < 32) : ∃ v', f_M_startsRota 100 (nI s) (bh v w) = some (bh v' w) ∧ rBase ρ s T (rL ρ T 0) (rL ρ T 1) (rL ρ T 2) v' ∧ ∀ q, q ≠ 116 → q ≠ 117 → v' q = v q := by
  have h1 := hk.1.1
  have h2 := hk.1.2.1
  have lf : ∀ (k fuel p : Nat) (v : Nat → Nat → Int32), k < fuel → p + k = 3 → MRt T ρ v → (∀ j, j < p → v 117 j = nI (rL ρ T j)) → ∃ v', f_M_startsRota_42 fuel 100 (nI p) (bh v w) = some (bh v' w) ∧ (∀ j, j < 3 → v' 117 j = nI (rL ρ T j)) ∧ ∀ q, q ≠ 117 → v' q = v q := by
    intro k
    induction k with
    | zero =>
      intro fuel p v hf hp hr hj
      obtain ⟨n, rfl⟩ : ∃ n, fuel = n + 1 := ⟨fuel - 1, by omega⟩
      refine ⟨v, ?_, fun j z => hj j (by omega), fun _ _ => rfl⟩
      simp only [f_M_startsRota_42, f_M_startsRota_42b]
      rw [show (3 : Int32) = nI 3 from rfl, if_pos ((nI_leI (by omega) (by omega)).mpr (by omega))]
    | succ k ih =>
      intro fuel p v hf hp hr hj
      obtain ⟨n, rfl⟩ : ∃ n, fuel = n + 1 := ⟨fuel - 1, by omega⟩
      have nx : ∃ v', f_M_startsRota_42 n 100 (nI (p + 1)) (bh (u2 v 117 p (nI (rL ρ T p))) w) = some (bh v' w) ∧ (∀ j, j < 3 → v' 117 j = nI (rL ρ T j)) ∧ ∀ q, q ≠ 117 → v' q = v q := by
        have hj' : ∀ j, j < p + 1 → u2 v 117 p (nI (rL ρ T p)) 117 j = nI (rL ρ T j) := by
          intro j z
          by_cases e : j = p
          · subst e; rw [u2_at]
          · rw [u2_n e]; exact hj j (by omega)
        obtain ⟨v', e1, e2, e3⟩ := ih n (p + 1) (u2 v 117 p (nI (rL ρ T p))) (by omega) (by omega) (hr.frame (fun q z => u2_o (by omega))) hj'
        exact ⟨v', e1, e2, fun q hq => (e3 q hq).trans (u2_o hq)⟩
      simp only [f_M_startsRota_42, f_M_startsRota_42b, f_M_startsRota_69, hM v w, bd1_s]
      rw [show (3 : Int32) = nI 3 from rfl, if_neg (fun z => by have := (nI_leI (by omega) (by omega)).mp z; omega), hr.1.2.1, ite_iff (nI_leI (by omega) (by omega))]
      by_cases g : ρ 0 1 ≤ p
      · rw [if_pos g, wr_nI (by omega) (by decide), bd1_s, nI_1]
        have e : rL ρ T p = 0 := by unfold rL; rw [if_neg (by omega)]
        rw [e] at nx
        exact nx
      · rw [if_neg g, N_timeLeft hr hk (by omega) (hT p (by omega)), bd2_s]
        simp only [hM v w, bd1_s]
        rw [wr_nI (by omega) (by decide), bd1_s, nI_1]
        have e : rL ρ T p = T p - sAll ρ p := by unfold rL; rw [if_pos (by omega)]
        rw [e] at nx
        exact nx
  have nd : ∀ (k fuel l : Nat) (v : Nat → Nat → Int32), k < fuel → l + k = ρ 0 0 → MRt T ρ v → (∀ j, j < l → v 116 j = nI (rN ρ s j)) → ∃ v', f_M_startsRota_2 fuel 100 (nI s) (nI l) (bh v w) = some (bh v' w) ∧ rBase ρ s T (rL ρ T 0) (rL ρ T 1) (rL ρ T 2) v' ∧ ∀ q, q ≠ 116 → q ≠ 117 → v' q = v q := by
    intro k
    induction k with
    | zero =>
      intro fuel l v hf hl hr hj
      obtain ⟨n, rfl⟩ : ∃ n, fuel = n + 1 := ⟨fuel - 1, by omega⟩
      obtain ⟨v', e1, e2, e3⟩ := lf 3 FU 0 v (by decide) (by omega) hr (fun j z => by omega)
      refine ⟨v', ?_, ⟨hr.frame (fun q z => e3 q (by omega)), fun j z => ?_, e2 0 (by decide), e2 1 (by decide), e2 2 (by decide)⟩, fun q _ hq => e3 q hq⟩
      · simp only [f_M_startsRota_2, f_M_startsRota_2b, hM v w, bd1_s]
        rw [hr.1.1, if_pos (nI_le (by omega) (by omega))]
        exact e1
      · rw [e3 116 (by decide)]; exact hj j (by omega)
    | succ k ih =>
      intro fuel l v hf hl hr hj
      obtain ⟨n, rfl⟩ : ∃ n, fuel = n + 1 := ⟨fuel - 1, by omega⟩
      have hl2 : l < ρ 0 0 := by omega
      have nx : ∃ v', f_M_startsRota_2 n 100 (nI s) (nI (l + 1)) (bh (u2 v 116 l (nI (rN ρ s l))) w) = some (bh v' w) ∧ rBase ρ s T (rL ρ T 0) (rL ρ T 1) (rL ρ T 2) v' ∧ ∀ q, q ≠ 116 → q ≠ 117 → v' q = v q := by
        have hj' : ∀ j, j < l + 1 → u2 v 116 l (nI (rN ρ s l)) 116 j = nI (rN ρ s j) := by
          intro j z
          by_cases e : j = l
          · subst e; rw [u2_at]
          · rw [u2_n e]; exact hj j (by omega)
        obtain ⟨v', e1, e2, e3⟩ := ih n (l + 1) (u2 v 116 l (nI (rN ρ s l))) (by omega) (by omega) (hr.frame (fun q z => u2_o (by omega))) hj'
        exact ⟨v', e1, e2, fun q hq h2 => (e3 q hq h2).trans (u2_o hq)⟩
      simp only [f_M_startsRota_2, f_M_startsRota_2b, f_M_startsRota_33, hM v w, bd1_s]
      rw [hr.1.1, if_neg (nI_ge (by omega) (by omega)), bit_I (by omega) (by omega), ite_iff (nI_eq1 (by have := bit_lt s l; omega))]
      by_cases g : bit s l = 1
      · rw [if_pos g, N_needOf hr hk hl2, bd2_s]
        simp only [hM v w, bd1_s]
        rw [wr_nI (by omega) (by decide), bd1_s, nI_1]
        have e : rN ρ s l = sNeed ρ l := by unfold rN; rw [if_pos g]
        rw [e] at nx
        exact nx
      · rw [if_neg g, wr_nI (by omega) (by decide), bd1_s, nI_1]
        have e : rN ρ s l = 0 := by unfold rN; rw [if_neg g]
        rw [e] at nx
        exact nx
  exact nd (ρ 0 0) FU 0 v (by unfold FU; omega) (by omega) hr (fun j z => by omega)
end
end
/-! 8x1.text1.lean.txt -/
section
theorem hT0 (v : Nat → Nat → Int32) (w : Nat → Nat → Int64) : kC (bh v w) 1 3 = some () ∧ gR (bh v w) 1 3 0 = some 2 ∧ gI (bh v w) 1 3 1 = some (v 1 1) ∧ (∀ x, pV (bh v w) 1 3 1 (.int x) = some (bh (u2 v 1 1 x) w)) ∧ gI (bh v w) 1 3 2 = some (v 1 2) ∧ (∀ x, pV (bh v w) 1 3 2 (.int x) = some (bh (u2 v 1 2 x) w)) ∧ gI (bh v w) 1 3 3 = some (v 1 3) ∧ (∀ x, pV (bh v w) 1 3 3 (.int x) = some (bh (u2 v 1 3 x) w)) ∧ gI (bh v w) 1 3 4 = some (v 1 4) ∧ (∀ x, pV (bh v w) 1 3 4 (.int x) = some (bh (u2 v 1 4 x) w)) ∧ gI (bh v w) 1 3 5 = some (v 1 5) ∧ (∀ x, pV (bh v w) 1 3 5 (.int x) = some (bh (u2 v 1 5 x) w)) ∧ gI (bh v w) 1 3 6 = some (v 1 6) ∧ (∀ x, pV (bh v w) 1 3 6 (.int x) = some (bh (u2 v 1 6 x) w)) ∧ gI (bh v w) 1 3 7 = some (v 1 7) ∧ (∀ x, pV (bh v w) 1 3 7 (.int x) = some (bh (u2 v 1 7 x) w)) ∧ gI (bh v w) 1 3 8 = some (v 1 8) ∧ (∀ x, pV (bh v w) 1 3 8 (.int x) = some (bh (u2 v 1 8 x) w)) ∧ (∀ i, aI (bh v w) 1 2 i = rd (v 2) 160 i) := ⟨rfl, rfl, rfl, (fun _ => pV_bh rfl rfl), rfl, (fun _ => pV_bh rfl rfl), rfl, (fun _ => pV_bh rfl rfl), rfl, (fun _ => pV_bh rfl rfl), rfl, (fun _ => pV_bh rfl rfl), rfl, (fun _ => pV_bh rfl rfl), rfl, (fun _ => pV_bh rfl rfl), rfl, (fun _ => pV_bh rfl rfl), aI_bh rfl⟩
theorem hN0 (v : Nat → Nat → Int32) (w : Nat → Nat → Int64) : kC (bh v w) 100 8 = some () ∧ gI (bh v w) 100 8 2 = some (v 100 2) ∧ (∀ x, pV (bh v w) 100 8 2 (.int x) = some (bh (u2 v 100 2 x) w)) ∧ gI (bh v w) 100 8 3 = some (v 100 3) ∧ (∀ x, pV (bh v w) 100 8 3 (.int x) = some (bh (u2 v 100 3 x) w)) ∧ gI (bh v w) 100 8 10 = some (v 100 10) ∧ (∀ x, pV (bh v w) 100 8 10 (.int x) = some (bh (u2 v 100 10 x) w)) ∧ gI (bh v w) 100 8 11 = some (v 100 11) ∧ (∀ x, pV (bh v w) 100 8 11 (.int x) = some (bh (u2 v 100 11 x) w)) ∧ gI (bh v w) 100 8 17 = some (v 100 17) ∧ (∀ x, pV (bh v w) 100 8 17 (.int x) = some (bh (u2 v 100 17 x) w)) ∧ gI (bh v w) 100 8 18 = some (v 100 18) ∧ (∀ x, pV (bh v w) 100 8 18 (.int x) = some (bh (u2 v 100 18 x) w)) ∧ gI (bh v w) 100 8 20 = some (v 100 20) ∧ (∀ x, pV (bh v w) 100 8 20 (.int x) = some (bh (u2 v 100 20 x) w)) ∧ gI (bh v w) 100 8 21 = some (v 100 21) ∧ (∀ x, pV (bh v w) 100 8 21 (.int x) = some (bh (u2 v 100 21 x) w)) ∧ gI (bh v w) 100 8 22 = some (v 100 22) ∧ (∀ x, pV (bh v w) 100 8 22 (.int x) = some (bh (u2 v 100 22 x) w)) ∧ gI (bh v w) 100 8 23 = some (v 100 23) ∧ (∀ x, pV (bh v w) 100 8 23 (.int x) = some (bh (u2 v 100 23 x) w)) ∧ gI (bh v w) 100 8 24 = some (v 100 24) ∧ (∀ x, pV (bh v w) 100 8 24 (.int x) = some (bh (u2 v 100 24 x) w)) ∧ gI (bh v w) 100 8 25 = some (v 100 25) ∧ (∀ x, pV (bh v w) 100 8 25 (.int x) = some (bh (u2 v 100 25 x) w)) ∧ gI (bh v w) 100 8 26 = some (v 100 26) ∧ (∀ x, pV (bh v w) 100 8 26 (.int x) = some (bh (u2 v 100 26 x) w)) ∧ gR (bh v w) 100 8 0 = some 101 ∧ gR (bh v w) 100 8 1 = some 102 ∧ gR (bh v w) 100 8 4 = some 103 ∧ gR (bh v w) 100 8 5 = some 104 ∧ gR (bh v w) 100 8 6 = some 105 ∧ gR (bh v w) 100 8 7 = some 106 ∧ gR (bh v w) 100 8 8 = some 107 ∧ gR (bh v w) 100 8 9 = some 108 ∧ gR (bh v w) 100 8 12 = some 109 ∧ gR (bh v w) 100 8 13 = some 110 ∧ gR (bh v w) 100 8 14 = some 111 ∧ gR (bh v w) 100 8 15 = some 112 ∧ gR (bh v w) 100 8 16 = some 113 ∧ gR (bh v w) 100 8 19 = some 114 ∧ (∀ i, aI (bh v w) 0 108 i = rd (v 108) 66 i) ∧ (∀ i x, sI (bh v w) 0 108 i x = wr v w 108 66 i x) ∧ (∀ i, aI (bh v w) 0 109 i = rd (v 109) 5 i) ∧ (∀ i x, sI (bh v w) 0 109 i x = wr v w 109 5 i x) ∧ (∀ i, aI (bh v w) 0 110 i = rd (v 110) 5 i) ∧ (∀ i x, sI (bh v w) 0 110 i x = wr v w 110 5 i x) ∧ (∀ i, aI (bh v w) 0 111 i = rd (v 111) 5 i) ∧ (∀ i x, sI (bh v w) 0 111 i x = wr v w 111 5 i x) ∧ (∀ i, aI (bh v w) 0 112 i = rd (v 112) 3 i) ∧ (∀ i x, sI (bh v w) 0 112 i x = wr v w 112 3 i x) ∧ (∀ i, aI (bh v w) 0 113 i = rd (v 113) 3 i) ∧ (∀ i x, sI (bh v w) 0 113 i x = wr v w 113 3 i x) ∧ (∀ i, aI (bh v w) 0 114 i = rd (v 114) 160 i) := ⟨rfl, rfl, (fun _ => pV_bh rfl rfl), rfl, (fun _ => pV_bh rfl rfl), rfl, (fun _ => pV_bh rfl rfl), rfl, (fun _ => pV_bh rfl rfl), rfl, (fun _ => pV_bh rfl rfl), rfl, (fun _ => pV_bh rfl rfl), rfl, (fun _ => pV_bh rfl rfl), rfl, (fun _ => pV_bh rfl rfl), rfl, (fun _ => pV_bh rfl rfl), rfl, (fun _ => pV_bh rfl rfl), rfl, (fun _ => pV_bh rfl rfl), rfl, (fun _ => pV_bh rfl rfl), rfl, (fun _ => pV_bh rfl rfl), rfl, rfl, rfl, rfl, rfl, rfl, rfl, rfl, rfl, rfl, rfl, rfl, rfl, rfl, aI_bh rfl, sI_bh rfl, aI_bh rfl, sI_bh rfl, aI_bh rfl, sI_bh rfl, aI_bh rfl, sI_bh rfl, aI_bh rfl, sI_bh rfl, aI_bh rfl, sI_bh rfl, aI_bh rfl⟩
theorem bd1_q {α β : Type} (a : α) (f : α → Option β) : bd1 (some a) f = f a := Option.some.inj (show some (bd1 (some a) f) = some (f a) from rfl)
theorem bd2_q {α β γ : Type} (a : α) (c : γ) (f : α → γ → Option β) : bd2 (some (a, c)) f = f a c := Option.some.inj (show some (bd2 (some (a, c)) f) = some (f a c) from rfl)
/-! THE TAPE: how it is read, said of numbers -/
abbrev Fa : Type := Nat × Nat
def sb {α β : Type} (x : Fa ⊕ α) (f : α → Fa ⊕ β) : Fa ⊕ β := match x with
  | .inl e => .inl e
  | .inr a => f a
theorem sb_l {α β : Type} (e : Fa) (f : α → Fa ⊕ β) : sb (.inl e) f = .inl e := rfl
theorem sb_r {α β : Type} (a : α) (f : α → Fa ⊕ β) : sb (.inr a) f = f a := rfl
def ru (tp : Nat → Nat) (lo hi : Nat) : Nat → Nat → Nat
  | 0, i => i
  | n + 1, i => if lo ≤ tp i ∧ tp i ≤ hi then ru tp lo hi n (i + 1) else i
abbrev Tp : Type := Nat × (Nat → Nat)
def rn (K : Tp) (lo hi i : Nat) : Nat := ru K.2 lo hi (K.1 - i) i
def sT (K : Tp) (P : Nat) : Nat := rn K 32 32 P
def kc (K : Tp) (s : Nat) : Nat := if s < K.1 then (if K.2 s = 59 then 3 else if 97 ≤ K.2 s ∧ K.2 s ≤ 122 then 1 else if 48 ≤ K.2 s ∧ K.2 s ≤ 57 then 2 else 4) else 0
def kD (K : Tp) (P : Nat) : Nat := kc K (sT K P)
def eN (K : Tp) (P : Nat) : Nat := if kD K P = 1 then rn K 97 122 (sT K P) else if kD K P = 2 then rn K 48 57 (sT K P) else if kD K P = 3 then sT K P + 1 else sT K P
def vL (K : Tp) (P : Nat) : Nat := if eN K P = sT K P + 1 then K.2 (sT K P) - 48 else 10 * (K.2 (sT K P) - 48) + (K.2 (sT K P + 1) - 48)
def bad (K : Tp) (P : Nat) : Prop := kD K P = 4 ∨ kD K P = 2 ∧ sT K P + 2 < eN K P
theorem bad_dec (K : Tp) (P : Nat) : bad K P ∨ ¬ bad K P := by unfold bad; omega
def tokX (K : Tp) (P : Nat) : Fa ⊕ Unit := if kD K P = 4 ∨ kD K P = 2 ∧ sT K P + 2 < eN K P then .inl (1, sT K P) else .inr ()
theorem ru_b (tp : Nat → Nat) (lo hi : Nat) : ∀ n i, i ≤ ru tp lo hi n i ∧ ru tp lo hi n i ≤ i + n
  | 0, i => ⟨Nat.le_refl _, Nat.le_refl _⟩
  | n + 1, i => by
    have := ru_b tp lo hi n (i + 1)
    unfold ru
    split <;> omega
theorem ru_in (tp : Nat → Nat) (lo hi : Nat) : ∀ n i j, i ≤ j → j < ru tp lo hi n i → lo ≤ tp j ∧ tp j ≤ hi
  | 0, i, j, h1, h2 => by unfold ru at h2; omega
  | n + 1, i, j, h1, h2 => by
    unfold ru at h2
    split at h2
    · next c =>
      by_cases e : j = i
      · subst e; exact c
      · exact ru_in tp lo hi n (i + 1) j (by omega) h2
    · omega
theorem rn_b {K : Tp} {lo hi i : Nat} (h : i ≤ K.1) : i ≤ rn K lo hi i ∧ rn K lo hi i ≤ K.1 := by
  have := ru_b K.2 lo hi (K.1 - i) i
  unfold rn
  omega
theorem rn_1 {K : Tp} {lo hi i : Nat} (h : i < K.1) (c : lo ≤ K.2 i ∧ K.2 i ≤ hi) : i + 1 ≤ rn K lo hi i := by
  unfold rn
  obtain ⟨n, e⟩ : ∃ n, K.1 - i = n + 1 := ⟨K.1 - i - 1, by omega⟩
  rw [e]
  unfold ru
  rw [if_pos c]
  exact (ru_b K.2 lo hi n (i + 1)).1
theorem rn_in {K : Tp} {lo hi i j : Nat} (h1 : i ≤ j) (h2 : j < rn K lo hi i) : lo ≤ K.2 j ∧ K.2 j ≤ hi := ru_in _ _ _ _ _ _ h1 h2
theorem sT_b {K : Tp} {P : Nat} (h : P ≤ K.1) : P ≤ sT K P ∧ sT K P ≤ K.1 := rn_b h
theorem kc_s {K : Tp} {s : Nat} : (kc K s = 0 ↔ K.1 ≤ s) ∧ (kc K s = 1 → 97 ≤ K.2 s ∧ K.2 s ≤ 122) ∧ (kc K s = 2 → 48 ≤ K.2 s ∧ K.2 s ≤ 57) ∧ (kc K s = 3 → K.2 s = 59) ∧ kc K s ≤ 4 := by
  unfold kc
  split
  · split
    · omega
    · split
      · omega
      · split <;> omega
  · omega
theorem eN_b {K : Tp} {P : Nat} (h : P ≤ K.1) : sT K P ≤ eN K P ∧ eN K P ≤ K.1 ∧ (kD K P ≠ 0 → kD K P ≠ 4 → sT K P + 1 ≤ eN K P) := by
  have hs := sT_b h
  have hk := kc_s (K := K) (s := sT K P)
  unfold eN
  have h1 := rn_b (lo := 97) (hi := 122) hs.2
  have h2 := rn_b (lo := 48) (hi := 57) hs.2
  have e : kD K P = kc K (sT K P) := rfl
  split
  · next c =>
    have := rn_1 (lo := 97) (hi := 122) (K := K) (i := sT K P) (by omega) (hk.2.1 (by omega))
    omega
  · split
    · next c =>
      have := rn_1 (lo := 48) (hi := 57) (K := K) (i := sT K P) (by omega) (hk.2.2.1 (by omega))
      omega
    · split <;> omega
/-- the class's tape -/
def CT (K : Tp) (v : Nat → Nat → Int32) : Prop := v 1 1 = nI K.1 ∧ K.1 ≤ 160 ∧ ∀ j, j < K.1 → v 2 j = nI (K.2 j) ∧ K.2 j ≤ 127
def MT (K : Tp) (v : Nat → Nat → Int32) : Prop := v 100 20 = nI K.1 ∧ K.1 ≤ 160 ∧ ∀ j, j < K.1 → v 114 j = nI (K.2 j) ∧ K.2 j ≤ 127
section
variable {K : Tp} {v : Nat → Nat → Int32} {w : Nat → Nat → Int64}
theorem CT.fr {v' : Nat → Nat → Int32} (h : CT K v) (h1 : v' 1 1 = v 1 1) (h2 : v' 2 = v 2) : CT K v' := by
  unfold CT
  rw [h1, h2]
  exact h
theorem C_run {lo hi : Nat} (hlo : lo ≤ 127) (hhi : hi ≤ 127) : ∀ (n fuel i : Nat) (v : Nat → Nat → Int32), n < fuel → i + n = K.1 → CT K v → v 1 5 = nI i → ∃ v', f_Reader_passRun_0 fuel 1 (nI lo) (nI hi) (bh v w) = some (bh v' w) ∧ v' 1 5 = nI (ru K.2 lo hi n i) ∧ (∀ q, q ≠ 1 → v' q = v q) ∧ ∀ j, j ≠ 5 → v' 1 j = v 1 j := by
  intro n
  induction n with
  | zero =>
    intro fuel i v hf hin hT h5
    obtain ⟨m, rfl⟩ : ∃ m, fuel = m + 1 := ⟨fuel - 1, by omega⟩
    have := hT.2.1
    refine ⟨v, ?_, h5, fun _ _ => rfl, fun _ _ => rfl⟩
    simp only [f_Reader_passRun_0, f_Reader_passRun_0b, hT0 v w, bd1_s]
    rw [h5, hT.1, if_pos ((nI_leI (by omega) (by omega)).mpr (by omega))]
  | succ n ih =>
    intro fuel i v hf hin hT h5
    obtain ⟨m, rfl⟩ : ∃ m, fuel = m + 1 := ⟨fuel - 1, by omega⟩
    have hL := hT.2.1
    obtain ⟨t1, t2⟩ := hT.2.2 i (by omega)
    simp only [f_Reader_passRun_0, f_Reader_passRun_0b, hT0 v w, bd1_s]
    rw [h5, hT.1, if_neg (fun z => by have := (nI_leI (by omega) (by omega)).mp z; omega), rd_nI (by omega) (by decide), bd1_s, bd1_s, t1, ite_iff (nI_ltI (by omega) (by omega)), ite_iff (nI_ltI (by omega) (by omega)), nI_1]
    unfold ru
    by_cases c1 : K.2 i < lo
    · rw [if_pos c1, if_neg (by omega)]
      exact ⟨v, rfl, h5, fun _ _ => rfl, fun _ _ => rfl⟩
    · rw [if_neg c1]
      by_cases c2 : hi < K.2 i
      · rw [if_pos c2, if_neg (by omega)]
        exact ⟨v, rfl, h5, fun _ _ => rfl, fun _ _ => rfl⟩
      · rw [if_neg c2, if_pos (by omega)]
        obtain ⟨v', e1, e2, e3, e4⟩ := ih m (i + 1) (u2 v 1 5 (nI (i + 1))) (by omega) (by omega) (hT.fr (u2_n (by decide)) (u2_o (by decide))) (u2_at _ _ _ _)
        exact ⟨v', e1, e2, fun q hq => (e3 q hq).trans (u2_o hq), fun j hj => (e4 j hj).trans (u2_n hj)⟩
theorem C_passRun {lo hi i : Nat} (hlo : lo ≤ 127) (hhi : hi ≤ 127) (hT : CT K v) (h5 : v 1 5 = nI i) (hin : i ≤ K.1) : ∃ v', f_Reader_passRun 1 (nI lo) (nI hi) (bh v w) = some (bh v' w) ∧ v' 1 5 = nI (rn K lo hi i) ∧ (∀ q, q ≠ 1 → v' q = v q) ∧ ∀ j, j ≠ 5 → v' 1 j = v 1 j := by
  have := hT.2.1
  exact C_run hlo hhi (K.1 - i) FU i v (by unfold FU; omega) (by omega) hT h5
theorem C_kindHere {s : Nat} (hT : CT K v) (h5 : v 1 5 = nI s) (hs : s ≤ K.1) : f_Reader_kindHere 1 (bh v w) = some (nI (kc K s), bh v w) := by
  have hL := hT.2.1
  simp only [f_Reader_kindHere, f_Reader_kindHere_0, f_Reader_kindHere_45, f_Reader_kindHere_61, hT0 v w, bd1_s]
  rw [h5, hT.1, ite_iff (nI_ltI (by omega) (by omega))]
  unfold kc
  by_cases c : s < K.1
  · obtain ⟨t1, t2⟩ := hT.2.2 s c
    rw [if_pos c, if_pos c, rd_nI (by omega) (by decide), bd1_s, t1, show (59 : Int32) = nI 59 from rfl, show (97 : Int32) = nI 97 from rfl, show (122 : Int32) = nI 122 from rfl, show (48 : Int32) = nI 48 from rfl, show (57 : Int32) = nI 57 from rfl, ite_iff (nI_eqI (by omega) (by omega)), ite_iff (nI_ltI (by omega) (by omega)), ite_iff (nI_ltI (by omega) (by omega)), ite_iff (nI_ltI (by omega) (by omega)), ite_iff (nI_ltI (by omega) (by omega))]
    by_cases c1 : K.2 s = 59
    · rw [if_pos c1, if_pos c1]; rfl
    · rw [if_neg c1, if_neg c1]
      by_cases c2 : 97 ≤ K.2 s ∧ K.2 s ≤ 122
      · rw [if_neg (by omega), if_neg (by omega), if_pos c2]; rfl
      · rw [if_neg c2]
        by_cases c3 : 48 ≤ K.2 s ∧ K.2 s ≤ 57
        · rw [if_pos c3, if_pos (by omega), if_neg (by omega), if_neg (by omega)]; rfl
        · rw [if_neg c3]
          by_cases c4 : K.2 s < 97
          · rw [if_pos c4]
            by_cases c5 : K.2 s < 48
            · rw [if_pos c5]; rfl
            · rw [if_neg c5, if_pos (by omega)]; rfl
          · rw [if_neg c4, if_pos (by omega), if_neg (by omega), if_pos (by omega)]; rfl
  · rw [if_neg c, if_neg c]; rfl
end
end
/-! 8x2.text2.lean.txt -/
section
theorem u2_ap (v : Nat → Nat → Int32) (o k : Nat) (x : Int32) (p j : Nat) : u2 v o k x p j = if p = o ∧ j = k then x else v p j := by
  by_cases h : p = o
  · subst h
    by_cases g : j = k
    · subst g
      rw [u2_at, if_pos ⟨rfl, rfl⟩]
    · rw [u2_n g, if_neg (fun z => g z.2)]
  · rw [u2_o h, if_neg (fun z => h z.1)]
def vf (tp : Nat → Nat) : Nat → Int32 → Nat → Int32
  | 0, a, _ => a
  | n + 1, a, i => vf tp n (a * 10 + nI (tp i) - 48) (i + 1)
theorem vf_z (tp : Nat → Nat) (a : Int32) (i : Nat) : vf tp 0 a i = a := rfl
theorem vf_s (tp : Nat → Nat) (n : Nat) (a : Int32) (i : Nat) : vf tp (n + 1) a i = vf tp n (a * 10 + nI (tp i) - 48) (i + 1) := rfl
theorem vf_1 {tp : Nat → Nat} {s : Nat} (h : 48 ≤ tp s) : vf tp 1 0 s = nI (tp s - 48) := by
  show (0 : Int32) * 10 + nI (tp s) - 48 = _
  rw [Int32.zero_mul, Int32.zero_add, show (48 : Int32) = nI 48 from rfl, pk_sub h]
theorem vf_2 {tp : Nat → Nat} {s : Nat} (h : 48 ≤ tp s) (h' : 48 ≤ tp (s + 1)) : vf tp 2 0 s = nI (10 * (tp s - 48) + (tp (s + 1) - 48)) := by
  show (((0 : Int32) * 10 + nI (tp s) - 48) * 10 + nI (tp (s + 1)) - 48 : Int32) = _
  rw [Int32.zero_mul, Int32.zero_add, show (48 : Int32) = nI 48 from rfl, pk_sub h, show (10 : Int32) = nI 10 from rfl, pk_mul, nI_add, pk_sub (by omega)]
  congr 1
  omega
/-- what the reader's calls leave as it was -/
def FrR (v v' : Nat → Nat → Int32) : Prop := (∀ q, q ≠ 1 → v' q = v q) ∧ v' 1 1 = v 1 1 ∧ v' 1 4 = v 1 4
theorem FrR.rfl' (v : Nat → Nat → Int32) : FrR v v := ⟨fun _ _ => rfl, rfl, rfl⟩
theorem FrR.tr {v v1 v2 : Nat → Nat → Int32} (h : FrR v v1) (g : FrR v1 v2) : FrR v v2 := ⟨fun q hq => (g.1 q hq).trans (h.1 q hq), g.2.1.trans h.2.1, g.2.2.trans h.2.2⟩
theorem CT.fR {K : Tp} {v v' : Nat → Nat → Int32} (h : CT K v) (g : FrR v v') : CT K v' := h.fr g.2.1 (g.1 2 (by decide))
/-- the answer of a call of the reader: a FAULT, or what it read -/
def CX {α : Type} (X : Fa ⊕ α) (Q : α → (Nat → Nat → Int32) → Prop) (r : Int32) (v : Nat → Nat → Int32) : Prop := match X with
  | .inl f => r = 0 ∧ v 1 2 = nI f.1 ∧ v 1 3 = nI f.2
  | .inr a => r = 1 ∧ v 1 2 = 0 ∧ Q a v
def CTk (K : Tp) (P : Nat) (v : Nat → Nat → Int32) : Prop := v 1 5 = nI (eN K P) ∧ v 1 6 = nI (kD K P) ∧ v 1 7 = nI (sT K P) ∧ (kD K P = 2 → v 1 8 = nI (vL K P))
section
variable {K : Tp} {v : Nat → Nat → Int32} {w : Nat → Nat → Int64} {P : Nat}
theorem C_value {s e : Nat} (hT : CT K v) (h5 : v 1 5 = nI e) (h7 : v 1 7 = nI s) (hse : s ≤ e) (he : e ≤ K.1) : f_Reader_valueOfRun 1 (bh v w) = some (vf K.2 (e - s) 0 s, bh v w) := by
  have hL := hT.2.1
  have key : ∀ (n fuel i : Nat) (a : Int32), n < fuel → i + n = e → f_Reader_valueOfRun_7 fuel 1 a (nI i) (bh v w) = some (vf K.2 n a i, bh v w) := by
    intro n
    induction n with
    | zero =>
      intro fuel i a hf hi
      obtain ⟨m, rfl⟩ : ∃ m, fuel = m + 1 := ⟨fuel - 1, by omega⟩
      simp only [f_Reader_valueOfRun_7, f_Reader_valueOfRun_7b, hT0 v w, bd1_q]
      rw [h5, if_pos ((nI_leI (by omega) (by omega)).mpr (by omega)), vf_z]
    | succ n ih =>
      intro fuel i a hf hi
      obtain ⟨m, rfl⟩ : ∃ m, fuel = m + 1 := ⟨fuel - 1, by omega⟩
      simp only [f_Reader_valueOfRun_7, f_Reader_valueOfRun_7b, hT0 v w, bd1_q]
      rw [h5, if_neg (fun z => by have := (nI_leI (by omega) (by omega)).mp z; omega), rd_nI (by omega) (by decide), bd1_s, (hT.2.2 i (by omega)).1, nI_1]
      rw [vf_s]
      exact ih m (i + 1) _ (by omega) (by omega)
  unfold f_Reader_valueOfRun f_Reader_valueOfRun_0
  simp only [hT0 v w, bd1_q]
  rw [h7]
  exact key (e - s) FU s 0 (by unfold FU; omega) (by omega)
theorem C_takeToken (hT : CT K v) (h2 : v 1 2 = 0) (h5 : v 1 5 = nI P) (hP : P ≤ K.1) : ∃ r v', f_Reader_takeToken 1 (bh v w) = some (r, bh v' w) ∧ FrR v v' ∧ CX (tokX K P) (fun _ v' => CTk K P v') r v' := by
  have hs := sT_b hP
  have he := eN_b hP
  have hkc := kc_s (K := K) (s := sT K P)
  have ek : kD K P = kc K (sT K P) := rfl
  have hL := hT.2.1
  obtain ⟨v1, e1, a5, fq, fj⟩ := C_passRun (w := w) (lo := 32) (hi := 32) (by decide) (by decide) hT h5 hP
  have a5 : v1 1 5 = nI (sT K P) := a5
  have T1 : CT K v1 := hT.fr (fj 1 (by decide)) (fq 2 (by decide))
  have ekd := C_kindHere (w := w) (v := u2 v1 1 7 (nI (sT K P))) (s := sT K P) (T1.fr (u2_n (by decide)) (u2_o (by decide))) ((u2_n (by decide)).trans a5) hs.2
  have fin : ∀ v', (∀ q, q ≠ 1 → v' q = v1 q) → v' 1 1 = v1 1 1 → v' 1 4 = v1 1 4 → v' 1 2 = v1 1 2 → v' 1 5 = nI (eN K P) → v' 1 6 = nI (kD K P) → v' 1 7 = nI (sT K P) → (kD K P = 2 → v' 1 8 = nI (vL K P)) → ¬ (kD K P = 4 ∨ kD K P = 2 ∧ sT K P + 2 < eN K P) → FrR v v' ∧ CX (tokX K P) (fun _ v' => CTk K P v') 1 v' := by
    intro v' b1 b2 b3 b4 b5 b6 b7 b8 b9
    refine ⟨⟨fun q hq => (b1 q hq).trans (fq q hq), b2.trans (fj 1 (by decide)), b3.trans (fj 4 (by decide))⟩, ?_⟩
    unfold tokX
    rw [if_neg b9]
    exact ⟨rfl, (b4.trans (fj 2 (by decide))).trans h2, b5, b6, b7, b8⟩
  have fal : ∀ v', (∀ q, q ≠ 1 → v' q = v1 q) → v' 1 1 = v1 1 1 → v' 1 4 = v1 1 4 → v' 1 2 = 1 → v' 1 3 = nI (sT K P) → (kD K P = 4 ∨ kD K P = 2 ∧ sT K P + 2 < eN K P) → FrR v v' ∧ CX (tokX K P) (fun _ v' => CTk K P v') 0 v' := by
    intro v' b1 b2 b3 b4 b5 b9
    refine ⟨⟨fun q hq => (b1 q hq).trans (fq q hq), b2.trans (fj 1 (by decide)), b3.trans (fj 4 (by decide))⟩, ?_⟩
    unfold tokX
    rw [if_pos b9]
    exact ⟨rfl, b4, b5⟩
  unfold f_Reader_takeToken f_Reader_takeToken_0 f_Reader_takeToken_111 f_Reader_fail f_Reader_fail_0
  simp only [hT0, bd1_q]
  rw [show (32 : Int32) = nI 32 from rfl, e1]
  simp only [hT0, bd1_q]
  rw [a5, ekd]
  simp only [hT0, bd1_q, bd2_q, u2_at]
  rcases (show kc K (sT K P) = 0 ∨ kc K (sT K P) = 1 ∨ kc K (sT K P) = 2 ∨ kc K (sT K P) = 3 ∨ kc K (sT K P) = 4 by omega) with c | c | c | c | c
  · rw [c, if_pos (show nI 0 = 0 from rfl)]
    refine ⟨1, _, rfl, fin _ (fun q hq => (u2_o hq).trans (u2_o hq)) ?_ ?_ ?_ ?_ ?_ ?_ (fun z => by omega) (by omega)⟩
    · simp [u2_ap]
    · simp [u2_ap]
    · simp [u2_ap]
    · rw [show eN K P = sT K P by unfold eN; rw [if_neg (by omega), if_neg (by omega), if_neg (by omega)]]
      simp [u2_ap, a5]
    · simp [u2_ap, ek, c]
    · simp [u2_ap]
  · rw [c, if_neg (by decide), if_pos (show nI 1 = 1 from rfl)]
    obtain ⟨v2, e2, b5, gq, gj⟩ := C_passRun (w := w) (lo := 97) (hi := 122) (i := sT K P) (v := u2 (u2 v1 1 7 (nI (sT K P))) 1 6 (nI 1)) (by decide) (by decide) ((T1.fr (u2_n (by decide)) (u2_o (by decide))).fr (u2_n (by decide)) (u2_o (by decide))) (by simp [u2_ap, a5]) hs.2
    rw [show (97 : Int32) = nI 97 from rfl, show (122 : Int32) = nI 122 from rfl, e2, bd1_s]
    refine ⟨1, _, rfl, fin _ (fun q hq => (gq q hq).trans ((u2_o hq).trans (u2_o hq))) ?_ ?_ ?_ ?_ ?_ ?_ (fun z => by omega) (by omega)⟩
    · rw [gj 1 (by decide)]; simp [u2_ap]
    · rw [gj 4 (by decide)]; simp [u2_ap]
    · rw [gj 2 (by decide)]; simp [u2_ap]
    · rw [b5]; unfold eN; rw [if_pos (by omega)]
    · rw [gj 6 (by decide)]; simp [u2_ap, ek, c]
    · rw [gj 7 (by decide)]; simp [u2_ap]
  · rw [c, if_neg (by decide), if_neg (by decide), if_pos (show nI 2 = 2 from rfl)]
    obtain ⟨v2, e2, b5, gq, gj⟩ := C_passRun (w := w) (lo := 48) (hi := 57) (i := sT K P) (v := u2 (u2 v1 1 7 (nI (sT K P))) 1 6 (nI 2)) (by decide) (by decide) ((T1.fr (u2_n (by decide)) (u2_o (by decide))).fr (u2_n (by decide)) (u2_o (by decide))) (by simp [u2_ap, a5]) hs.2
    have ee : eN K P = rn K 48 57 (sT K P) := by unfold eN; rw [if_neg (by omega), if_pos (by omega)]
    rw [← ee] at b5
    have c7 : v2 1 7 = nI (sT K P) := by rw [gj 7 (by decide)]; simp [u2_ap]
    have T2 : CT K v2 := ((T1.fr (u2_n (by decide)) (u2_o (by decide))).fr (u2_n (by decide)) (u2_o (by decide))).fr (gj 1 (by decide)) (gq 2 (by decide))
    have ev := C_value (w := w) T2 b5 c7 he.1 he.2.1
    have h1 := he.2.2 (by omega) (by omega)
    rw [show (48 : Int32) = nI 48 from rfl, show (57 : Int32) = nI 57 from rfl, e2]
    simp only [hT0, bd1_q]
    rw [ev]
    simp only [hT0, bd1_q, bd2_q]
    rw [u2_n (show 5 ≠ 8 by decide), u2_n (show 7 ≠ 8 by decide), b5, c7, pk_sub he.1, show (2 : Int32) = nI 2 from rfl, ite_iff (nI_leI (by omega) (by omega))]
    have g1 : ∀ q, q ≠ 1 → u2 v2 1 8 (vf K.2 (eN K P - sT K P) 0 (sT K P)) q = v1 q := fun q hq => (u2_o hq).trans ((gq q hq).trans ((u2_o hq).trans (u2_o hq)))
    by_cases g : eN K P - sT K P ≤ 2
    · rw [if_pos g]
      refine ⟨1, _, rfl, fin _ g1 ?_ ?_ ?_ ?_ ?_ ?_ (fun _ => ?_) (by omega)⟩
      · rw [u2_n (by decide), gj 1 (by decide)]; simp [u2_ap]
      · rw [u2_n (by decide), gj 4 (by decide)]; simp [u2_ap]
      · rw [u2_n (by decide), gj 2 (by decide)]; simp [u2_ap]
      · rw [u2_n (by decide)]; exact b5
      · rw [u2_n (by decide), gj 6 (by decide)]; simp [u2_ap, ek, c]
      · rw [u2_n (by decide)]; exact c7
      · rw [u2_at]
        have d1 := rn_in (K := K) (lo := 48) (hi := 57) (Nat.le_refl (sT K P)) (by rw [← ee]; omega)
        unfold vL
        by_cases z : eN K P = sT K P + 1
        · rw [if_pos z, show eN K P - sT K P = 1 by omega, vf_1 d1.1]
        · have d2 := rn_in (K := K) (lo := 48) (hi := 57) (i := sT K P) (j := sT K P + 1) (by omega) (by rw [← ee]; omega)
          rw [if_neg z, show eN K P - sT K P = 2 by omega, vf_2 d1.1 d2.1]
    · rw [if_neg g, if_pos trivial]
      refine ⟨0, _, rfl, fal _ (fun q hq => (u2_o hq).trans ((u2_o hq).trans (g1 q hq))) ?_ ?_ ?_ ?_ (by omega)⟩
      · rw [u2_n (by decide), u2_n (by decide), u2_n (by decide), gj 1 (by decide)]; simp [u2_ap]
      · rw [u2_n (by decide), u2_n (by decide), u2_n (by decide), gj 4 (by decide)]; simp [u2_ap]
      · simp [u2_ap]
      · simp [u2_ap]
  · rw [c, if_neg (by decide), if_neg (by decide), if_neg (by decide), if_pos (show nI 3 = 3 from rfl)]
    refine ⟨1, _, rfl, fin _ (fun q hq => (u2_o hq).trans ((u2_o hq).trans (u2_o hq))) ?_ ?_ ?_ ?_ ?_ ?_ (fun z => by omega) (by omega)⟩
    · simp [u2_ap]
    · simp [u2_ap]
    · simp [u2_ap]
    · rw [show eN K P = sT K P + 1 by unfold eN; rw [if_neg (by omega), if_neg (by omega), if_pos (by omega)], u2_at, u2_n (show 5 ≠ 6 by decide), u2_n (show 5 ≠ 7 by decide), a5, nI_1]
    · simp [u2_ap, ek, c]
    · simp [u2_ap]
  · rw [c, if_neg (by decide), if_neg (by decide), if_neg (by decide), if_neg (by decide), if_pos (Or.inl trivial)]
    refine ⟨0, _, rfl, fal _ (fun q hq => (u2_o hq).trans ((u2_o hq).trans ((u2_o hq).trans (u2_o hq)))) ?_ ?_ ?_ ?_ (by omega)⟩
    · simp [u2_ap]
    · simp [u2_ap]
    · simp [u2_ap]
    · simp [u2_ap]
end
end
/-! 8x3.text3.lean.txt -/
section
theorem hU0 (v : Nat → Nat → Int32) (w : Nat → Nat → Int64) : kC (bh v w) 20 4 = some () ∧ gI (bh v w) 20 4 0 = some (v 20 0) ∧ (∀ x, pV (bh v w) 20 4 0 (.int x) = some (bh (u2 v 20 0 x) w)) ∧ gI (bh v w) 20 4 1 = some (v 20 1) ∧ (∀ x, pV (bh v w) 20 4 1 (.int x) = some (bh (u2 v 20 1 x) w)) ∧ gI (bh v w) 20 4 2 = some (v 20 2) ∧ (∀ x, pV (bh v w) 20 4 2 (.int x) = some (bh (u2 v 20 2 x) w)) ∧ gI (bh v w) 20 4 3 = some (v 20 3) ∧ (∀ x, pV (bh v w) 20 4 3 (.int x) = some (bh (u2 v 20 3 x) w)) ∧ gI (bh v w) 20 4 4 = some (v 20 4) ∧ (∀ x, pV (bh v w) 20 4 4 (.int x) = some (bh (u2 v 20 4 x) w)) ∧ gI (bh v w) 20 4 5 = some (v 20 5) ∧ (∀ x, pV (bh v w) 20 4 5 (.int x) = some (bh (u2 v 20 5 x) w)) ∧ gR (bh v w) 20 4 6 = some 21 ∧ gR (bh v w) 20 4 7 = some 22 ∧ gR (bh v w) 20 4 8 = some 23 ∧ gR (bh v w) 20 4 9 = some 24 ∧ gR (bh v w) 20 4 10 = some 25 ∧ gR (bh v w) 20 4 11 = some 26 ∧ gR (bh v w) 20 4 12 = some 27 ∧ gR (bh v w) 20 4 13 = some 28 ∧ gR (bh v w) 20 4 14 = some 29 ∧ gR (bh v w) 20 4 15 = some 30 ∧ gR (bh v w) 20 4 16 = some 31 ∧ gR (bh v w) 20 4 17 = some 32 ∧ gR (bh v w) 20 4 18 = some 33 ∧ (∀ i, aI (bh v w) 0 21 i = rd (v 21) 5 i) ∧ (∀ i x, sI (bh v w) 0 21 i x = wr v w 21 5 i x) ∧ (∀ i, aI (bh v w) 0 22 i = rd (v 22) 5 i) ∧ (∀ i x, sI (bh v w) 0 22 i x = wr v w 22 5 i x) ∧ (∀ i, aI (bh v w) 0 23 i = rd (v 23) 5 i) ∧ (∀ i x, sI (bh v w) 0 23 i x = wr v w 23 5 i x) ∧ (∀ i, aI (bh v w) 0 24 i = rd (v 24) 5 i) ∧ (∀ i x, sI (bh v w) 0 24 i x = wr v w 24 5 i x) ∧ (∀ i, aI (bh v w) 0 25 i = rd (v 25) 5 i) ∧ (∀ i x, sI (bh v w) 0 25 i x = wr v w 25 5 i x) ∧ (∀ i, aI (bh v w) 0 26 i = rd (v 26) 3 i) ∧ (∀ i x, sI (bh v w) 0 26 i x = wr v w 26 3 i x) ∧ (∀ i, aI (bh v w) 0 27 i = rd (v 27) 3 i) ∧ (∀ i x, sI (bh v w) 0 27 i x = wr v w 27 3 i x) ∧ (∀ i, aI (bh v w) 0 28 i = rd (v 28) 3 i) ∧ (∀ i x, sI (bh v w) 0 28 i x = wr v w 28 3 i x) ∧ (∀ i, aI (bh v w) 0 29 i = rd (v 29) 3 i) ∧ (∀ i x, sI (bh v w) 0 29 i x = wr v w 29 3 i x) ∧ (∀ i, aI (bh v w) 0 30 i = rd (v 30) 3 i) ∧ (∀ i x, sI (bh v w) 0 30 i x = wr v w 30 3 i x) ∧ (∀ i, aI (bh v w) 0 31 i = rd (v 31) 3 i) ∧ (∀ i x, sI (bh v w) 0 31 i x = wr v w 31 3 i x) ∧ (∀ i, aI (bh v w) 0 32 i = rd (v 32) 15 i) ∧ (∀ i x, sI (bh v w) 0 32 i x = wr v w 32 15 i x) ∧ gI (bh v w) 33 6 0 = some (v 33 0) ∧ (∀ x, pV (bh v w) 33 6 0 (.int x) = some (bh (u2 v 33 0 x) w)) := ⟨rfl, rfl, (fun _ => pV_bh rfl rfl), rfl, (fun _ => pV_bh rfl rfl), rfl, (fun _ => pV_bh rfl rfl), rfl, (fun _ => pV_bh rfl rfl), rfl, (fun _ => pV_bh rfl rfl), rfl, (fun _ => pV_bh rfl rfl), rfl, rfl, rfl, rfl, rfl, rfl, rfl, rfl, rfl, rfl, rfl, rfl, rfl, aI_bh rfl, sI_bh rfl, aI_bh rfl, sI_bh rfl, aI_bh rfl, sI_bh rfl, aI_bh rfl, sI_bh rfl, aI_bh rfl, sI_bh rfl, aI_bh rfl, sI_bh rfl, aI_bh rfl, sI_bh rfl, aI_bh rfl, sI_bh rfl, aI_bh rfl, sI_bh rfl, aI_bh rfl, sI_bh rfl, aI_bh rfl, sI_bh rfl, aI_bh rfl, sI_bh rfl, rfl, (fun _ => pV_bh rfl rfl)⟩
theorem up2_ap (ρ : Rho) (f i x g j : Nat) : up2 ρ f i x g j = if g = f ∧ j = i then x else ρ g j := by
  by_cases h : g = f
  · subst h
    by_cases k : j = i
    · subst k
      rw [up2_at, if_pos ⟨rfl, rfl⟩]
    · rw [up2_n k, if_neg (fun z => k z.2)]
  · rw [up2_f h, if_neg (fun z => h z.1)]
theorem u2_cg {v v' : Nat → Nat → Int32} {o k q : Nat} {x : Int32} (h : v q = v' q) : u2 v o k x q = u2 v' o k x q := by
  unfold u2 va_up
  by_cases e : q = o
  · subst e; rw [if_pos rfl, if_pos rfl, h]
  · rw [if_neg e, if_neg e, h]
def chkB (K : Tp) (lo hi P : Nat) : Fa ⊕ Nat := if lo ≤ vL K P ∧ vL K P ≤ hi then .inr (vL K P) else .inl (3, sT K P)
def chk (K : Tp) (lo hi P : Nat) : Fa ⊕ Nat := if kD K P = 2 then chkB K lo hi P else .inl (2, sT K P)
def sNum (K : Tp) (lo hi P : Nat) : Fa ⊕ Nat := sb (tokX K P) fun _ => chk K lo hi P
def sStp (K : Tp) (P : Nat) : Fa ⊕ Unit := if kD K P = 3 then .inr () else .inl (2, sT K P)
def addL (σ : Rho) (q c h f m : Nat) : Rho := up2 (up2 (up2 (up2 (up2 (up2 (up2 σ 1 (σ 0 0) q) 2 (σ 0 0) c) 3 (σ 0 0) h) 4 (σ 0 0) f) 5 (σ 0 0) m) 0 0 (σ 0 0 + 1)) 17 0 (max (σ 17 0) m)
def addO (σ : Rho) (t c n u R h : Nat) : Rho := up2 (up2 (up2 (up2 (up2 (up2 (up2 σ 6 (σ 0 1) t) 7 (σ 0 1) c) 8 (σ 0 1) n) 9 (σ 0 1) u) 10 (σ 0 1) R) 0 1 (σ 0 1 + 1)) 17 0 h
def addW (σ : Rho) (p m : Nat) : Rho := up2 (up2 (up2 σ 11 p (σ 11 p ||| 2 ^ m)) 17 0 (max (σ 17 0) (m + 1))) 17 1 (max (σ 17 1) (p + 1))
def addH (σ : Rho) (m : Nat) : Rho := up2 (up2 σ 0 5 (σ 0 5 ||| 2 ^ m)) 17 0 (max (σ 17 0) (m + 1))
def sFin {α : Type} (K : Tp) (P : Nat) (a : α) : Fa ⊕ (α × Nat) := sb (sStp K P) fun _ => .inr (a, eN K P)
def sCar (K : Tp) (σ : Rho) (q c h f Q : Nat) : Fa ⊕ (Rho × Nat) := sb (tokX K Q) fun _ => if kD K Q = 2 then sb (chkB K 0 4 Q) fun m => if m = σ 0 0 then .inl (4, sT K Q) else sb (tokX K (eN K Q)) fun _ => sFin K (eN K Q) (addL σ q c h f (m + 1)) else sFin K Q (addL σ q c h f 0)
def sLaw (K : Tp) (σ : Rho) (Q : Nat) : Fa ⊕ (Rho × Nat) := sb (sNum K 0 9 Q) fun q => sb (sNum K 1 3 (eN K Q)) fun c => sb (sNum K 0 9 (eN K (eN K Q))) fun h => sb (sNum K 0 9 (eN K (eN K (eN K Q)))) fun f => sCar K σ q c h f (eN K (eN K (eN K (eN K Q))))
def sRef (K : Tp) : Nat → Nat → Nat → Nat → Fa ⊕ ((Nat × Nat) × Nat)
  | 0, R, h, Q => .inr ((R, h), Q)
  | n + 1, R, h, Q => if kD K Q = 2 then sb (chkB K 0 4 Q) fun m => if bit R m = 1 then .inl (4, sT K Q) else sb (tokX K (eN K Q)) fun _ => sRef K n (R ||| 2 ^ m) (max h (m + 1)) (eN K Q) else .inr ((R, h), Q)
def sOne (K : Tp) (σ : Rho) (Q : Nat) : Fa ⊕ (Rho × Nat) := sb (sNum K 0 5 Q) fun t => sb (sNum K 0 3 (eN K Q)) fun c => sb (sNum K 0 10 (eN K (eN K Q))) fun n => sb (sNum K 0 99 (eN K (eN K (eN K Q)))) fun u => sb (tokX K (eN K (eN K (eN K (eN K Q))))) fun _ => sb (sRef K 6 0 (σ 17 0) (eN K (eN K (eN K (eN K Q))))) fun x => sFin K x.2 (addO σ t c n u x.1.1 x.1.2)
def sWant (K : Tp) (σ : Rho) (Q : Nat) : Fa ⊕ (Rho × Nat) := sb (sNum K 0 2 Q) fun p => sb (sNum K 0 4 (eN K Q)) fun m => if bit (σ 11 p) m = 1 then .inl (4, sT K (eN K Q)) else sb (tokX K (eN K (eN K Q))) fun _ => sFin K (eN K (eN K Q)) (addW σ p m)
def sWatch (K : Tp) (σ : Rho) (Q : Nat) : Fa ⊕ (Rho × Nat) := sb (sNum K 0 4 Q) fun m => if bit (σ 0 5) m = 1 then .inl (4, sT K Q) else sb (tokX K (eN K Q)) fun _ => sFin K (eN K Q) (addH σ m)
theorem CX01 {α : Type} {X : Fa ⊕ α} {Q : α → (Nat → Nat → Int32) → Prop} {r : Int32} {v : Nat → Nat → Int32} (h : CX X Q r v) : r = 0 ∨ r = 1 := by
  cases X with
  | inl f => exact Or.inl h.1
  | inr a => exact Or.inr h.1
section
variable {K : Tp} {v : Nat → Nat → Int32} {w : Nat → Nat → Int64} {P lo hi : Nat}
theorem vL_lt (hb : ∀ j, j < K.1 → K.2 j ≤ 127) (hP : P ≤ K.1) (hk : kD K P = 2) : vL K P < 2 ^ 31 := by
  have hs := sT_b hP
  have he := eN_b hP
  have h1 := he.2.2 (by omega) (by omega)
  have b1 := hb (sT K P) (by omega)
  unfold vL
  split
  · omega
  · have b2 := hb (sT K P + 1) (by omega)
    omega
theorem C_fail {c s : Nat} (h7 : v 1 7 = nI s) : ∃ v', f_Reader_fail 1 (nI c) (nI s) (bh v w) = some (0, bh v' w) ∧ FrR v v' ∧ v' 1 2 = nI c ∧ v' 1 3 = nI s := by
  unfold f_Reader_fail f_Reader_fail_0
  simp only [hT0, bd1_q]
  exact ⟨_, rfl, ⟨fun q hq => (u2_o hq).trans (u2_o hq), by simp [u2_ap], by simp [u2_ap]⟩, by simp [u2_ap], by simp [u2_ap]⟩
theorem C_isBounded (hk : CTk K P v) (h2 : v 1 2 = 0) (k2 : kD K P = 2) (hv : vL K P < 2 ^ 31) (hlo : lo < 200) (hhi : hi < 200) : ∃ r v', f_Reader_isBounded 1 (nI lo) (nI hi) (bh v w) = some (r, bh v' w) ∧ FrR v v' ∧ CX (chkB K lo hi P) (fun n v' => CTk K P v' ∧ v' 1 8 = nI n ∧ lo ≤ n ∧ n ≤ hi) r v' := by
  obtain ⟨v1, e1, f1, b1, b2⟩ := C_fail (w := w) (c := 3) hk.2.2.1
  unfold f_Reader_isBounded f_Reader_isBounded_0 f_Reader_isBounded_24
  simp only [hT0, bd1_q, Q_isWithin, bd2_q]
  rw [hk.2.2.2 k2, hk.2.2.1, nI_toInt hv, nI_toInt (show lo < 2 ^ 31 by omega), nI_toInt (show hi < 2 ^ 31 by omega)]
  unfold chkB
  by_cases c : lo ≤ vL K P ∧ vL K P ≤ hi
  · rw [if_pos (show ((lo : Nat) : Int) ≤ (vL K P : Nat) ∧ ((vL K P : Nat) : Int) ≤ (hi : Nat) by omega), if_neg (by decide), if_pos c]
    exact ⟨1, v, rfl, FrR.rfl' v, rfl, h2, hk, hk.2.2.2 k2, c⟩
  · rw [if_neg (show ¬ (((lo : Nat) : Int) ≤ (vL K P : Nat) ∧ ((vL K P : Nat) : Int) ≤ (hi : Nat)) by omega), if_pos rfl, if_neg c, show (3 : Int32) = nI 3 from rfl, e1, bd2_s, if_pos rfl]
    exact ⟨0, v1, rfl, f1, rfl, b1, b2⟩
theorem C_takeNumber (hT : CT K v) (h2 : v 1 2 = 0) (h5 : v 1 5 = nI P) (hP : P ≤ K.1) (hlo : lo < 200) (hhi : hi < 200) : ∃ r v', f_Reader_takeNumber 1 (nI lo) (nI hi) (bh v w) = some (r, bh v' w) ∧ FrR v v' ∧ CX (sNum K lo hi P) (fun n v' => CTk K P v' ∧ v' 1 8 = nI n ∧ lo ≤ n ∧ n ≤ hi) r v' := by
  obtain ⟨r, v1, e1, f1, x1⟩ := C_takeToken (w := w) hT h2 h5 hP
  unfold f_Reader_takeNumber f_Reader_takeNumber_0
  simp only [hT0, bd1_q]
  rw [e1, bd2_s]
  unfold sNum
  cases hX : tokX K P with
  | inl f =>
    rw [hX] at x1
    obtain ⟨rfl, a, b⟩ := x1
    rw [if_pos rfl]
    exact ⟨0, v1, rfl, f1, rfl, a, b⟩
  | inr u =>
    rw [hX] at x1
    obtain ⟨rfl, a2, tk⟩ := x1
    rw [if_neg (by decide)]
    simp only [hT0, bd1_q, sb_r]
    rw [tk.2.1, tk.2.2.1]
    have k4 := (kc_s (K := K) (s := sT K P)).2.2.2.2
    have ek : kD K P = kc K (sT K P) := rfl
    rw [show (2 : Int32) = nI 2 from rfl, ite_iff (nI_eqI (by omega) (by omega))]
    unfold chk
    by_cases k : kD K P = 2
    · rw [if_pos k, if_pos k]
      obtain ⟨r, v2, e2, f2, x2⟩ := C_isBounded (w := w) (lo := lo) (hi := hi) tk a2 k (vL_lt (fun j hj => (hT.2.2 j hj).2) hP k) hlo hhi
      rw [e2, bd2_s, if_pos (CX01 x2)]
      exact ⟨r, v2, rfl, f1.tr f2, x2⟩
    · rw [if_neg k, if_neg k]
      obtain ⟨v2, e2, f2, b1, b2⟩ := C_fail (w := w) (c := 2) tk.2.2.1
      rw [e2, bd2_s, if_pos (Or.inl rfl)]
      exact ⟨0, v2, rfl, f1.tr f2, rfl, b1, b2⟩
theorem C_isStop (hk : CTk K P v) (h2 : v 1 2 = 0) : ∃ r v', f_Reader_isStop 1 (bh v w) = some (r, bh v' w) ∧ FrR v v' ∧ CX (sStp K P) (fun _ v' => v' 1 5 = nI (eN K P)) r v' := by
  have k4 := (kc_s (K := K) (s := sT K P)).2.2.2.2
  have ek : kD K P = kc K (sT K P) := rfl
  obtain ⟨v1, e1, f1, b1, b2⟩ := C_fail (w := w) (c := 2) hk.2.2.1
  unfold f_Reader_isStop f_Reader_isStop_0 f_Reader_isStop_20
  simp only [hT0, bd1_q]
  rw [hk.2.1, hk.2.2.1, show (3 : Int32) = nI 3 from rfl, ite_iff (nI_eqI (by omega) (by omega))]
  unfold sStp
  by_cases k : kD K P = 3
  · rw [if_pos k, if_pos k]
    exact ⟨1, v, rfl, FrR.rfl' v, rfl, h2, hk.1⟩
  · rw [if_neg k, if_neg k, show (2 : Int32) = nI 2 from rfl, e1, bd2_s, if_pos rfl]
    exact ⟨0, v1, rfl, f1, rfl, b1, b2⟩
end
end
/-! 8x4.text4.lean.txt -/
section
/-! the class reads the lines -/
def CS (σ : Rho) (v : Nat → Nat → Int32) : Prop := (v 20 0 = nI (σ 0 0) ∧ v 20 1 = nI (σ 0 1) ∧ v 20 2 = 0 ∧ v 20 3 = 0 ∧ v 20 4 = nI (2 ^ σ 0 0 - 1) ∧ v 20 5 = nI (σ 0 5) ∧ v 33 0 = 0) ∧ (∀ l, l < σ 0 0 → v 21 l = nI (σ 1 l) ∧ v 22 l = nI (σ 2 l) ∧ v 23 l = nI (σ 3 l) ∧ v 24 l = nI (σ 4 l) ∧ v 25 l = cI (σ 5 l)) ∧ (∀ p, p < σ 0 1 → v 26 p = nI (σ 6 p) ∧ v 27 p = nI (σ 7 p) ∧ v 28 p = nI (σ 8 p) ∧ v 29 p = nI (σ 9 p)) ∧ (∀ p, p < 3 → v 30 p = nI (σ 10 p) ∧ v 31 p = nI (σ 11 p)) ∧ (∀ j, j < 15 → v 32 j = 0)
def SI (σ : Rho) : Prop :=
  (σ 0 0 ≤ 5 ∧ σ 0 1 ≤ 3 ∧ σ 0 2 = 0 ∧ σ 0 3 = 0 ∧ σ 0 5 < 32 ∧ σ 0 6 = 0 ∧ σ 17 0 ≤ 5 ∧ σ 17 1 ≤ 3) ∧
  (∀ l, l < σ 0 0 → σ 1 l ≤ 9 ∧ 1 ≤ σ 2 l ∧ σ 2 l ≤ 3 ∧ σ 3 l ≤ 9 ∧ σ 4 l ≤ 9 ∧ σ 5 l ≤ 5 ∧ σ 5 l ≠ l + 1) ∧
  (∀ p, p < σ 0 1 → σ 6 p ≤ 5 ∧ σ 7 p ≤ 3 ∧ σ 8 p ≤ 10 ∧ σ 9 p ≤ 99) ∧
  (∀ p, p < 3 → σ 10 p < 32 ∧ σ 11 p < 32 ∧ (σ 0 1 ≤ p → σ 10 p = 0)) ∧
  (∀ j, σ 12 j = 0) ∧
  (∀ n, n ≤ 5 → (σ 17 0 ≤ n ↔ σ 0 5 < 2 ^ n ∧ (∀ l, l < σ 0 0 → σ 5 l ≤ n) ∧ ∀ p, p < 3 → σ 10 p < 2 ^ n ∧ σ 11 p < 2 ^ n)) ∧
  (∀ n, n ≤ 3 → (σ 17 1 ≤ n ↔ ∀ p, p < 3 → σ 11 p ≠ 0 → p < n))
def Ch (v V v' : Nat → Nat → Int32) : Prop := (∀ q, q ≠ 1 → v' q = V q) ∧ v' 1 1 = v 1 1 ∧ v' 1 4 = v 1 4
theorem Ch.nm {v V v1 v2 : Nat → Nat → Int32} (h : Ch v V v1) (g : FrR v1 v2) : Ch v V v2 := ⟨fun q hq => (g.1 q hq).trans (h.1 q hq), g.2.1.trans h.2.1, g.2.2.trans h.2.2⟩
theorem Ch.wr {v V v1 : Nat → Nat → Int32} {o k : Nat} {x : Int32} (h : Ch v V v1) (ho : o ≠ 1) : Ch v (u2 V o k x) (u2 v1 o k x) := ⟨fun q hq => u2_cg (h.1 q hq), (congrFun (u2_o (fun z => ho z.symm)) 1).trans h.2.1, (congrFun (u2_o (fun z => ho z.symm)) 4).trans h.2.2⟩
/-- ready to read on at P -/
def Rdy (K : Tp) (P : Nat) (v : Nat → Nat → Int32) : Prop := CT K v ∧ v 1 2 = 0 ∧ v 1 5 = nI P
theorem Rdy.wr {K : Tp} {P o k : Nat} {x : Int32} {v : Nat → Nat → Int32} (h : Rdy K P v) (h1 : 1 ≠ o) (h2 : 2 ≠ o) : Rdy K P (u2 v o k x) := ⟨h.1.fr (congrFun (u2_o h1) 1) (u2_o h2), (congrFun (u2_o h1) 2).trans h.2.1, (congrFun (u2_o h1) 5).trans h.2.2⟩
theorem CS.of {σ : Rho} {v V : Nat → Nat → Int32} (h : CS σ V) (e : ∀ q, q ≠ 1 → v q = V q) : CS σ v := by
  unfold CS
  rw [e 20 (by decide), e 21 (by decide), e 22 (by decide), e 23 (by decide), e 24 (by decide), e 25 (by decide), e 26 (by decide), e 27 (by decide), e 28 (by decide), e 29 (by decide), e 30 (by decide), e 31 (by decide), e 32 (by decide), e 33 (by decide)]
  exact h
def FrL (v v' : Nat → Nat → Int32) : Prop := (∀ q, q ≠ 1 → q < 20 ∨ 37 ≤ q → v' q = v q) ∧ v' 1 1 = v 1 1 ∧ v' 1 4 = v 1 4
theorem or_pw : ∀ l, l < 5 → nI (2 ^ l - 1) ||| ((1 : Int32) <<< (nI l &&& 31)) = nI (2 ^ (l + 1) - 1) := by decide +kernel
def vLaw (σ : Rho) (v : Nat → Nat → Int32) : Nat → Nat → Int32 := u2 (u2 (u2 v 25 (σ 0 0) (-4)) 20 4 (nI (2 ^ (σ 0 0 + 1) - 1))) 20 0 (nI (σ 0 0 + 1))
theorem CS_addL {σ : Rho} {v : Nat → Nat → Int32} {q c h f : Nat} (hs : CS σ v) : CS (addL σ q c h f 0) (u2 (u2 (u2 (u2 (vLaw σ v) 21 (σ 0 0) (nI q)) 22 (σ 0 0) (nI c)) 23 (σ 0 0) (nI h)) 24 (σ 0 0) (nI f)) := by
  obtain ⟨⟨a1, a2, a3, a4, a5, a6, a7⟩, b, c', d, e⟩ := hs
  unfold CS addL vLaw
  simp [u2_ap, up2_ap, a2, a3, a4, a6, a7]
  refine ⟨fun l hl => ?_, c', d, e⟩
  by_cases z : l = σ 0 0
  · simp [z]; rfl
  · have := b l (by omega)
    simp [z, this]
theorem CS_addLm {σ : Rho} {v : Nat → Nat → Int32} {q c h f m : Nat} (hs : CS σ v) : CS (addL σ q c h f (m + 1)) (u2 (u2 (u2 (u2 (u2 (vLaw σ v) 21 (σ 0 0) (nI q)) 22 (σ 0 0) (nI c)) 23 (σ 0 0) (nI h)) 24 (σ 0 0) (nI f)) 25 (σ 0 0) (nI m)) := by
  obtain ⟨⟨a1, a2, a3, a4, a5, a6, a7⟩, b, c', d, e⟩ := hs
  unfold CS addL vLaw
  simp [u2_ap, up2_ap, a2, a3, a4, a6, a7]
  refine ⟨fun l hl => ?_, c', d, e⟩
  by_cases z : l = σ 0 0
  · simp [z]; rfl
  · have := b l (by omega)
    simp [z, this]
theorem Ch.fl {v V v' v0 : Nat → Nat → Int32} (h : Ch v0 V v') (e : ∀ q, q ≠ 1 → q < 20 ∨ 37 ≤ q → V q = v q) (e1 : v0 1 = v 1) : FrL v v' := ⟨fun q h1 h2 => (h.1 q h1).trans (e q h1 h2), h.2.1.trans (by rw [e1]), h.2.2.trans (by rw [e1])⟩
section
variable {K : Tp} {σ : Rho} {v : Nat → Nat → Int32} {w : Nat → Nat → Int64} {P : Nat}
theorem C_takeLaw (hR : Rdy K P v) (hP : P ≤ K.1) (hs : CS σ v) (hl : σ 0 0 < 5) : ∃ r v', f_Reader_takeLaw 1 20 (nI (σ 0 0)) (bh v w) = some (r, bh v' w) ∧ FrL v v' ∧ CX (sLaw K σ P) (fun x v' => v' 1 5 = nI x.2 ∧ CS x.1 v') r v' := by
  have s1 := fun q c h f => CS_addL (v := v) (q := q) (c := c) (h := h) (f := f) hs
  have s2 := fun q c h f m => CS_addLm (v := v) (q := q) (c := c) (h := h) (f := f) (m := m) hs
  have hb : ∀ j, j < K.1 → K.2 j ≤ 127 := fun j hj => (hR.1.2.2 j hj).2
  have z1 : vLaw σ v 1 = v 1 := by unfold vLaw; rw [u2_o (by decide), u2_o (by decide), u2_o (by decide)]
  have zq : ∀ q, q ≠ 1 → q < 20 ∨ 37 ≤ q → vLaw σ v q = v q := fun q _ h2 => by unfold vLaw; rw [u2_o (by omega), u2_o (by omega), u2_o (by omega)]
  have R0 : Rdy K P (vLaw σ v) := ((hR.wr (by decide) (by decide)).wr (by decide) (by decide)).wr (by decide) (by decide)
  have e0 : u2 (u2 (u2 v 25 (σ 0 0) (-4)) 20 4 (nI (2 ^ (σ 0 0 + 1) - 1))) 20 0 (nI (σ 0 0 + 1)) = vLaw σ v := rfl
  unfold f_Reader_takeLaw f_Reader_takeLaw_0 f_Reader_takeLaw_174 f_Reader_takeLaw_163 sLaw
  rw [if_pos (show nI (σ 0 0) < (5 : Int32) from nI_lt hl (by decide))]
  simp only [hU0, hT0, bd1_q]
  rw [wr_nI hl (by decide)]
  simp only [hU0, hT0, bd1_q]
  rw [u2_n (show (0 : Nat) ≠ 4 by decide), u2_o (show 20 ≠ 25 by decide), hs.1.1, hs.1.2.2.2.2.1, or_pw _ hl, nI_1, e0]
  clear e0
  generalize vLaw σ v = v0 at s1 s2 z1 zq R0
  have H0 : Ch v0 v0 v0 := ⟨fun _ _ => rfl, rfl, rfl⟩
  obtain ⟨r1, v1, e1, f1, x1⟩ := C_takeNumber (w := w) (lo := 0) (hi := 9) R0.1 R0.2.1 R0.2.2 hP (by decide) (by decide)
  have e1 : f_Reader_takeNumber 1 (0 : Int32) (9 : Int32) (bh (v0) w) = some (r1, bh v1 w) := e1
  rw [e1, bd2_s]
  have H1a := H0.nm f1
  have T1 := R0.1.fR f1
  clear e1
  generalize hX1 : sNum K 0 9 P = X1 at x1 ⊢
  cases X1 with
  | inl g =>
    obtain ⟨rfl, a, b⟩ := x1
    rw [if_pos rfl]
    exact ⟨0, v1, rfl, H1a.fl zq z1, rfl, a, b⟩
  | inr q =>
  obtain ⟨rfl, a2, tk1, a8, lo1, hi1⟩ := x1
  rw [if_neg (by decide), sb_r]
  simp only [hU0, hT0, bd1_q, f_Reader_putInto, f_Reader_putInto_0]
  rw [wr_nI hl (by decide), bd1_s, bd2_s, if_neg (by decide), a8]
  have R1 : Rdy K (eN K P) (u2 v1 21 (σ 0 0) (nI q)) := Rdy.wr ⟨T1, a2, tk1.1⟩ (by decide) (by decide)
  have H1 := H1a.wr (o := 21) (k := (σ 0 0)) (x := nI q) (by decide)
  have fr1 : ∀ qq, qq ≠ 1 → qq < 20 ∨ 37 ≤ qq → u2 (v0) 21 (σ 0 0) (nI q) qq = v qq := fun qq h1 h2 => (u2_o (by omega)).trans (zq qq h1 h2)
  have hP1 := (eN_b hP).2.1
  obtain ⟨r2, v2, e2, f2, x2⟩ := C_takeNumber (w := w) (lo := 1) (hi := 3) R1.1 R1.2.1 R1.2.2 hP1 (by decide) (by decide)
  have e2 : f_Reader_takeNumber 1 (1 : Int32) (3 : Int32) (bh (u2 v1 21 (σ 0 0) (nI q)) w) = some (r2, bh v2 w) := e2
  rw [e2, bd2_s]
  have H2a := H1.nm f2
  have T2 := R1.1.fR f2
  clear e2
  generalize hX2 : sNum K 1 3 (eN K P) = X2 at x2 ⊢
  cases X2 with
  | inl g =>
    obtain ⟨rfl, a, b⟩ := x2
    rw [if_pos rfl]
    exact ⟨0, v2, rfl, H2a.fl fr1 z1, rfl, a, b⟩
  | inr c =>
  obtain ⟨rfl, a2, tk2, a8, lo2, hi2⟩ := x2
  rw [if_neg (by decide), sb_r]
  simp only [hU0, hT0, bd1_q, f_Reader_putInto, f_Reader_putInto_0]
  rw [wr_nI hl (by decide), bd1_s, bd2_s, if_neg (by decide), a8]
  have R2 : Rdy K (eN K (eN K P)) (u2 v2 22 (σ 0 0) (nI c)) := Rdy.wr ⟨T2, a2, tk2.1⟩ (by decide) (by decide)
  have H2 := H2a.wr (o := 22) (k := (σ 0 0)) (x := nI c) (by decide)
  have fr2 : ∀ qq, qq ≠ 1 → qq < 20 ∨ 37 ≤ qq → u2 (u2 (v0) 21 (σ 0 0) (nI q)) 22 (σ 0 0) (nI c) qq = v qq := fun qq h1 h2 => (u2_o (by omega)).trans (fr1 qq h1 h2)
  have hP2 := (eN_b hP1).2.1
  obtain ⟨r3, v3, e3, f3, x3⟩ := C_takeNumber (w := w) (lo := 0) (hi := 9) R2.1 R2.2.1 R2.2.2 hP2 (by decide) (by decide)
  have e3 : f_Reader_takeNumber 1 (0 : Int32) (9 : Int32) (bh (u2 v2 22 (σ 0 0) (nI c)) w) = some (r3, bh v3 w) := e3
  rw [e3, bd2_s]
  have H3a := H2.nm f3
  have T3 := R2.1.fR f3
  clear e3
  generalize hX3 : sNum K 0 9 (eN K (eN K P)) = X3 at x3 ⊢
  cases X3 with
  | inl g =>
    obtain ⟨rfl, a, b⟩ := x3
    rw [if_pos rfl]
    exact ⟨0, v3, rfl, H3a.fl fr2 z1, rfl, a, b⟩
  | inr h =>
  obtain ⟨rfl, a2, tk3, a8, lo3, hi3⟩ := x3
  rw [if_neg (by decide), sb_r]
  simp only [hU0, hT0, bd1_q, f_Reader_putInto, f_Reader_putInto_0]
  rw [wr_nI hl (by decide), bd1_s, bd2_s, if_neg (by decide), a8]
  have R3 : Rdy K (eN K (eN K (eN K P))) (u2 v3 23 (σ 0 0) (nI h)) := Rdy.wr ⟨T3, a2, tk3.1⟩ (by decide) (by decide)
  have H3 := H3a.wr (o := 23) (k := (σ 0 0)) (x := nI h) (by decide)
  have fr3 : ∀ qq, qq ≠ 1 → qq < 20 ∨ 37 ≤ qq → u2 (u2 (u2 (v0) 21 (σ 0 0) (nI q)) 22 (σ 0 0) (nI c)) 23 (σ 0 0) (nI h) qq = v qq := fun qq h1 h2 => (u2_o (by omega)).trans (fr2 qq h1 h2)
  have hP3 := (eN_b hP2).2.1
  obtain ⟨r4, v4, e4, f4, x4⟩ := C_takeNumber (w := w) (lo := 0) (hi := 9) R3.1 R3.2.1 R3.2.2 hP3 (by decide) (by decide)
  have e4 : f_Reader_takeNumber 1 (0 : Int32) (9 : Int32) (bh (u2 v3 23 (σ 0 0) (nI h)) w) = some (r4, bh v4 w) := e4
  rw [e4, bd2_s]
  have H4a := H3.nm f4
  have T4 := R3.1.fR f4
  clear e4
  generalize hX4 : sNum K 0 9 (eN K (eN K (eN K P))) = X4 at x4 ⊢
  cases X4 with
  | inl g =>
    obtain ⟨rfl, a, b⟩ := x4
    rw [if_pos rfl]
    exact ⟨0, v4, rfl, H4a.fl fr3 z1, rfl, a, b⟩
  | inr f =>
  obtain ⟨rfl, a2, tk4, a8, lo4, hi4⟩ := x4
  rw [if_neg (by decide), sb_r]
  simp only [hU0, hT0, bd1_q, f_Reader_putInto, f_Reader_putInto_0]
  rw [wr_nI hl (by decide), bd1_s, bd2_s, if_neg (by decide), a8]
  have R4 : Rdy K (eN K (eN K (eN K (eN K P)))) (u2 v4 24 (σ 0 0) (nI f)) := Rdy.wr ⟨T4, a2, tk4.1⟩ (by decide) (by decide)
  have H4 := H4a.wr (o := 24) (k := (σ 0 0)) (x := nI f) (by decide)
  have fr4 : ∀ qq, qq ≠ 1 → qq < 20 ∨ 37 ≤ qq → u2 (u2 (u2 (u2 (v0) 21 (σ 0 0) (nI q)) 22 (σ 0 0) (nI c)) 23 (σ 0 0) (nI h)) 24 (σ 0 0) (nI f) qq = v qq := fun qq h1 h2 => (u2_o (by omega)).trans (fr3 qq h1 h2)
  have hP4 := (eN_b hP3).2.1
  unfold sCar
  simp only [hT0, bd1_q]
  obtain ⟨r5, v5, e5, f5, x5⟩ := C_takeToken (w := w) R4.1 R4.2.1 R4.2.2 hP4
  rw [e5, bd2_s]
  have H5 := H4.nm f5
  have T5 := R4.1.fR f5
  clear e5
  generalize hX5 : tokX K (eN K (eN K (eN K (eN K P)))) = X5 at x5 ⊢
  cases X5 with
  | inl g =>
    obtain ⟨rfl, a, b⟩ := x5
    rw [if_pos rfl]
    exact ⟨0, v5, rfl, H5.fl fr4 z1, rfl, a, b⟩
  | inr u =>
  obtain ⟨rfl, a2, tk⟩ := x5
  rw [if_neg (by decide), sb_r]
  simp only [hT0, bd1_q]
  generalize hQ4 : eN K (eN K (eN K (eN K P))) = Q4 at tk hP4 ⊢
  have k4 := (kc_s (K := K) (s := sT K Q4)).2.2.2.2
  have ek : kD K Q4 = kc K (sT K Q4) := rfl
  rw [tk.2.1, show (2 : Int32) = nI 2 from rfl, ite_iff (nI_eqI (by omega) (by omega))]
  by_cases k : kD K Q4 = 2
  · rw [if_pos k, if_pos k]
    obtain ⟨r6, v6, e6, f6, x6⟩ := C_isBounded (w := w) (lo := 0) (hi := 4) tk a2 k (vL_lt hb hP4 k) (by decide) (by decide)
    have e6 : f_Reader_isBounded 1 (0 : Int32) (4 : Int32) (bh v5 w) = some (r6, bh v6 w) := e6
    unfold f_Reader_takeCarried f_Reader_takeCarried_0 f_Reader_takeCarried_41
    simp only [hT0, bd1_q]
    rw [e6, bd2_s]
    have H6 := H5.nm f6
    have T6 := T5.fR f6
    clear e6
    generalize hX6 : chkB K 0 4 Q4 = X6 at x6 ⊢
    cases X6 with
    | inl g =>
      obtain ⟨rfl, a, b⟩ := x6
      rw [if_pos rfl, bd2_s, if_pos rfl]
      exact ⟨0, v6, rfl, H6.fl fr4 z1, rfl, a, b⟩
    | inr m =>
    obtain ⟨rfl, b2, tk6, b8, -, hm⟩ := x6
    rw [if_neg (by decide), sb_r]
    simp only [hU0, hT0, bd1_q]
    rw [wr_nI hl (by decide)]
    simp only [hU0, hT0, bd1_q]
    rw [u2_o (show 1 ≠ 25 by decide), b8, tk6.2.2.1, ite_iff (nI_eqI (by omega) (by omega))]
    have H7 := H6.wr (o := 25) (k := σ 0 0) (x := nI m) (by decide)
    have fr7 : ∀ qq, qq ≠ 1 → qq < 20 ∨ 37 ≤ qq → u2 (u2 (u2 (u2 (u2 (v0) 21 (σ 0 0) (nI q)) 22 (σ 0 0) (nI c)) 23 (σ 0 0) (nI h)) 24 (σ 0 0) (nI f)) 25 (σ 0 0) (nI m) qq = v qq := fun qq h1 h2 => (u2_o (by omega)).trans (fr4 qq h1 h2)
    by_cases g : m = σ 0 0
    · rw [if_pos g, if_pos g]
      obtain ⟨v8, e8, f8, b1, b2⟩ := C_fail (w := w) (c := 4) (v := u2 v6 25 (σ 0 0) (nI m)) (s := sT K Q4) ((congrFun (u2_o (by decide)) 7).trans tk6.2.2.1)
      rw [show (4 : Int32) = nI 4 from rfl, e8, bd2_s, if_pos rfl, bd2_s, if_pos rfl]
      exact ⟨0, v8, rfl, (H7.nm f8).fl fr7 z1, rfl, b1, b2⟩
    · rw [if_neg g, if_neg g, bd2_s, if_neg (by decide)]
      have R7 : Rdy K (eN K Q4) (u2 v6 25 (σ 0 0) (nI m)) := Rdy.wr ⟨T6, b2, tk6.1⟩ (by decide) (by decide)
      have hP5 := (eN_b hP4).2.1
      simp only [hT0, bd1_q]
      obtain ⟨r8, v8, e8, f8, x8⟩ := C_takeToken (w := w) R7.1 R7.2.1 R7.2.2 hP5
      rw [e8, bd2_s]
      have H8 := H7.nm f8
      clear e8
      generalize hX8 : tokX K (eN K Q4) = X8 at x8 ⊢
      cases X8 with
      | inl g =>
        obtain ⟨rfl, a, b⟩ := x8
        rw [if_pos rfl]
        exact ⟨0, v8, rfl, H8.fl fr7 z1, rfl, a, b⟩
      | inr u =>
      obtain ⟨rfl, c2, tk8⟩ := x8
      rw [if_neg (by decide), sb_r]
      simp only [hT0, bd1_q]
      obtain ⟨r9, v9, e9, f9, x9⟩ := C_isStop (w := w) tk8 c2
      rw [e9, bd2_s]
      have H9 := H8.nm f9
      unfold sFin
      generalize sStp K (eN K Q4) = X9 at x9 ⊢
      cases X9 with
      | inl g =>
        obtain ⟨rfl, a, b⟩ := x9
        rw [if_pos rfl]
        exact ⟨0, v9, rfl, H9.fl fr7 z1, rfl, a, b⟩
      | inr u =>
        obtain ⟨rfl, d2, d5⟩ := x9
        rw [if_neg (by decide)]
        exact ⟨1, v9, rfl, H9.fl fr7 z1, rfl, d2, d5, CS.of (s2 q c h f m) H9.1⟩
  · rw [if_neg k, if_neg k]
    obtain ⟨r9, v9, e9, f9, x9⟩ := C_isStop (w := w) tk a2
    rw [e9, bd2_s]
    have H9 := H5.nm f9
    unfold sFin
    generalize sStp K Q4 = X9 at x9 ⊢
    cases X9 with
    | inl g =>
      obtain ⟨rfl, a, b⟩ := x9
      rw [if_pos rfl]
      exact ⟨0, v9, rfl, H9.fl fr4 z1, rfl, a, b⟩
    | inr u =>
      obtain ⟨rfl, d2, d5⟩ := x9
      rw [if_neg (by decide)]
      exact ⟨1, v9, rfl, H9.fl fr4 z1, rfl, d2, d5, CS.of (s1 q c h f) H9.1⟩
end
end
/-! 8x5.text5.lean.txt -/
section
def vOne (σ : Rho) (v : Nat → Nat → Int32) : Nat → Nat → Int32 := u2 v 20 1 (nI (σ 0 1 + 1))
section
variable {K : Tp} {σ : Rho} {v : Nat → Nat → Int32} {w : Nat → Nat → Int64} {P : Nat}
theorem C_addLaw {q p m R s : Nat} (hq : q = 30 ∨ q = 31) (hp : p < 3) (hr : v q p = nI R) (hR : R < 32) (h8 : v 1 8 = nI m) (hm : m ≤ 4) (h7 : v 1 7 = nI s) : (bit R m = 1 → ∃ v', f_Reader_addLaw 1 q (nI p) (bh v w) = some (0, bh v' w) ∧ FrR v v' ∧ v' 1 2 = nI 4 ∧ v' 1 3 = nI s) ∧ (bit R m = 0 → f_Reader_addLaw 1 q (nI p) (bh v w) = some (1, bh (u2 v q p (nI (R ||| 2 ^ m))) w)) := by
  obtain ⟨v1, e1, f1, b1, b2⟩ := C_fail (w := w) (c := 4) h7
  rcases hq with rfl | rfl
  · refine ⟨fun b => ?_, fun b => ?_⟩
    · unfold f_Reader_addLaw f_Reader_addLaw_0
      simp only [hU0, hT0, bd1_q]
      rw [rd_nI hp (by decide), bd1_s, hr, h8, Q_hasBit (by omega) (by omega), bd2_s, b, if_neg (by decide)]
      simp only [hT0, bd1_q]
      rw [h7, show (4 : Int32) = nI 4 from rfl, e1, bd2_s, if_pos (Or.inl rfl)]
      exact ⟨v1, rfl, f1, b1, b2⟩
    · unfold f_Reader_addLaw f_Reader_addLaw_0
      simp only [hU0, hT0, bd1_q]
      rw [rd_nI hp (by decide), bd1_s, hr, h8, Q_hasBit (by omega) (by omega), bd2_s, b, if_pos (show nI 0 = 0 from rfl)]
      simp only [hU0, hT0, bd1_q]
      rw [rd_nI hp (by decide), bd1_s, hr, h8, shl_I (by omega), or_I, wr_nI hp (by decide), bd1_s]
  · refine ⟨fun b => ?_, fun b => ?_⟩
    · unfold f_Reader_addLaw f_Reader_addLaw_0
      simp only [hU0, hT0, bd1_q]
      rw [rd_nI hp (by decide), bd1_s, hr, h8, Q_hasBit (by omega) (by omega), bd2_s, b, if_neg (by decide)]
      simp only [hT0, bd1_q]
      rw [h7, show (4 : Int32) = nI 4 from rfl, e1, bd2_s, if_pos (Or.inl rfl)]
      exact ⟨v1, rfl, f1, b1, b2⟩
    · unfold f_Reader_addLaw f_Reader_addLaw_0
      simp only [hU0, hT0, bd1_q]
      rw [rd_nI hp (by decide), bd1_s, hr, h8, Q_hasBit (by omega) (by omega), bd2_s, b, if_pos (show nI 0 = 0 from rfl)]
      simp only [hU0, hT0, bd1_q]
      rw [rd_nI hp (by decide), bd1_s, hr, h8, shl_I (by omega), or_I, wr_nI hp (by decide), bd1_s]
theorem pw4 : ∀ x, x ≤ 4 → 2 ^ x < 32 := by decide
theorem C_refF (n b0 b1 : Nat) (b2 i : Int32) (h : mH) : f_Reader_takeOne_127 (n + 1) b0 b1 b2 0 i h = some (0, h) := by
  show f_Reader_takeOne_127b (f_Reader_takeOne_127 n) b0 b1 b2 0 i h = _
  unfold f_Reader_takeOne_127b f_Reader_takeOne_185 f_Reader_takeOne_200
  by_cases c : (5 : Int32) < i
  · rw [if_pos c, if_pos rfl]
  · rw [if_neg c, if_pos rfl, if_pos rfl]
theorem C_oneF (b0 b1 : Nat) (b2 : Int32) (h : mH) : f_Reader_takeOne_122 b0 b1 b2 h = some (0, h) := C_refF 599 b0 b1 b2 0 h
theorem C_one185 {α : Type} (a : α) (hk : CTk K P v) (h2 : v 1 2 = 0) : ∃ r v', f_Reader_takeOne_185 1 1 (bh v w) = some (r, bh v' w) ∧ FrR v v' ∧ CX (sFin K P a) (fun y v' => v' 1 5 = nI y.2 ∧ y.1 = a) r v' := by
  obtain ⟨r, v1, e1, f1, x1⟩ := C_isStop (w := w) hk h2
  unfold f_Reader_takeOne_185 f_Reader_takeOne_200 sFin
  rw [if_neg (by decide)]
  simp only [hT0, bd1_q]
  rw [e1, bd2_s]
  generalize sStp K P = X at x1 ⊢
  cases X with
  | inl g =>
    obtain ⟨rfl, a, b⟩ := x1
    rw [if_pos rfl]
    exact ⟨0, v1, rfl, f1, rfl, a, b⟩
  | inr u =>
    obtain ⟨rfl, d2, d5⟩ := x1
    rw [if_neg (by decide)]
    exact ⟨1, v1, rfl, f1, rfl, d2, d5, rfl⟩
def FrO (p : Nat) (v v' : Nat → Nat → Int32) : Prop := (∀ q, q ≠ 1 → q ≠ 30 → v' q = v q) ∧ (∀ j, j ≠ p → v' 30 j = v 30 j) ∧ v' 1 1 = v 1 1 ∧ v' 1 4 = v 1 4
theorem FrO.nm {p : Nat} {v v1 v2 : Nat → Nat → Int32} (h : FrO p v v1) (g : FrR v1 v2) : FrO p v v2 := ⟨fun q h1 h2 => (g.1 q h1).trans (h.1 q h1 h2), fun j hj => (congrFun (g.1 30 (by decide)) j).trans (h.2.1 j hj), g.2.1.trans h.2.2.1, g.2.2.trans h.2.2.2⟩
theorem FrO.rf (p : Nat) (v : Nat → Nat → Int32) : FrO p v v := ⟨fun _ _ _ => rfl, fun _ _ => rfl, rfl, rfl⟩
theorem FrO.wr {p : Nat} {v v1 : Nat → Nat → Int32} {x : Int32} (h : FrO p v v1) : FrO p v (u2 v1 30 p x) := ⟨fun q h1 h2 => (u2_o h2).trans (h.1 q h1 h2), fun j hj => (u2_n hj).trans (h.2.1 j hj), (congrFun (u2_o (by decide)) 1).trans h.2.2.1, (congrFun (u2_o (by decide)) 4).trans h.2.2.2⟩
theorem FrO.tr {p : Nat} {v v1 v2 : Nat → Nat → Int32} (h : FrO p v v1) (g : FrO p v1 v2) : FrO p v v2 := ⟨fun q h1 h2 => (g.1 q h1 h2).trans (h.1 q h1 h2), fun j hj => (g.2.1 j hj).trans (h.2.1 j hj), g.2.2.1.trans h.2.2.1, g.2.2.2.trans h.2.2.2⟩
theorem C_refL {p : Nat} (hp : p < 3) : ∀ (n fuel i R h Q : Nat) (v : Nat → Nat → Int32), n + 1 < fuel → i + n = 6 → CT K v → v 1 2 = 0 → CTk K Q v → Q ≤ K.1 → v 30 p = nI R → R < 32 → ∃ r v', f_Reader_takeOne_127 fuel 1 20 (nI p) 1 (nI i) (bh v w) = some (r, bh v' w) ∧ FrO p v v' ∧ CX (sb (sRef K n R h Q) fun x => sFin K x.2 x.1) (fun y v' => v' 1 5 = nI y.2 ∧ v' 30 p = nI y.1.1) r v' := by
  intro n
  have stp : ∀ (R h Q : Nat) (v : Nat → Nat → Int32), v 1 2 = 0 → CTk K Q v → v 30 p = nI R → ∃ r v', f_Reader_takeOne_185 1 1 (bh v w) = some (r, bh v' w) ∧ FrO p v v' ∧ CX (sFin K Q (R, h)) (fun y v' => v' 1 5 = nI y.2 ∧ v' 30 p = nI y.1.1) r v' := by
    intro R h Q v h2 hk h30
    obtain ⟨r, v1, e1, f1, x1⟩ := C_one185 (w := w) (R, h) hk h2
    refine ⟨r, v1, e1, (FrO.rf p v).nm f1, ?_⟩
    generalize sFin K Q (R, h) = X at x1 ⊢
    cases X with
    | inl g => exact x1
    | inr y =>
      obtain ⟨a, b, c, d⟩ := x1
      exact ⟨a, b, c, by rw [f1.1 30 (by decide), h30, d]⟩
  induction n with
  | zero =>
    intro fuel i R h Q v hf hi hT h2 hk hQ h30 hR
    obtain ⟨m, rfl⟩ : ∃ m, fuel = m + 1 := ⟨fuel - 1, by omega⟩
    obtain rfl : i = 6 := by omega
    show ∃ r v', f_Reader_takeOne_127b (f_Reader_takeOne_127 m) 1 20 (nI p) 1 (nI 6) (bh v w) = some (r, bh v' w) ∧ _
    unfold f_Reader_takeOne_127b
    rw [if_pos (by decide)]
    exact stp R h Q v h2 hk h30
  | succ n ih =>
    intro fuel i R h Q v hf hi hT h2 hk hQ h30 hR
    obtain ⟨m, rfl⟩ : ∃ m, fuel = m + 1 + 1 := ⟨fuel - 2, by omega⟩
    have k4 := (kc_s (K := K) (s := sT K Q)).2.2.2.2
    have ek : kD K Q = kc K (sT K Q) := rfl
    have hb : ∀ j, j < K.1 → K.2 j ≤ 127 := fun j hj => (hT.2.2 j hj).2
    show ∃ r v', f_Reader_takeOne_127b (f_Reader_takeOne_127 (m + 1)) 1 20 (nI p) 1 (nI i) (bh v w) = some (r, bh v' w) ∧ _
    unfold f_Reader_takeOne_127b sRef f_Reader_takeOne_177 f_Reader_takeOne_178
    rw [show (5 : Int32) = nI 5 from rfl, if_neg (fun z => by have := (nI_ltI (by omega) (by omega)).mp z; omega), if_neg (by decide)]
    simp only [hT0, hU0, bd1_q]
    rw [hk.2.1, show (2 : Int32) = nI 2 from rfl, ite_iff (nI_eqI (by omega) (by omega))]
    by_cases k : kD K Q = 2
    · rw [if_pos k, if_pos k]
      obtain ⟨r6, v6, e6, f6, x6⟩ := C_isBounded (w := w) (lo := 0) (hi := 4) hk h2 k (vL_lt hb hQ k) (by decide) (by decide)
      have e6 : f_Reader_isBounded 1 (0 : Int32) (4 : Int32) (bh v w) = some (r6, bh v6 w) := e6
      rw [e6, bd2_s]
      have T6 := hT.fR f6
      have F6 := (FrO.rf p v).nm f6
      clear e6
      generalize hX6 : chkB K 0 4 Q = X6 at x6 ⊢
      cases X6 with
      | inl g =>
        obtain ⟨rfl, a, b⟩ := x6
        rw [if_pos rfl, C_refF]
        exact ⟨0, v6, rfl, F6, rfl, a, b⟩
      | inr m' =>
      obtain ⟨rfl, b2, tk6, b8, -, hm⟩ := x6
      rw [if_neg (by decide), sb_r]
      simp only [hU0, hT0, bd1_q]
      obtain ⟨g1, g2⟩ := C_addLaw (w := w) (v := v6) (q := 30) (p := p) (R := R) (m := m') (s := sT K Q) (Or.inl rfl) hp ((congrFun (f6.1 30 (by decide)) p).trans h30) hR b8 hm tk6.2.2.1
      rcases bit_01 R m' with b | b
      · rw [g2 b, bd2_s, if_neg (by decide), if_neg (by omega)]
        simp only [hT0, bd1_q]
        obtain ⟨r8, v8, e8, f8, x8⟩ := C_takeToken (w := w) (K := K) (P := eN K Q) (v := u2 v6 30 p (nI (R ||| 2 ^ m'))) (T6.fr (congrFun (u2_o (by decide)) 1) (u2_o (by decide))) ((congrFun (u2_o (by decide)) 2).trans b2) ((congrFun (u2_o (by decide)) 5).trans tk6.1) (eN_b hQ).2.1
        rw [e8, bd2_s]
        have F8 := (F6.wr (x := nI (R ||| 2 ^ m'))).nm f8
        have T8 : CT K v8 := (T6.fr (congrFun (u2_o (by decide)) 1) (u2_o (by decide)) : CT K (u2 v6 30 p (nI (R ||| 2 ^ m')))).fR f8
        have c30 : v8 30 p = nI (R ||| 2 ^ m') := (congrFun (f8.1 30 (by decide)) p).trans (u2_at _ _ _ _)
        clear e8
        generalize hX8 : tokX K (eN K Q) = X8 at x8 ⊢
        cases X8 with
        | inl g =>
          obtain ⟨rfl, a, b⟩ := x8
          rw [if_pos rfl, C_refF]
          exact ⟨0, v8, rfl, F8, rfl, a, b⟩
        | inr u =>
        obtain ⟨rfl, c2, tk8⟩ := x8
        rw [if_neg (by decide), sb_r, nI_1]
        obtain ⟨r9, v9, e9, f9, x9⟩ := ih (m + 1) (i + 1) (R ||| 2 ^ m') (max h (m' + 1)) (eN K Q) v8 (by omega) (by omega) T8 c2 tk8 (eN_b hQ).2.1 c30 (or_lt R hR _ (pw4 m' hm))
        exact ⟨r9, v9, e9, F8.tr f9, x9⟩
      · obtain ⟨v7, e7, f7, b1, b3⟩ := g1 b
        rw [e7, bd2_s, if_pos rfl, C_refF, if_pos b]
        exact ⟨0, v7, rfl, F6.nm f7, rfl, b1, b3⟩
    · rw [if_neg k, if_neg k]
      exact stp R h Q v h2 hk h30
theorem CS_addO {σ : Rho} {v : Nat → Nat → Int32} {t c n u R h : Nat} (hs : CS σ v) (hp : σ 0 1 < 3) : CS (addO σ t c n u R h) (u2 (u2 (u2 (u2 (u2 (vOne σ v) 26 (σ 0 1) (nI t)) 27 (σ 0 1) (nI c)) 28 (σ 0 1) (nI n)) 29 (σ 0 1) (nI u)) 30 (σ 0 1) (nI R)) := by
  obtain ⟨⟨a1, a2, a3, a4, a5, a6, a7⟩, b, c', d, e⟩ := hs
  unfold CS addO vOne
  simp [u2_ap, up2_ap, a1, a3, a4, a5, a6, a7]
  refine ⟨b, fun l hl => ?_, fun p hp => ?_, e⟩
  · by_cases z : l = σ 0 1
    · simp [z]
    · have := c' l (by omega)
      simp [z, this]
  · by_cases z : p = σ 0 1
    · have := d p hp
      rw [z] at this
      simp [z, this]
    · have := d p hp
      simp [z, this]
theorem C_takeOne (hR : Rdy K P v) (hP : P ≤ K.1) (hs : CS σ v) (hI : SI σ) (hl : σ 0 1 < 3) : ∃ r v', f_Reader_takeOne 1 20 (nI (σ 0 1)) (bh v w) = some (r, bh v' w) ∧ FrL v v' ∧ CX (sOne K σ P) (fun x v' => v' 1 5 = nI x.2 ∧ CS x.1 v') r v' := by
  have s1 := fun t c n u R h => CS_addO (v := v) (t := t) (c := c) (n := n) (u := u) (R := R) (h := h) hs hl
  have z1 : vOne σ v 1 = v 1 := by unfold vOne; rw [u2_o (by decide)]
  have z30 : vOne σ v 30 = v 30 := by unfold vOne; rw [u2_o (by decide)]
  have zq : ∀ q, q ≠ 1 → q < 20 ∨ 37 ≤ q → vOne σ v q = v q := fun q _ h2 => by unfold vOne; rw [u2_o (by omega)]
  have R0 : Rdy K P (vOne σ v) := hR.wr (by decide) (by decide)
  have e0 : u2 v 20 1 (nI (σ 0 1 + 1)) = vOne σ v := rfl
  have h30 : v 30 (σ 0 1) = nI 0 := by rw [(hs.2.2.2.1 _ hl).1, (hI.2.2.2.1 _ hl).2.2 (Nat.le_refl _)]
  unfold f_Reader_takeOne f_Reader_takeOne_0 sOne
  rw [if_pos (show nI (σ 0 1) < (3 : Int32) from nI_lt hl (by decide))]
  simp only [hU0, hT0, bd1_q, C_oneF]
  rw [hs.1.2.1, nI_1, e0]
  clear e0
  generalize vOne σ v = v0 at s1 z1 z30 zq R0
  have H0 : Ch v0 v0 v0 := ⟨fun _ _ => rfl, rfl, rfl⟩
  obtain ⟨r1, v1, e1, f1, x1⟩ := C_takeNumber (w := w) (lo := 0) (hi := 5) R0.1 R0.2.1 R0.2.2 hP (by decide) (by decide)
  have e1 : f_Reader_takeNumber 1 (0 : Int32) (5 : Int32) (bh (v0) w) = some (r1, bh v1 w) := e1
  rw [e1, bd2_s]
  have H1a := H0.nm f1
  have T1 := R0.1.fR f1
  clear e1
  generalize hX1 : sNum K 0 5 P = X1 at x1 ⊢
  cases X1 with
  | inl g =>
    obtain ⟨rfl, a, b⟩ := x1
    rw [if_pos rfl]
    exact ⟨0, v1, rfl, H1a.fl zq z1, rfl, a, b⟩
  | inr t =>
  obtain ⟨rfl, a2, tk1, a8, lo1, hi1⟩ := x1
  rw [if_neg (by decide), sb_r]
  simp only [hU0, hT0, bd1_q, f_Reader_putInto, f_Reader_putInto_0]
  rw [wr_nI hl (by decide), bd1_s, bd2_s, if_neg (by decide), a8]
  have R1 : Rdy K (eN K P) (u2 v1 26 (σ 0 1) (nI t)) := Rdy.wr ⟨T1, a2, tk1.1⟩ (by decide) (by decide)
  have H1 := H1a.wr (o := 26) (k := (σ 0 1)) (x := nI t) (by decide)
  have fr1 : ∀ qq, qq ≠ 1 → qq < 20 ∨ 37 ≤ qq → u2 (v0) 26 (σ 0 1) (nI t) qq = v qq := fun qq h1 h2 => (u2_o (by omega)).trans (zq qq h1 h2)
  have hP1 := (eN_b hP).2.1
  obtain ⟨r2, v2, e2, f2, x2⟩ := C_takeNumber (w := w) (lo := 0) (hi := 3) R1.1 R1.2.1 R1.2.2 hP1 (by decide) (by decide)
  have e2 : f_Reader_takeNumber 1 (0 : Int32) (3 : Int32) (bh (u2 v1 26 (σ 0 1) (nI t)) w) = some (r2, bh v2 w) := e2
  rw [e2, bd2_s]
  have H2a := H1.nm f2
  have T2 := R1.1.fR f2
  clear e2
  generalize hX2 : sNum K 0 3 (eN K P) = X2 at x2 ⊢
  cases X2 with
  | inl g =>
    obtain ⟨rfl, a, b⟩ := x2
    rw [if_pos rfl]
    exact ⟨0, v2, rfl, H2a.fl fr1 z1, rfl, a, b⟩
  | inr c =>
  obtain ⟨rfl, a2, tk2, a8, lo2, hi2⟩ := x2
  rw [if_neg (by decide), sb_r]
  simp only [hU0, hT0, bd1_q, f_Reader_putInto, f_Reader_putInto_0]
  rw [wr_nI hl (by decide), bd1_s, bd2_s, if_neg (by decide), a8]
  have R2 : Rdy K (eN K (eN K P)) (u2 v2 27 (σ 0 1) (nI c)) := Rdy.wr ⟨T2, a2, tk2.1⟩ (by decide) (by decide)
  have H2 := H2a.wr (o := 27) (k := (σ 0 1)) (x := nI c) (by decide)
  have fr2 : ∀ qq, qq ≠ 1 → qq < 20 ∨ 37 ≤ qq → u2 (u2 (v0) 26 (σ 0 1) (nI t)) 27 (σ 0 1) (nI c) qq = v qq := fun qq h1 h2 => (u2_o (by omega)).trans (fr1 qq h1 h2)
  have hP2 := (eN_b hP1).2.1
  obtain ⟨r3, v3, e3, f3, x3⟩ := C_takeNumber (w := w) (lo := 0) (hi := 10) R2.1 R2.2.1 R2.2.2 hP2 (by decide) (by decide)
  have e3 : f_Reader_takeNumber 1 (0 : Int32) (10 : Int32) (bh (u2 v2 27 (σ 0 1) (nI c)) w) = some (r3, bh v3 w) := e3
  rw [e3, bd2_s]
  have H3a := H2.nm f3
  have T3 := R2.1.fR f3
  clear e3
  generalize hX3 : sNum K 0 10 (eN K (eN K P)) = X3 at x3 ⊢
  cases X3 with
  | inl g =>
    obtain ⟨rfl, a, b⟩ := x3
    rw [if_pos rfl]
    exact ⟨0, v3, rfl, H3a.fl fr2 z1, rfl, a, b⟩
  | inr n =>
  obtain ⟨rfl, a2, tk3, a8, lo3, hi3⟩ := x3
  rw [if_neg (by decide), sb_r]
  simp only [hU0, hT0, bd1_q, f_Reader_putInto, f_Reader_putInto_0]
  rw [wr_nI hl (by decide), bd1_s, bd2_s, if_neg (by decide), a8]
  have R3 : Rdy K (eN K (eN K (eN K P))) (u2 v3 28 (σ 0 1) (nI n)) := Rdy.wr ⟨T3, a2, tk3.1⟩ (by decide) (by decide)
  have H3 := H3a.wr (o := 28) (k := (σ 0 1)) (x := nI n) (by decide)
  have fr3 : ∀ qq, qq ≠ 1 → qq < 20 ∨ 37 ≤ qq → u2 (u2 (u2 (v0) 26 (σ 0 1) (nI t)) 27 (σ 0 1) (nI c)) 28 (σ 0 1) (nI n) qq = v qq := fun qq h1 h2 => (u2_o (by omega)).trans (fr2 qq h1 h2)
  have hP3 := (eN_b hP2).2.1
  obtain ⟨r4, v4, e4, f4, x4⟩ := C_takeNumber (w := w) (lo := 0) (hi := 99) R3.1 R3.2.1 R3.2.2 hP3 (by decide) (by decide)
  have e4 : f_Reader_takeNumber 1 (0 : Int32) (99 : Int32) (bh (u2 v3 28 (σ 0 1) (nI n)) w) = some (r4, bh v4 w) := e4
  rw [e4, bd2_s]
  have H4a := H3.nm f4
  have T4 := R3.1.fR f4
  clear e4
  generalize hX4 : sNum K 0 99 (eN K (eN K (eN K P))) = X4 at x4 ⊢
  cases X4 with
  | inl g =>
    obtain ⟨rfl, a, b⟩ := x4
    rw [if_pos rfl]
    exact ⟨0, v4, rfl, H4a.fl fr3 z1, rfl, a, b⟩
  | inr u =>
  obtain ⟨rfl, a2, tk4, a8, lo4, hi4⟩ := x4
  rw [if_neg (by decide), sb_r]
  simp only [hU0, hT0, bd1_q, f_Reader_putInto, f_Reader_putInto_0]
  rw [wr_nI hl (by decide), bd1_s, bd2_s, if_neg (by decide), a8]
  have R4 : Rdy K (eN K (eN K (eN K (eN K P)))) (u2 v4 29 (σ 0 1) (nI u)) := Rdy.wr ⟨T4, a2, tk4.1⟩ (by decide) (by decide)
  have H4 := H4a.wr (o := 29) (k := (σ 0 1)) (x := nI u) (by decide)
  have fr4 : ∀ qq, qq ≠ 1 → qq < 20 ∨ 37 ≤ qq → u2 (u2 (u2 (u2 (v0) 26 (σ 0 1) (nI t)) 27 (σ 0 1) (nI c)) 28 (σ 0 1) (nI n)) 29 (σ 0 1) (nI u) qq = v qq := fun qq h1 h2 => (u2_o (by omega)).trans (fr3 qq h1 h2)
  have hP4 := (eN_b hP3).2.1
  simp only [hT0, bd1_q]
  obtain ⟨r5, v5, e5, f5, x5⟩ := C_takeToken (w := w) R4.1 R4.2.1 R4.2.2 hP4
  rw [e5, bd2_s]
  have H5 := H4.nm f5
  have T5 := R4.1.fR f5
  clear e5
  generalize hX5 : tokX K (eN K (eN K (eN K (eN K P)))) = X5 at x5 ⊢
  cases X5 with
  | inl g =>
    obtain ⟨rfl, a, b⟩ := x5
    rw [if_pos rfl]
    exact ⟨0, v5, rfl, H5.fl fr4 z1, rfl, a, b⟩
  | inr uu =>
  obtain ⟨rfl, a2, tk⟩ := x5
  rw [if_neg (by decide), sb_r]
  unfold f_Reader_takeOne_123
  generalize hQ4 : eN K (eN K (eN K (eN K P))) = Q4 at tk hP4 ⊢
  have c30 : v5 30 (σ 0 1) = nI 0 := by
    rw [H5.1 30 (by decide), u2_o (by decide), u2_o (by decide), u2_o (by decide), u2_o (by decide), z30]
    exact h30
  obtain ⟨r9, v9, e9, f9, x9⟩ := C_refL (w := w) hl 6 FU 0 0 (σ 17 0) Q4 v5 (by decide) (by decide) T5 a2 tk hP4 c30 (by decide)
  refine ⟨r9, v9, e9, ⟨fun q h1 h2 => (f9.1 q h1 (by omega)).trans ((H5.1 q h1).trans (fr4 q h1 h2)), f9.2.2.1.trans (H5.2.1.trans (by rw [z1])), f9.2.2.2.trans (H5.2.2.trans (by rw [z1]))⟩, ?_⟩
  clear e9
  generalize sRef K 6 0 (σ 17 0) Q4 = X at x9 ⊢
  cases X with
  | inl g => exact x9
  | inr x =>
  rw [sb_r] at x9 ⊢
  unfold sFin at x9 ⊢
  generalize sStp K x.2 = X at x9 ⊢
  cases X with
  | inl g => exact x9
  | inr y =>
  obtain ⟨b1, b2, b3, b4⟩ := x9
  refine ⟨b1, b2, b3, CS.of (s1 t c n u x.1.1 x.1.2) (fun q hq => ?_)⟩
  by_cases e : q = 30
  · subst e
    funext j
    by_cases z : j = σ 0 1
    · rw [z, b4, u2_at]
    · rw [f9.2.1 j z, u2_n z, H5.1 30 (by decide)]
  · rw [f9.1 q hq e, H5.1 q hq, u2_o e]
end
end
