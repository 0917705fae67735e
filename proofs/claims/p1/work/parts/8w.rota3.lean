section
variable {ρ : Rho} {v : Nat → Nat → Int32} {w : Nat → Nat → Int64} {T : Nat → Nat} {s A B C : Nat}
theorem M_bLoop (hk : ROK ρ) (hA : A < 16) (hB : B < 16) (hC : C < 16) (rec5 : Nat → Int32 → mH → Option (Int32 × mH)) (rec11 : Nat → Int32 → Int32 → mH → Option (Int32 × mH)) {l a : Nat} (hl : l ≤ ρ 0 0) (ha : a ≤ A) : ∀ (k fuel b : Nat) (v : Nat → Nat → Int32), k < fuel → b + k = B + 1 → rBase ρ s T A B C v → rP ρ s A B C l a b 0 v → ∃ v', f_M_findRota_23 rec5 rec11 fuel 100 (nI l) (nI a) (nI b) (bh v w) = rec11 100 (nI l) (nI (a + 1)) (bh v' w) ∧ rP ρ s A B C l (a + 1) 0 0 v' ∧ ∀ q, q ≠ 115 → v' q = v q := by
  intro k
  induction k with
  | zero =>
    intro fuel b v hf hbk hb hp
    obtain ⟨n, rfl⟩ : ∃ n, fuel = n + 1 := ⟨fuel - 1, by omega⟩
    refine ⟨v, ?_, fun l' a' b' c' q1 q2 q3 q4 q5 => hp l' a' b' c' q1 q2 q3 q4 (by omega), fun _ _ => rfl⟩
    show f_M_findRota_23b rec5 rec11 (f_M_findRota_23 rec5 rec11 n) 100 (nI l) (nI a) (nI b) (bh v w) = _
    unfold f_M_findRota_23b
    simp only [hM v w, bd1_s]
    have e2 : rd (v 117) 3 (1 : Int32) = some (nI B) := by rw [← hb.2.2.2.1]; rfl
    rw [e2, bd1_s, if_pos ((nI_ltI (by omega) (by omega)).mpr (by omega)), nI_1]
  | succ k ih =>
    intro fuel b v hf hbk hb hp
    obtain ⟨n, rfl⟩ : ∃ n, fuel = n + 1 := ⟨fuel - 1, by omega⟩
    obtain ⟨v1, e1, p1, q1⟩ := M_cLoop (w := w) hk hA hB hC rec5 rec11 (f_M_findRota_23 rec5 rec11 n) hl ha (show b ≤ B by omega) (C + 1) FU 0 v (by unfold FU; omega) (by omega) hb hp
    obtain ⟨v2, e2, p2, q2⟩ := ih n (b + 1) v1 (by omega) (by omega) (hb.frame q1) p1
    refine ⟨v2, ?_, p2, fun q hq => (q2 q hq).trans (q1 q hq)⟩
    show f_M_findRota_23b rec5 rec11 (f_M_findRota_23 rec5 rec11 n) 100 (nI l) (nI a) (nI b) (bh v w) = _
    unfold f_M_findRota_23b
    simp only [hM v w, bd1_s]
    have e3 : rd (v 117) 3 (1 : Int32) = some (nI B) := by rw [← hb.2.2.2.1]; rfl
    rw [e3, bd1_s, if_neg (fun z => by have := (nI_ltI (by omega) (by omega)).mp z; omega)]
    exact e1.trans e2
theorem M_aLoop (hk : ROK ρ) (hA : A < 16) (hB : B < 16) (hC : C < 16) (rec5 : Nat → Int32 → mH → Option (Int32 × mH)) {l : Nat} (hl : l ≤ ρ 0 0) : ∀ (k fuel a : Nat) (v : Nat → Nat → Int32), k < fuel → a + k = A + 1 → rBase ρ s T A B C v → rP ρ s A B C l a 0 0 v → ∃ v', f_M_findRota_11 rec5 fuel 100 (nI l) (nI a) (bh v w) = rec5 100 (nI l + -1) (bh v' w) ∧ rP ρ s A B C l (A + 1) 0 0 v' ∧ ∀ q, q ≠ 115 → v' q = v q := by
  intro k
  induction k with
  | zero =>
    intro fuel a v hf hbk hb hp
    obtain ⟨n, rfl⟩ : ∃ n, fuel = n + 1 := ⟨fuel - 1, by omega⟩
    refine ⟨v, ?_, fun l' a' b' c' q1 q2 q3 q4 q5 => hp l' a' b' c' q1 q2 q3 q4 (by omega), fun _ _ => rfl⟩
    show f_M_findRota_11b rec5 (f_M_findRota_11 rec5 n) 100 (nI l) (nI a) (bh v w) = _
    unfold f_M_findRota_11b
    simp only [hM v w, bd1_s]
    have e2 : rd (v 117) 3 (0 : Int32) = some (nI A) := by rw [← hb.2.2.1]; rfl
    rw [e2, bd1_s, if_pos ((nI_ltI (by omega) (by omega)).mpr (by omega))]
  | succ k ih =>
    intro fuel a v hf hbk hb hp
    obtain ⟨n, rfl⟩ : ∃ n, fuel = n + 1 := ⟨fuel - 1, by omega⟩
    obtain ⟨v1, e1, p1, q1⟩ := M_bLoop (w := w) hk hA hB hC rec5 (f_M_findRota_11 rec5 n) hl (show a ≤ A by omega) (B + 1) FU 0 v (by unfold FU; omega) (by omega) hb hp
    obtain ⟨v2, e2, p2, q2⟩ := ih n (a + 1) v1 (by omega) (by omega) (hb.frame q1) p1
    refine ⟨v2, ?_, p2, fun q hq => (q2 q hq).trans (q1 q hq)⟩
    show f_M_findRota_11b rec5 (f_M_findRota_11 rec5 n) 100 (nI l) (nI a) (bh v w) = _
    unfold f_M_findRota_11b
    simp only [hM v w, bd1_s]
    have e3 : rd (v 117) 3 (0 : Int32) = some (nI A) := by rw [← hb.2.2.1]; rfl
    rw [e3, bd1_s, if_neg (fun z => by have := (nI_ltI (by omega) (by omega)).mp z; omega)]
    exact e1.trans e2
/-- the whole table -/
def rAll (ρ : Rho) (s A B C : Nat) (v : Nat → Nat → Int32) : Prop := ∀ l a b c, l ≤ ρ 0 0 → a ≤ A → b ≤ B → c ≤ C → v 115 (atN l a b c) = nI (rBst ρ s (ρ 0 0 - l) a b c)
theorem M_fLast (hk : ROK ρ) (hA : A < 16) (hB : B < 16) (hC : C < 16) : ∀ (n : Nat) (v : Nat → Nat → Int32), rBase ρ s T A B C v → rAll ρ s A B C v → f_M_findRota_5 (n + 1) 100 (-1) (bh v w) = some (nI (rBst ρ s (ρ 0 0) A B C), bh v w) := by
    have h1 := hk.1.1
    intro n v hb ha
    show f_M_findRota_5b (f_M_findRota_5 n) 100 (-1) (bh v w) = _
    unfold f_M_findRota_5b
    rw [if_pos (by decide)]
    have g27 : gR (bh v w) 100 8 27 = some 115 := rfl
    have g29 : gR (bh v w) 100 8 29 = some 117 := rfl
    have a117 : ∀ i, aI (bh v w) 0 117 i = rd (v 117) 3 i := aI_bh rfl
    have a115 : ∀ i, aI (bh v w) 0 115 i = rd (v 115) 24576 i := aI_bh rfl
    have e0 : rd (v 117) 3 (0 : Int32) = some (nI A) := by rw [← hb.2.2.1]; rfl
    have e1 : rd (v 117) 3 (1 : Int32) = some (nI B) := by rw [← hb.2.2.2.1]; rfl
    have e2 : rd (v 117) 3 (2 : Int32) = some (nI C) := by rw [← hb.2.2.2.2]; rfl
    have eat : f_M_at 0 (nI A) (nI B) (nI C) (bh v w) = some (nI (atN 0 A B C), bh v w) := M_at 0 A B C _
    have hat : atN 0 A B C < 24576 := by
      have : atN 0 A B C = (A * 16 + B) * 16 + C := by unfold atN; rw [Nat.mul_zero, Nat.zero_add]
      omega
    have hal := ha 0 A B C (Nat.zero_le _) (Nat.le_refl _) (Nat.le_refl _) (Nat.le_refl _)
    rw [Nat.sub_zero] at hal
    generalize atN 0 A B C = u at eat hat hal
    rw [g27, bd1_s, g29, bd1_s, a117, e0, bd1_s, bd1_s, a117, e1, bd1_s, bd1_s, a117, e2, bd1_s, eat, bd2_s, a115, rd_nI hat (by decide), bd1_s, hal]
theorem M_fKey (hk : ROK ρ) (hA : A < 16) (hB : B < 16) (hC : C < 16) : ∀ (l fuel : Nat) (v : Nat → Nat → Int32), l + 1 < fuel → l ≤ ρ 0 0 → rBase ρ s T A B C v → rP ρ s A B C l 0 0 0 v → ∃ v', f_M_findRota_5 fuel 100 (nI l) (bh v w) = some (nI (rBst ρ s (ρ 0 0) A B C), bh v' w) ∧ rAll ρ s A B C v' ∧ ∀ q, q ≠ 115 → v' q = v q := by
    have h1 := hk.1.1
    intro l
    induction l with
    | zero =>
      intro fuel v hf hl hb hp
      obtain ⟨n, rfl⟩ : ∃ n, fuel = n + 1 + 1 := ⟨fuel - 2, by omega⟩
      obtain ⟨v1, e1, p1, q1⟩ := M_aLoop (w := w) hk hA hB hC (f_M_findRota_5 (n + 1)) hl (A + 1) FU 0 v (by unfold FU; omega) (by omega) hb hp
      have al : rAll ρ s A B C v1 := fun l a b c z1 z2 z3 z4 => p1 l a b c z1 z2 z3 z4 (by omega)
      refine ⟨v1, ?_, al, q1⟩
      show f_M_findRota_5b (f_M_findRota_5 (n + 1)) 100 (nI 0) (bh v w) = _
      unfold f_M_findRota_5b
      rw [if_neg (by decide)]
      rw [show nI 0 + (-1 : Int32) = -1 by decide] at e1
      exact e1.trans (M_fLast hk hA hB hC n v1 (hb.frame q1) al)
    | succ l ih =>
      intro fuel v hf hl hb hp
      obtain ⟨n, rfl⟩ : ∃ n, fuel = n + 1 := ⟨fuel - 1, by omega⟩
      obtain ⟨v1, e1, p1, q1⟩ := M_aLoop (w := w) hk hA hB hC (f_M_findRota_5 n) hl (A + 1) FU 0 v (by unfold FU; omega) (by omega) hb hp
      obtain ⟨v2, e2, p2, q2⟩ := ih n v1 (by omega) (by omega) (hb.frame q1) (fun l' a b c z1 z2 z3 z4 z5 => p1 l' a b c z1 z2 z3 z4 (by omega))
      refine ⟨v2, ?_, p2, fun q hq => (q2 q hq).trans (q1 q hq)⟩
      show f_M_findRota_5b (f_M_findRota_5 n) 100 (nI (l + 1)) (bh v w) = _
      unfold f_M_findRota_5b
      rw [if_neg (fun z => by have := (nI_ltI (a := l + 1) (b := 0) (by omega) (by omega)).mp z; omega)]
      rw [m1_I l (by omega)] at e1
      exact e1.trans e2
theorem M_findRota (hk : ROK ρ) (hA : A < 16) (hB : B < 16) (hC : C < 16) (hb : rBase ρ s T A B C v) : ∃ v', f_M_findRota 100 (bh v w) = some (nI (rBst ρ s (ρ 0 0) A B C), bh v' w) ∧ rAll ρ s A B C v' ∧ ∀ q, q ≠ 115 → v' q = v q := by
  have h1 := hk.1.1
  obtain ⟨v', e1, p1, q1⟩ := M_fKey (w := w) hk hA hB hC (ρ 0 0) FU v (by unfold FU; omega) (Nat.le_refl _) hb (fun l a b c z1 _ _ _ z5 => by omega)
  refine ⟨v', ?_, p1, q1⟩
  simp only [f_M_findRota, f_M_findRota_0, hM v w, bd1_s]
  rw [hb.1.1.1]
  exact e1
/-- time left, with other TIMES -/
def rL (ρ : Rho) (T : Nat → Nat) (p : Nat) : Nat := if p < ρ 0 1 then T p - sAll ρ p else 0
theorem N_timeLeft (hr : MRt T ρ v) (hk : ROK ρ) {p : Nat} (hp : p < ρ 0 1) (hT : T p ≤ 20) : f_M_timeLeft 100 (nI p) (bh v w) = some (nI (T p - sAll ρ p), bh v w) := by
  have h2 := hk.1.2.1
  have hs : sAll ρ p ≤ 5 := (hk.2.2.1 p hp).2.2.2.2.2.2
  have a12 : v 101 (12 + p) = nI (T p) := by have := hr.2.2.2.2.2.1 p hp; rwa [show 0 + 12 + p = 12 + p by omega] at this
  simp only [f_M_timeLeft, f_M_timeLeft_0, hM v w, bd1_s]
  rw [show (12 : Int32) = nI 12 from rfl, nI_add, rd_nI (by omega) (by decide), bd1_s, a12, N_allBy hr hk hp, bd2_s, ← zI_n (T p), zI_subn]
  by_cases h : sAll ρ p ≤ T p
  · rw [if_pos ((zI_ge (by omega) (by omega)).mpr (by omega)), show ((T p : Nat) : Int) - (sAll ρ p : Nat) = ((T p - sAll ρ p : Nat) : Int) by omega, zI_n]
  · rw [if_neg (fun z => by have := (zI_ge (by omega) (by omega)).mp z; omega), show T p - sAll ρ p = 0 by omega]
    rfl
theorem M_startsRota (hr : MRt T ρ v) (hk : ROK ρ) (hT : ∀ p, p < ρ 0 1 → T p ≤ 20) {s : Nat} (hs : s < 32) : ∃ v', f_M_startsRota 100 (nI s) (bh v w) = some (bh v' w) ∧ rBase ρ s T (rL ρ T 0) (rL ρ T 1) (rL ρ T 2) v' ∧ ∀ q, q ≠ 116 → q ≠ 117 → v' q = v q := by
  have h1 := hk.1.1
  have h2 := hk.1.2.1
  have lf : ∀ (k fuel p : Nat) (v : Nat → Nat → Int32), k < fuel → p + k = 3 → MRt T ρ v → (∀ j, j < p → v 117 j = nI (rL ρ T j)) → ∃ v', f_M_startsRota_42 fuel 100 (nI p) (bh v w) = some (bh v' w) ∧ (∀ j, j < 3 → v' 117 j = nI (rL ρ T j)) ∧ ∀ q, q ≠ 117 → v' q = v q := by
    intro k
    induction k with
    | zero =>
      intro fuel p v hf hp hr hj
      obtain ⟨n, rfl⟩ : ∃ n, fuel = n + 1 := ⟨fuel - 1, by omega⟩
      refine ⟨v, ?_, fun j z => hj j (by omega), fun _ _ => rfl⟩
      simp only [f_M_startsRota_42, f_M_startsRota_42b]
      rw [show (3 : Int32) = nI 3 from rfl, if_pos ((nI_leI (by omega) (by omega)).mpr (by omega))]
    | succ k ih =>
      intro fuel p v hf hp hr hj
      obtain ⟨n, rfl⟩ : ∃ n, fuel = n + 1 := ⟨fuel - 1, by omega⟩
      have nx : ∃ v', f_M_startsRota_42 n 100 (nI (p + 1)) (bh (u2 v 117 p (nI (rL ρ T p))) w) = some (bh v' w) ∧ (∀ j, j < 3 → v' 117 j = nI (rL ρ T j)) ∧ ∀ q, q ≠ 117 → v' q = v q := by
        have hj' : ∀ j, j < p + 1 → u2 v 117 p (nI (rL ρ T p)) 117 j = nI (rL ρ T j) := by
          intro j z
          by_cases e : j = p
          · subst e; rw [u2_at]
          · rw [u2_n e]; exact hj j (by omega)
        obtain ⟨v', e1, e2, e3⟩ := ih n (p + 1) (u2 v 117 p (nI (rL ρ T p))) (by omega) (by omega) (hr.frame (fun q z => u2_o (by omega))) hj'
        exact ⟨v', e1, e2, fun q hq => (e3 q hq).trans (u2_o hq)⟩
      simp only [f_M_startsRota_42, f_M_startsRota_42b, f_M_startsRota_69, hM v w, bd1_s]
      rw [show (3 : Int32) = nI 3 from rfl, if_neg (fun z => by have := (nI_leI (by omega) (by omega)).mp z; omega), hr.1.2.1, ite_iff (nI_leI (by omega) (by omega))]
      by_cases g : ρ 0 1 ≤ p
      · rw [if_pos g, wr_nI (by omega) (by decide), bd1_s, nI_1]
        have e : rL ρ T p = 0 := by unfold rL; rw [if_neg (by omega)]
        rw [e] at nx
        exact nx
      · rw [if_neg g, N_timeLeft hr hk (by omega) (hT p (by omega)), bd2_s]
        simp only [hM v w, bd1_s]
        rw [wr_nI (by omega) (by decide), bd1_s, nI_1]
        have e : rL ρ T p = T p - sAll ρ p := by unfold rL; rw [if_pos (by omega)]
        rw [e] at nx
        exact nx
  have nd : ∀ (k fuel l : Nat) (v : Nat → Nat → Int32), k < fuel → l + k = ρ 0 0 → MRt T ρ v → (∀ j, j < l → v 116 j = nI (rN ρ s j)) → ∃ v', f_M_startsRota_2 fuel 100 (nI s) (nI l) (bh v w) = some (bh v' w) ∧ rBase ρ s T (rL ρ T 0) (rL ρ T 1) (rL ρ T 2) v' ∧ ∀ q, q ≠ 116 → q ≠ 117 → v' q = v q := by
    intro k
    induction k with
    | zero =>
      intro fuel l v hf hl hr hj
      obtain ⟨n, rfl⟩ : ∃ n, fuel = n + 1 := ⟨fuel - 1, by omega⟩
      obtain ⟨v', e1, e2, e3⟩ := lf 3 FU 0 v (by decide) (by omega) hr (fun j z => by omega)
      refine ⟨v', ?_, ⟨hr.frame (fun q z => e3 q (by omega)), fun j z => ?_, e2 0 (by decide), e2 1 (by decide), e2 2 (by decide)⟩, fun q _ hq => e3 q hq⟩
      · simp only [f_M_startsRota_2, f_M_startsRota_2b, hM v w, bd1_s]
        rw [hr.1.1, if_pos (nI_le (by omega) (by omega))]
        exact e1
      · rw [e3 116 (by decide)]; exact hj j (by omega)
    | succ k ih =>
      intro fuel l v hf hl hr hj
      obtain ⟨n, rfl⟩ : ∃ n, fuel = n + 1 := ⟨fuel - 1, by omega⟩
      have hl2 : l < ρ 0 0 := by omega
      have nx : ∃ v', f_M_startsRota_2 n 100 (nI s) (nI (l + 1)) (bh (u2 v 116 l (nI (rN ρ s l))) w) = some (bh v' w) ∧ rBase ρ s T (rL ρ T 0) (rL ρ T 1) (rL ρ T 2) v' ∧ ∀ q, q ≠ 116 → q ≠ 117 → v' q = v q := by
        have hj' : ∀ j, j < l + 1 → u2 v 116 l (nI (rN ρ s l)) 116 j = nI (rN ρ s j) := by
          intro j z
          by_cases e : j = l
          · subst e; rw [u2_at]
          · rw [u2_n e]; exact hj j (by omega)
        obtain ⟨v', e1, e2, e3⟩ := ih n (l + 1) (u2 v 116 l (nI (rN ρ s l))) (by omega) (by omega) (hr.frame (fun q z => u2_o (by omega))) hj'
        exact ⟨v', e1, e2, fun q hq h2 => (e3 q hq h2).trans (u2_o hq)⟩
      simp only [f_M_startsRota_2, f_M_startsRota_2b, f_M_startsRota_33, hM v w, bd1_s]
      rw [hr.1.1, if_neg (nI_ge (by omega) (by omega)), bit_I (by omega) (by omega), ite_iff (nI_eq1 (by have := bit_lt s l; omega))]
      by_cases g : bit s l = 1
      · rw [if_pos g, N_needOf hr hk hl2, bd2_s]
        simp only [hM v w, bd1_s]
        rw [wr_nI (by omega) (by decide), bd1_s, nI_1]
        have e : rN ρ s l = sNeed ρ l := by unfold rN; rw [if_pos g]
        rw [e] at nx
        exact nx
      · rw [if_neg g, wr_nI (by omega) (by decide), bd1_s, nI_1]
        have e : rN ρ s l = 0 := by unfold rN; rw [if_neg g]
        rw [e] at nx
        exact nx
  exact nd (ρ 0 0) FU 0 v (by unfold FU; omega) (by omega) hr (fun j z => by omega)
end
