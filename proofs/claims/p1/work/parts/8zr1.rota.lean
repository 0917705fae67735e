/-! rota: the class's search -/
def rArg (f : Nat → Nat → Nat) : Nat → Nat
  | 0 => 0
  | t + 1 => if f (t / 4) (t % 4) < rMin f t then t else rArg f t
theorem rMin_s (f : Nat → Nat → Nat) (x y : Nat) (hy : y < 4) : rMin f (4 * x + (y + 1)) = if f x y < rMin f (4 * x + y) then f x y else rMin f (4 * x + y) := by
  show (if f ((4 * x + y) / 4) ((4 * x + y) % 4) < rMin f (4 * x + y) then f ((4 * x + y) / 4) ((4 * x + y) % 4) else rMin f (4 * x + y)) = _
  rw [show (4 * x + y) / 4 = x by omega, show (4 * x + y) % 4 = y by omega]
theorem rArg_s (f : Nat → Nat → Nat) (x y : Nat) (hy : y < 4) : rArg f (4 * x + (y + 1)) = if f x y < rMin f (4 * x + y) then 4 * x + y else rArg f (4 * x + y) := by
  show (if f ((4 * x + y) / 4) ((4 * x + y) % 4) < rMin f (4 * x + y) then 4 * x + y else rArg f (4 * x + y)) = _
  rw [show (4 * x + y) / 4 = x by omega, show (4 * x + y) % 4 = y by omega]
/-- options that are FAR change nothing -/
theorem rMin_far (f : Nat → Nat → Nat) (t : Nat) : ∀ n, (∀ u, t ≤ u → u < t + n → f (u / 4) (u % 4) = FAR) → rMin f (t + n) = rMin f t ∧ rArg f (t + n) = rArg f t
  | 0, _ => ⟨rfl, rfl⟩
  | n + 1, h => by
    have ih := rMin_far f t n (fun u a b => h u a (by omega))
    have hm := rMin_le f (t + n)
    have e := h (t + n) (by omega) (by omega)
    refine ⟨?_, ?_⟩
    · show (if f ((t + n) / 4) ((t + n) % 4) < rMin f (t + n) then f ((t + n) / 4) ((t + n) % 4) else rMin f (t + n)) = _
      rw [e, if_neg (by omega)]
      exact ih.1
    · show (if f ((t + n) / 4) ((t + n) % 4) < rMin f (t + n) then t + n else rArg f (t + n)) = _
      rw [e, if_neg (by omega)]
      exact ih.2
theorem rArg_ok (f : Nat → Nat → Nat) : ∀ t, rMin f t < FAR → rArg f t < t ∧ f (rArg f t / 4) (rArg f t % 4) = rMin f t ∧ ∀ u, u < rArg f t → f (u / 4) (u % 4) ≠ rMin f t
  | 0, h => absurd h (Nat.lt_irrefl _)
  | t + 1, h => by
    have eM : rMin f (t + 1) = if f (t / 4) (t % 4) < rMin f t then f (t / 4) (t % 4) else rMin f t := rfl
    have eA : rArg f (t + 1) = if f (t / 4) (t % 4) < rMin f t then t else rArg f t := rfl
    rw [eM] at h
    rw [eA, eM]
    by_cases c : f (t / 4) (t % 4) < rMin f t
    · rw [if_pos c] at h
      rw [if_pos c, if_pos c]
      refine ⟨Nat.lt_succ_self t, rfl, fun u hu => ?_⟩
      have lb : ∀ t u, u < t → rMin f t ≤ f (u / 4) (u % 4) := by
        intro t
        induction t with
        | zero => intro u hu; omega
        | succ t ih =>
          intro u hu
          unfold rMin
          by_cases z : u = t
          · subst z; split <;> omega
          · have := ih u (by omega)
            split <;> omega
      have := lb t u hu
      omega
    · rw [if_neg c] at h
      rw [if_neg c, if_neg c]
      obtain ⟨a, b, d⟩ := rArg_ok f t h
      exact ⟨by omega, b, d⟩
section
variable {ρ : Rho} {v : Nat → Nat → Int32} {w : Nat → Nat → Int64}
theorem rN_st (ρ : Rho) (l : Nat) : rN ρ (ρ 0 4) l = sNeed ρ l := by
  unfold rN
  split
  · rfl
  · next h =>
    unfold sNeed
    rw [if_neg h]
/-- what the planner holds, whole -/
def pJ (ρ : Rho) (v : Nat → Nat → Int32) : Prop := v 40 0 = nI (ρ 0 0) ∧ (∀ p, p < 3 → v 41 p = nI (rL ρ (ρ 6) p)) ∧ (∀ l, l < ρ 0 0 → v 42 l = nI (sNeed ρ l)) ∧ (∀ j, j ≤ ρ 0 0 → v 43 j = nI (sumN (sNeed ρ) j)) ∧ (∀ p l, p < 3 → l < ρ 0 0 → v 44 (5 * p + l) = nI (rR ρ p l)) ∧ ∀ p l, p < ρ 0 1 → l < ρ 0 0 → v 45 (5 * p + l) = nI (rH ρ p l)
theorem pI_pJ (h : pI ρ (ρ 0 0) 0 v) : pJ ρ v := by
  obtain ⟨i1, i2, i3, i4, i5, i6⟩ := h
  exact ⟨i1, i2, fun l hl => i3 l hl (Or.inl hl), fun j hj => i4 j hj (Or.inl hj), fun p l hp hl => by rw [i5 p l hp hl, if_pos (Or.inl hl)], fun p l hp hl => i6 p l hp hl (Or.inl hl)⟩
theorem pJ.fr {v' : Nat → Nat → Int32} (h : pJ ρ v) (hq : ∀ q, 40 ≤ q ∧ q ≤ 45 → v' q = v q) : pJ ρ v' := by
  unfold pJ
  rw [hq 40 (by omega), hq 41 (by omega), hq 42 (by omega), hq 43 (by omega), hq 44 (by omega), hq 45 (by omega)]
  exact h
/-- the third one's time -/
def c3v (ρ : Rho) (l a b : Nat) : Int := (rL ρ (ρ 6) 2 : Int) - sumN (sNeed ρ) l + rL ρ (ρ 6) 0 - a + rL ρ (ρ 6) 1 - b
theorem sN_le (hk : ROK ρ) {l : Nat} (hl : l ≤ ρ 0 0) : sumN (sNeed ρ) l ≤ 9 * l := sumN_c (fun i hi => sNeed_le hk (by omega))
theorem rL5 (hk : ROK ρ) (p : Nat) : rL ρ (ρ 6) p ≤ 5 := rL_le hk (fun p hp => (hk.2.2.1 p hp).1) p
theorem C_left (hJ : pJ ρ v) (hk : ROK ρ) {l a b : Nat} (hl : l ≤ ρ 0 0) (ha : a ≤ 5) (hb : b ≤ 5) : f_Planner_leftToLast 40 (nI l) (nI a) (nI b) (bh v w) = some (zI (c3v ρ l a b), bh v w) := by
  have h0 := hk.1.1
  unfold f_Planner_leftToLast f_Planner_leftToLast_0
  simp only [hP0, bd1_q]
  rw [rd3.2.2, bd1_s, rd_nI (by omega) (by decide), bd1_s, rd3.1, bd1_s, rd3.2.1, bd1_s, hJ.2.1 0 (by decide), hJ.2.1 1 (by decide), hJ.2.1 2 (by decide), hJ.2.2.2.1 l hl]
  rw [← zI_n (rL ρ (ρ 6) 2), zI_subn, ← zI_n (rL ρ (ρ 6) 0), zI_add, zI_subn, ← zI_n (rL ρ (ρ 6) 1), zI_add, zI_subn]
  rfl
theorem c3v_b (hk : ROK ρ) {l a b : Nat} (hl : l ≤ ρ 0 0) (ha : a ≤ 5) (hb : b ≤ 5) : -100 ≤ c3v ρ l a b ∧ c3v ρ l a b ≤ 15 := by
  have h0 := hk.1.1
  have := sN_le hk hl
  have a0 := rL5 hk 0
  have a1 := rL5 hk 1
  have a2 := rL5 hk 2
  unfold c3v
  omega
theorem pst_I (l a b : Nat) (h : mH) : f_Planner_stateOf (nI l) (nI a) (nI b) h = some (nI ((l * 6 + a) * 6 + b), h) := by
  unfold f_Planner_stateOf f_Planner_stateOf_0
  rw [show (6 : Int32) = nI 6 from rfl, pk_mul, nI_add, pk_mul, nI_add]
/-- what the class's table holds -/
def kT (ρ : Rho) (l a b : Nat) : Nat := if 0 ≤ c3v ρ l a b then rBst ρ (ρ 0 4) (ρ 0 0 - l) a b (c3v ρ l a b).toNat else FAR
theorem kT_le (ρ : Rho) (l a b : Nat) : kT ρ l a b ≤ FAR := by
  unfold kT
  split
  · exact rBst_le _ _ _ _ _ _
  · exact Nat.le_refl _
theorem p_term (hJ : pJ ρ v) {p l x : Nat} (hl : l < ρ 0 0) (hx : x ≤ rR ρ p l) : nI x * v 45 (5 * p + l) = nI (x * rH ρ p l) := by
  by_cases h : p < ρ 0 1
  · rw [hJ.2.2.2.2.2 p l h hl, pk_mul]
  · unfold rR at hx
    rw [if_neg h] at hx
    obtain rfl : x = 0 := by omega
    rw [Nat.zero_mul]
    exact Int32.zero_mul
/-- first holds the first of the least, if any -/
def fOK (ρ : Rho) (f : Nat → Nat → Nat) (l t : Nat) (v : Nat → Nat → Int32) : Prop := rMin f t < FAR → v 46 l = nI (rArg f t / 4) ∧ v 46 (5 + l) = nI (rArg f t % 4) ∧ v 46 (10 + l) = nI (sNeed ρ l - rArg f t / 4 - rArg f t % 4)
theorem C_search (hJ : pJ ρ v) (hk : ROK ρ) {l a b : Nat} (hl : l < ρ 0 0) (ha : a ≤ 5) (hb : b ≤ 5) (hc : 0 ≤ c3v ρ l a b) (ht : ∀ a' b', a' ≤ a → b' ≤ b → v 47 (((l + 1) * 6 + a') * 6 + b') = nI (kT ρ (l + 1) a' b')) : ∃ v', f_Planner_search 40 (nI l) (nI a) (nI b) (bh v w) = some (nI (kT ρ l a b), bh v' w) ∧ (∀ q, q ≠ 46 → v' q = v q) ∧ fOK ρ (rOpt ρ (ρ 0 4) (rBst ρ (ρ 0 4) (ρ 0 0 - (l + 1))) l a b (c3v ρ l a b).toNat) l 16 v' := by
  have h0 := hk.1.1
  have hcb := c3v_b hk (Nat.le_of_lt hl) ha hb
  obtain ⟨c, ec⟩ : ∃ c : Nat, c3v ρ l a b = c := ⟨(c3v ρ l a b).toNat, by omega⟩
  have ek : kT ρ l a b = rMin (rOpt ρ (ρ 0 4) (rBst ρ (ρ 0 4) (ρ 0 0 - (l + 1))) l a b c) 16 := by
    unfold kT
    rw [if_pos hc, ec, rBst_s hl]
    rfl
  rw [ek, ec, show ((c : Int)).toNat = c from rfl]
  have r0 := rR_le hk (p := 0) hl
  have r1 := rR_le hk (p := 1) hl
  have r2 := rR_le hk (p := 2) hl
  have hN := sNeed_le hk hl
  generalize hf : rOpt ρ (ρ 0 4) (rBst ρ (ρ 0 4) (ρ 0 0 - (l + 1))) l a b c = f
  have m0 : (if a < rR ρ 0 l then a else rR ρ 0 l) ≤ a ∧ (if a < rR ρ 0 l then a else rR ρ 0 l) ≤ rR ρ 0 l := by split <;> omega
  have m0' : ∀ x, (if a < rR ρ 0 l then a else rR ρ 0 l) < x → ¬ (x ≤ a ∧ x ≤ rR ρ 0 l) := by intro x hx; split at hx <;> omega
  have m1 : (if b < rR ρ 1 l then b else rR ρ 1 l) ≤ b ∧ (if b < rR ρ 1 l then b else rR ρ 1 l) ≤ rR ρ 1 l := by split <;> omega
  have m1' : ∀ x, (if b < rR ρ 1 l then b else rR ρ 1 l) < x → ¬ (x ≤ b ∧ x ≤ rR ρ 1 l) := by intro x hx; split at hx <;> omega
  have m2 : (if c < rR ρ 2 l then c else rR ρ 2 l) ≤ c ∧ (if c < rR ρ 2 l then c else rR ρ 2 l) ≤ rR ρ 2 l := by split <;> omega
  have m2' : ∀ x, (if c < rR ρ 2 l then c else rR ρ 2 l) < x → ¬ (x ≤ c ∧ x ≤ rR ρ 2 l) := by intro x hx; split at hx <;> omega
  generalize hM0 : (if a < rR ρ 0 l then a else rR ρ 0 l) = M0 at m0 m0'
  generalize hM1 : (if b < rR ρ 1 l then b else rR ρ 1 l) = M1 at m1 m1'
  generalize hM2 : (if c < rR ρ 2 l then c else rR ρ 2 l) = M2 at m2 m2'
  have fv : ∀ x y, f x y = if x + y ≤ sNeed ρ l ∧ sNeed ρ l - x - y ≤ 3 then rVal ρ l a b c x y (sNeed ρ l - x - y) (rBst ρ (ρ 0 4) (ρ 0 0 - (l + 1)) (a - x) (b - y) (c - (sNeed ρ l - x - y))) else FAR := by
    intro x y
    rw [← hf]
    unfold rOpt
    rw [rN_st]
  have far : ∀ x y, ¬ (x ≤ M0 ∧ y ≤ M1) → f x y = FAR := by
    intro x y h
    rw [fv]
    split
    · unfold rVal
      rw [if_neg]
      rintro ⟨z1, z2, z3, z4, z5, z6, z7⟩
      refine h ⟨?_, ?_⟩
      · rcases Nat.lt_or_ge M0 x with q | q
        · exact absurd ⟨z1, z4⟩ (m0' x q)
        · exact q
      · rcases Nat.lt_or_ge M1 y with q | q
        · exact absurd ⟨z2, z5⟩ (m1' y q)
        · exact q
    · rfl
  have fle : ∀ x y, f x y ≤ FAR ∨ f x y < 2000000 := by
    intro x y
    rw [fv]
    split
    · unfold rVal
      split
      · next z =>
        have := rCost_le hk (x := x) (y := y) (z := sNeed ρ l - x - y) hl (by omega) (by omega) (by omega)
        have : FAR = 1000000 := rfl
        right
        omega
      · exact Or.inl (Nat.le_refl _)
    · exact Or.inl (Nat.le_refl _)
  have FR : FAR = 1000000 := rfl
  have k64 : ∀ (rec54 : Nat → Int32 → Int32 → Int32 → Int32 → Int32 → Int32 → Int32 → Int32 → mH → Option (Int32 × mH)) (x : Nat), x ≤ M0 → ∀ (k fuel y : Nat) (v : Nat → Nat → Int32), k < fuel → y + k = M1 + 1 → pJ ρ v → (∀ a' b', a' ≤ a → b' ≤ b → v 47 (((l + 1) * 6 + a') * 6 + b') = nI (kT ρ (l + 1) a' b')) → fOK ρ f l (4 * x + y) v → ∃ v', f_Planner_search_64 rec54 fuel 40 (nI l) (nI a) (nI b) (nI (rMin f (4 * x + y))) (nI M0) (nI M1) (nI M2) (nI x) (nI y) (bh v w) = rec54 40 (nI l) (nI a) (nI b) (nI (rMin f (4 * (x + 1)))) (nI M0) (nI M1) (nI M2) (nI (x + 1)) (bh v' w) ∧ (∀ q, q ≠ 46 → v' q = v q) ∧ fOK ρ f l (4 * (x + 1)) v' := by
    intro rec54 x hx k
    induction k with
    | zero =>
      intro fuel y v hfu hy hJ ht ho
      obtain ⟨m, rfl⟩ : ∃ m, fuel = m + 1 := ⟨fuel - 1, by omega⟩
      have fr := rMin_far f (4 * x + y) (4 - y) (fun u h1 h2 => far _ _ (by omega))
      rw [show 4 * x + y + (4 - y) = 4 * (x + 1) by omega] at fr
      refine ⟨v, ?_, fun _ _ => rfl, ?_⟩
      · show f_Planner_search_64b rec54 (f_Planner_search_64 rec54 m) 40 (nI l) (nI a) (nI b) (nI (rMin f (4 * x + y))) (nI M0) (nI M1) (nI M2) (nI x) (nI y) (bh v w) = _
        unfold f_Planner_search_64b
        rw [if_pos (nI_lt (by omega) (by omega)), nI_1, fr.1]
      · unfold fOK at ho ⊢
        rw [fr.1, fr.2]
        exact ho
    | succ k ih =>
      intro fuel y v hfu hy hJ ht ho
      obtain ⟨m, rfl⟩ : ∃ m, fuel = m + 1 := ⟨fuel - 1, by omega⟩
      have hm := rMin_le f (4 * x + y)
      have e1 := rMin_s f x y (by omega)
      have e2 := rArg_s f x y (by omega)
      have skip : ¬ f x y < rMin f (4 * x + y) → ∃ v', f_Planner_search_64 rec54 m 40 (nI l) (nI a) (nI b) (nI (rMin f (4 * x + y))) (nI M0) (nI M1) (nI M2) (nI x) (nI (y + 1)) (bh v w) = rec54 40 (nI l) (nI a) (nI b) (nI (rMin f (4 * (x + 1)))) (nI M0) (nI M1) (nI M2) (nI (x + 1)) (bh v' w) ∧ (∀ q, q ≠ 46 → v' q = v q) ∧ fOK ρ f l (4 * (x + 1)) v' := by
        intro hn
        have nx := ih m (y + 1) v (by omega) (by omega) hJ ht (by unfold fOK; rw [e1, e2, if_neg hn, if_neg hn]; exact ho)
        rw [e1, if_neg hn] at nx
        exact nx
      show ∃ v', f_Planner_search_64b rec54 (f_Planner_search_64 rec54 m) 40 (nI l) (nI a) (nI b) (nI (rMin f (4 * x + y))) (nI M0) (nI M1) (nI M2) (nI x) (nI y) (bh v w) = _ ∧ _
      unfold f_Planner_search_64b f_Planner_search_192
      rw [if_neg (nI_nlt (by omega) (by omega))]
      simp only [hP0, bd1_q]
      rw [rd_nI (by omega) (by decide), bd1_s, hJ.2.2.1 l hl, Q_isWithin, bd2_s, nI_1, show nI (sNeed ρ l) - nI x - nI y = zI ((sNeed ρ l : Int) - x - y) by rw [← zI_n (sNeed ρ l), zI_subn, zI_subn], zI_t (by omega) (by omega), nI_toInt (show M2 < 2 ^ 31 by omega)]
      by_cases q : (0 : Int32).toInt ≤ (sNeed ρ l : Int) - x - y ∧ (sNeed ρ l : Int) - x - y ≤ (M2 : Int)
      · rw [if_pos q, if_neg (by decide)]
        have q0 : (0 : Int32).toInt = 0 := rfl
        obtain ⟨z, hz⟩ : ∃ z : Nat, (sNeed ρ l : Int) - x - y = z := ⟨((sNeed ρ l : Int) - x - y).toNat, by omega⟩
        have ez : sNeed ρ l - x - y = z := by omega
        have hcv : c3v ρ (l + 1) (a - x) (b - y) = ((c - z : Nat) : Int) := by
          have : c3v ρ (l + 1) (a - x) (b - y) = c3v ρ l a b - sNeed ρ l + x + y := by
            unfold c3v
            show (rL ρ (ρ 6) 2 : Int) - ((sumN (sNeed ρ) l + sNeed ρ l : Nat) : Int) + _ - ((a - x : Nat) : Int) + _ - ((b - y : Nat) : Int) = _
            omega
          omega
        have eB : kT ρ (l + 1) (a - x) (b - y) = rBst ρ (ρ 0 4) (ρ 0 0 - (l + 1)) (a - x) (b - y) (c - z) := by
          unfold kT
          rw [hcv, if_pos (by omega)]
          rfl
        have hB := kT_le ρ (l + 1) (a - x) (b - y)
        have cost := rCost_le hk (x := x) (y := y) (z := z) hl (by omega) (by omega) (by omega)
        have fz : f x y = if kT ρ (l + 1) (a - x) (b - y) < FAR then rCost ρ l x y z + kT ρ (l + 1) (a - x) (b - y) else FAR := by
          rw [fv, if_pos (by omega), ez, ← eB]
          unfold rVal
          by_cases g : kT ρ (l + 1) (a - x) (b - y) < FAR
          · rw [if_pos ⟨by omega, by omega, by omega, by omega, by omega, by omega, g⟩, if_pos g]
          · rw [if_neg (fun w => g w.2.2.2.2.2.2), if_neg g]
        rw [hz, zI_n]
        simp only [hP0, bd1_q]
        have t0 : nI x * v 45 l = nI (x * rH ρ 0 l) := by have := p_term hJ (p := 0) (l := l) (x := x) hl (by omega); rwa [show 5 * 0 + l = l by omega] at this
        have t1 : nI y * v 45 (5 + l) = nI (y * rH ρ 1 l) := p_term hJ (p := 1) (l := l) (x := y) hl (by omega)
        have t2 : nI z * v 45 (10 + l) = nI (z * rH ρ 2 l) := p_term hJ (p := 2) (l := l) (x := z) hl (by omega)
        rw [rd_nI (by omega) (by decide), bd1_s, show (5 : Int32) = nI 5 from rfl, show (10 : Int32) = nI 10 from rfl, nI_add, nI_add, rd_nI (by omega) (by decide), bd1_s, rd_nI (by omega) (by decide), bd1_s, nI_1, pk_sub (by omega), pk_sub (by omega), pst_I, bd2_s]
        simp only [hP0, bd1_q]
        rw [rd_nI (by omega) (by decide), bd1_s, ht _ _ (by omega) (by omega), t0, t1, t2, nI_add, nI_add, nI_add]
        have eS : x * rH ρ 0 l + y * rH ρ 1 l + z * rH ρ 2 l = rCost ρ l x y z := rfl
        rw [eS, ite_iff (nI_leI (by omega) (by omega))]
        by_cases g : rMin f (4 * x + y) ≤ rCost ρ l x y z + kT ρ (l + 1) (a - x) (b - y)
        · rw [if_pos g]
          refine skip ?_
          rw [fz]
          split <;> omega
        · have gk : kT ρ (l + 1) (a - x) (b - y) < FAR := by omega
          have fe : f x y = rCost ρ l x y z + kT ρ (l + 1) (a - x) (b - y) := by rw [fz, if_pos gk]
          have lt : f x y < rMin f (4 * x + y) := by omega
          rw [if_neg g, wr_nI (by omega) (by decide), bd1_s]
          simp only [hP0, bd1_q]
          rw [wr_nI (by omega) (by decide), bd1_s]
          simp only [hP0, bd1_q]
          rw [wr_nI (by omega) (by decide), bd1_s]
          have ff : ∀ q, q ≠ 46 → u2 (u2 (u2 v 46 l (nI x)) 46 (5 + l) (nI y)) 46 (10 + l) (nI z) q = v q := fun q hq => (u2_o hq).trans ((u2_o hq).trans (u2_o hq))
          have nx := ih m (y + 1) (u2 (u2 (u2 v 46 l (nI x)) 46 (5 + l) (nI y)) 46 (10 + l) (nI z)) (by omega) (by omega) (hJ.fr (fun q hq => ff q (by omega))) (fun a' b' h1 h2 => by rw [ff 47 (by decide)]; exact ht a' b' h1 h2) (by
            unfold fOK
            rw [e1, e2, if_pos lt, if_pos lt]
            intro _
            rw [show (4 * x + y) / 4 = x by omega, show (4 * x + y) % 4 = y by omega, ez]
            refine ⟨?_, ?_, u2_at _ _ _ _⟩
            · rw [u2_n (by omega), u2_n (by omega), u2_at]
            · rw [u2_n (by omega), u2_at])
          rw [e1, if_pos lt, fe] at nx
          obtain ⟨v', n1, n2, n3⟩ := nx
          exact ⟨v', n1, fun q hq => (n2 q hq).trans (ff q hq), n3⟩
      · rw [if_neg q, if_pos rfl]
        refine skip ?_
        have : f x y = FAR := by
          rw [fv]
          split
          · next z =>
            unfold rVal
            rw [if_neg]
            rintro ⟨z1, z2, z3, z4, z5, z6, z7⟩
            have q0 : (0 : Int32).toInt = 0 := rfl
            exact m2' (sNeed ρ l - x - y) (by omega) ⟨z3, z6⟩
          · rfl
        omega
  have k54 : ∀ (k fuel x : Nat) (v : Nat → Nat → Int32), k < fuel → x + k = M0 + 1 → pJ ρ v → (∀ a' b', a' ≤ a → b' ≤ b → v 47 (((l + 1) * 6 + a') * 6 + b') = nI (kT ρ (l + 1) a' b')) → fOK ρ f l (4 * x) v → ∃ v', f_Planner_search_54 fuel 40 (nI l) (nI a) (nI b) (nI (rMin f (4 * x))) (nI M0) (nI M1) (nI M2) (nI x) (bh v w) = some (nI (rMin f 16), bh v' w) ∧ (∀ q, q ≠ 46 → v' q = v q) ∧ fOK ρ f l 16 v' := by
    intro k
    induction k with
    | zero =>
      intro fuel x v hfu hx hJ ht ho
      obtain ⟨m, rfl⟩ : ∃ m, fuel = m + 1 := ⟨fuel - 1, by omega⟩
      have fr := rMin_far f (4 * x) (16 - 4 * x) (fun u h1 h2 => far _ _ (by omega))
      rw [show 4 * x + (16 - 4 * x) = 16 by omega] at fr
      refine ⟨v, ?_, fun _ _ => rfl, ?_⟩
      · show f_Planner_search_54b (f_Planner_search_54 m) 40 (nI l) (nI a) (nI b) (nI (rMin f (4 * x))) (nI M0) (nI M1) (nI M2) (nI x) (bh v w) = _
        unfold f_Planner_search_54b
        rw [if_pos (nI_lt (by omega) (by omega)), fr.1]
      · unfold fOK at ho ⊢
        rw [fr.1, fr.2]
        exact ho
    | succ k ih =>
      intro fuel x v hfu hx hJ ht ho
      obtain ⟨m, rfl⟩ : ∃ m, fuel = m + 1 := ⟨fuel - 1, by omega⟩
      obtain ⟨v1, e1, f1, o1⟩ := k64 (f_Planner_search_54 m) x (by omega) (M1 + 1) FU 0 v (by unfold FU; omega) (by omega) hJ ht ho
      have e1 : f_Planner_search_64 (f_Planner_search_54 m) FU 40 (nI l) (nI a) (nI b) (nI (rMin f (4 * x))) (nI M0) (nI M1) (nI M2) (nI x) 0 (bh v w) = f_Planner_search_54 m 40 (nI l) (nI a) (nI b) (nI (rMin f (4 * (x + 1)))) (nI M0) (nI M1) (nI M2) (nI (x + 1)) (bh v1 w) := e1
      obtain ⟨v2, e2, f2, o2⟩ := ih m (x + 1) v1 (by omega) (by omega) (hJ.fr (fun q hq => f1 q (by omega))) (fun a' b' h1 h2 => by rw [f1 47 (by decide)]; exact ht a' b' h1 h2) o1
      refine ⟨v2, ?_, fun q hq => (f2 q hq).trans (f1 q hq), o2⟩
      show f_Planner_search_54b (f_Planner_search_54 m) 40 (nI l) (nI a) (nI b) (nI (rMin f (4 * x))) (nI M0) (nI M1) (nI M2) (nI x) (bh v w) = _
      unfold f_Planner_search_54b
      rw [if_neg (nI_nlt (by omega) (by omega))]
      exact e1.trans e2
  obtain ⟨v', e1, f1, o1⟩ := k54 (M0 + 1) FU 0 v (by unfold FU; omega) (by omega) hJ ht (fun h => absurd h (Nat.lt_irrefl _))
  have e1 : f_Planner_search_54 FU 40 (nI l) (nI a) (nI b) (1000000 : Int32) (nI M0) (nI M1) (nI M2) 0 (bh v w) = some (nI (rMin f 16), bh v' w) := e1
  refine ⟨v', ?_, f1, o1⟩
  have g0 := hJ.2.2.2.2.1 0 l (by decide) hl
  have g1 := hJ.2.2.2.2.1 1 l (by decide) hl
  have g2 := hJ.2.2.2.2.1 2 l (by decide) hl
  rw [show 5 * 0 + l = l by omega] at g0
  rw [show 5 * 1 + l = 5 + l by omega] at g1
  rw [show 5 * 2 + l = 10 + l by omega] at g2
  unfold f_Planner_search f_Planner_search_0
  simp only [hP0, bd1_q]
  rw [show (5 : Int32) = nI 5 from rfl, show (10 : Int32) = nI 10 from rfl, nI_add, nI_add, rd_nI (by omega) (by decide), bd1_s, rd_nI (by omega) (by decide), bd1_s, rd_nI (by omega) (by decide), bd1_s, C_left hJ hk (by omega) ha hb, bd2_s, g0, g1, g2, ec, zI_n, ite_I (by omega) (by omega), ite_I (by omega) (by omega), ite_I (by omega) (by omega), hM0, hM1, hM2]
  exact e1
end
