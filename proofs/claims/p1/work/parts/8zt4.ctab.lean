/-! the class's tables, exactly: each alone, and joined -/
def tX (L : Nat) (lo hi : Nat → Nat → Nat) (dL dP tm : Nat → Nat) (v : Nat → Nat → Int32) : Prop :=
  L ≤ 5 ∧ v 48 0 = nI L ∧ (∀ p l, p < 3 → l < L → v 49 (5 * p + l) = nI (lo p l) ∧ lo p l ≤ 3) ∧ (∀ p l, p < 3 → l < L → v 50 (5 * p + l) = nI (hi p l) ∧ hi p l ≤ 3) ∧ (∀ l, l < L → v 51 l = dI (dL l) ∧ dL l ≤ 100) ∧ (∀ p, p < 3 → v 52 p = dI (dP p) ∧ dP p ≤ 100) ∧ ∀ p, p < 3 → v 53 p = nI (tm p) ∧ tm p ≤ 5
/-- what one has spent on the free laws -/
def alo (tm : Nat → Nat) (w : Nat → Nat → Int64) (g : Nat → Nat → Nat) : Prop := ∀ p s, p < 3 → s ≤ tm p → w 54 (6 * p + s) = nL (g p s)
def kB (lo hi : Nat → Nat → Nat) (p l n : Nat) : Bool := decide (lo p l ≤ n ∧ n ≤ hi p l)
theorem alo.to {tm : Nat → Nat} {w : Nat → Nat → Int64} {g g' : Nat → Nat → Nat} (h : alo tm w g) (e : ∀ p s, p < 3 → s ≤ tm p → g p s = g' p s) : alo tm w g' := fun p s hp hs => by rw [h p s hp hs, e p s hp hs]
section
variable {L : Nat} {lo hi : Nat → Nat → Nat} {dL dP tm : Nat → Nat} {v : Nat → Nat → Int32} {w : Nat → Nat → Int64} {g : Nat → Nat → Nat} {W : Nat → Nat → Nat → Nat}
def saT (f : Nat → Nat) (a b s n : Nat) : Nat := if (a ≤ n ∧ n ≤ b) ∧ n ≤ s then f (s - n) else 0
theorem T_sa42X {p a b s : Nat} (hp : p < 3) (ha : a ≤ 3) (hb : b ≤ 3) (hs : s ≤ 5) {f : Nat → Nat} (hw : ∀ j, j ≤ s → w 54 (6 * p + j) = nL (f j)) (rec31 : Nat → Int32 → Int32 → Int32 → Int32 → mH → Option mH) : ∀ (k fuel n : Nat), k < fuel → 4 ≤ n + k → n ≤ 4 → a ≤ n → f_Tables_spendAlone_42 rec31 fuel 48 (nI p) (nI a) (nI b) (nI s) (nL (sumN (saT f a b s) n)) (nI n) (bh v w) = rec31 48 (nI p) (nI a) (nI b) (nI s + -1) (bh v (u2L w 54 (6 * p + s) (nL (sumN (saT f a b s) 4)))) := by
  have e82 : ∀ x : Int64, f_Tables_spendAlone_82 rec31 48 (nI p) (nI a) (nI b) (nI s) x (bh v w) = rec31 48 (nI p) (nI a) (nI b) (nI s + -1) (bh v (u2L w 54 (6 * p + s) x)) := by
    intro x
    unfold f_Tables_spendAlone_82
    simp only [hB0, bd1_q]
    rw [show (6 : Int32) = nI 6 from rfl, pk_mul, nI_add, wrL_nI (by omega) (by decide), bd1_s, Nat.mul_comm p 6]
  have fin : ∀ n, n ≤ 4 → (b < n ∨ s < n) → sumN (saT f a b s) n = sumN (saT f a b s) 4 := fun n h4 h => (sumN_cut (n := n) h4 (fun i h1 _ => if_neg (fun q => by omega))).symm
  intro k
  induction k with
  | zero =>
    intro fuel n hf hn hn2 hn3
    obtain ⟨m, rfl⟩ : ∃ m, fuel = m + 1 := ⟨fuel - 1, by omega⟩
    show f_Tables_spendAlone_42b rec31 (f_Tables_spendAlone_42 rec31 m) 48 (nI p) (nI a) (nI b) (nI s) _ (nI n) (bh v w) = _
    unfold f_Tables_spendAlone_42b
    rw [if_pos (show nI b < nI n from nI_lt (by omega) (by omega)), e82, fin n hn2 (Or.inl (by omega))]
  | succ k ih =>
    intro fuel n hf hn hn2 hn3
    obtain ⟨m, rfl⟩ : ∃ m, fuel = m + 1 := ⟨fuel - 1, by omega⟩
    show f_Tables_spendAlone_42b rec31 (f_Tables_spendAlone_42 rec31 m) 48 (nI p) (nI a) (nI b) (nI s) _ (nI n) (bh v w) = _
    unfold f_Tables_spendAlone_42b
    rw [ite_iff (nI_ltI (a := b) (b := n) (by omega) (by omega)), ite_iff (nI_ltI (a := s) (b := n) (by omega) (by omega))]
    by_cases c1 : b < n
    · rw [if_pos c1, e82, fin n hn2 (Or.inl c1)]
    · rw [if_neg c1]
      by_cases c2 : s < n
      · rw [if_pos c2, e82, fin n hn2 (Or.inr c2)]
      · rw [if_neg c2]
        have nx := ih m (n + 1) (by omega) (by omega) (by omega) (by omega)
        have es : sumN (saT f a b s) (n + 1) = sumN (saT f a b s) n + f (s - n) := by
          show sumN (saT f a b s) n + saT f a b s n = _
          unfold saT
          rw [if_pos ⟨⟨hn3, by omega⟩, by omega⟩]
        have r := hw (s - n) (by omega)
        simp only [hB0, bd1_q]
        rw [show (6 : Int32) = nI 6 from rfl, pk_mul, nI_add, pk_sub (by omega), rd_nI (by omega) (by decide), bd1_s, nI_1, show p * 6 + s - n = 6 * p + (s - n) by omega, r, nL_add, ← es]
        exact nx
theorem T_spendAloneX (h : tX L lo hi dL dP tm v) {p l : Nat} (hp : p < 3) (hl : l < L) (w : Nat → Nat → Int64) (ha : alo tm w g) : ∃ w', f_Tables_spendAlone 48 (nI p) (nI l) (bh v w) = some (bh v w') ∧ alo tm w' (fun q s => if q = p then c1 (kB lo hi p l) (g p) s else g q s) := by
  obtain ⟨h5, h0, hlo, hhi, -, -, htm⟩ := h
  obtain ⟨ea, a3⟩ := hlo p l hp hl
  obtain ⟨eb, b3⟩ := hhi p l hp hl
  obtain ⟨et, t5⟩ := htm p hp
  have c1e : ∀ s, sumN (saT (g p) (lo p l) (hi p l) s) 4 = c1 (kB lo hi p l) (g p) s := fun s => sumN_congr (fun n _ => by
    unfold saT kB
    by_cases q : (lo p l ≤ n ∧ n ≤ hi p l) ∧ n ≤ s
    · rw [if_pos q]
      exact (if_pos ⟨decide_eq_true q.1, q.2⟩).symm
    · rw [if_neg q]
      exact (if_neg (fun r => q ⟨of_decide_eq_true r.1, r.2⟩)).symm)
  have s0 : sumN (saT (g p) (lo p l) (hi p l) 0) 0 = 0 := rfl
  have z : ∀ (m : Nat) (w : Nat → Nat → Int64), f_Tables_spendAlone_31 (m + 1) 48 (nI p) (nI (lo p l)) (nI (hi p l)) (-1) (bh v w) = some (bh v w) := by
    intro m w
    show f_Tables_spendAlone_31b (f_Tables_spendAlone_31 m) 48 (nI p) (nI (lo p l)) (nI (hi p l)) (-1) (bh v w) = _
    unfold f_Tables_spendAlone_31b
    rw [if_pos (by decide)]
  have one : ∀ (s m : Nat) (w : Nat → Nat → Int64), s ≤ tm p → alo tm w (fun q j => if q = p ∧ s < j then c1 (kB lo hi p l) (g p) j else g q j) → ∃ w', f_Tables_spendAlone_31 (m + 1) 48 (nI p) (nI (lo p l)) (nI (hi p l)) (nI s) (bh v w) = f_Tables_spendAlone_31 m 48 (nI p) (nI (lo p l)) (nI (hi p l)) (nI s + -1) (bh v w') ∧ alo tm w' (fun q j => if q = p ∧ s ≤ j then c1 (kB lo hi p l) (g p) j else g q j) := by
    intro s m w hs hi2
    have r := T_sa42X (v := v) (w := w) (f := g p) hp a3 b3 (show s ≤ 5 by omega) (fun j hj => (hi2 p j hp (by omega)).trans (congrArg nL (if_neg (fun q => by omega)))) (f_Tables_spendAlone_31 m) 4 FU (lo p l) (by decide) (by omega) (by omega) (Nat.le_refl _)
    have sz : sumN (saT (g p) (lo p l) (hi p l) s) (lo p l) = 0 := sumN_none (fun i hi => if_neg (fun q => by omega))
    rw [sz, c1e] at r
    refine ⟨u2L w 54 (6 * p + s) (nL (c1 (kB lo hi p l) (g p) s)), ?_, fun q j hq hj => ?_⟩
    · show f_Tables_spendAlone_31b (f_Tables_spendAlone_31 m) 48 (nI p) (nI (lo p l)) (nI (hi p l)) (nI s) (bh v w) = _
      unfold f_Tables_spendAlone_31b
      rw [if_neg (nI_pos (by omega))]
      exact r
    · have h2 : w 54 (6 * q + j) = nL (if q = p ∧ s < j then c1 (kB lo hi p l) (g p) j else g q j) := hi2 q j hq hj
      show u2L w 54 (6 * p + s) (nL (c1 (kB lo hi p l) (g p) s)) 54 (6 * q + j) = nL (if q = p ∧ s ≤ j then c1 (kB lo hi p l) (g p) j else g q j)
      by_cases e : q = p ∧ j = s
      · rw [e.1, e.2, u2L_at, if_pos ⟨rfl, Nat.le_refl _⟩]
      · have tq := (htm q hq).2
        rw [u2L_n (by omega), h2]
        by_cases c : q = p ∧ s < j
        · rw [if_pos c, if_pos ⟨c.1, by omega⟩]
        · rw [if_neg c, if_neg (fun r => c ⟨r.1, by omega⟩)]
  have key : ∀ (s fuel : Nat) (w : Nat → Nat → Int64), s + 1 < fuel → s ≤ tm p → alo tm w (fun q j => if q = p ∧ s < j then c1 (kB lo hi p l) (g p) j else g q j) → ∃ w', f_Tables_spendAlone_31 fuel 48 (nI p) (nI (lo p l)) (nI (hi p l)) (nI s) (bh v w) = some (bh v w') ∧ alo tm w' (fun q j => if q = p then c1 (kB lo hi p l) (g p) j else g q j) := by
    intro s
    induction s with
    | zero =>
      intro fuel w hf hs hi2
      obtain ⟨m, rfl⟩ : ∃ m, fuel = m + 1 + 1 := ⟨fuel - 2, by omega⟩
      obtain ⟨w1, e1, i1⟩ := one 0 (m + 1) w hs hi2
      rw [m1_0, z] at e1
      refine ⟨w1, e1, i1.to (fun q j _ _ => ?_)⟩
      by_cases c : q = p
      · rw [if_pos c, if_pos ⟨c, Nat.zero_le _⟩]
      · rw [if_neg c, if_neg (fun r => c r.1)]
    | succ s ih =>
      intro fuel w hf hs hi2
      obtain ⟨m, rfl⟩ : ∃ m, fuel = m + 1 := ⟨fuel - 1, by omega⟩
      obtain ⟨w1, e1, i1⟩ := one (s + 1) m w hs hi2
      obtain ⟨w2, e2, i2⟩ := ih m w1 (by omega) (by omega) (i1.to (fun q j _ _ => by
        by_cases c : q = p ∧ s < j
        · rw [if_pos c, if_pos ⟨c.1, by omega⟩]
        · rw [if_neg c, if_neg (fun r => c ⟨r.1, by omega⟩)]))
      rw [m1_I s (by omega), e2] at e1
      exact ⟨w2, e1, i2⟩
  obtain ⟨w', e, i⟩ := key (tm p) FU w (by unfold FU; omega) (Nat.le_refl _) (ha.to (fun q j _ hj => by
    by_cases c : q = p ∧ tm p < j
    · rw [c.1] at hj; omega
    · rw [if_neg c]))
  refine ⟨w', ?_, i⟩
  unfold f_Tables_spendAlone f_Tables_spendAlone_0
  simp only [hB0, bd1_q]
  rw [show (5 : Int32) = nI 5 from rfl, pk_mul, nI_add, Nat.mul_comm p 5, rd_nI (by omega) (by decide), bd1_s, rd_nI (by omega) (by decide), bd1_s, rd_nI hp (by decide), bd1_s, ea, eb, et]
  exact e
/-- the ways to each state within the times -/
def wys (tm : Nat → Nat) (w : Nat → Nat → Int64) (W : Nat → Nat → Nat → Nat) : Prop := ∀ a b c, a ≤ tm 0 → b ≤ tm 1 → c ≤ tm 2 → w 55 ((a * 6 + b) * 6 + c) = nL (W a b c)
theorem T_joinAllX (h : tX L lo hi dL dP tm v) (w : Nat → Nat → Int64) (ha : alo tm w g) : ∃ w', f_Tables_joinAll 48 (bh v w) = some (bh v w') ∧ wys tm w' (pr3 (g 0) (g 1) (g 2)) := by
  obtain ⟨h5, h0, -, -, -, -, htm⟩ := h
  obtain ⟨e0, q0⟩ := htm 0 (by decide)
  obtain ⟨e1, q1⟩ := htm 1 (by decide)
  obtain ⟨e2, q2⟩ := htm 2 (by decide)
  have k26 : ∀ (rec2 : Nat → Int32 → mH → Option mH) (rec14 : Nat → Int32 → Int32 → mH → Option mH) (a b : Nat), a ≤ tm 0 → b ≤ tm 1 → ∀ (k fuel c : Nat) (w : Nat → Nat → Int64), k < fuel → c + k = tm 2 + 1 → alo tm w g → (∀ x y z, x ≤ tm 0 → y ≤ tm 1 → z ≤ tm 2 → (x * 6 + y) * 6 + z < (a * 6 + b) * 6 + c → w 55 ((x * 6 + y) * 6 + z) = nL (pr3 (g 0) (g 1) (g 2) x y z)) → ∃ w', f_Tables_joinAll_26 rec2 rec14 fuel 48 (nI a) (nI b) (nI c) (bh v w) = rec14 48 (nI a) (nI (b + 1)) (bh v w') ∧ alo tm w' g ∧ (∀ x y z, x ≤ tm 0 → y ≤ tm 1 → z ≤ tm 2 → (x * 6 + y) * 6 + z < (a * 6 + (b + 1)) * 6 → w' 55 ((x * 6 + y) * 6 + z) = nL (pr3 (g 0) (g 1) (g 2) x y z)) := by
    intro rec2 rec14 a b ha1 hb1 k
    induction k with
    | zero =>
      intro fuel c w hf hc hA hD
      obtain ⟨m, rfl⟩ : ∃ m, fuel = m + 1 := ⟨fuel - 1, by omega⟩
      refine ⟨w, ?_, hA, fun x y z hx hy hz hlt => hD x y z hx hy hz (by omega)⟩
      show f_Tables_joinAll_26b rec2 rec14 (f_Tables_joinAll_26 rec2 rec14 m) 48 (nI a) (nI b) (nI c) (bh v w) = _
      unfold f_Tables_joinAll_26b
      simp only [hB0, bd1_q]
      rw [rd3.2.2, bd1_s, e2, if_pos (nI_lt (by omega) (by omega)), nI_1]
    | succ k ih =>
      intro fuel c w hf hc hA hD
      obtain ⟨m, rfl⟩ : ∃ m, fuel = m + 1 := ⟨fuel - 1, by omega⟩
      have r0 := hA 0 a (by decide) ha1
      have r1 := hA 1 b (by decide) hb1
      have r2 := hA 2 c (by decide) (by omega)
      rw [show 6 * 0 + a = a by omega] at r0
      rw [show 6 * 1 + b = 6 + b by omega] at r1
      rw [show 6 * 2 + c = 12 + c by omega] at r2
      show ∃ w', f_Tables_joinAll_26b rec2 rec14 (f_Tables_joinAll_26 rec2 rec14 m) 48 (nI a) (nI b) (nI c) (bh v w) = _ ∧ _
      unfold f_Tables_joinAll_26b
      simp only [hB0, bd1_q]
      rw [rd3.2.2, bd1_s, e2, if_neg (nI_nlt (by omega) (by omega)), st_I, bd2_s]
      simp only [hB0, bd1_q]
      rw [show (6 : Int32) = nI 6 from rfl, show (12 : Int32) = nI 12 from rfl, nI_add, nI_add, rd_nI (by omega) (by decide), bd1_s, rd_nI (by omega) (by decide), bd1_s, rd_nI (by omega) (by decide), bd1_s, wrL_nI (by omega) (by decide), bd1_s, nI_1, r0, r1, r2, nL_mul, nL_mul]
      refine ih m (c + 1) _ (by omega) (by omega) (fun p s hp hs => by rw [u2L_o (by decide)]; exact hA p s hp hs) (fun x y z hx hy hz hlt => ?_)
      by_cases e : x = a ∧ y = b ∧ z = c
      · rw [e.1, e.2.1, e.2.2, u2L_at]
        rfl
      · rw [u2L_n (by omega)]
        exact hD x y z hx hy hz (by omega)
  have k14 : ∀ (rec2 : Nat → Int32 → mH → Option mH) (a : Nat), a ≤ tm 0 → ∀ (k fuel b : Nat) (w : Nat → Nat → Int64), k < fuel → b + k = tm 1 + 1 → alo tm w g → (∀ x y z, x ≤ tm 0 → y ≤ tm 1 → z ≤ tm 2 → (x * 6 + y) * 6 + z < (a * 6 + b) * 6 → w 55 ((x * 6 + y) * 6 + z) = nL (pr3 (g 0) (g 1) (g 2) x y z)) → ∃ w', f_Tables_joinAll_14 rec2 fuel 48 (nI a) (nI b) (bh v w) = rec2 48 (nI (a + 1)) (bh v w') ∧ alo tm w' g ∧ (∀ x y z, x ≤ tm 0 → y ≤ tm 1 → z ≤ tm 2 → x < a + 1 → w' 55 ((x * 6 + y) * 6 + z) = nL (pr3 (g 0) (g 1) (g 2) x y z)) := by
    intro rec2 a ha1 k
    induction k with
    | zero =>
      intro fuel b w hf hc hA hD
      obtain ⟨m, rfl⟩ : ∃ m, fuel = m + 1 := ⟨fuel - 1, by omega⟩
      refine ⟨w, ?_, hA, fun x y z hx hy hz hlt => hD x y z hx hy hz (by omega)⟩
      show f_Tables_joinAll_14b rec2 (f_Tables_joinAll_14 rec2 m) 48 (nI a) (nI b) (bh v w) = _
      unfold f_Tables_joinAll_14b
      simp only [hB0, bd1_q]
      rw [rd3.2.1, bd1_s, e1, if_pos (nI_lt (by omega) (by omega)), nI_1]
    | succ k ih =>
      intro fuel b w hf hc hA hD
      obtain ⟨m, rfl⟩ : ∃ m, fuel = m + 1 := ⟨fuel - 1, by omega⟩
      obtain ⟨w1, g1, a1, d1⟩ := k26 rec2 (f_Tables_joinAll_14 rec2 m) a b ha1 (by omega) (tm 2 + 1) FU 0 w (by unfold FU; omega) (by omega) hA hD
      obtain ⟨w2, g2, a2, d2⟩ := ih m (b + 1) w1 (by omega) (by omega) a1 d1
      refine ⟨w2, ?_, a2, d2⟩
      show f_Tables_joinAll_14b rec2 (f_Tables_joinAll_14 rec2 m) 48 (nI a) (nI b) (bh v w) = _
      unfold f_Tables_joinAll_14b
      simp only [hB0, bd1_q]
      rw [rd3.2.1, bd1_s, e1, if_neg (nI_nlt (by omega) (by omega))]
      exact g1.trans g2
  have k2 : ∀ (k fuel a : Nat) (w : Nat → Nat → Int64), k < fuel → a + k = tm 0 + 1 → alo tm w g → (∀ x y z, x ≤ tm 0 → y ≤ tm 1 → z ≤ tm 2 → x < a → w 55 ((x * 6 + y) * 6 + z) = nL (pr3 (g 0) (g 1) (g 2) x y z)) → ∃ w', f_Tables_joinAll_2 fuel 48 (nI a) (bh v w) = some (bh v w') ∧ wys tm w' (pr3 (g 0) (g 1) (g 2)) := by
    intro k
    induction k with
    | zero =>
      intro fuel a w hf hc hA hD
      obtain ⟨m, rfl⟩ : ∃ m, fuel = m + 1 := ⟨fuel - 1, by omega⟩
      refine ⟨w, ?_, fun x y z hx hy hz => hD x y z hx hy hz (by omega)⟩
      show f_Tables_joinAll_2b (f_Tables_joinAll_2 m) 48 (nI a) (bh v w) = _
      unfold f_Tables_joinAll_2b
      simp only [hB0, bd1_q]
      rw [rd3.1, bd1_s, e0, if_pos (nI_lt (by omega) (by omega))]
    | succ k ih =>
      intro fuel a w hf hc hA hD
      obtain ⟨m, rfl⟩ : ∃ m, fuel = m + 1 := ⟨fuel - 1, by omega⟩
      obtain ⟨w1, g1, a1, d1⟩ := k14 (f_Tables_joinAll_2 m) a (by omega) (tm 1 + 1) FU 0 w (by unfold FU; omega) (by omega) hA (fun x y z hx hy hz hlt => hD x y z hx hy hz (by omega))
      obtain ⟨w2, g2, d2⟩ := ih m (a + 1) w1 (by omega) (by omega) a1 d1
      refine ⟨w2, ?_, d2⟩
      show f_Tables_joinAll_2b (f_Tables_joinAll_2 m) 48 (nI a) (bh v w) = _
      unfold f_Tables_joinAll_2b
      simp only [hB0, bd1_q]
      rw [rd3.1, bd1_s, e0, if_neg (nI_nlt (by omega) (by omega))]
      exact g1.trans g2
  exact k2 (tm 0 + 1) FU 0 w (by unfold FU; omega) (by omega) ha (fun x y z _ _ _ hlt => by omega)
end
