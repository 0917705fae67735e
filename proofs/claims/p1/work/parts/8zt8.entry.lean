/-! entry: the first that fits, from below and from above -/
section
variable {ρ : Rho} {v : Nat → Nat → Int32} {w : Nat → Nat → Int64}
def eP (ρ : Rho) (p l y : Nat) : Prop := ¬ lg_cmp (nL (mTot ρ (nI p) (nI l) (nI y))) (0 : Int64) ≤ 0
theorem bAs_iff {p l y q j x : Nat} (hp : p < 3) (hl : l < 5) (hy : y < 4) (hq : q < 3) (hj : j < 5) (hx : x < 4) : bAs (nI p) (nI l) (nI y) q j x = true ↔ (¬ q = p ∨ ¬ j = l) ∨ x = y := by
  unfold bAs
  rw [Bool.or_eq_true, Bool.or_eq_true, decide_eq_true_iff, decide_eq_true_iff, decide_eq_true_iff, nI_eqI (by omega) (by omega), nI_eqI (by omega) (by omega), nI_eqI (by omega) (by omega)]
theorem lohi_iff (hk : ROK ρ) {p l y q j x : Nat} (hp : p < 3) (hl : l < 5) (hy : y ≤ mo ρ p l) (hy4 : y < 4) (hq : q < 3) (hj : j < 5) (hx : x < 4) : (x ≤ mo ρ q j ∧ bAs (nI p) (nI l) (nI y) q j x = true) ↔ (loM p l y q j ≤ x ∧ x ≤ hiM ρ p l y q j) := by
  rw [bAs_iff hp hl hy4 hq hj hx]
  unfold loM hiM
  by_cases c : q = p ∧ j = l
  · rw [if_pos c, if_pos c, c.1, c.2]
    omega
  · rw [if_neg c, if_neg c]
    omega
theorem entTot_eq (hk : ROK ρ) {p l y : Nat} (hp : p < 3) (hl : l < ρ 0 0) (hy : y ≤ mo ρ p l) : mTot ρ (nI p) (nI l) (nI y) = cAll (ρ 0 0) (loM p l y) (hiM ρ p l y) (dLr ρ) (dPr ρ) (tmr ρ) := by
  have h0 := hk.1.1
  have m3 := mo_le hk (p := p) hl
  refine tot_eq hk _ _ _ (fun j hj x y' z hx hy' hz => ?_)
  rw [Bool.eq_iff_iff, mK_iff hx hy' hz, cK_iff, lohi_iff hk hp (by omega) hy (by omega) (by decide) (by omega) hx, lohi_iff hk hp (by omega) hy (by omega) (by decide) (by omega) hy', lohi_iff hk hp (by omega) hy (by omega) (by decide) (by omega) hz]
theorem cvo_none {K : Nat → Nat → Nat → Bool} {W : Nat → Nat → Nat → Nat} (h : ∀ x y z, x < 4 → y < 4 → z < 4 → K x y z = false) (a b c : Nat) : cvo K W a b c = 0 := by
  refine sumN_none (fun x hx => sumN_none (fun y hy => sumN_none (fun z hz => if_neg (fun q => ?_))))
  rw [h x y z hx hy hz] at q
  cases q.1
theorem cvo_zero {K : Nat → Nat → Nat → Bool} {W : Nat → Nat → Nat → Nat} (h : ∀ a b c, W a b c = 0) (a b c : Nat) : cvo K W a b c = 0 := by
  refine sumN_none (fun x _ => sumN_none (fun y _ => sumN_none (fun z _ => ?_)))
  show (if K x y z = true ∧ x ≤ a ∧ y ≤ b ∧ z ≤ c then W (a - x) (b - y) (c - z) else 0) = 0
  split
  · exact h _ _ _
  · rfl
theorem cvs_zero {K : Nat → Nat → Nat → Nat → Bool} {W : Nat → Nat → Nat → Nat} {l : Nat} (h : ∀ x y z, x < 4 → y < 4 → z < 4 → K l x y z = false) : ∀ n, l < n → ∀ a b c, cvs K W n a b c = 0
  | 0, q, _, _, _ => (Nat.not_lt_zero _ q).elim
  | n + 1, q, a, b, c => by
    show cvo (K n) (cvs K W n) a b c = 0
    by_cases e : l = n
    · rw [← e]; exact cvo_none h a b c
    · exact cvo_zero (cvs_zero h n (by omega)) a b c
theorem entTot_no (hk : ROK ρ) {p l y : Nat} (hp : p < 3) (hl : l < ρ 0 0) (hy : mo ρ p l < y) (hy4 : y < 4) : ¬ eP ρ p l y := by
  have h0 := hk.1.1
  have z : mTot ρ (nI p) (nI l) (nI y) = 0 := by
    refine sumN_none (fun k _ => ?_)
    show mW ρ (nI p) (nI l) (nI y) (k / 36) (k / 6 % 6) (k % 6) = 0
    unfold mW
    rw [cvs_zero (l := l) (fun x x' z hx hy' hz => ?_) (ρ 0 0) hl]
    · split <;> rfl
    · refine Bool.eq_false_iff.mpr (fun q => ?_)
      rw [mK_iff hx hy' hz, bAs_iff hp (by omega) hy4 (by decide) (by omega) hx, bAs_iff hp (by omega) hy4 (by decide) (by omega) hy', bAs_iff hp (by omega) hy4 (by decide) (by omega) hz] at q
      obtain ⟨⟨a, b, c⟩, -⟩ := q
      match p, hp with
      | 0, _ => omega
      | 1, _ => omega
      | 2, _ => omega
  unfold eP
  rw [z]
  intro q
  exact q (by decide)
def yI (x : Int32) (T i : Nat) : Nat := if x = 0 then i else T - i
theorem T_firstX (hk : ROK ρ) {p l : Nat} (hp : p < 3) (hl : l < ρ 0 0) (x : Int32) (h : tX (ρ 0 0) (fun _ _ => 0) (mo ρ) (dLr ρ) (dPr ρ) (tmr ρ) v) (w : Nat → Nat → Int64) : ∃ r v' w', f_Tables_firstThatFits 48 (nI p) (nI l) x (bh v w) = some (r, bh v' w') ∧ tFr v v' ∧ ((∃ i, i ≤ mo ρ p l ∧ r = nI (yI x (mo ρ p l) i) ∧ eP ρ p l (yI x (mo ρ p l) i) ∧ ∀ i', i' < i → ¬ eP ρ p l (yI x (mo ρ p l) i')) ∨ (r = -4 ∧ ∀ i, i ≤ mo ρ p l → ¬ eP ρ p l (yI x (mo ρ p l) i))) := by
  have h5 := h.1
  have m3 := mo_le hk (p := p) hl
  have eT := (h.2.2.2.1 p l hp hl).1
  have key : ∀ (k fuel i : Nat) (v : Nat → Nat → Int32) (w : Nat → Nat → Int64), k < fuel → i + k = mo ρ p l + 1 → (∃ y0 y1, y0 ≤ 3 ∧ y1 ≤ 3 ∧ tX (ρ 0 0) (loM p l y0) (hiM ρ p l y1) (dLr ρ) (dPr ρ) (tmr ρ) v) → (∀ i', i' < i → ¬ eP ρ p l (yI x (mo ρ p l) i')) → ∃ r v' w', f_Tables_firstThatFits_19 fuel 48 x (nI (5 * p + l)) (nI (mo ρ p l)) (nI i) (bh v w) = some (r, bh v' w') ∧ tFr v v' ∧ ((∃ i, i ≤ mo ρ p l ∧ r = nI (yI x (mo ρ p l) i) ∧ eP ρ p l (yI x (mo ρ p l) i) ∧ ∀ i', i' < i → ¬ eP ρ p l (yI x (mo ρ p l) i')) ∨ (r = -4 ∧ ∀ i, i ≤ mo ρ p l → ¬ eP ρ p l (yI x (mo ρ p l) i))) := by
    intro k
    induction k with
    | zero =>
      intro fuel i v w hf hi ht hn
      obtain ⟨m, rfl⟩ : ∃ m, fuel = m + 1 := ⟨fuel - 1, by omega⟩
      refine ⟨-4, v, w, ?_, fun _ _ => rfl, Or.inr ⟨rfl, fun i' q => hn i' (by omega)⟩⟩
      show f_Tables_firstThatFits_19b (f_Tables_firstThatFits_19 m) 48 x (nI (5 * p + l)) (nI (mo ρ p l)) (nI i) (bh v w) = _
      unfold f_Tables_firstThatFits_19b
      rw [if_pos (nI_lt (by omega) (by omega))]
    | succ k ih =>
      intro fuel i v w hf hi ht hn
      obtain ⟨m, rfl⟩ : ∃ m, fuel = m + 1 := ⟨fuel - 1, by omega⟩
      obtain ⟨y0, y1, -, -, a1, a2, a3, a4, a5, a6, a7⟩ := ht
      have go : ∀ y : Nat, y = yI x (mo ρ p l) i → ∃ r v' w', f_Tables_firstThatFits_40 (f_Tables_firstThatFits_19 m) 48 x (nI (5 * p + l)) (nI (mo ρ p l)) (nI i) (nI y) (bh v w) = some (r, bh v' w') ∧ tFr v v' ∧ ((∃ i, i ≤ mo ρ p l ∧ r = nI (yI x (mo ρ p l) i) ∧ eP ρ p l (yI x (mo ρ p l) i) ∧ ∀ i', i' < i → ¬ eP ρ p l (yI x (mo ρ p l) i')) ∨ (r = -4 ∧ ∀ i, i ≤ mo ρ p l → ¬ eP ρ p l (yI x (mo ρ p l) i))) := by
        intro y ey
        have hy : y ≤ mo ρ p l := by rw [ey]; unfold yI; split <;> omega
        have t1 : tX (ρ 0 0) (loM p l y) (hiM ρ p l y) (dLr ρ) (dPr ρ) (tmr ρ) (u2 (u2 v 49 (5 * p + l) (nI y)) 50 (5 * p + l) (nI y)) := by
          refine ⟨a1, ?_, fun q j hq hj => ?_, fun q j hq hj => ?_, ?_, ?_, ?_⟩
          · rw [u2_o (by decide), u2_o (by decide)]; exact a2
          · rw [u2_o (by decide)]
            have b := a3 q j hq hj
            unfold loM at b ⊢
            by_cases z : q = p ∧ j = l
            · rw [if_pos z, z.1, z.2, u2_at]; exact ⟨rfl, by omega⟩
            · rw [if_neg z] at b ⊢
              rw [u2_n (by omega)]; exact b
          · have b := a4 q j hq hj
            unfold hiM at b ⊢
            by_cases z : q = p ∧ j = l
            · rw [if_pos z, z.1, z.2, u2_at]; exact ⟨rfl, by omega⟩
            · rw [if_neg z] at b ⊢
              rw [u2_n (by omega), u2_o (by decide)]; exact b
          · rw [u2_o (by decide), u2_o (by decide)]; exact a5
          · rw [u2_o (by decide), u2_o (by decide)]; exact a6
          · rw [u2_o (by decide), u2_o (by decide)]; exact a7
        obtain ⟨w2, e2⟩ := T_fittingX t1 w
        rw [← entTot_eq hk hp hl hy] at e2
        have ff : tFr v (u2 (u2 v 49 (5 * p + l) (nI y)) 50 (5 * p + l) (nI y)) := fun q hq => (u2_o (by omega)).trans (u2_o (by omega))
        unfold f_Tables_firstThatFits_40
        simp only [hB0, bd1_q]
        rw [wr_nI (by omega) (by decide), bd1_s]
        simp only [hB0, bd1_q]
        rw [wr_nI (by omega) (by decide), bd1_s]
        simp only [hB0, bd1_q]
        rw [e2, bd2_s, nI_1]
        by_cases c : lg_cmp (nL (mTot ρ (nI p) (nI l) (nI y))) (0 : Int64) ≤ 0
        · rw [if_pos c]
          obtain ⟨r3, v3, w3, e3, f3, g3⟩ := ih m (i + 1) _ w2 (by omega) (by omega) ⟨y, y, by omega, by omega, t1⟩ (fun i' q => by
            by_cases z : i' = i
            · rw [z, ← ey]; exact fun q => q c
            · exact hn i' (by omega))
          exact ⟨r3, v3, w3, e3, fun q hq => (f3 q hq).trans (ff q hq), g3⟩
        · rw [if_neg c]
          exact ⟨_, _, w2, rfl, ff, Or.inl ⟨i, by omega, by rw [ey], by rw [← ey]; exact c, hn⟩⟩
      show ∃ r v' w', f_Tables_firstThatFits_19b (f_Tables_firstThatFits_19 m) 48 x (nI (5 * p + l)) (nI (mo ρ p l)) (nI i) (bh v w) = some (r, bh v' w') ∧ _
      unfold f_Tables_firstThatFits_19b
      rw [if_neg (nI_nlt (by omega) (by omega)), pk_sub (by omega)]
      by_cases z : x = 0
      · rw [if_pos z]; exact go i (by unfold yI; rw [if_pos z])
      · rw [if_neg z]; exact go (mo ρ p l - i) (by unfold yI; rw [if_neg z])
  unfold f_Tables_firstThatFits f_Tables_firstThatFits_0
  simp only [hB0, bd1_q]
  rw [show (5 : Int32) = nI 5 from rfl, pk_mul, nI_add, Nat.mul_comm p 5, rd_nI (by omega) (by decide), bd1_s, eT, show (0 : Int32) = nI 0 from rfl]
  refine key (mo ρ p l + 1) FU 0 v w (by unfold FU; omega) (by omega) ⟨0, mo ρ p l, by omega, m3, ?_⟩ (fun i' q => by omega)
  have e1 : loM p l 0 = fun _ _ => 0 := by
    funext q j
    unfold loM
    split <;> rfl
  have e2 : hiM ρ p l (mo ρ p l) = mo ρ := by
    funext q j
    unfold hiM
    split
    · next z => rw [z.1, z.2]
    · rfl
  rw [e1, e2]
  exact h
end
section
variable {ρ : Rho} {v : Nat → Nat → Int32} {w : Nat → Nat → Int64}
def feI (P : Nat → Prop) (k : Nat) (x : Int32) : Prop := (x = -4 ∧ ∀ u, u < k → ¬ P u) ∨ ∃ u, u < k ∧ x = nI u ∧ P u ∧ ∀ u', u' < u → ¬ P u'
def laI (P : Nat → Prop) (k : Nat) (x : Int32) : Prop := (x = -4 ∧ ∀ u, u < k → ¬ P u) ∨ ∃ u, u < k ∧ x = nI u ∧ P u ∧ ∀ u', u < u' → u' < k → ¬ P u'
theorem feI_no {P : Nat → Prop} {k : Nat} {x : Int32} (h : feI P k x) (n : ¬ P k) : feI P (k + 1) x := by
  rcases h with ⟨a, b⟩ | ⟨u, a, b, c, d⟩
  · refine Or.inl ⟨a, fun u q => ?_⟩
    by_cases z : u = k
    · rw [z]; exact n
    · exact b u (by omega)
  · exact Or.inr ⟨u, by omega, b, c, d⟩
theorem laI_no {P : Nat → Prop} {k : Nat} {x : Int32} (h : laI P k x) (n : ¬ P k) : laI P (k + 1) x := by
  rcases h with ⟨a, b⟩ | ⟨u, a, b, c, d⟩
  · refine Or.inl ⟨a, fun u q => ?_⟩
    by_cases z : u = k
    · rw [z]; exact n
    · exact b u (by omega)
  · refine Or.inr ⟨u, by omega, b, c, fun u' q1 q2 => ?_⟩
    by_cases z : u' = k
    · rw [z]; exact n
    · exact d u' q1 (by omega)
theorem laI_yes {P : Nat → Prop} {k : Nat} (n : P k) : laI P (k + 1) (nI k) := Or.inr ⟨k, by omega, rfl, n, fun u' a b => by omega⟩
theorem feI_yes {P : Nat → Prop} {k : Nat} {x : Int32} (hk : k < 100) (h : feI P k x) (n : P k) : feI P (k + 1) (if x = -4 then nI k else x) := by
  rcases h with ⟨a, b⟩ | ⟨u, a, b, c, d⟩
  · rw [if_pos a]
    exact Or.inr ⟨k, by omega, rfl, n, b⟩
  · rw [if_neg (by rw [b]; exact nI_n4 (by omega))]
    exact Or.inr ⟨u, by omega, b, c, d⟩
theorem M_entryX (hr : MR ρ v) (hk : ROK ρ) {p l : Nat} (hp : p < 3) (hl : l < ρ 0 0) (c : Int32) (w : Nat → Nat → Int64) : ∃ x y w', f_M_entry_39 FU 100 (nI p) (nI l) c (-4) (-4) 0 (bh v w) = some (if c = 0 then x else y, bh v w') ∧ feI (eP ρ p l) 4 x ∧ laI (eP ρ p l) 4 y := by
  have key : ∀ (n fuel k : Nat) (x y : Int32) (w : Nat → Nat → Int64), n < fuel → k + n = 4 → feI (eP ρ p l) k x → laI (eP ρ p l) k y → ∃ x' y' w', f_M_entry_39 fuel 100 (nI p) (nI l) c x y (nI k) (bh v w) = some (if c = 0 then x' else y', bh v w') ∧ feI (eP ρ p l) 4 x' ∧ laI (eP ρ p l) 4 y' := by
    intro n
    induction n with
    | zero =>
      intro fuel k x y w hf hk2 hx hy
      obtain ⟨m, rfl⟩ : ∃ m, fuel = m + 1 := ⟨fuel - 1, by omega⟩
      have e4 : k = 4 := by omega
      rw [e4] at hx hy
      refine ⟨x, y, w, ?_, hx, hy⟩
      show f_M_entry_39b (f_M_entry_39 m) 100 (nI p) (nI l) c x y (nI k) (bh v w) = _
      unfold f_M_entry_39b
      rw [show (3 : Int32) = nI 3 from rfl, if_pos ((nI_ltI (by omega) (by omega)).mpr (by omega))]
      split <;> rfl
    | succ n ih =>
      intro fuel k x y w hf hk2 hx hy
      obtain ⟨m, rfl⟩ : ∃ m, fuel = m + 1 := ⟨fuel - 1, by omega⟩
      obtain ⟨w1, e⟩ := M_tablesByX hr hk (nI p) (nI l) (nI k) w
      show ∃ x' y' w', f_M_entry_39b (f_M_entry_39 m) 100 (nI p) (nI l) c x y (nI k) (bh v w) = some (if c = 0 then x' else y', bh v w') ∧ _
      unfold f_M_entry_39b f_M_entry_63 f_M_entry_82 f_M_entry_84 f_M_entry_98
      rw [show (3 : Int32) = nI 3 from rfl, if_neg (fun q => by have := (nI_ltI (by omega) (by omega)).mp q; omega)]
      simp only [hJ0, bd1_q]
      rw [e, bd2_s, nI_1]
      by_cases g : lg_cmp (nL (mTot ρ (nI p) (nI l) (nI k))) (0 : Int64) ≤ 0
      · rw [if_pos g]
        exact ih m (k + 1) x y w1 (by omega) (by omega) (feI_no hx (fun q => q g)) (laI_no hy (fun q => q g))
      · rw [if_neg g]
        have fx := feI_yes (by omega) hx g
        by_cases z : x = -4
        · rw [if_pos z] at fx
          have nx := ih m (k + 1) (nI k) (nI k) w1 (by omega) (by omega) fx (laI_yes g)
          simp only [z]
          exact nx
        · rw [if_neg z] at fx
          have nx := ih m (k + 1) x (nI k) w1 (by omega) (by omega) fx (laI_yes g)
          simp only [if_neg z]
          exact nx
  exact key 4 FU 0 (-4) (-4) w (by decide) (by decide) (Or.inl ⟨rfl, fun u q => by omega⟩) (Or.inl ⟨rfl, fun u q => by omega⟩)
end
