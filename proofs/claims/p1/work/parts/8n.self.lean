/-! each for himself -/
theorem bit_tb (s l : Nat) : bit s l = (s.testBit l).toNat := by
  unfold bit
  rw [Nat.testBit_eq_decide_div_mod_eq]
  rcases Nat.mod_two_eq_zero_or_one (s / 2 ^ l) with h | h <;> rw [h] <;> rfl
theorem bit_eq1 {s l : Nat} : bit s l = 1 ↔ s.testBit l = true := by
  rw [bit_tb]
  cases s.testBit l <;> simp
theorem bit_and (a b l : Nat) : bit (a &&& b) l = 1 ↔ bit a l = 1 ∧ bit b l = 1 := by
  rw [bit_eq1, bit_eq1, bit_eq1, Nat.testBit_and, Bool.and_eq_true]
theorem tb_orN {P : Nat → Prop} [DecidablePred P] : ∀ {n l : Nat}, (orN (fun l => if P l then 2 ^ l else 0) n).testBit l = true ↔ l < n ∧ P l
  | 0, l => by simp [orN]
  | n + 1, l => by
    show (orN (fun l => if P l then 2 ^ l else 0) n ||| (if P n then 2 ^ n else 0)).testBit l = true ↔ _
    rw [Nat.testBit_or, Bool.or_eq_true, tb_orN (n := n) (l := l)]
    by_cases h : P n
    · rw [if_pos h, Nat.testBit_two_pow]
      simp only [decide_eq_true_eq]
      constructor
      · rintro (⟨a, b⟩ | rfl)
        · exact ⟨by omega, b⟩
        · exact ⟨by omega, h⟩
      · rintro ⟨a, b⟩
        by_cases e : n = l
        · exact Or.inr e
        · exact Or.inl ⟨by omega, b⟩
    · rw [if_neg h]
      simp only [Nat.zero_testBit, Bool.false_eq_true, or_false]
      constructor
      · rintro ⟨a, b⟩; exact ⟨by omega, b⟩
      · rintro ⟨a, b⟩
        by_cases e : l = n
        · subst e; exact absurd b h
        · exact ⟨by omega, b⟩
theorem orN_and {P : Nat → Prop} [DecidablePred P] {s n : Nat} [DecidablePred (fun l => bit s l = 1 ∧ P l)] : orN (fun l => if P l then 2 ^ l else 0) n &&& s = orN (fun l => if bit s l = 1 ∧ P l then 2 ^ l else 0) n := by
  apply Nat.eq_of_testBit_eq
  intro i
  rw [Nat.testBit_and, Bool.eq_iff_iff, Bool.and_eq_true, tb_orN, tb_orN (P := fun l => bit s l = 1 ∧ P l), ← bit_eq1]
  constructor
  · rintro ⟨⟨a, b⟩, c⟩; exact ⟨a, c, b⟩
  · rintro ⟨a, c, b⟩; exact ⟨⟨a, b⟩, c⟩
def bro (ρ : Rho) (p l : Nat) : Rho := up2 ρ 12 (5 * p + l) (ρ 12 (5 * p + l) + 1)
theorem bro_12 (ρ : Rho) (p l q j : Nat) : bro ρ p l 12 (5 * q + j) = if 5 * q + j = 5 * p + l then ρ 12 (5 * p + l) + 1 else ρ 12 (5 * q + j) := by
  show (va_up (ρ 12) (5 * p + l) (ρ 12 (5 * p + l) + 1)) (5 * q + j) = _
  rfl
theorem bro_all {ρ : Rho} {p l q : Nat} (hL : ρ 0 0 ≤ 5) (hl : l < ρ 0 0) : sAll (bro ρ p l) q = sAll ρ q + (if q = p then 1 else 0) := by
  show sumN (fun j => bro ρ p l 12 (5 * q + j)) (ρ 0 0) = sumN (fun i => ρ 12 (5 * q + i)) (ρ 0 0) + _
  by_cases e : q = p
  · subst e
    rw [if_pos rfl]
    have e3 : sumN (fun j => bro ρ q l 12 (5 * q + j)) (ρ 0 0) = sumN (fun j => if j = l then (fun i => ρ 12 (5 * q + i)) l + 1 else (fun i => ρ 12 (5 * q + i)) j) (ρ 0 0) := by
      refine sumN_congr (fun j hj => ?_)
      rw [bro_12]
      by_cases z : j = l
      · subst z; rw [if_pos rfl, if_pos rfl]
      · rw [if_neg (by omega), if_neg z]
    exact e3.trans (sumN_up (f := fun i => ρ 12 (5 * q + i)) hl)
  · rw [if_neg e, Nat.add_zero]
    refine sumN_congr (fun j hj => ?_)
    rw [bro_12, if_neg (by omega)]
theorem tries_pos {ρ : Rho} {p l : Nat} (h : 0 < sTries ρ p l) : ρ 12 (5 * p + l) < ρ 2 l ∧ sAll ρ p < ρ 6 p := by
  have hc := sCan_iff.mpr h
  refine ⟨?_, ?_⟩
  · have := hc.1
    unfold sRoom at this
    split at this
    · omega
    · omega
  · have := hc.2
    unfold sLeft at this
    omega
theorem ROK_bro {ρ : Rho} {p l : Nat} (hk : ROK ρ) (hp : p < ρ 0 1) (hl : l < ρ 0 0) (ht : 0 < sTries ρ p l) : ROK (bro ρ p l) := by
  have h5 := hk.1.1
  obtain ⟨hroom, hleft⟩ := tries_pos ht
  refine ⟨hk.1, hk.2.1, fun q hq => ?_, fun q j hq hj => ?_, hk.2.2.2.2⟩
  · have hq : q < ρ 0 1 := hq
    have g := hk.2.2.1 q hq
    refine ⟨g.1, g.2.1, g.2.2.1, g.2.2.2.1, g.2.2.2.2.1, g.2.2.2.2.2.1, ?_⟩
    have e := bro_all (p := p) (q := q) h5 hl
    show sAll (bro ρ p l) q ≤ 5
    rw [e]
    have g7 : sAll ρ q ≤ 5 := g.2.2.2.2.2.2
    by_cases z : q = p
    · subst z; rw [if_pos rfl]; have := g.1; omega
    · rw [if_neg z]; omega
  · have hq : q < ρ 0 1 := hq
    have hj : j < ρ 0 0 := hj
    show bro ρ p l 12 (5 * q + j) ≤ ρ 2 j
    rw [bro_12]
    split
    · next z => obtain ⟨rfl, rfl⟩ : q = p ∧ j = l := by omega
                omega
    · exact hk.2.2.2.1 q j hq hj
def sLs (ρ : Rho) : Nat := sumN (sLeft ρ) (ρ 0 1)
theorem sumN_dn {f g : Nat → Nat} {p : Nat} : ∀ {n : Nat}, p < n → g p + 1 = f p → (∀ i, i < n → i ≠ p → g i = f i) → sumN g n + 1 = sumN f n
  | 0, h, _, _ => by omega
  | n + 1, h, hp, ho => by
    show sumN g n + g n + 1 = sumN f n + f n
    by_cases e : n = p
    · subst e
      rw [sumN_congr (g := f) (fun i hi => ho i (by omega) (by omega))]
      omega
    · have := sumN_dn (n := n) (by omega) hp (fun i hi he => ho i (by omega) he)
      have := ho n (by omega) e
      omega
theorem sLs_bro {ρ : Rho} {p l : Nat} (hk : ROK ρ) (hp : p < ρ 0 1) (hl : l < ρ 0 0) (ht : 0 < sTries ρ p l) : sLs (bro ρ p l) + 1 = sLs ρ := by
  have h5 := hk.1.1
  obtain ⟨-, hleft⟩ := tries_pos ht
  refine sumN_dn (f := sLeft ρ) (g := sLeft (bro ρ p l)) hp ?_ (fun i hi he => ?_)
  · show ρ 6 p - sAll (bro ρ p l) p + 1 = ρ 6 p - sAll ρ p
    rw [bro_all h5 hl, if_pos rfl]
    omega
  · show ρ 6 i - sAll (bro ρ p l) i = ρ 6 i - sAll ρ i
    rw [bro_all h5 hl, if_neg he, Nat.add_zero]
theorem sLs_le {ρ : Rho} (hk : ROK ρ) : sLs ρ ≤ 15 := by
  have h2 := hk.1.2.1
  have := sumN_c (f := sLeft ρ) (c := 5) (n := ρ 0 1) (fun i hi => Nat.le_trans (Nat.sub_le _ _) (hk.2.2.1 i hi).1)
  unfold sLs
  omega
/-- which LAW he breaks next, of the first n (0 none, else one more than the LAW) -/
def mnd (ρ : Rho) (p : Nat) : Nat → Nat
  | 0 => 0
  | n + 1 => if (bit (ρ 11 p) n = 1 ∧ 0 < sTries ρ p n ∧ 0 < sNeed ρ n) ∧ (mnd ρ p n = 0 ∨ sNeed ρ (mnd ρ p n - 1) < sNeed ρ n) then n + 1 else mnd ρ p n
theorem mnd_le (ρ : Rho) (p : Nat) : ∀ n, mnd ρ p n ≤ n ∧ (mnd ρ p n ≠ 0 → 0 < sTries ρ p (mnd ρ p n - 1) ∧ 0 < sNeed ρ (mnd ρ p n - 1))
  | 0 => ⟨Nat.le_refl _, fun h => absurd rfl h⟩
  | n + 1 => by
    have ih := mnd_le ρ p n
    unfold mnd
    split
    · next h => exact ⟨Nat.le_refl _, fun _ => ⟨h.1.2.1, h.1.2.2⟩⟩
    · exact ⟨by omega, ih.2⟩
def nIb (ρ : Rho) (c : Nat) : Nat := if c = 0 then 0 else sNeed ρ (c - 1)
section
variable {ρ : Rho} {v : Nat → Nat → Int32} {w : Nat → Nat → Int64} {o c : Nat}
theorem sCans_bit {p l : Nat} (hl : l < ρ 0 0) : bit (sCans ρ p) l = 1 ↔ 0 < sTries ρ p l := by
  unfold sCans
  rw [bit_eq1, tb_orN (P := fun l => 0 < sTries ρ p l)]
  exact ⟨fun h => h.2, fun h => ⟨hl, h⟩⟩
theorem sCans_lt (hk : ROK ρ) (p : Nat) : sCans ρ p < 32 := by
  unfold sCans
  refine orN_lt (fun i hi => ?_)
  have := hk.1.1
  split
  · exact Nat.lt_of_lt_of_le (Nat.pow_lt_pow_right (by decide) (show i < 5 by omega)) (by decide)
  · omega
theorem D_mostNeeded (ho : rl o) (hr : CRq c o ρ v) (hk : ROK ρ) {p : Nat} (hp : p < ρ 0 1) : f_Realm_mostNeeded o (nI p) (bh v w) = some (cI (mnd ρ p (ρ 0 0)), bh v w) := by
  have h1 := hk.1.1
  have h2 := hk.1.2.1
  have hw : ρ 11 p < 32 := pw_le h1 (hk.2.2.1 p hp).2.2.2.2.2.1
  have hs := sCans_lt hk p
  have ha := and_lt _ hs _ hw
  have key : ∀ (k fuel n : Nat), k < fuel → n + k = ρ 0 0 → f_Realm_mostNeeded_22 fuel o (nI (sCans ρ p &&& ρ 11 p)) (cI (mnd ρ p n)) (nI (nIb ρ (mnd ρ p n))) (nI n) (bh v w) = some (cI (mnd ρ p (ρ 0 0)), bh v w) := by
    intro k
    induction k with
    | zero =>
      intro fuel n hf hn
      obtain ⟨m, rfl⟩ : ∃ m, fuel = m + 1 := ⟨fuel - 1, by omega⟩
      simp only [f_Realm_mostNeeded_22, f_Realm_mostNeeded_22b, hRl ho v w, bd1_s]
      rw [hr.1.1, if_pos (nI_le (by omega) (by omega)), show n = ρ 0 0 by omega]
    | succ k ih =>
      intro fuel n hf hn
      obtain ⟨m, rfl⟩ : ∃ m, fuel = m + 1 := ⟨fuel - 1, by omega⟩
      have hl : n < ρ 0 0 := by omega
      have ml := mnd_le ρ p n
      have nx := ih m (n + 1) (by omega) (by omega)
      have nn := sNeed_le hk hl
      have nb : nIb ρ (mnd ρ p n) ≤ 9 := by
        unfold nIb
        split
        · omega
        · exact sNeed_le hk (by omega)
      simp only [f_Realm_mostNeeded_22, f_Realm_mostNeeded_22b, f_Realm_mostNeeded_62, hRl ho v w, bd1_s]
      rw [hr.1.1, if_neg (nI_ge (by omega) (by omega)), Q_hasBit (by omega) (by omega), bd2_s]
      have hb := bit_and (sCans ρ p) (ρ 11 p) n
      rw [sCans_bit hl] at hb
      rcases bit_01 (sCans ρ p &&& ρ 11 p) n with g | g
      · rw [g, if_pos (show nI 0 = 0 from rfl), nI_1]
        have e : mnd ρ p (n + 1) = mnd ρ p n := by
          simp only [mnd]
          rw [if_neg (fun q => by have := hb.mpr ⟨q.1.2.1, q.1.1⟩; omega)]
        rw [e] at nx
        exact nx
      · rw [g, if_neg (show ¬ nI 1 = 0 by decide)]
        have g2 := hb.mp g
        simp only [hRl ho v w, bd1_s]
        rw [D_needOf ho hr hk hl, bd2_s, ite_iff (nI_leI (by omega) (by omega))]
        by_cases z : sNeed ρ n ≤ nIb ρ (mnd ρ p n)
        · rw [if_pos z, nI_1]
          have e : mnd ρ p (n + 1) = mnd ρ p n := by
            simp only [mnd]
            rw [if_neg]
            rintro ⟨q1, q2⟩
            unfold nIb at z
            rcases q2 with q2 | q2
            · rw [if_pos q2] at z; omega
            · by_cases q3 : mnd ρ p n = 0
              · rw [if_pos q3] at z; omega
              · rw [if_neg q3] at z; omega
          rw [e] at nx
          exact nx
        · rw [if_neg z]
          simp only [hRl ho v w, bd1_s]
          rw [D_needOf ho hr hk hl, bd2_s, nI_1]
          have e : mnd ρ p (n + 1) = n + 1 := by
            simp only [mnd]
            rw [if_pos]
            unfold nIb at z
            by_cases q3 : mnd ρ p n = 0
            · rw [if_pos q3] at z; exact ⟨⟨g2.2, g2.1, by omega⟩, Or.inl q3⟩
            · rw [if_neg q3] at z; exact ⟨⟨g2.2, g2.1, by omega⟩, Or.inr (by omega)⟩
          rw [e] at nx
          have e2 : nIb ρ (n + 1) = sNeed ρ n := by unfold nIb; rw [if_neg (by omega)]; rfl
          rw [e2] at nx
          exact nx
  simp only [f_Realm_mostNeeded, f_Realm_mostNeeded_0, hRl ho v w, bd1_s]
  rw [D_breakable ho hr hk hp, bd2_s]
  simp only [hRl ho v w, bd1_s]
  rw [rd_nI (by omega) (by decide), bd1_s, (hr.2.2.1 p hp).2.2.2.2.2, and_I]
  exact key (ρ 0 0) FU 0 (by unfold FU; omega) (by omega)
theorem M_wantedBy (hr : MR ρ v) (hk : ROK ρ) {p : Nat} (hp : p < ρ 0 1) : f_M_wantedBy 100 (nI p) (bh v w) = some (cI (mnd ρ p (ρ 0 0)), bh v w) := by
  have h1 := hk.1.1
  have h2 := hk.1.2.1
  have hw : ρ 11 p < 32 := pw_le h1 (hk.2.2.1 p hp).2.2.2.2.2.1
  have a21 : v 101 (21 + p) = nI (ρ 11 p) := by have := hr.2.2.2.2.2.2.2.2.1 p hp; rwa [show 0 + 21 + p = 21 + p by omega] at this
  have key : ∀ (k fuel n : Nat), k < fuel → n + k = ρ 0 0 → f_M_wantedBy_5 fuel 100 (nI p) (cI (mnd ρ p n)) (nI n) (bh v w) = some (cI (mnd ρ p (ρ 0 0)), bh v w) := by
    intro k
    induction k with
    | zero =>
      intro fuel n hf hn
      obtain ⟨m, rfl⟩ : ∃ m, fuel = m + 1 := ⟨fuel - 1, by omega⟩
      simp only [f_M_wantedBy_5, f_M_wantedBy_5b, hM v w, bd1_s]
      rw [hr.1.1, if_pos (nI_le (by omega) (by omega)), show n = ρ 0 0 by omega]
    | succ k ih =>
      intro fuel n hf hn
      obtain ⟨m, rfl⟩ : ∃ m, fuel = m + 1 := ⟨fuel - 1, by omega⟩
      have hl : n < ρ 0 0 := by omega
      have ml := mnd_le ρ p n
      have nx := ih m (n + 1) (by omega) (by omega)
      have nn := sNeed_le hk hl
      have : Decidable (sCan ρ p n) := inferInstanceAs (Decidable (0 < sRoom ρ p n ∧ 0 < sLeft ρ p))
      have no : ¬ ((bit (ρ 11 p) n = 1 ∧ 0 < sTries ρ p n ∧ 0 < sNeed ρ n) ∧ (mnd ρ p n = 0 ∨ sNeed ρ (mnd ρ p n - 1) < sNeed ρ n)) → f_M_wantedBy_82 (f_M_wantedBy_5 m) 100 (nI p) (cI (mnd ρ p n)) (nI n) (bh v w) = some (cI (mnd ρ p (ρ 0 0)), bh v w) := by
        intro h
        unfold f_M_wantedBy_82 f_M_wantedBy_83
        rw [nI_1]
        have e : mnd ρ p (n + 1) = mnd ρ p n := by simp only [mnd]; rw [if_neg h]
        rw [e] at nx
        exact nx
      have yes : ((bit (ρ 11 p) n = 1 ∧ 0 < sTries ρ p n ∧ 0 < sNeed ρ n) ∧ (mnd ρ p n = 0 ∨ sNeed ρ (mnd ρ p n - 1) < sNeed ρ n)) → f_M_wantedBy_78 (f_M_wantedBy_5 m) 100 (nI p) (nI n) (bh v w) = some (cI (mnd ρ p (ρ 0 0)), bh v w) := by
        intro h
        unfold f_M_wantedBy_78 f_M_wantedBy_83
        rw [nI_1]
        have e : mnd ρ p (n + 1) = n + 1 := by simp only [mnd]; rw [if_pos h]
        rw [e] at nx
        exact nx
      simp only [f_M_wantedBy_5, f_M_wantedBy_5b, f_M_wantedBy_51, f_M_wantedBy_52, hM v w, bd1_s]
      rw [hr.1.1, if_neg (nI_ge (by omega) (by omega)), show (21 : Int32) = nI 21 from rfl, nI_add, rd_nI (by omega) (by decide), bd1_s, a21, bit_I (by omega) (by omega), ite_iff (nI_eq1 (by have := bit_lt (ρ 11 p) n; omega))]
      by_cases b1 : bit (ρ 11 p) n = 1
      · rw [if_pos b1, M_canBreak hr hk hp hl, bd2_s]
        by_cases b2 : sCan ρ p n
        · rw [if_pos b2, if_neg (by decide)]
          try simp only [hM v w, bd1_s]
          rw [M_needOf hr hk hl, bd2_s, ite_iff (nI_le0 (by omega))]
          by_cases b3 : sNeed ρ n = 0
          · rw [if_pos b3, if_pos trivial]
            exact no (fun q => by omega)
          · rw [if_neg b3, if_neg (by decide)]
            by_cases b4 : mnd ρ p n = 0
            · rw [if_pos ((cI_4 (by omega)).mpr b4)]
              exact yes ⟨⟨b1, sCan_iff.mp b2, by omega⟩, Or.inl b4⟩
            · rw [if_neg (fun q => b4 ((cI_4 (by omega)).mp q))]
              simp only [hM v w, bd1_s]
              rw [M_needOf hr hk hl, bd2_s]
              simp only [hM v w, bd1_s]
              obtain ⟨l2, hl2⟩ : ∃ l2, mnd ρ p n = l2 + 1 := ⟨mnd ρ p n - 1, by omega⟩
              have n2 := sNeed_le hk (show l2 < ρ 0 0 by omega)
              rw [hl2] at no yes ⊢
              rw [cI_s] at no ⊢
              rw [M_needOf hr hk (by omega), bd2_s, ite_iff (nI_leI (by omega) (by omega))]
              by_cases b5 : sNeed ρ n ≤ sNeed ρ l2
              · rw [if_pos b5]
                exact no (fun q => q.2.elim (fun z => by omega) (fun z => by rw [show l2 + 1 - 1 = l2 by omega] at z; omega))
              · rw [if_neg b5]
                exact yes ⟨⟨b1, sCan_iff.mp b2, by omega⟩, Or.inr (by rw [show l2 + 1 - 1 = l2 by omega]; omega)⟩
        · rw [if_neg b2, if_pos rfl, if_pos trivial]
          exact no (fun q => b2 (sCan_iff.mpr q.1.2.1))
      · rw [if_neg b1, if_pos trivial]
        exact no (fun q => b1 q.1.1)
  exact key (ρ 0 0) FU 0 (by unfold FU; omega) (by omega)
end
