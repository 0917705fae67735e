section
variable {ρ : Rho} {v : Nat → Nat → Int32} {w : Nat → Nat → Int64}
theorem M_in (a b c : Int64) (h : mH) : f_M_in a b c h = some (if b ≤ a ∧ a ≤ c then 1 else 0, h) := by
  simp only [f_M_in, f_M_in_0, f_M_in_17, cmp_lt, cmp_gt]
  by_cases h1 : a < b
  · have : ¬ b ≤ a := by rw [Int64.not_le]; exact h1
    simp [h1, this]
  · have h1' : b ≤ a := Int64.not_lt.mp h1
    by_cases h2 : c < a
    · have : ¬ a ≤ c := by rw [Int64.not_le]; exact h2
      simp [h1, h2, this]
    · have h2' : a ≤ c := Int64.not_lt.mp h2
      simp [h1, h2, h1', h2']
theorem ite01 {c : Prop} [Decidable c] : ((if c then (1 : Int32) else 0) = 0 ∨ (if c then (1 : Int32) else 0) = 1) := by split <;> simp
theorem ite_of {c d : Prop} [Decidable c] [Decidable d] (h : c ↔ d) : (if c then (1 : Int32) else 0) = if d then 1 else 0 := by
  by_cases z : c
  · rw [if_pos z, if_pos (h.mp z)]
  · rw [if_neg z, if_neg (fun q => z (h.mpr q))]
theorem M_isLaw (hr : MF ρ v) (hk : ρ 0 0 ≤ 5) (x : Int32) : f_M_isLaw 100 x (bh v w) = some (if 0 ≤ x.toInt ∧ x.toInt < ρ 0 0 then 1 else 0, bh v w) := by
  simp only [f_M_isLaw, f_M_isLaw_0, hM v w, bd1_s, M_in, bd2_s]
  rw [if_pos ite01]
  have e1 : (0 : Int64) = (0 : Int32).toInt64 := rfl
  have e2 : (v 100 2 - 1).toInt = (ρ 0 0 : Int) - 1 := by
    rw [hr.1, show (1 : Int32) = nI 1 from rfl, pk_sub_toInt (by omega) (by omega)]
    rfl
  refine congrArg (fun z => some (z, bh v w)) (ite_of ?_)
  have e3 : (0 : Int32).toInt = 0 := rfl
  rw [e1, i64_le, i64_le, e2, e3]
  omega
theorem M_isOne (hr : MF ρ v) (hk : ρ 0 1 ≤ 3) (x : Int32) : f_M_isOne 100 x (bh v w) = some (if 0 ≤ x.toInt ∧ x.toInt < ρ 0 1 then 1 else 0, bh v w) := by
  simp only [f_M_isOne, f_M_isOne_0, hM v w, bd1_s, M_in, bd2_s]
  rw [if_pos ite01]
  have e1 : (0 : Int64) = (0 : Int32).toInt64 := rfl
  have e2 : (v 100 3 - 1).toInt = (ρ 0 1 : Int) - 1 := by
    rw [hr.2.1, show (1 : Int32) = nI 1 from rfl, pk_sub_toInt (by omega) (by omega)]
    rfl
  refine congrArg (fun z => some (z, bh v w)) (ite_of ?_)
  have e3 : (0 : Int32).toInt = 0 := rfl
  rw [e1, i64_le, i64_le, e2, e3]
  omega
theorem M_doesStand (hb : MB 101 0 ρ v) (hs : ρ 0 4 < 2 ^ 31) {l : Nat} (hl : l < 32) : f_M_doesStand 100 (nI l) (bh v w) = some (nI (bit (ρ 0 4) l), bh v w) := by
  simp only [f_M_doesStand, f_M_doesStand_0, hM v w, bd1_s, bd2_s]
  have e1 : rd (v 101) 198 (10 : Int32) = some (nI (ρ 0 4)) := by rw [← hb.2.2.1]; rfl
  rw [e1, bd1_s, bit_I hs hl]
  rcases bit_01 (ρ 0 4) l with h | h <;> rw [h] <;> rfl
theorem M_brokenBy (hb : MB 101 0 ρ v) (hk : ROK ρ) {p l : Nat} (hp : p < ρ 0 1) (hl : l < ρ 0 0) : f_M_brokenBy 100 (nI p) (nI l) (bh v w) = some (nI (ρ 12 (5 * p + l)), bh v w) := by
  have h1 := hk.1.1
  have h2 := hk.1.2.1
  simp only [f_M_brokenBy, f_M_brokenBy_0, hM v w, bd1_s, bd2_s]
  rw [show (24 : Int32) = nI 24 from rfl, show (5 : Int32) = nI 5 from rfl, pk_mul, nI_add, nI_add, rd_nI (by omega) (by decide), bd1_s]
  have := hb.2.2.2.2.2.2.2.2.1 p l hp hl
  rw [show 0 + 24 + 5 * p + l = 24 + 5 * p + l by omega] at this
  rw [this]
theorem M_allBy (hr : MR ρ v) (hk : ROK ρ) {p : Nat} (hp : p < ρ 0 1) : f_M_allBy 100 (nI p) (bh v w) = some (nI (sAll ρ p), bh v w) := by
  have h1 := hk.1.1
  have key : ∀ (k fuel l : Nat), k < fuel → l + k = ρ 0 0 → f_M_allBy_4 fuel 100 (nI p) (nI (sumN (fun l => ρ 12 (5 * p + l)) l)) (nI l) (bh v w) = some (nI (sAll ρ p), bh v w) := by
    intro k
    induction k with
    | zero =>
      intro fuel l hf hl
      obtain ⟨n, rfl⟩ : ∃ n, fuel = n + 1 := ⟨fuel - 1, by omega⟩
      simp only [f_M_allBy_4, f_M_allBy_4b, hM v w, bd1_s]
      rw [hr.1.1, if_pos (nI_le (by omega) (by omega)), show l = ρ 0 0 by omega]
      rfl
    | succ k ih =>
      intro fuel l hf hl
      obtain ⟨n, rfl⟩ : ∃ n, fuel = n + 1 := ⟨fuel - 1, by omega⟩
      simp only [f_M_allBy_4, f_M_allBy_4b, hM v w, bd1_s]
      rw [hr.1.1, if_neg (nI_ge (by omega) (by omega)), M_brokenBy hr.2 hk hp (by omega), bd2_s, nI_add, nI_1]
      exact ih n (l + 1) (by omega) (by omega)
  simp only [f_M_allBy, f_M_allBy_0]
  exact key (ρ 0 0) FU 0 (by unfold FU; omega) (by omega)
theorem M_needOf (hr : MR ρ v) (hk : ROK ρ) {l : Nat} (hl : l < ρ 0 0) : f_M_needOf 100 (nI l) (bh v w) = some (nI (sNeed ρ l), bh v w) := by
  have h1 := hk.1.1
  have h2 := hk.1.2.1
  have hst : ρ 0 4 < 2 ^ 31 := Nat.lt_of_lt_of_le hk.1.2.2.2.2.1 (Nat.le_trans (Nat.pow_le_pow_right (by decide) h1) (by decide))
  have hq : ρ 1 l ≤ 9 := (hk.2.1 l hl).1
  have hB : ∀ p, p < ρ 0 1 → ρ 12 (5 * p + l) ≤ 3 := fun p hp => Nat.le_trans (hk.2.2.2.1 p l hp hl) (hk.2.1 l hl).2.2.1
  have key : ∀ (k fuel p : Nat) (q : Nat), q ≤ 9 → k < fuel → p + k = ρ 0 1 → f_M_needOf_23 fuel 100 (nI l) (zI ((q : Int) - sumN (fun p => ρ 12 (5 * p + l)) p)) (nI p) (bh v w) = some (nI (q - sumN (fun p => ρ 12 (5 * p + l)) (ρ 0 1)), bh v w) := by
    intro k
    induction k with
    | zero =>
      intro fuel p q hq hf hp
      obtain ⟨n, rfl⟩ : ∃ n, fuel = n + 1 := ⟨fuel - 1, by omega⟩
      have hs : sumN (fun p => ρ 12 (5 * p + l)) p ≤ 3 * p := sumN_c (fun i hi => hB i (by omega))
      simp only [f_M_needOf_23, f_M_needOf_23b, hM v w, bd1_s]
      rw [hr.1.2.1, if_pos (nI_le (by omega) (by omega)), show ρ 0 1 = p by omega]
      by_cases hc : sumN (fun p => ρ 12 (5 * p + l)) p ≤ q
      · rw [if_pos ((zI_ge (by omega) (by omega)).mpr (by omega)), show ((q : Int) - (sumN (fun p => ρ 12 (5 * p + l)) p : Nat)) = ((q - sumN (fun p => ρ 12 (5 * p + l)) p : Nat) : Int) by omega, zI_n]
      · rw [if_neg (fun z => hc (by have := (zI_ge (by omega) (by omega)).mp z; omega)), show q - sumN (fun p => ρ 12 (5 * p + l)) p = 0 by omega]
        rfl
    | succ k ih =>
      intro fuel p q hq hf hp
      obtain ⟨n, rfl⟩ : ∃ n, fuel = n + 1 := ⟨fuel - 1, by omega⟩
      simp only [f_M_needOf_23, f_M_needOf_23b, hM v w, bd1_s]
      rw [hr.1.2.1, if_neg (nI_ge (by omega) (by omega)), M_brokenBy hr.2 hk (by omega) hl, bd2_s, zI_subn, nI_1]
      have := ih n (p + 1) q hq (by omega) (by omega)
      rw [show ((q : Int) - (sumN (fun p => ρ 12 (5 * p + l)) p : Nat)) - (ρ 12 (5 * p + l) : Nat) = (q : Int) - (sumN (fun p => ρ 12 (5 * p + l)) (p + 1) : Nat) by show _ = (q : Int) - ((sumN (fun p => ρ 12 (5 * p + l)) p + ρ 12 (5 * p + l) : Nat) : Int); omega]
      exact this
  simp only [f_M_needOf, f_M_needOf_0, f_M_needOf_20, hM v w, bd1_s]
  rw [M_doesStand hr.2 hst (by omega), bd2_s]
  rcases bit_01 (ρ 0 4) l with h | h
  · rw [h, if_pos (show nI 0 = 0 from rfl)]
    have := key (ρ 0 1) FU 0 0 (by omega) (by unfold FU; omega) (by omega)
    rw [show ((0 : Nat) : Int) - (sumN (fun p => ρ 12 (5 * p + l)) 0 : Nat) = ((0 : Nat) : Int) by rfl, zI_n] at this
    rw [show (0 : Int32) = nI 0 from rfl, this]
    unfold sNeed
    rw [h, if_neg (by decide), Nat.zero_sub]
  · rw [h, if_neg (show ¬ nI 1 = 0 by decide)]
    simp only [hM v w, bd1_s]
    rw [show (0 : Int32) = nI 0 from rfl, nI_add, rd_nI (by omega) (by decide), bd1_s, hr.2.1 l hl]
    have := key (ρ 0 1) FU 0 (ρ 1 l) hq (by unfold FU; omega) (by omega)
    rw [show ((ρ 1 l : Nat) : Int) - (sumN (fun p => ρ 12 (5 * p + l)) 0 : Nat) = ((ρ 1 l : Nat) : Int) by show ((ρ 1 l : Nat) : Int) - ((0 : Nat) : Int) = _; omega, zI_n] at this
    rw [this]
    unfold sNeed
    rw [h, if_pos rfl]
end
