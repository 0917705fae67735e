/-! the reference's questions with other TIMES: printed by wip/gen/gen_t.py -/
def MBt (T : Nat → Nat) (q k : Nat) (ρ : Rho) (v : Nat → Nat → Int32) : Prop :=
  (∀ l, l < ρ 0 0 → v q (k + l) = nI (ρ 1 l)) ∧ (∀ l, l < ρ 0 0 → v q (k + 5 + l) = cI (ρ 5 l)) ∧ v q (k + 10) = nI (ρ 0 4) ∧ v q (k + 11) = nI (ρ 0 5) ∧
  (∀ p, p < ρ 0 1 → v q (k + 12 + p) = nI (T p)) ∧ (∀ p, p < ρ 0 1 → v q (k + 15 + p) = nI (ρ 9 p)) ∧ (∀ p, p < ρ 0 1 → v q (k + 18 + p) = nI (ρ 10 p)) ∧ (∀ p, p < ρ 0 1 → v q (k + 21 + p) = nI (ρ 11 p)) ∧
  (∀ p l, p < ρ 0 1 → l < ρ 0 0 → v q (k + 24 + 5 * p + l) = nI (ρ 12 (5 * p + l))) ∧ v q (k + 39) = nI (ρ 0 2) ∧ v q (k + 40) = nI (ρ 0 3) ∧ v q (k + 41) = nI (ρ 0 6) ∧
  (∀ i, i < ρ 0 6 → v q (k + 42 + 3 * i) = nI (ρ 13 i) ∧ v q (k + 42 + 3 * i + 1) = nI (ρ 14 i) ∧ v q (k + 42 + 3 * i + 2) = nI (ρ 15 i))
def MRt (T : Nat → Nat) (ρ : Rho) (v : Nat → Nat → Int32) : Prop := MF ρ v ∧ MBt T 101 0 ρ v
theorem MRt_of {ρ : Rho} {v : Nat → Nat → Int32} (h : MR ρ v) : MRt (ρ 6) ρ v := h
section
variable {ρ : Rho} {v : Nat → Nat → Int32} {w : Nat → Nat → Int64} {T : Nat → Nat}
theorem N_doesStand (hb : MBt T 101 0 ρ v) (hs : ρ 0 4 < 2 ^ 31) {l : Nat} (hl : l < 32) : f_M_doesStand 100 (nI l) (bh v w) = some (nI (bit (ρ 0 4) l), bh v w) := by
  simp only [f_M_doesStand, f_M_doesStand_0, hM v w, bd1_s, bd2_s]
  have e1 : rd (v 101) 198 (10 : Int32) = some (nI (ρ 0 4)) := by rw [← hb.2.2.1]; rfl
  rw [e1, bd1_s, bit_I hs hl]
  rcases bit_01 (ρ 0 4) l with h | h <;> rw [h] <;> rfl
theorem N_brokenBy (hb : MBt T 101 0 ρ v) (hk : ROK ρ) {p l : Nat} (hp : p < ρ 0 1) (hl : l < ρ 0 0) : f_M_brokenBy 100 (nI p) (nI l) (bh v w) = some (nI (ρ 12 (5 * p + l)), bh v w) := by
  have h1 := hk.1.1
  have h2 := hk.1.2.1
  simp only [f_M_brokenBy, f_M_brokenBy_0, hM v w, bd1_s, bd2_s]
  rw [show (24 : Int32) = nI 24 from rfl, show (5 : Int32) = nI 5 from rfl, pk_mul, nI_add, nI_add, rd_nI (by omega) (by decide), bd1_s]
  have := hb.2.2.2.2.2.2.2.2.1 p l hp hl
  rw [show 0 + 24 + 5 * p + l = 24 + 5 * p + l by omega] at this
  rw [this]
theorem N_allBy (hr : MRt T ρ v) (hk : ROK ρ) {p : Nat} (hp : p < ρ 0 1) : f_M_allBy 100 (nI p) (bh v w) = some (nI (sAll ρ p), bh v w) := by
  have h1 := hk.1.1
  have key : ∀ (k fuel l : Nat), k < fuel → l + k = ρ 0 0 → f_M_allBy_4 fuel 100 (nI p) (nI (sumN (fun l => ρ 12 (5 * p + l)) l)) (nI l) (bh v w) = some (nI (sAll ρ p), bh v w) := by
    intro k
    induction k with
    | zero =>
      intro fuel l hf hl
      obtain ⟨n, rfl⟩ : ∃ n, fuel = n + 1 := ⟨fuel - 1, by omega⟩
      simp only [f_M_allBy_4, f_M_allBy_4b, hM v w, bd1_s]
      rw [hr.1.1, if_pos (nI_le (by omega) (by omega)), show l = ρ 0 0 by omega]
      rfl
    | succ k ih =>
      intro fuel l hf hl
      obtain ⟨n, rfl⟩ : ∃ n, fuel = n + 1 := ⟨fuel - 1, by omega⟩
      simp only [f_M_allBy_4, f_M_allBy_4b, hM v w, bd1_s]
      rw [hr.1.1, if_neg (nI_ge (by omega) (by omega)), N_brokenBy hr.2 hk hp (by omega), bd2_s, nI_add, nI_1]
      exact ih n (l + 1) (by omega) (by omega)
  simp only [f_M_allBy, f_M_allBy_0]
  exact key (ρ 0 0) FU 0 (by unfold FU; omega) (by omega)
theorem N_needOf (hr : MRt T ρ v) (hk : ROK ρ) {l : Nat} (hl : l < ρ 0 0) : f_M_needOf 100 (nI l) (bh v w) = some (nI (sNeed ρ l), bh v w) := by
  have h1 := hk.1.1
  have h2 := hk.1.2.1
  have hst : ρ 0 4 < 2 ^ 31 := Nat.lt_of_lt_of_le hk.1.2.2.2.2.1 (Nat.le_trans (Nat.pow_le_pow_right (by decide) h1) (by decide))
  have hq : ρ 1 l ≤ 9 := (hk.2.1 l hl).1
  have hB : ∀ p, p < ρ 0 1 → ρ 12 (5 * p + l) ≤ 3 := fun p hp => Nat.le_trans (hk.2.2.2.1 p l hp hl) (hk.2.1 l hl).2.2.1
  have key : ∀ (k fuel p : Nat) (q : Nat), q ≤ 9 → k < fuel → p + k = ρ 0 1 → f_M_needOf_23 fuel 100 (nI l) (zI ((q : Int) - sumN (fun p => ρ 12 (5 * p + l)) p)) (nI p) (bh v w) = some (nI (q - sumN (fun p => ρ 12 (5 * p + l)) (ρ 0 1)), bh v w) := by
    intro k
    induction k with
    | zero =>
      intro fuel p q hq hf hp
      obtain ⟨n, rfl⟩ : ∃ n, fuel = n + 1 := ⟨fuel - 1, by omega⟩
      have hs : sumN (fun p => ρ 12 (5 * p + l)) p ≤ 3 * p := sumN_c (fun i hi => hB i (by omega))
      simp only [f_M_needOf_23, f_M_needOf_23b, hM v w, bd1_s]
      rw [hr.1.2.1, if_pos (nI_le (by omega) (by omega)), show ρ 0 1 = p by omega]
      by_cases hc : sumN (fun p => ρ 12 (5 * p + l)) p ≤ q
      · rw [if_pos ((zI_ge (by omega) (by omega)).mpr (by omega)), show ((q : Int) - (sumN (fun p => ρ 12 (5 * p + l)) p : Nat)) = ((q - sumN (fun p => ρ 12 (5 * p + l)) p : Nat) : Int) by omega, zI_n]
      · rw [if_neg (fun z => hc (by have := (zI_ge (by omega) (by omega)).mp z; omega)), show q - sumN (fun p => ρ 12 (5 * p + l)) p = 0 by omega]
        rfl
    | succ k ih =>
      intro fuel p q hq hf hp
      obtain ⟨n, rfl⟩ : ∃ n, fuel = n + 1 := ⟨fuel - 1, by omega⟩
      simp only [f_M_needOf_23, f_M_needOf_23b, hM v w, bd1_s]
      rw [hr.1.2.1, if_neg (nI_ge (by omega) (by omega)), N_brokenBy hr.2 hk (by omega) hl, bd2_s, zI_subn, nI_1]
      have := ih n (p + 1) q hq (by omega) (by omega)
      rw [show ((q : Int) - (sumN (fun p => ρ 12 (5 * p + l)) p : Nat)) - (ρ 12 (5 * p + l) : Nat) = (q : Int) - (sumN (fun p => ρ 12 (5 * p + l)) (p + 1) : Nat) by show _ = (q : Int) - ((sumN (fun p => ρ 12 (5 * p + l)) p + ρ 12 (5 * p + l) : Nat) : Int); omega]
      exact this
  simp only [f_M_needOf, f_M_needOf_0, f_M_needOf_20, hM v w, bd1_s]
  rw [N_doesStand hr.2 hst (by omega), bd2_s]
  rcases bit_01 (ρ 0 4) l with h | h
  · rw [h, if_pos (show nI 0 = 0 from rfl)]
    have := key (ρ 0 1) FU 0 0 (by omega) (by unfold FU; omega) (by omega)
    rw [show ((0 : Nat) : Int) - (sumN (fun p => ρ 12 (5 * p + l)) 0 : Nat) = ((0 : Nat) : Int) by rfl, zI_n] at this
    rw [show (0 : Int32) = nI 0 from rfl, this]
    unfold sNeed
    rw [h, if_neg (by decide), Nat.zero_sub]
  · rw [h, if_neg (show ¬ nI 1 = 0 by decide)]
    simp only [hM v w, bd1_s]
    rw [show (0 : Int32) = nI 0 from rfl, nI_add, rd_nI (by omega) (by decide), bd1_s, hr.2.1 l hl]
    have := key (ρ 0 1) FU 0 (ρ 1 l) hq (by unfold FU; omega) (by omega)
    rw [show ((ρ 1 l : Nat) : Int) - (sumN (fun p => ρ 12 (5 * p + l)) 0 : Nat) = ((ρ 1 l : Nat) : Int) by show ((ρ 1 l : Nat) : Int) - ((0 : Nat) : Int) = _; omega, zI_n] at this
    rw [this]
    unfold sNeed
    rw [h, if_pos rfl]
theorem N_roomOf (hr : MRt T ρ v) (hk : ROK ρ) {p l : Nat} (hp : p < ρ 0 1) (hl : l < ρ 0 0) : f_M_roomOf 100 (nI p) (nI l) (bh v w) = some (nI (sRoom ρ p l), bh v w) := by
  have h1 := hk.1.1
  have h2 := hk.1.2.1
  have hst := hk.st
  have hrf : ρ 10 p < 32 := pw_le h1 (hk.2.2.1 p hp).2.2.2.2.1
  have hB : ρ 12 (5 * p + l) ≤ ρ 2 l := hk.2.2.2.1 p l hp hl
  have hc : ρ 2 l ≤ 3 := (hk.2.1 l hl).2.2.1
  simp only [f_M_roomOf, f_M_roomOf_0, f_M_roomOf_28, f_M_roomOf_29, f_M_roomOf_51, hM v w, bd1_s]
  rw [N_doesStand hr.2 (by omega) (by omega), bd2_s]
  unfold sRoom
  rcases bit_01 (ρ 0 4) l with h | h
  · simp [h]
    rfl
  · rw [h, if_neg (show ¬ nI 1 = 0 by decide)]
    simp only [hM v w, bd1_s]
    rw [show (18 : Int32) = nI 18 from rfl, nI_add, rd_nI (by omega) (by decide), bd1_s]
    have e1 := hr.2.2.2.2.2.2.2.1 p hp
    rw [show 0 + 18 + p = 18 + p by omega] at e1
    rw [e1, bit_I (by omega) (by omega), ite_iff (nI_eq0 (by have := bit_lt (ρ 10 p) l; omega))]
    rcases bit_01 (ρ 10 p) l with g | g
    · rw [if_pos g, if_neg (by decide), rd_nI (by omega) (by decide), bd1_s, (hr.1.2.2.1 l hl).1, N_brokenBy hr.2 hk hp hl, bd2_s, pk_sub hB, if_pos (nI_pos' (by omega)), if_pos ⟨trivial, g⟩]
    · rw [if_neg (by omega), if_pos trivial, if_pos (by decide), if_neg (fun z => by have := z.2; omega)]
      rfl
end
