/-! numbers -/
def zI (z : Int) : Int32 := Int32.ofInt z
theorem zI_n (n : Nat) : zI (n : Int) = nI n := by
  apply Int32.toBitVec_inj.mp
  show BitVec.ofInt 32 (n : Int) = BitVec.ofNat 32 n
  simp
theorem zI_t {z : Int} (h1 : -2 ^ 31 ≤ z) (h2 : z < 2 ^ 31) : (zI z).toInt = z := Int32.toInt_ofInt_of_le h1 h2
theorem zI_sub (a b : Int) : zI a - zI b = zI (a - b) := (Int32.ofInt_sub a b).symm
theorem zI_add (a b : Int) : zI a + zI b = zI (a + b) := (Int32.ofInt_add a b).symm
theorem zI_subn (a : Int) (b : Nat) : zI a - nI b = zI (a - b) := by rw [← zI_n, zI_sub]
theorem zI_ge {z : Int} (h1 : -2 ^ 31 ≤ z) (h2 : z < 2 ^ 31) : (0 : Int32) ≤ zI z ↔ 0 ≤ z := by
  rw [Int32.le_iff_toInt_le, zI_t h1 h2]; rfl
def sumN (f : Nat → Nat) : Nat → Nat
  | 0 => 0
  | n + 1 => sumN f n + f n
theorem sumN_le {f g : Nat → Nat} : ∀ {n : Nat}, (∀ i, i < n → f i ≤ g i) → sumN f n ≤ sumN g n
  | 0, _ => Nat.le_refl _
  | n + 1, h => Nat.add_le_add (sumN_le (fun i hi => h i (by omega))) (h n (by omega))
theorem sumN_c {f : Nat → Nat} {c : Nat} : ∀ {n : Nat}, (∀ i, i < n → f i ≤ c) → sumN f n ≤ c * n
  | 0, _ => Nat.zero_le _
  | n + 1, h => by
    have h1 := sumN_c (n := n) (fun i hi => h i (by omega))
    have h2 := h n (by omega)
    show sumN f n + f n ≤ c * (n + 1)
    rw [Nat.mul_succ]
    omega
theorem sumN_congr {f g : Nat → Nat} : ∀ {n : Nat}, (∀ i, i < n → f i = g i) → sumN f n = sumN g n
  | 0, _ => rfl
  | n + 1, h => by
    show sumN f n + f n = sumN g n + g n
    rw [sumN_congr (fun i hi => h i (by omega)), h n (by omega)]
/-- a bit -/
def bit (s l : Nat) : Nat := s / 2 ^ l % 2
theorem bit_I {s l : Nat} (hs : s < 2 ^ 31) (hl : l < 32) : (nI s >>> (nI l &&& 31)) &&& 1 = nI (bit s l) := by
  have h1 : ((nI l &&& 31).toBitVec.smod 32).toNat = l := by
    have : ∀ n, n < 32 → ((nI n &&& 31).toBitVec.smod 32).toNat = n := by decide +kernel
    exact this l hl
  rw [pk_shrN hs _ l h1]
  have h2 : s / 2 ^ l < 2 ^ 32 := Nat.lt_of_le_of_lt (Nat.div_le_self _ _) (by omega)
  rw [pk_andN h2 1 (by decide)]
  rfl
theorem bit_lt (s l : Nat) : bit s l < 2 := Nat.mod_lt _ (by decide)
theorem bit_01 (s l : Nat) : bit s l = 0 ∨ bit s l = 1 := by have := bit_lt s l; omega
theorem shl_I {l : Nat} (hl : l < 31) : (1 : Int32) <<< (nI l &&& 31) = nI (2 ^ l) := by
  have : ∀ n, n < 31 → (1 : Int32) <<< (nI n &&& 31) = nI (2 ^ n) := by decide +kernel
  exact this l hl
/-- which LAW it carries: 0 none -/
def cI (c : Nat) : Int32 := match c with
  | 0 => -4
  | m + 1 => nI m
theorem i64_le (a b : Int32) : a.toInt64 ≤ b.toInt64 ↔ a.toInt ≤ b.toInt := by
  rw [Int64.le_iff_toInt_le, Int32.toInt_toInt64, Int32.toInt_toInt64]
theorem cmp_lt (a b : Int64) : lg_cmp a b < 0 ↔ a < b := by
  unfold lg_cmp
  by_cases h1 : a > b
  · rw [if_pos h1]
    have : ¬ a < b := Int64.not_lt.mpr (Int64.le_of_lt h1)
    simp [this]
  · rw [if_neg h1]
    by_cases h2 : a = b
    · rw [if_pos h2, h2]; simp
    · rw [if_neg h2]
      have : a < b := by
        rw [Int64.lt_iff_toInt_lt]
        rw [gt_iff_lt, Int64.lt_iff_toInt_lt] at h1
        rw [← Int64.toInt_inj] at h2
        omega
      simp [this]
theorem cmp_gt (a b : Int64) : 0 < lg_cmp a b ↔ b < a := by
  unfold lg_cmp
  by_cases h1 : a > b
  · rw [if_pos h1]; simp [show b < a from h1]
  · rw [if_neg h1]
    by_cases h2 : a = b
    · rw [if_pos h2, h2]; simp
    · rw [if_neg h2]; simp [show ¬ b < a from h1]
/-- the numbers of a realm. 0: LAWS, PEOPLE, YEAR, DONE, STANDS, WATCHED, how many were SEEN; 1 QUOTA, 2 CAP, 3 HARM, 4 FINE, 5 CARRIES (0 none, else one more than the LAW), 6 TIME, 7 CLUMSY, 8 NERVE, 9 PURSE, 10 REFUSES, 11 WANTS, 12 BROKEN (5 p + l), 13 14 15 SEEN -/
abbrev Rho : Type := Nat → Nat → Nat
def ROK (ρ : Rho) : Prop :=
  (ρ 0 0 ≤ 5 ∧ ρ 0 1 ≤ 3 ∧ ρ 0 2 ≤ 999 ∧ ρ 0 3 ≤ 9999 ∧ ρ 0 4 < 2 ^ ρ 0 0 ∧ ρ 0 5 < 2 ^ ρ 0 0 ∧ ρ 0 6 ≤ 8) ∧
  (∀ l, l < ρ 0 0 → ρ 1 l ≤ 9 ∧ 1 ≤ ρ 2 l ∧ ρ 2 l ≤ 3 ∧ ρ 3 l ≤ 9 ∧ ρ 4 l ≤ 9 ∧ ρ 5 l ≤ ρ 0 0 ∧ ρ 5 l ≠ l + 1) ∧
  (∀ p, p < ρ 0 1 → ρ 6 p ≤ 5 ∧ ρ 7 p ≤ 3 ∧ ρ 8 p ≤ 10 ∧ ρ 9 p ≤ 99 ∧ ρ 10 p < 2 ^ ρ 0 0 ∧ ρ 11 p < 2 ^ ρ 0 0 ∧ sumN (fun l => ρ 12 (5 * p + l)) (ρ 0 0) ≤ 5) ∧
  (∀ p l, p < ρ 0 1 → l < ρ 0 0 → ρ 12 (5 * p + l) ≤ ρ 2 l) ∧
  (∀ i, i < ρ 0 6 → (ρ 13 i = 0 ∧ ρ 14 i < ρ 0 1 ∨ ρ 13 i = 1 ∧ ρ 14 i < ρ 0 0) ∧ ρ 15 i ≤ 20)
/-- the reference's bank of 66 numbers from k on, in the row q -/
def MB (q k : Nat) (ρ : Rho) (v : Nat → Nat → Int32) : Prop :=
  (∀ l, l < ρ 0 0 → v q (k + l) = nI (ρ 1 l)) ∧ (∀ l, l < ρ 0 0 → v q (k + 5 + l) = cI (ρ 5 l)) ∧ v q (k + 10) = nI (ρ 0 4) ∧ v q (k + 11) = nI (ρ 0 5) ∧
  (∀ p, p < ρ 0 1 → v q (k + 12 + p) = nI (ρ 6 p)) ∧ (∀ p, p < ρ 0 1 → v q (k + 15 + p) = nI (ρ 9 p)) ∧ (∀ p, p < ρ 0 1 → v q (k + 18 + p) = nI (ρ 10 p)) ∧ (∀ p, p < ρ 0 1 → v q (k + 21 + p) = nI (ρ 11 p)) ∧
  (∀ p l, p < ρ 0 1 → l < ρ 0 0 → v q (k + 24 + 5 * p + l) = nI (ρ 12 (5 * p + l))) ∧ v q (k + 39) = nI (ρ 0 2) ∧ v q (k + 40) = nI (ρ 0 3) ∧ v q (k + 41) = nI (ρ 0 6) ∧
  (∀ i, i < ρ 0 6 → v q (k + 42 + 3 * i) = nI (ρ 13 i) ∧ v q (k + 42 + 3 * i + 1) = nI (ρ 14 i) ∧ v q (k + 42 + 3 * i + 2) = nI (ρ 15 i))
/-- what it holds beside its banks -/
def MF (ρ : Rho) (v : Nat → Nat → Int32) : Prop :=
  v 100 2 = nI (ρ 0 0) ∧ v 100 3 = nI (ρ 0 1) ∧ (∀ l, l < ρ 0 0 → v 103 l = nI (ρ 2 l) ∧ v 104 l = nI (ρ 3 l) ∧ v 105 l = nI (ρ 4 l)) ∧ (∀ p, p < ρ 0 1 → v 106 p = nI (ρ 7 p) ∧ v 107 p = nI (ρ 8 p))
def MR (ρ : Rho) (v : Nat → Nat → Int32) : Prop := MF ρ v ∧ MB 101 0 ρ v
/-- what is asked of a realm -/
def sAll (ρ : Rho) (p : Nat) : Nat := sumN (fun l => ρ 12 (5 * p + l)) (ρ 0 0)
def sNeed (ρ : Rho) (l : Nat) : Nat := if bit (ρ 0 4) l = 1 then ρ 1 l - sumN (fun p => ρ 12 (5 * p + l)) (ρ 0 1) else 0
def sRoom (ρ : Rho) (p l : Nat) : Nat := if bit (ρ 0 4) l = 1 ∧ bit (ρ 10 p) l = 0 then ρ 2 l - ρ 12 (5 * p + l) else 0
def sLeft (ρ : Rho) (p : Nat) : Nat := ρ 6 p - sAll ρ p
