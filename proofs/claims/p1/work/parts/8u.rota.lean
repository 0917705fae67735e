/-! rotas: what the table of least harms holds -/
def FAR : Nat := 1000000
def rN (ρ : Rho) (s l : Nat) : Nat := if bit s l = 1 then sNeed ρ l else 0
def rR (ρ : Rho) (p l : Nat) : Nat := if p < ρ 0 1 then sRoom ρ p l else 0
def rH (ρ : Rho) (p l : Nat) : Nat := if p < ρ 0 1 then ρ 3 l + ρ 7 p else 0
/-- x and y of the first two, z of the third -/
def rCost (ρ : Rho) (l x y z : Nat) : Nat := x * rH ρ 0 l + y * rH ρ 1 l + z * rH ρ 2 l
def rVal (ρ : Rho) (l a b c x y z B : Nat) : Nat := if x ≤ a ∧ y ≤ b ∧ z ≤ c ∧ x ≤ rR ρ 0 l ∧ y ≤ rR ρ 1 l ∧ z ≤ rR ρ 2 l ∧ B < FAR then rCost ρ l x y z + B else FAR
def rOpt (ρ : Rho) (s : Nat) (B : Nat → Nat → Nat → Nat) (l a b c x y : Nat) : Nat := if x + y ≤ rN ρ s l ∧ rN ρ s l - x - y ≤ 3 then rVal ρ l a b c x y (rN ρ s l - x - y) (B (a - x) (b - y) (c - (rN ρ s l - x - y))) else FAR
def rMin (f : Nat → Nat → Nat) : Nat → Nat
  | 0 => FAR
  | t + 1 => if f (t / 4) (t % 4) < rMin f t then f (t / 4) (t % 4) else rMin f t
def rBst (ρ : Rho) (s : Nat) : Nat → Nat → Nat → Nat → Nat
  | 0, _, _, _ => 0
  | k + 1, a, b, c => rMin (rOpt ρ s (rBst ρ s k) (ρ 0 0 - (k + 1)) a b c) 16
theorem rMin_le (f : Nat → Nat → Nat) : ∀ t, rMin f t ≤ FAR
  | 0 => Nat.le_refl _
  | t + 1 => by
    have := rMin_le f t
    unfold rMin
    split <;> omega
theorem rMin_or {f : Nat → Nat → Nat} {m : Nat} (h : ∀ x y, f x y = FAR ∨ f x y ≤ m) : ∀ t, rMin f t = FAR ∨ rMin f t ≤ m
  | 0 => Or.inl rfl
  | t + 1 => by
    have := rMin_or h t
    unfold rMin
    split
    · exact h _ _
    · exact this
section
variable {ρ : Rho} {v : Nat → Nat → Int32} {w : Nat → Nat → Int64} {T : Nat → Nat}
theorem rR_le (hk : ROK ρ) {p l : Nat} (hl : l < ρ 0 0) : rR ρ p l ≤ 3 := by
  unfold rR
  split
  · exact sRoom_le hk hl
  · omega
theorem rH_le (hk : ROK ρ) {p l : Nat} (hl : l < ρ 0 0) : rH ρ p l ≤ 12 := by
  unfold rH
  split
  · next h =>
    have := (hk.2.1 l hl).2.2.2.1
    have := (hk.2.2.1 p h).2.1
    omega
  · omega
theorem rN_le (hk : ROK ρ) {s l : Nat} (hl : l < ρ 0 0) : rN ρ s l ≤ 9 := by
  unfold rN
  split
  · exact sNeed_le hk hl
  · omega
theorem rCost_le (hk : ROK ρ) {l x y z : Nat} (hl : l < ρ 0 0) (hx : x ≤ 3) (hy : y ≤ 3) (hz : z ≤ 3) : rCost ρ l x y z ≤ 108 := by
  have a := Nat.mul_le_mul hx (rH_le hk (p := 0) hl)
  have b := Nat.mul_le_mul hy (rH_le hk (p := 1) hl)
  have c := Nat.mul_le_mul hz (rH_le hk (p := 2) hl)
  unfold rCost
  omega
theorem rVal_or (hk : ROK ρ) {l a b c x y z B m : Nat} (hl : l < ρ 0 0) (hB : B = FAR ∨ B ≤ m) : rVal ρ l a b c x y z B = FAR ∨ rVal ρ l a b c x y z B ≤ m + 108 := by
  unfold rVal
  split
  · next h =>
    have r0 := rR_le hk (p := 0) hl
    have r1 := rR_le hk (p := 1) hl
    have r2 := rR_le hk (p := 2) hl
    have := rCost_le hk (x := x) (y := y) (z := z) hl (by omega) (by omega) (by omega)
    omega
  · exact Or.inl rfl
theorem rBst_or (hk : ROK ρ) (s : Nat) : ∀ (k a b c : Nat), k ≤ ρ 0 0 → rBst ρ s k a b c = FAR ∨ rBst ρ s k a b c ≤ 108 * k
  | 0, _, _, _, _ => Or.inr (Nat.le_refl _)
  | k + 1, a, b, c, h => by
    have ih := fun a b c => rBst_or hk s k a b c (by omega)
    refine rMin_or (m := 108 * (k + 1)) (fun x y => ?_) 16
    unfold rOpt
    split
    · have := rVal_or hk (a := a) (b := b) (c := c) (x := x) (y := y) (z := rN ρ s (ρ 0 0 - (k + 1)) - x - y) (show ρ 0 0 - (k + 1) < ρ 0 0 by omega) (ih (a - x) (b - y) (c - (rN ρ s (ρ 0 0 - (k + 1)) - x - y)))
      omega
    · exact Or.inl rfl
def atN (l a b c : Nat) : Nat := ((16 * l + a) * 16 + b) * 16 + c
theorem M_at (l a b c : Nat) (h : mH) : f_M_at (nI l) (nI a) (nI b) (nI c) h = some (nI (atN l a b c), h) := by
  unfold f_M_at f_M_at_0 atN
  rw [show (16 : Int32) = nI 16 from rfl, pk_mul, nI_add, pk_mul, nI_add, pk_mul, nI_add]
theorem M_roomAt (hr : MRt T ρ v) (hk : ROK ρ) {p l : Nat} (hp : p < 3) (hl : l < ρ 0 0) : f_M_roomAt 100 (nI p) (nI l) (bh v w) = some (nI (rR ρ p l), bh v w) := by
  have h2 := hk.1.2.1
  simp only [f_M_roomAt, f_M_roomAt_0, hM v w, bd1_s]
  rw [hr.1.2.1, ite_iff (nI_leI (by omega) (by omega))]
  unfold rR
  by_cases h : p < ρ 0 1
  · rw [if_neg (by omega), if_pos h, N_roomOf hr hk h hl, bd2_s]
  · rw [if_pos (by omega), if_neg h]
    rfl
theorem h_term (hr : MF ρ v) {p l x : Nat} (hl : l < ρ 0 0) (hx : x ≤ rR ρ p l) : nI x * (v 104 l + v 106 p) = nI (x * rH ρ p l) := by
  unfold rR at hx
  unfold rH
  by_cases h : p < ρ 0 1
  · rw [if_pos h, (hr.2.2.1 l hl).2.1, (hr.2.2.2 p h).1, nI_add, pk_mul]
  · rw [if_neg h] at hx ⊢
    obtain rfl : x = 0 := by omega
    rw [Nat.zero_mul]
    exact Int32.zero_mul
theorem M_harmBy (hr : MRt T ρ v) (hk : ROK ρ) {l a b c x y z B : Nat} (hl : l < ρ 0 0) (ha : a < 16) (hb : b < 16) (hc : c < 16) (hx : x ≤ 3) (hy : y ≤ 3) (hz : z ≤ 3) (hB : B = FAR ∨ B ≤ 1000) (ht : x ≤ a → y ≤ b → z ≤ c → v 115 (atN (l + 1) (a - x) (b - y) (c - z)) = nI B) : f_M_harmBy 100 (nI l) (nI a) (nI b) (nI c) (nI x) (nI y) (nI z) (bh v w) = some (nI (rVal ρ l a b c x y z B), bh v w) := by
  have h1 := hk.1.1
  have r0 := rR_le hk (p := 0) hl
  have r1 := rR_le hk (p := 1) hl
  have r2 := rR_le hk (p := 2) hl
  have fB : B < 2 ^ 31 := by unfold FAR at hB; omega
  simp only [f_M_harmBy, f_M_harmBy_0, f_M_harmBy_52]
  unfold rVal
  rw [ite_iff (nI_ltI (by omega) (by omega))]
  by_cases c1 : a < x
  · rw [if_pos c1, if_neg (fun q => by omega)]; rfl
  rw [if_neg c1, ite_iff (nI_ltI (by omega) (by omega))]
  by_cases c2 : b < y
  · rw [if_pos c2, if_neg (fun q => by omega)]; rfl
  rw [if_neg c2, ite_iff (nI_ltI (by omega) (by omega))]
  by_cases c3 : c < z
  · rw [if_pos c3, if_neg (fun q => by omega)]; rfl
  rw [if_neg c3]
  simp only [hM v w, bd1_s]
  rw [show (0 : Int32) = nI 0 from rfl, show (1 : Int32) = nI 1 from rfl, show (2 : Int32) = nI 2 from rfl, M_roomAt hr hk (by decide) hl, bd2_s, ite_iff (nI_ltI (by omega) (by omega))]
  by_cases c4 : rR ρ 0 l < x
  · rw [if_pos c4, if_neg (fun q => by omega)]; rfl
  rw [if_neg c4]
  simp only [hM v w, bd1_s]
  rw [M_roomAt hr hk (by decide) hl, bd2_s, ite_iff (nI_ltI (by omega) (by omega))]
  by_cases c5 : rR ρ 1 l < y
  · rw [if_pos c5, if_neg (fun q => by omega)]; rfl
  rw [if_neg c5]
  simp only [hM v w, bd1_s]
  rw [M_roomAt hr hk (by decide) hl, bd2_s, ite_iff (nI_leI (by omega) (by omega))]
  by_cases c6 : z ≤ rR ρ 2 l
  · rw [if_pos c6]
    simp only [hM v w, bd1_s]
    rw [rd_nI (by omega) (by decide), bd1_s, rd_nI (by decide) (by decide), bd1_s, bd1_s, rd_nI (by decide) (by decide), bd1_s, bd1_s, rd_nI (by decide) (by decide), bd1_s, nI_add l 1, pk_sub (by omega), pk_sub (by omega), pk_sub (by omega), M_at, bd2_s]
    simp only [hM v w, bd1_s]
    rw [rd_nI (by unfold atN; omega) (by decide), bd1_s, ht (by omega) (by omega) (by omega), h_term hr.1 hl (by omega), h_term hr.1 hl (by omega), h_term hr.1 hl c6, nI_add, nI_add, nI_add, show (1000000 : Int32) = nI FAR from rfl, ite_iff (nI_eqI fB (by decide))]
    by_cases c7 : B = FAR
    · rw [if_pos c7, if_neg (fun q => by omega)]
    · rw [if_neg c7, if_pos ⟨by omega, by omega, by omega, by omega, by omega, c6, by unfold FAR at *; omega⟩]
      rfl
  · rw [if_neg c6, if_neg (fun q => c6 q.2.2.2.2.2.1)]; rfl
end
