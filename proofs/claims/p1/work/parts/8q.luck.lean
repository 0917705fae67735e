/-! odds: numbers of 64 bits -/
def nL (n : Nat) : Int64 := Int64.ofNat n
theorem nL_add (a b : Nat) : nL a + nL b = nL (a + b) := (Int64.ofNat_add a b).symm
theorem nL_mul (a b : Nat) : nL a * nL b = nL (a * b) := (Int64.ofNat_mul a b).symm
theorem nL_div {a b : Nat} (ha : a < 2 ^ 63) (hb : b < 2 ^ 63) : nL a / nL b = nL (a / b) := (Int64.ofNat_div ha hb).symm
theorem nL_toInt {a : Nat} (ha : a < 2 ^ 63) : (nL a).toInt = a := by
  show (Int64.ofNat a).toInt = a
  rw [Int64.toInt_ofNat', show Int64.size = 18446744073709551616 from rfl]
  exact Int.bmod_eq_of_le (by omega) (by omega)
theorem nL_eq0 {a : Nat} (ha : a < 2 ^ 63) : nL a = 0 ↔ a = 0 := by
  constructor
  · intro h
    have := congrArg Int64.toInt h
    rw [nL_toInt ha] at this
    have e : (0 : Int64).toInt = 0 := rfl
    omega
  · intro h; rw [h]; rfl
theorem nL_64 {a : Nat} (ha : a < 2 ^ 31) : (nI a).toInt64 = nL a := by
  apply Int64.toInt_inj.mp
  rw [Int32.toInt_toInt64, nI_toInt ha, nL_toInt (by omega)]
theorem cmp_eq (a b : Int64) : lg_cmp a b = 0 ↔ a = b := by
  constructor
  · intro h
    unfold lg_cmp at h
    split at h
    · cases h
    · split at h
      · next e => exact e
      · cases h
  · intro h; subst h
    unfold lg_cmp
    rw [if_neg (show ¬ a > a from Int64.lt_irrefl), if_pos rfl]
theorem nL_mod {a b : Nat} (ha : a < 2 ^ 62) (hb : b < 2 ^ 62) : nL a - nL a / nL b * nL b = nL (a % b) := by
  rw [nL_div (by omega) (by omega), nL_mul]
  have h := Nat.div_add_mod a b
  have e : nL a = nL (a % b) + nL (a / b * b) := by rw [nL_add, Nat.mul_comm (a / b) b, Nat.add_comm (a % b), h]
  rw [e]
  apply Int64.toBitVec_inj.mp
  show ((nL (a % b)).toBitVec + (nL (a / b * b)).toBitVec) - (nL (a / b * b)).toBitVec = _
  rw [BitVec.add_sub_cancel]
theorem u2L_at (w : Nat → Nat → Int64) (o k : Nat) (x : Int64) : u2L w o k x o k = x := by unfold u2L; rw [up_at]; simp [vp_updL]
theorem u2L_n {w : Nat → Nat → Int64} {o k j : Nat} {x : Int64} (h : j ≠ k) : u2L w o k x o j = w o j := by unfold u2L; rw [up_at]; simp [vp_updL, h]
theorem u2L_o {w : Nat → Nat → Int64} {o k q : Nat} {x : Int64} (h : q ≠ o) : u2L w o k x q = w q := by unfold u2L; rw [up_ne h]
/-- one try more -/
def stW (n : Nat) (W : Nat → Nat) : Nat → Nat := fun k => W k * (10 - n) + (if k = 0 then 0 else W (k - 1)) * n
def itW (n : Nat) : Nat → (Nat → Nat) → (Nat → Nat)
  | 0, W => W
  | t + 1, W => itW n t (stW n W)
def lkW (ρ : Rho) (l : Nat) : Nat → Nat → (Nat → Nat) → (Nat → Nat)
  | 0, _, W => W
  | k + 1, p, W => lkW ρ l k (p + 1) (itW (ρ 8 p) (sTries ρ p l) W)
def lkT (ρ : Rho) (l : Nat) : Nat → Nat → Nat
  | 0, _ => 0
  | k + 1, p => sTries ρ p l + lkT ρ l k (p + 1)
def W0 : Nat → Nat := fun k => if k = 0 then 1 else 0
/-- after t tries -/
def Wok (t : Nat) (W : Nat → Nat) : Prop := (∀ k, t < k → W k = 0) ∧ ∀ n, sumN W n ≤ 10 ^ t
theorem Wok0 : Wok 0 W0 := by
  refine ⟨fun k hk => if_neg (by omega), fun n => ?_⟩
  have : ∀ n, sumN W0 (n + 1) = 1 := by
    intro n
    induction n with
    | zero => rfl
    | succ n ih => show sumN W0 (n + 1) + W0 (n + 1) = 1; rw [ih]; rfl
  cases n with
  | zero => exact Nat.zero_le _
  | succ n => rw [this]; exact Nat.le_refl _
theorem sum_st (n : Nat) (W : Nat → Nat) : ∀ m, sumN (stW n W) (m + 1) = (10 - n) * sumN W (m + 1) + n * sumN W m
  | 0 => by
    show 0 + (W 0 * (10 - n) + (if 0 = 0 then 0 else W (0 - 1)) * n) = (10 - n) * (0 + W 0) + n * 0
    simp [Nat.mul_comm]
  | m + 1 => by
    have ih := sum_st n W m
    show sumN (stW n W) (m + 1) + stW n W (m + 1) = (10 - n) * (sumN W (m + 1) + W (m + 1)) + n * (sumN W m + W m)
    rw [ih]
    unfold stW
    rw [if_neg (by omega), show m + 1 - 1 = m by omega, Nat.mul_add, Nat.mul_add, Nat.mul_comm (W (m + 1)), Nat.mul_comm (W m)]
    omega
theorem sumN_mono {f : Nat → Nat} : ∀ m, sumN f m ≤ sumN f (m + 1) := fun m => Nat.le_add_right _ _
theorem Wok_st {t n : Nat} {W : Nat → Nat} (h : Wok t W) (hn : n ≤ 10) : Wok (t + 1) (stW n W) := by
  refine ⟨fun k hk => ?_, fun m => ?_⟩
  · unfold stW
    rw [h.1 k (by omega), if_neg (by omega), h.1 (k - 1) (by omega)]
    simp
  · cases m with
    | zero => exact Nat.zero_le _
    | succ m =>
      rw [sum_st, Nat.pow_succ]
      have a := h.2 (m + 1)
      have b : n * sumN W m ≤ n * sumN W (m + 1) := Nat.mul_le_mul_left _ (sumN_mono m)
      have c : (10 - n) * sumN W (m + 1) + n * sumN W (m + 1) = 10 * sumN W (m + 1) := by rw [← Nat.add_mul, show 10 - n + n = 10 by omega]
      have d : 10 * sumN W (m + 1) ≤ 10 * 10 ^ t := Nat.mul_le_mul_left _ a
      omega
theorem Wok_it {n : Nat} (hn : n ≤ 10) : ∀ (k t : Nat) (W : Nat → Nat), Wok t W → Wok (t + k) (itW n k W)
  | 0, _, _, h => h
  | k + 1, t, W, h => by
    have := Wok_it hn k (t + 1) (stW n W) (Wok_st h hn)
    rw [show t + (k + 1) = t + 1 + k by omega]
    exact this
theorem Wok_lk {ρ : Rho} (hk : ROK ρ) (l : Nat) : ∀ (k p t : Nat) (W : Nat → Nat), p + k ≤ ρ 0 1 → Wok t W → Wok (t + lkT ρ l k p) (lkW ρ l k p W)
  | 0, _, _, _, _, h => h
  | k + 1, p, t, W, hp, h => by
    have := Wok_lk hk l k (p + 1) (t + sTries ρ p l) _ (by omega) (Wok_it (hk.2.2.1 p (by omega)).2.2.1 (sTries ρ p l) t W h)
    show Wok (t + (sTries ρ p l + lkT ρ l k (p + 1))) _
    rw [← Nat.add_assoc]
    exact this
theorem lkT_le {ρ : Rho} (hk : ROK ρ) {l : Nat} (hl : l < ρ 0 0) : ∀ (k p : Nat), lkT ρ l k p ≤ 3 * k
  | 0, _ => Nat.le_refl _
  | k + 1, p => by
    have := lkT_le hk hl k (p + 1)
    have := sTries_le hk (p := p) hl
    show sTries ρ p l + lkT ρ l k (p + 1) ≤ 3 * (k + 1)
    omega
theorem ten_I {n : Nat} (hn : n ≤ 10) : ((10 : Int32) - nI n).toInt64 = nL (10 - n) := by
  rw [show (10 : Int32) = nI 10 from rfl, pk_sub hn, nL_64 (by omega)]
section
variable {v : Nat → Nat → Int32} {w : Nat → Nat → Int64}
theorem halve {a b k : Nat} (hb : b < 2 ^ (k + 1)) (hr : a % b ≠ 0) (h0 : b ≠ 0) : b % (a % b) < 2 ^ k := by
  have h1 : a % b < b := Nat.mod_lt _ (Nat.pos_of_ne_zero h0)
  have h2 : b % (a % b) < a % b := Nat.mod_lt _ (Nat.pos_of_ne_zero hr)
  have h3 := Nat.div_add_mod b (a % b)
  have h4 : 1 ≤ b / (a % b) := (Nat.le_div_iff_mul_le (Nat.pos_of_ne_zero hr)).mpr (by omega)
  have h5 : (a % b) * 1 ≤ (a % b) * (b / (a % b)) := Nat.mul_le_mul_left _ h4
  rw [Nat.pow_succ] at hb
  omega
theorem M_common : ∀ (k fuel a b : Nat) (h : mH), a < 2 ^ 62 → b < 2 ^ k → k ≤ 60 → 2 * k < fuel → f_M_common_6 fuel (nL a) (nL b) h = some (nL (Nat.gcd b a), h) := by
  intro k
  induction k with
  | zero =>
    intro fuel a b h ha hb hk hf
    obtain ⟨n, rfl⟩ : ∃ n, fuel = n + 1 := ⟨fuel - 1, by omega⟩
    obtain rfl : b = 0 := by simp at hb; exact hb
    simp only [f_M_common_6, f_M_common_6b]
    rw [if_pos (show lg_cmp (nL 0) 0 = 0 from (cmp_eq _ _).mpr rfl), Nat.gcd_zero_left]
  | succ k ih =>
    intro fuel a b h ha hb hk hf
    obtain ⟨n, rfl⟩ : ∃ n, fuel = n + 1 + 1 := ⟨fuel - 2, by omega⟩
    have hp : 2 ^ (k + 1) ≤ 2 ^ 60 := Nat.pow_le_pow_right (by decide) hk
    have hb62 : b < 2 ^ 62 := by omega
    by_cases h0 : b = 0
    · subst h0
      show f_M_common_6b (f_M_common_6 (n + 1)) (nL a) (nL 0) h = _
      unfold f_M_common_6b
      rw [if_pos (show lg_cmp (nL 0) 0 = 0 from (cmp_eq _ _).mpr rfl), Nat.gcd_zero_left]
    · have hne : ¬ nL b = 0 := fun q => h0 ((nL_eq0 (by omega)).mp q)
      show f_M_common_6b (f_M_common_6 (n + 1)) (nL a) (nL b) h = _
      unfold f_M_common_6b
      rw [if_neg (fun q => hne ((cmp_eq _ _).mp q)), if_neg hne, nL_mod ha hb62]
      have hr : a % b < 2 ^ 62 := Nat.lt_trans (Nat.mod_lt _ (Nat.pos_of_ne_zero h0)) hb62
      show f_M_common_6b (f_M_common_6 n) (nL b) (nL (a % b)) h = _
      unfold f_M_common_6b
      by_cases h1 : a % b = 0
      · rw [h1, if_pos (show lg_cmp (nL 0) 0 = 0 from (cmp_eq _ _).mpr rfl), Nat.gcd_rec b a, h1, Nat.gcd_zero_left]
      · have hne1 : ¬ nL (a % b) = 0 := fun q => h1 ((nL_eq0 (by omega)).mp q)
        rw [if_neg (fun q => hne1 ((cmp_eq _ _).mp q)), if_neg hne1, nL_mod hb62 hr, ih n (a % b) (b % (a % b)) h hr (halve hb h1 h0) (by omega) (by omega), ← Nat.gcd_rec, ← Nat.gcd_rec]
theorem C_red : ∀ (k fuel a b i : Nat), a < 2 ^ 62 → b < 2 ^ k → k ≤ 40 → 2 * k < fuel → i + 2 * k < 100 → f_Odds_reduce_13 fuel 56 (nL a) (nL b) (nI i) (bh v w) = f_Odds_reduce_42 56 (nL (Nat.gcd b a)) (bh v w) := by
  intro k
  induction k with
  | zero =>
    intro fuel a b i ha hb hk hf hi
    obtain ⟨n, rfl⟩ : ∃ n, fuel = n + 1 := ⟨fuel - 1, by omega⟩
    obtain rfl : b = 0 := by simp at hb; exact hb
    simp only [f_Odds_reduce_13, f_Odds_reduce_13b]
    rw [if_pos (show lg_cmp (nL 0) 0 = 0 from (cmp_eq _ _).mpr rfl), Nat.gcd_zero_left]
    split <;> rfl
  | succ k ih =>
    intro fuel a b i ha hb hk hf hi
    obtain ⟨n, rfl⟩ : ∃ n, fuel = n + 1 + 1 := ⟨fuel - 2, by omega⟩
    have hp : 2 ^ (k + 1) ≤ 2 ^ 60 := Nat.pow_le_pow_right (by decide) (by omega)
    have hb62 : b < 2 ^ 62 := by omega
    have c1 : ∀ j, j < 100 → ¬ (100 : Int32) ≤ nI j := fun j hj z => by
      rw [show (100 : Int32) = nI 100 from rfl] at z
      have := (nI_leI (by omega) (by omega)).mp z
      omega
    by_cases h0 : b = 0
    · subst h0
      show f_Odds_reduce_13b (f_Odds_reduce_13 (n + 1)) 56 (nL a) (nL 0) (nI i) (bh v w) = _
      unfold f_Odds_reduce_13b
      rw [if_pos (show lg_cmp (nL 0) 0 = 0 from (cmp_eq _ _).mpr rfl), Nat.gcd_zero_left]
      split <;> rfl
    · have hne : ¬ nL b = 0 := fun q => h0 ((nL_eq0 (by omega)).mp q)
      show f_Odds_reduce_13b (f_Odds_reduce_13 (n + 1)) 56 (nL a) (nL b) (nI i) (bh v w) = _
      unfold f_Odds_reduce_13b
      rw [if_neg (c1 i (by omega)), if_neg (fun q => hne ((cmp_eq _ _).mp q)), if_neg hne, nL_mod ha hb62, nI_1]
      have hr : a % b < 2 ^ 62 := Nat.lt_trans (Nat.mod_lt _ (Nat.pos_of_ne_zero h0)) hb62
      show f_Odds_reduce_13b (f_Odds_reduce_13 n) 56 (nL b) (nL (a % b)) (nI (i + 1)) (bh v w) = _
      unfold f_Odds_reduce_13b
      by_cases h1 : a % b = 0
      · rw [h1, if_pos (show lg_cmp (nL 0) 0 = 0 from (cmp_eq _ _).mpr rfl), Nat.gcd_rec b a, h1, Nat.gcd_zero_left]
        split <;> rfl
      · have hne1 : ¬ nL (a % b) = 0 := fun q => h1 ((nL_eq0 (by omega)).mp q)
        rw [if_neg (c1 (i + 1) (by omega)), if_neg (fun q => hne1 ((cmp_eq _ _).mp q)), if_neg hne1, nL_mod hb62 hr, nI_1, ih n (a % b) (b % (a % b)) (i + 1 + 1) hr (halve hb h1 h0) (by omega) (by omega) (by omega), ← Nat.gcd_rec, ← Nat.gcd_rec]
end
