/-! 75.c1.lean.txt -/
section
/-! the class's realm at o, said of the memories -/
def CR (o : Nat) (ρ : Rho) (v : Nat → Nat → Int32) : Prop :=
  (v o 0 = nI (ρ 0 0) ∧ v o 1 = nI (ρ 0 1) ∧ v o 2 = nI (ρ 0 2) ∧ v o 3 = nI (ρ 0 3) ∧ v o 4 = nI (ρ 0 4) ∧ v o 5 = nI (ρ 0 5) ∧ v (o + 13) 0 = nI (ρ 0 6)) ∧
  (∀ l, l < ρ 0 0 → v (o + 1) l = nI (ρ 1 l) ∧ v (o + 2) l = nI (ρ 2 l) ∧ v (o + 3) l = nI (ρ 3 l) ∧ v (o + 4) l = nI (ρ 4 l) ∧ v (o + 5) l = cI (ρ 5 l)) ∧
  (∀ p, p < ρ 0 1 → v (o + 6) p = nI (ρ 6 p) ∧ v (o + 7) p = nI (ρ 7 p) ∧ v (o + 8) p = nI (ρ 8 p) ∧ v (o + 9) p = nI (ρ 9 p) ∧ v (o + 10) p = nI (ρ 10 p) ∧ v (o + 11) p = nI (ρ 11 p)) ∧
  (∀ p l, p < ρ 0 1 → l < ρ 0 0 → v (o + 12) (5 * p + l) = nI (ρ 12 (5 * p + l))) ∧
  (∀ i, i < ρ 0 6 → v (o + 14) i = nI (ρ 13 i) ∧ v (o + 15) i = nI (ρ 14 i) ∧ v (o + 16) i = nI (ρ 15 i))
/-- the class's chain: as many steps as there are LAWS -/
def clf (f : Nat → Nat) : Nat → Nat → Nat → Nat
  | 0, acc, _ => acc
  | _ + 1, acc, 0 => acc
  | n + 1, acc, m + 1 => clf f n (acc ||| 2 ^ m) (f m)
def chf (f : Nat → Nat) : Nat → Nat → Nat → Nat
  | 0, acc, _ => acc
  | _ + 1, acc, 0 => acc
  | n + 1, acc, m + 1 => if bit acc m = 1 then acc else chf f n (acc ||| 2 ^ m) (f m)
theorem chn_chf (ρ : Rho) : ∀ n acc c, chn ρ n acc c = chf (ρ 5) n acc c
  | 0, _, _ => rfl
  | _ + 1, _, 0 => rfl
  | n + 1, acc, m + 1 => by
    show (if bit acc m = 1 then acc else chn ρ n (acc ||| 2 ^ m) (ρ 5 m)) = (if bit acc m = 1 then acc else chf (ρ 5) n (acc ||| 2 ^ m) (ρ 5 m))
    rw [chn_chf ρ n]
theorem it_sp {α β : Type} {c : Prop} [Decidable c] {A B : Option (α × β)} {a b : α} {h : β} (p : A = some (a, h)) (q : B = some (b, h)) : (if c then A else B) = some (if c then a else b, h) := by
  split <;> assumption
theorem rg_tb {s l : Nat} : bit s l = 1 ↔ s.testBit l = true := by
  unfold bit
  rw [Nat.testBit_eq_decide_div_mod_eq, decide_eq_true_iff]
theorem rg_or {a m x : Nat} : bit (a ||| 2 ^ m) x = 1 ↔ bit a x = 1 ∨ m = x := by
  rw [rg_tb, rg_tb, Nat.testBit_or, Nat.testBit_two_pow, Bool.or_eq_true, decide_eq_true_iff]
/-- how many of the first are not in it -/
def rg_ct (acc : Nat) : Nat → Nat
  | 0 => 0
  | n + 1 => rg_ct acc n + (if bit acc n = 1 then 0 else 1)
theorem rg_ct_le {a b : Nat} (h : ∀ x, bit a x = 1 → bit b x = 1) : ∀ n, rg_ct b n ≤ rg_ct a n
  | 0 => Nat.le_refl _
  | n + 1 => by
    have h1 := rg_ct_le h n
    have h2 := h n
    show rg_ct b n + (if bit b n = 1 then 0 else 1) ≤ rg_ct a n + (if bit a n = 1 then 0 else 1)
    by_cases ha : bit a n = 1
    · rw [if_pos ha, if_pos (h2 ha)]; omega
    · rw [if_neg ha]; split <;> omega
theorem rg_ct_lt {a m : Nat} (h : ¬ bit a m = 1) : ∀ n, m < n → rg_ct (a ||| 2 ^ m) n < rg_ct a n
  | 0, hm => absurd hm (by omega)
  | n + 1, hm => by
    have hl : ∀ x, bit a x = 1 → bit (a ||| 2 ^ m) x = 1 := fun x hx => rg_or.mpr (Or.inl hx)
    show rg_ct (a ||| 2 ^ m) n + (if bit (a ||| 2 ^ m) n = 1 then 0 else 1) < rg_ct a n + (if bit a n = 1 then 0 else 1)
    by_cases hn : m = n
    · have h1 := rg_ct_le hl n
      rw [if_pos (rg_or.mpr (Or.inr hn)), if_neg (hn ▸ h)]
      omega
    · have h1 := rg_ct_lt h n (by omega)
      by_cases ha : bit a n = 1
      · rw [if_pos ha, if_pos (hl n ha)]; omega
      · rw [if_neg ha]; split <;> omega
/-- a closed set: the class's walk adds nothing -/
theorem rg_stay {f : Nat → Nat} {acc : Nat} (hc : ∀ x, bit acc x = 1 → f x = 0 ∨ bit acc (f x - 1) = 1) : ∀ k c, c = 0 ∨ bit acc (c - 1) = 1 → clf f k acc c = acc
  | 0, _, _ => rfl
  | _ + 1, 0, _ => rfl
  | k + 1, m + 1, h => by
    have hm : bit acc m = 1 := by
      rcases h with h | h
      · omega
      · exact h
    have e : acc ||| 2 ^ m = acc := by
      apply Nat.eq_of_testBit_eq
      intro x
      rw [Bool.eq_iff_iff, ← rg_tb, ← rg_tb, rg_or]
      constructor
      · rintro (h | rfl)
        · exact h
        · exact hm
      · exact Or.inl
    show clf f k (acc ||| 2 ^ m) (f m) = acc
    rw [e]
    exact rg_stay hc k (f m) (hc m hm)
theorem rg_walk {f : Nat → Nat} {L : Nat} (hf : ∀ m, m < L → f m ≤ L) : ∀ j n acc c, c ≤ L → rg_ct acc L ≤ n → rg_ct acc L < j →
    (∀ x, bit acc x = 1 → f x = c ∨ (f x = 0 ∨ bit acc (f x - 1) = 1)) → clf f n acc c = chf f j acc c
  | 0, _, _, _, _, _, h, _ => absurd h (by omega)
  | _ + 1, 0, _, 0, _, _, _, _ => rfl
  | _ + 1, _ + 1, _, 0, _, _, _, _ => rfl
  | j + 1, n, acc, m + 1, hc, h1, h2, hi => by
    show clf f n acc (m + 1) = (if bit acc m = 1 then acc else chf f j (acc ||| 2 ^ m) (f m))
    by_cases hb : bit acc m = 1
    · rw [if_pos hb]
      refine rg_stay (fun x hx => ?_) n (m + 1) (Or.inr hb)
      rcases hi x hx with h | h
      · rw [h]; exact Or.inr hb
      · exact h
    · rw [if_neg hb]
      have hl := rg_ct_lt hb L (by omega)
      obtain ⟨n, rfl⟩ : ∃ k, n = k + 1 := ⟨n - 1, by omega⟩
      show clf f n (acc ||| 2 ^ m) (f m) = _
      refine rg_walk hf j n _ _ (hf m (by omega)) (by omega) (by omega) (fun x hx => ?_)
      rcases rg_or.mp hx with hx | rfl
      · right
        rcases hi x hx with h | h | h
        · exact Or.inr (by rw [h]; exact rg_or.mpr (Or.inr rfl))
        · exact Or.inl h
        · exact Or.inr (rg_or.mpr (Or.inl h))
      · exact Or.inl rfl
theorem rg_ct_L (acc : Nat) : ∀ L, rg_ct acc L ≤ L
  | 0 => Nat.le_refl _
  | n + 1 => by
    have := rg_ct_L acc n
    show rg_ct acc n + (if bit acc n = 1 then 0 else 1) ≤ n + 1
    split <;> omega
theorem ring (f : Nat → Nat) {L l : Nat} (hL : L ≤ 5) (hf : ∀ m, m < L → f m ≤ L) (hl : l < L) : clf f L 0 (l + 1) = chf f 6 0 (l + 1) := by
  have h0 := rg_ct_L 0 L
  refine rg_walk hf 6 L 0 (l + 1) (by omega) h0 (by omega) (fun x hx => ?_)
  rw [rg_tb, Nat.zero_testBit] at hx
  cases hx
section
variable {ρ : Rho} {v : Nat → Nat → Int32} {w : Nat → Nat → Int64} {o : Nat}
theorem Q_isWithin (a b c : Int32) (h : mH) : f_Q_isWithin a b c h = some (if b.toInt ≤ a.toInt ∧ a.toInt ≤ c.toInt then 1 else 0, h) := by
  simp only [f_Q_isWithin, f_Q_isWithin_0, f_Q_isWithin_14, Int32.lt_iff_toInt_lt]
  by_cases h1 : a.toInt < b.toInt
  · rw [if_pos h1, if_neg (by omega)]
  · rw [if_neg h1]
    by_cases h2 : c.toInt < a.toInt
    · rw [if_pos h2, if_neg (by omega)]
    · rw [if_neg h2, if_pos (by omega)]
theorem Q_hasBit {s l : Nat} (hs : s < 2 ^ 31) (hl : l < 32) (h : mH) : f_Q_hasBit (nI s) (nI l) h = some (nI (bit s l), h) := by
  simp only [f_Q_hasBit, f_Q_hasBit_0]
  rw [bit_I hs hl]
  rcases bit_01 s l with g | g <;> rw [g] <;> rfl
theorem C_hasLaw (ho : rl o) (hr : CR o ρ v) (hk : ρ 0 0 ≤ 5) (x : Int32) : f_Realm_hasLaw o x (bh v w) = some (if 0 ≤ x.toInt ∧ x.toInt < ρ 0 0 then 1 else 0, bh v w) := by
  simp only [f_Realm_hasLaw, f_Realm_hasLaw_0, f_Realm_hasLaw_16, hRl ho v w, bd1_s, hr.1.1, Int32.lt_iff_toInt_lt, Int32.le_iff_toInt_le, nI_toInt (show ρ 0 0 < 2 ^ 31 by omega)]
  have e : (0 : Int32).toInt = 0 := rfl
  rw [e]
  by_cases h1 : x.toInt < 0
  · rw [if_pos h1, if_neg (by omega)]
  · rw [if_neg h1]
    by_cases h2 : (ρ 0 0 : Int) ≤ x.toInt
    · rw [if_pos h2, if_neg (by omega)]
    · rw [if_neg h2, if_pos (by omega)]
theorem C_hasOne (ho : rl o) (hr : CR o ρ v) (hk : ρ 0 1 ≤ 3) (x : Int32) : f_Realm_hasOne o x (bh v w) = some (if 0 ≤ x.toInt ∧ x.toInt < ρ 0 1 then 1 else 0, bh v w) := by
  simp only [f_Realm_hasOne, f_Realm_hasOne_0, f_Realm_hasOne_16, hRl ho v w, bd1_s, hr.1.2.1, Int32.lt_iff_toInt_lt, Int32.le_iff_toInt_le, nI_toInt (show ρ 0 1 < 2 ^ 31 by omega)]
  have e : (0 : Int32).toInt = 0 := rfl
  rw [e]
  by_cases h1 : x.toInt < 0
  · rw [if_pos h1, if_neg (by omega)]
  · rw [if_neg h1]
    by_cases h2 : (ρ 0 1 : Int) ≤ x.toInt
    · rw [if_pos h2, if_neg (by omega)]
    · rw [if_neg h2, if_pos (by omega)]
theorem C_brokenBy (ho : rl o) (hr : CR o ρ v) (hk : ROK ρ) {p l : Nat} (hp : p < ρ 0 1) (hl : l < ρ 0 0) : f_Realm_brokenBy o (nI p) (nI l) (bh v w) = some (nI (ρ 12 (5 * p + l)), bh v w) := by
  have h1 := hk.1.1
  have h2 := hk.1.2.1
  simp only [f_Realm_brokenBy, f_Realm_brokenBy_0, hRl ho v w, bd1_s]
  rw [show (5 : Int32) = nI 5 from rfl, pk_mul, nI_add, rd_nI (by omega) (by decide), bd1_s, Nat.mul_comm p 5, hr.2.2.2.1 p l hp hl]
theorem C_brokenByOne (ho : rl o) (hr : CR o ρ v) (hk : ROK ρ) {p : Nat} (hp : p < ρ 0 1) : f_Realm_brokenByOne o (nI p) (bh v w) = some (nI (sAll ρ p), bh v w) := by
  have h1 := hk.1.1
  have h2 := hk.1.2.1
  have key : ∀ (k fuel l : Nat), k < fuel → l + k = ρ 0 0 → f_Realm_brokenByOne_4 fuel o (nI p) (nI (sumN (fun l => ρ 12 (5 * p + l)) l)) (nI l) (bh v w) = some (nI (sAll ρ p), bh v w) := by
    intro k
    induction k with
    | zero =>
      intro fuel l hf hl
      obtain ⟨n, rfl⟩ : ∃ n, fuel = n + 1 := ⟨fuel - 1, by omega⟩
      simp only [f_Realm_brokenByOne_4, f_Realm_brokenByOne_4b, hRl ho v w, bd1_s]
      rw [hr.1.1, if_pos (nI_le (by omega) (by omega)), show l = ρ 0 0 by omega]
      rfl
    | succ k ih =>
      intro fuel l hf hl
      obtain ⟨n, rfl⟩ : ∃ n, fuel = n + 1 := ⟨fuel - 1, by omega⟩
      simp only [f_Realm_brokenByOne_4, f_Realm_brokenByOne_4b, hRl ho v w, bd1_s]
      rw [hr.1.1, if_neg (nI_ge (by omega) (by omega)), show (5 : Int32) = nI 5 from rfl, pk_mul, nI_add, rd_nI (by omega) (by decide), bd1_s, Nat.mul_comm p 5, hr.2.2.2.1 p l hp (by omega), nI_add, nI_1]
      exact ih n (l + 1) (by omega) (by omega)
  simp only [f_Realm_brokenByOne, f_Realm_brokenByOne_0]
  exact key (ρ 0 0) FU 0 (by unfold FU; omega) (by omega)
theorem max0 {z : Int} (h1 : -2 ^ 31 ≤ z) (h2 : z < 2 ^ 31) : (if (0 : Int32) < zI z then zI z else 0) = nI z.toNat := by
  have e : (0 : Int32) < zI z ↔ 0 < z := by rw [Int32.lt_iff_toInt_lt, zI_t h1 h2]; rfl
  rw [ite_iff e]
  by_cases h : 0 < z
  · rw [if_pos h, ← zI_n, Int.toNat_of_nonneg (by omega)]
  · rw [if_neg h, show z.toNat = 0 by omega]; rfl
theorem C_needOf (ho : rl o) (hr : CR o ρ v) (hk : ROK ρ) {l : Nat} (hl : l < ρ 0 0) : f_Realm_needOf o (nI l) (bh v w) = some (nI (sNeed ρ l), bh v w) := by
  have h1 := hk.1.1
  have h2 := hk.1.2.1
  have hst := hk.st
  have hq : ρ 1 l ≤ 9 := (hk.2.1 l hl).1
  have hB : ∀ p, p < ρ 0 1 → ρ 12 (5 * p + l) ≤ 3 := fun p hp => Nat.le_trans (hk.2.2.2.1 p l hp hl) (hk.2.1 l hl).2.2.1
  have key : ∀ (k fuel p : Nat), k < fuel → p + k = ρ 0 1 → f_Realm_needOf_22 fuel o (nI l) (zI ((ρ 1 l : Int) - sumN (fun p => ρ 12 (5 * p + l)) p)) (nI p) (bh v w) = some (nI (ρ 1 l - sumN (fun p => ρ 12 (5 * p + l)) (ρ 0 1)), bh v w) := by
    intro k
    induction k with
    | zero =>
      intro fuel p hf hp
      obtain ⟨n, rfl⟩ : ∃ n, fuel = n + 1 := ⟨fuel - 1, by omega⟩
      have hs : sumN (fun p => ρ 12 (5 * p + l)) p ≤ 3 * p := sumN_c (fun i hi => hB i (by omega))
      simp only [f_Realm_needOf_22, f_Realm_needOf_22b, hRl ho v w, bd1_s]
      rw [hr.1.2.1, if_pos (nI_le (by omega) (by omega)), show ρ 0 1 = p by omega, max0 (by omega) (by omega)]
      congr 3
      omega
    | succ k ih =>
      intro fuel p hf hp
      obtain ⟨n, rfl⟩ : ∃ n, fuel = n + 1 := ⟨fuel - 1, by omega⟩
      simp only [f_Realm_needOf_22, f_Realm_needOf_22b, hRl ho v w, bd1_s]
      rw [hr.1.2.1, if_neg (nI_ge (by omega) (by omega)), C_brokenBy ho hr hk (by omega) hl, bd2_s, zI_subn, nI_1]
      have := ih n (p + 1) (by omega) (by omega)
      rw [show ((ρ 1 l : Int) - (sumN (fun p => ρ 12 (5 * p + l)) p : Nat)) - (ρ 12 (5 * p + l) : Nat) = (ρ 1 l : Int) - (sumN (fun p => ρ 12 (5 * p + l)) (p + 1) : Nat) by show _ = (ρ 1 l : Int) - ((sumN (fun p => ρ 12 (5 * p + l)) p + ρ 12 (5 * p + l) : Nat) : Int); omega]
      exact this
  simp only [f_Realm_needOf, f_Realm_needOf_0, hRl ho v w, bd1_s]
  rw [hr.1.2.2.2.2.1, Q_hasBit (by omega) (by omega), bd2_s]
  unfold sNeed
  rcases bit_01 (ρ 0 4) l with h | h
  · rw [h, if_pos (show nI 0 = 0 from rfl), if_neg (by decide)]
    rfl
  · rw [h, if_neg (show ¬ nI 1 = 0 by decide), if_pos rfl]
    simp only [hRl ho v w, bd1_s]
    rw [rd_nI (by omega) (by decide), bd1_s, (hr.2.1 l hl).1]
    have := key (ρ 0 1) FU 0 (by unfold FU; omega) (by omega)
    rw [show ((ρ 1 l : Nat) : Int) - (sumN (fun p => ρ 12 (5 * p + l)) 0 : Nat) = ((ρ 1 l : Nat) : Int) by show ((ρ 1 l : Nat) : Int) - ((0 : Nat) : Int) = _; omega, zI_n] at this
    exact this
theorem C_chainOf (ho : rl o) (hr : CR o ρ v) (hk : ROK ρ) {l : Nat} (hl : l < ρ 0 0) : f_Realm_chainOf o (nI l) (bh v w) = some (nI (sChain ρ l), bh v w) := by
  have h1 := hk.1.1
  have key : ∀ (k fuel acc c i : Nat), c ≤ ρ 0 0 → k < fuel → i + k = ρ 0 0 → f_Realm_chainOf_7 fuel o (nI acc) (cI c) (nI i) (bh v w) = some (nI (clf (ρ 5) k acc c), bh v w) := by
    intro k
    induction k with
    | zero =>
      intro fuel acc c i hc hf hi
      obtain ⟨n, rfl⟩ : ∃ n, fuel = n + 1 := ⟨fuel - 1, by omega⟩
      simp only [f_Realm_chainOf_7, f_Realm_chainOf_7b, f_Realm_chainOf_43, hRl ho v w, bd1_s]
      rw [hr.1.1, if_pos (nI_le (by omega) (by omega))]
      rfl
    | succ k ih =>
      intro fuel acc c i hc hf hi
      obtain ⟨n, rfl⟩ : ∃ n, fuel = n + 1 := ⟨fuel - 1, by omega⟩
      simp only [f_Realm_chainOf_7, f_Realm_chainOf_7b, f_Realm_chainOf_43, hRl ho v w, bd1_s]
      rw [hr.1.1, if_neg (nI_ge (by omega) (by omega)), C_hasLaw ho hr h1, bd2_s]
      cases c with
      | zero =>
        rw [if_neg (show ¬ (0 ≤ (cI 0).toInt ∧ (cI 0).toInt < (ρ 0 0 : Int)) from fun z => absurd z.1 (by decide)), if_pos rfl]
        rfl
      | succ m =>
        have e1 : (cI (m + 1)).toInt = (m : Int) := nI_toInt (by omega)
        have e2 : (if 0 ≤ (cI (m + 1)).toInt ∧ (cI (m + 1)).toInt < (ρ 0 0 : Int) then (1 : Int32) else 0) = 1 := if_pos (by rw [e1]; omega)
        rw [e2, if_neg (by decide)]
        simp only [hRl ho v w, bd1_s]
        show (bd1 (rd (v (o + 5)) 5 (nI m)) fun x10 => f_Realm_chainOf_7 n o (nI acc ||| 1 <<< (nI m &&& 31)) x10 (nI i + 1) (bh v w)) = _
        rw [rd_nI (by omega) (by decide), bd1_s, shl_I (by omega), or_I, nI_1, (hr.2.1 m (by omega)).2.2.2.2]
        exact ih n _ _ (i + 1) (hk.2.1 m (by omega)).2.2.2.2.2.1 (by omega) (by omega)
  simp only [f_Realm_chainOf, f_Realm_chainOf_0]
  have := key (ρ 0 0) FU 0 (l + 1) 0 (by omega) (by unfold FU; omega) (by omega)
  rw [ring (ρ 5) h1 (fun m hm => (hk.2.1 m hm).2.2.2.2.2.1) hl, ← chn_chf] at this
  exact this
end
end
/-! 76.c2.lean.txt -/
section
section
variable {ρ : Rho} {v : Nat → Nat → Int32} {w : Nat → Nat → Int64} {o : Nat}
theorem C_roomOf (ho : rl o) (hr : CR o ρ v) (hk : ROK ρ) {p l : Nat} (hp : p < ρ 0 1) (hl : l < ρ 0 0) : f_Realm_roomOf o (nI p) (nI l) (bh v w) = some (nI (sRoom ρ p l), bh v w) := by
  have h1 := hk.1.1
  have h2 := hk.1.2.1
  have hst := hk.st
  have hrf : ρ 10 p < 32 := pw_le h1 (hk.2.2.1 p hp).2.2.2.2.1
  have hB : ρ 12 (5 * p + l) ≤ ρ 2 l := hk.2.2.2.1 p l hp hl
  have hc : ρ 2 l ≤ 3 := (hk.2.1 l hl).2.2.1
  simp only [f_Realm_roomOf, f_Realm_roomOf_0, f_Realm_roomOf_28, f_Realm_roomOf_29, hRl ho v w, bd1_s]
  rw [hr.1.2.2.2.2.1, Q_hasBit (by omega) (by omega), bd2_s]
  unfold sRoom
  rcases bit_01 (ρ 0 4) l with h | h
  · rw [h, if_pos (show nI 0 = 0 from rfl), if_pos trivial, if_neg (fun z => by have := z.1; omega)]
    rfl
  · rw [h, if_neg (show ¬ nI 1 = 0 by decide)]
    simp only [hRl ho v w, bd1_s]
    rw [rd_nI (by omega) (by decide), bd1_s, (hr.2.2.1 p hp).2.2.2.2.1, Q_hasBit (by omega) (by omega), bd2_s]
    rcases bit_01 (ρ 10 p) l with g | g
    · rw [g, if_pos (show nI 0 = 0 from rfl), if_neg (by decide)]
      simp only [hRl ho v w, bd1_s]
      rw [rd_nI (by omega) (by decide), bd1_s, (hr.2.1 l hl).2.1, C_brokenBy ho hr hk hp hl, bd2_s, ← zI_n, zI_subn, max0 (by omega) (by omega)]
      simp only [true_and, if_true]
      congr 3
      omega
    · rw [g, if_neg (show ¬ nI 1 = 0 by decide), if_pos trivial, if_neg (fun z => by have := z.2; omega)]
      rfl
theorem C_timeLeft (ho : rl o) (hr : CR o ρ v) (hk : ROK ρ) {p : Nat} (hp : p < ρ 0 1) : f_Realm_timeLeft o (nI p) (bh v w) = some (nI (sLeft ρ p), bh v w) := by
  have h1 := hk.1.1
  have h2 := hk.1.2.1
  have ht := (hk.2.2.1 p hp).1
  have hs : sAll ρ p ≤ 5 := (hk.2.2.1 p hp).2.2.2.2.2.2
  simp only [f_Realm_timeLeft, f_Realm_timeLeft_0, hRl ho v w, bd1_s]
  rw [rd_nI (by omega) (by decide), bd1_s, C_brokenByOne ho hr hk hp, bd2_s, (hr.2.2.1 p hp).1, ← zI_n, zI_subn, max0 (by omega) (by omega)]
  unfold sLeft
  congr 3
  omega
theorem C_ableAlone (ho : rl o) (hr : CR o ρ v) (hk : ROK ρ) {p l : Nat} (hp : p < ρ 0 1) (hl : l < ρ 0 0) : f_Realm_ableAlone o (nI p) (nI l) (bh v w) = some (nI (sTries ρ p l), bh v w) := by
  have a1 := sRoom_le hk (p := p) hl
  have a2 := sLeft_le hk hp
  simp only [f_Realm_ableAlone, f_Realm_ableAlone_0, hRl ho v w, bd1_s]
  rw [C_roomOf ho hr hk hp hl, bd2_s]
  simp only [hRl ho v w, bd1_s]
  rw [C_timeLeft ho hr hk hp, bd2_s, ite_iff (nI_ltI (by omega) (by omega))]
  unfold sTries
  by_cases h : sLeft ρ p < sRoom ρ p l
  · rw [if_pos h, if_pos (by omega)]
  · rw [if_neg h]
    by_cases g : sLeft ρ p ≤ sRoom ρ p l
    · rw [if_pos g, show sLeft ρ p = sRoom ρ p l by omega]
    · rw [if_neg g]
theorem C_lapsing (ho : rl o) (hr : CR o ρ v) (hk : ROK ρ) : f_Realm_lapsing o (bh v w) = some (nI (sFalls ρ), bh v w) := by
  have h1 := hk.1.1
  have key : ∀ (k fuel l : Nat), k < fuel → l + k = ρ 0 0 → f_Realm_lapsing_4 fuel o (nI (orN (fun l => if 0 < sNeed ρ l then sChain ρ l else 0) l)) (nI l) (bh v w) = some (nI (sFalls ρ), bh v w) := by
    intro k
    induction k with
    | zero =>
      intro fuel l hf hl
      obtain ⟨n, rfl⟩ : ∃ n, fuel = n + 1 := ⟨fuel - 1, by omega⟩
      simp only [f_Realm_lapsing_4, f_Realm_lapsing_4b, hRl ho v w, bd1_s]
      rw [hr.1.1, if_pos (nI_le (by omega) (by omega)), hr.1.2.2.2.2.1, and_I, show l = ρ 0 0 by omega]
      rfl
    | succ k ih =>
      intro fuel l hf hl
      obtain ⟨n, rfl⟩ : ∃ n, fuel = n + 1 := ⟨fuel - 1, by omega⟩
      have hl2 : l < ρ 0 0 := by omega
      have hn := sNeed_le hk hl2
      simp only [f_Realm_lapsing_4, f_Realm_lapsing_4b, f_Realm_lapsing_30, hRl ho v w, bd1_s]
      have e2 : orN (fun l => if 0 < sNeed ρ l then sChain ρ l else 0) (l + 1) = orN (fun l => if 0 < sNeed ρ l then sChain ρ l else 0) l ||| (if 0 < sNeed ρ l then sChain ρ l else 0) := rfl
      have ih2 := ih n (l + 1) (by omega) (by omega)
      rw [hr.1.1, if_neg (nI_ge (by omega) (by omega)), C_needOf ho hr hk hl2, bd2_s, ite_iff (nI_le0 (by omega))]
      by_cases z : sNeed ρ l = 0
      · rw [if_pos z, nI_1, show (0 : Int32) = nI 0 from rfl, or_I]
        rw [e2, if_neg (by omega)] at ih2
        exact ih2
      · rw [if_neg z]
        simp only [hRl ho v w, bd1_s]
        rw [C_chainOf ho hr hk hl2, bd2_s, nI_1, or_I]
        rw [e2, if_pos (by omega)] at ih2
        exact ih2
  simp only [f_Realm_lapsing, f_Realm_lapsing_0]
  exact key (ρ 0 0) FU 0 (by unfold FU; omega) (by omega)
end
end
/-! 77.cr.lean.txt -/
section
/-! writes into the class's realm: printed by wip/gen/gen_cr.py -/
theorem CR_quota {o : Nat} {ρ : Rho} {v : Nat → Nat → Int32} {i : Nat} {x : Nat} (hi : i < ρ 0 0) (h : CR o ρ v) (hL : ρ 0 0 ≤ 5) : CR o (up2 ρ 1 i x) (u2 v (o + 1) i (nI x)) := by
  refine ⟨⟨(congrFun (u2_o (by omega)) 0).trans h.1.1, (congrFun (u2_o (by omega)) 1).trans h.1.2.1, (congrFun (u2_o (by omega)) 2).trans h.1.2.2.1, (congrFun (u2_o (by omega)) 3).trans h.1.2.2.2.1, (congrFun (u2_o (by omega)) 4).trans h.1.2.2.2.2.1, (congrFun (u2_o (by omega)) 5).trans h.1.2.2.2.2.2.1, (congrFun (u2_o (by omega)) 0).trans h.1.2.2.2.2.2.2⟩, fun l hl => ?_, fun p hp => ?_, fun p l hp hl => ?_, fun s hs => ?_⟩
  · have hl : l < ρ 0 0 := hl
    refine ⟨?_, (congrFun (u2_o (by omega)) l).trans (h.2.1 l hl).2.1, (congrFun (u2_o (by omega)) l).trans (h.2.1 l hl).2.2.1, (congrFun (u2_o (by omega)) l).trans (h.2.1 l hl).2.2.2.1, (congrFun (u2_o (by omega)) l).trans (h.2.1 l hl).2.2.2.2⟩
    by_cases e : l = i
    · subst e; rw [up2_at]; exact u2_at _ _ _ _
    · rw [up2_n e]; exact (u2_n e).trans (h.2.1 l hl).1
  · have hp : p < ρ 0 1 := hp
    refine ⟨(congrFun (u2_o (by omega)) p).trans (h.2.2.1 p hp).1, (congrFun (u2_o (by omega)) p).trans (h.2.2.1 p hp).2.1, (congrFun (u2_o (by omega)) p).trans (h.2.2.1 p hp).2.2.1, (congrFun (u2_o (by omega)) p).trans (h.2.2.1 p hp).2.2.2.1, (congrFun (u2_o (by omega)) p).trans (h.2.2.1 p hp).2.2.2.2.1, (congrFun (u2_o (by omega)) p).trans (h.2.2.1 p hp).2.2.2.2.2⟩
  · have hp : p < ρ 0 1 := hp; have hl : l < ρ 0 0 := hl
    exact (congrFun (u2_o (by omega)) _).trans (h.2.2.2.1 p l hp hl)
  · have hs : s < ρ 0 6 := hs
    exact ⟨(congrFun (u2_o (by omega)) s).trans (h.2.2.2.2 s hs).1, (congrFun (u2_o (by omega)) s).trans (h.2.2.2.2 s hs).2.1, (congrFun (u2_o (by omega)) s).trans (h.2.2.2.2 s hs).2.2⟩
theorem CR_carry {o : Nat} {ρ : Rho} {v : Nat → Nat → Int32} {i : Nat} {x : Nat} (hi : i < ρ 0 0) (h : CR o ρ v) (hL : ρ 0 0 ≤ 5) : CR o (up2 ρ 5 i x) (u2 v (o + 5) i (cI x)) := by
  refine ⟨⟨(congrFun (u2_o (by omega)) 0).trans h.1.1, (congrFun (u2_o (by omega)) 1).trans h.1.2.1, (congrFun (u2_o (by omega)) 2).trans h.1.2.2.1, (congrFun (u2_o (by omega)) 3).trans h.1.2.2.2.1, (congrFun (u2_o (by omega)) 4).trans h.1.2.2.2.2.1, (congrFun (u2_o (by omega)) 5).trans h.1.2.2.2.2.2.1, (congrFun (u2_o (by omega)) 0).trans h.1.2.2.2.2.2.2⟩, fun l hl => ?_, fun p hp => ?_, fun p l hp hl => ?_, fun s hs => ?_⟩
  · have hl : l < ρ 0 0 := hl
    refine ⟨(congrFun (u2_o (by omega)) l).trans (h.2.1 l hl).1, (congrFun (u2_o (by omega)) l).trans (h.2.1 l hl).2.1, (congrFun (u2_o (by omega)) l).trans (h.2.1 l hl).2.2.1, (congrFun (u2_o (by omega)) l).trans (h.2.1 l hl).2.2.2.1, ?_⟩
    by_cases e : l = i
    · subst e; rw [up2_at]; exact u2_at _ _ _ _
    · rw [up2_n e]; exact (u2_n e).trans (h.2.1 l hl).2.2.2.2
  · have hp : p < ρ 0 1 := hp
    refine ⟨(congrFun (u2_o (by omega)) p).trans (h.2.2.1 p hp).1, (congrFun (u2_o (by omega)) p).trans (h.2.2.1 p hp).2.1, (congrFun (u2_o (by omega)) p).trans (h.2.2.1 p hp).2.2.1, (congrFun (u2_o (by omega)) p).trans (h.2.2.1 p hp).2.2.2.1, (congrFun (u2_o (by omega)) p).trans (h.2.2.1 p hp).2.2.2.2.1, (congrFun (u2_o (by omega)) p).trans (h.2.2.1 p hp).2.2.2.2.2⟩
  · have hp : p < ρ 0 1 := hp; have hl : l < ρ 0 0 := hl
    exact (congrFun (u2_o (by omega)) _).trans (h.2.2.2.1 p l hp hl)
  · have hs : s < ρ 0 6 := hs
    exact ⟨(congrFun (u2_o (by omega)) s).trans (h.2.2.2.2 s hs).1, (congrFun (u2_o (by omega)) s).trans (h.2.2.2.2 s hs).2.1, (congrFun (u2_o (by omega)) s).trans (h.2.2.2.2 s hs).2.2⟩
theorem CR_time {o : Nat} {ρ : Rho} {v : Nat → Nat → Int32} {i : Nat} {x : Nat} (hi : i < ρ 0 1) (h : CR o ρ v) (hL : ρ 0 0 ≤ 5) : CR o (up2 ρ 6 i x) (u2 v (o + 6) i (nI x)) := by
  refine ⟨⟨(congrFun (u2_o (by omega)) 0).trans h.1.1, (congrFun (u2_o (by omega)) 1).trans h.1.2.1, (congrFun (u2_o (by omega)) 2).trans h.1.2.2.1, (congrFun (u2_o (by omega)) 3).trans h.1.2.2.2.1, (congrFun (u2_o (by omega)) 4).trans h.1.2.2.2.2.1, (congrFun (u2_o (by omega)) 5).trans h.1.2.2.2.2.2.1, (congrFun (u2_o (by omega)) 0).trans h.1.2.2.2.2.2.2⟩, fun l hl => ?_, fun p hp => ?_, fun p l hp hl => ?_, fun s hs => ?_⟩
  · have hl : l < ρ 0 0 := hl
    refine ⟨(congrFun (u2_o (by omega)) l).trans (h.2.1 l hl).1, (congrFun (u2_o (by omega)) l).trans (h.2.1 l hl).2.1, (congrFun (u2_o (by omega)) l).trans (h.2.1 l hl).2.2.1, (congrFun (u2_o (by omega)) l).trans (h.2.1 l hl).2.2.2.1, (congrFun (u2_o (by omega)) l).trans (h.2.1 l hl).2.2.2.2⟩
  · have hp : p < ρ 0 1 := hp
    refine ⟨?_, (congrFun (u2_o (by omega)) p).trans (h.2.2.1 p hp).2.1, (congrFun (u2_o (by omega)) p).trans (h.2.2.1 p hp).2.2.1, (congrFun (u2_o (by omega)) p).trans (h.2.2.1 p hp).2.2.2.1, (congrFun (u2_o (by omega)) p).trans (h.2.2.1 p hp).2.2.2.2.1, (congrFun (u2_o (by omega)) p).trans (h.2.2.1 p hp).2.2.2.2.2⟩
    by_cases e : p = i
    · subst e; rw [up2_at]; exact u2_at _ _ _ _
    · rw [up2_n e]; exact (u2_n e).trans (h.2.2.1 p hp).1
  · have hp : p < ρ 0 1 := hp; have hl : l < ρ 0 0 := hl
    exact (congrFun (u2_o (by omega)) _).trans (h.2.2.2.1 p l hp hl)
  · have hs : s < ρ 0 6 := hs
    exact ⟨(congrFun (u2_o (by omega)) s).trans (h.2.2.2.2 s hs).1, (congrFun (u2_o (by omega)) s).trans (h.2.2.2.2 s hs).2.1, (congrFun (u2_o (by omega)) s).trans (h.2.2.2.2 s hs).2.2⟩
theorem CR_purse {o : Nat} {ρ : Rho} {v : Nat → Nat → Int32} {i : Nat} {x : Nat} (hi : i < ρ 0 1) (h : CR o ρ v) (hL : ρ 0 0 ≤ 5) : CR o (up2 ρ 9 i x) (u2 v (o + 9) i (nI x)) := by
  refine ⟨⟨(congrFun (u2_o (by omega)) 0).trans h.1.1, (congrFun (u2_o (by omega)) 1).trans h.1.2.1, (congrFun (u2_o (by omega)) 2).trans h.1.2.2.1, (congrFun (u2_o (by omega)) 3).trans h.1.2.2.2.1, (congrFun (u2_o (by omega)) 4).trans h.1.2.2.2.2.1, (congrFun (u2_o (by omega)) 5).trans h.1.2.2.2.2.2.1, (congrFun (u2_o (by omega)) 0).trans h.1.2.2.2.2.2.2⟩, fun l hl => ?_, fun p hp => ?_, fun p l hp hl => ?_, fun s hs => ?_⟩
  · have hl : l < ρ 0 0 := hl
    refine ⟨(congrFun (u2_o (by omega)) l).trans (h.2.1 l hl).1, (congrFun (u2_o (by omega)) l).trans (h.2.1 l hl).2.1, (congrFun (u2_o (by omega)) l).trans (h.2.1 l hl).2.2.1, (congrFun (u2_o (by omega)) l).trans (h.2.1 l hl).2.2.2.1, (congrFun (u2_o (by omega)) l).trans (h.2.1 l hl).2.2.2.2⟩
  · have hp : p < ρ 0 1 := hp
    refine ⟨(congrFun (u2_o (by omega)) p).trans (h.2.2.1 p hp).1, (congrFun (u2_o (by omega)) p).trans (h.2.2.1 p hp).2.1, (congrFun (u2_o (by omega)) p).trans (h.2.2.1 p hp).2.2.1, ?_, (congrFun (u2_o (by omega)) p).trans (h.2.2.1 p hp).2.2.2.2.1, (congrFun (u2_o (by omega)) p).trans (h.2.2.1 p hp).2.2.2.2.2⟩
    by_cases e : p = i
    · subst e; rw [up2_at]; exact u2_at _ _ _ _
    · rw [up2_n e]; exact (u2_n e).trans (h.2.2.1 p hp).2.2.2.1
  · have hp : p < ρ 0 1 := hp; have hl : l < ρ 0 0 := hl
    exact (congrFun (u2_o (by omega)) _).trans (h.2.2.2.1 p l hp hl)
  · have hs : s < ρ 0 6 := hs
    exact ⟨(congrFun (u2_o (by omega)) s).trans (h.2.2.2.2 s hs).1, (congrFun (u2_o (by omega)) s).trans (h.2.2.2.2 s hs).2.1, (congrFun (u2_o (by omega)) s).trans (h.2.2.2.2 s hs).2.2⟩
theorem CR_refuses {o : Nat} {ρ : Rho} {v : Nat → Nat → Int32} {i : Nat} {x : Nat} (hi : i < ρ 0 1) (h : CR o ρ v) (hL : ρ 0 0 ≤ 5) : CR o (up2 ρ 10 i x) (u2 v (o + 10) i (nI x)) := by
  refine ⟨⟨(congrFun (u2_o (by omega)) 0).trans h.1.1, (congrFun (u2_o (by omega)) 1).trans h.1.2.1, (congrFun (u2_o (by omega)) 2).trans h.1.2.2.1, (congrFun (u2_o (by omega)) 3).trans h.1.2.2.2.1, (congrFun (u2_o (by omega)) 4).trans h.1.2.2.2.2.1, (congrFun (u2_o (by omega)) 5).trans h.1.2.2.2.2.2.1, (congrFun (u2_o (by omega)) 0).trans h.1.2.2.2.2.2.2⟩, fun l hl => ?_, fun p hp => ?_, fun p l hp hl => ?_, fun s hs => ?_⟩
  · have hl : l < ρ 0 0 := hl
    refine ⟨(congrFun (u2_o (by omega)) l).trans (h.2.1 l hl).1, (congrFun (u2_o (by omega)) l).trans (h.2.1 l hl).2.1, (congrFun (u2_o (by omega)) l).trans (h.2.1 l hl).2.2.1, (congrFun (u2_o (by omega)) l).trans (h.2.1 l hl).2.2.2.1, (congrFun (u2_o (by omega)) l).trans (h.2.1 l hl).2.2.2.2⟩
  · have hp : p < ρ 0 1 := hp
    refine ⟨(congrFun (u2_o (by omega)) p).trans (h.2.2.1 p hp).1, (congrFun (u2_o (by omega)) p).trans (h.2.2.1 p hp).2.1, (congrFun (u2_o (by omega)) p).trans (h.2.2.1 p hp).2.2.1, (congrFun (u2_o (by omega)) p).trans (h.2.2.1 p hp).2.2.2.1, ?_, (congrFun (u2_o (by omega)) p).trans (h.2.2.1 p hp).2.2.2.2.2⟩
    by_cases e : p = i
    · subst e; rw [up2_at]; exact u2_at _ _ _ _
    · rw [up2_n e]; exact (u2_n e).trans (h.2.2.1 p hp).2.2.2.2.1
  · have hp : p < ρ 0 1 := hp; have hl : l < ρ 0 0 := hl
    exact (congrFun (u2_o (by omega)) _).trans (h.2.2.2.1 p l hp hl)
  · have hs : s < ρ 0 6 := hs
    exact ⟨(congrFun (u2_o (by omega)) s).trans (h.2.2.2.2 s hs).1, (congrFun (u2_o (by omega)) s).trans (h.2.2.2.2 s hs).2.1, (congrFun (u2_o (by omega)) s).trans (h.2.2.2.2 s hs).2.2⟩
theorem CR_wants {o : Nat} {ρ : Rho} {v : Nat → Nat → Int32} {i : Nat} {x : Nat} (hi : i < ρ 0 1) (h : CR o ρ v) (hL : ρ 0 0 ≤ 5) : CR o (up2 ρ 11 i x) (u2 v (o + 11) i (nI x)) := by
  refine ⟨⟨(congrFun (u2_o (by omega)) 0).trans h.1.1, (congrFun (u2_o (by omega)) 1).trans h.1.2.1, (congrFun (u2_o (by omega)) 2).trans h.1.2.2.1, (congrFun (u2_o (by omega)) 3).trans h.1.2.2.2.1, (congrFun (u2_o (by omega)) 4).trans h.1.2.2.2.2.1, (congrFun (u2_o (by omega)) 5).trans h.1.2.2.2.2.2.1, (congrFun (u2_o (by omega)) 0).trans h.1.2.2.2.2.2.2⟩, fun l hl => ?_, fun p hp => ?_, fun p l hp hl => ?_, fun s hs => ?_⟩
  · have hl : l < ρ 0 0 := hl
    refine ⟨(congrFun (u2_o (by omega)) l).trans (h.2.1 l hl).1, (congrFun (u2_o (by omega)) l).trans (h.2.1 l hl).2.1, (congrFun (u2_o (by omega)) l).trans (h.2.1 l hl).2.2.1, (congrFun (u2_o (by omega)) l).trans (h.2.1 l hl).2.2.2.1, (congrFun (u2_o (by omega)) l).trans (h.2.1 l hl).2.2.2.2⟩
  · have hp : p < ρ 0 1 := hp
    refine ⟨(congrFun (u2_o (by omega)) p).trans (h.2.2.1 p hp).1, (congrFun (u2_o (by omega)) p).trans (h.2.2.1 p hp).2.1, (congrFun (u2_o (by omega)) p).trans (h.2.2.1 p hp).2.2.1, (congrFun (u2_o (by omega)) p).trans (h.2.2.1 p hp).2.2.2.1, (congrFun (u2_o (by omega)) p).trans (h.2.2.1 p hp).2.2.2.2.1, ?_⟩
    by_cases e : p = i
    · subst e; rw [up2_at]; exact u2_at _ _ _ _
    · rw [up2_n e]; exact (u2_n e).trans (h.2.2.1 p hp).2.2.2.2.2
  · have hp : p < ρ 0 1 := hp; have hl : l < ρ 0 0 := hl
    exact (congrFun (u2_o (by omega)) _).trans (h.2.2.2.1 p l hp hl)
  · have hs : s < ρ 0 6 := hs
    exact ⟨(congrFun (u2_o (by omega)) s).trans (h.2.2.2.2 s hs).1, (congrFun (u2_o (by omega)) s).trans (h.2.2.2.2 s hs).2.1, (congrFun (u2_o (by omega)) s).trans (h.2.2.2.2 s hs).2.2⟩
theorem CR_broke {o : Nat} {ρ : Rho} {v : Nat → Nat → Int32} {i j : Nat} {x : Nat} (hi : i < ρ 0 1) (hj : j < ρ 0 0) (h : CR o ρ v) (hL : ρ 0 0 ≤ 5) : CR o (up2 ρ 12 (5 * i + j) x) (u2 v (o + 12) (5 * i + j) (nI x)) := by
  refine ⟨⟨(congrFun (u2_o (by omega)) 0).trans h.1.1, (congrFun (u2_o (by omega)) 1).trans h.1.2.1, (congrFun (u2_o (by omega)) 2).trans h.1.2.2.1, (congrFun (u2_o (by omega)) 3).trans h.1.2.2.2.1, (congrFun (u2_o (by omega)) 4).trans h.1.2.2.2.2.1, (congrFun (u2_o (by omega)) 5).trans h.1.2.2.2.2.2.1, (congrFun (u2_o (by omega)) 0).trans h.1.2.2.2.2.2.2⟩, fun l hl => ?_, fun p hp => ?_, fun p l hp hl => ?_, fun s hs => ?_⟩
  · have hl : l < ρ 0 0 := hl
    refine ⟨(congrFun (u2_o (by omega)) l).trans (h.2.1 l hl).1, (congrFun (u2_o (by omega)) l).trans (h.2.1 l hl).2.1, (congrFun (u2_o (by omega)) l).trans (h.2.1 l hl).2.2.1, (congrFun (u2_o (by omega)) l).trans (h.2.1 l hl).2.2.2.1, (congrFun (u2_o (by omega)) l).trans (h.2.1 l hl).2.2.2.2⟩
  · have hp : p < ρ 0 1 := hp
    refine ⟨(congrFun (u2_o (by omega)) p).trans (h.2.2.1 p hp).1, (congrFun (u2_o (by omega)) p).trans (h.2.2.1 p hp).2.1, (congrFun (u2_o (by omega)) p).trans (h.2.2.1 p hp).2.2.1, (congrFun (u2_o (by omega)) p).trans (h.2.2.1 p hp).2.2.2.1, (congrFun (u2_o (by omega)) p).trans (h.2.2.1 p hp).2.2.2.2.1, (congrFun (u2_o (by omega)) p).trans (h.2.2.1 p hp).2.2.2.2.2⟩
  · have hp : p < ρ 0 1 := hp; have hl : l < ρ 0 0 := hl
    by_cases e : p = i ∧ l = j
    · obtain ⟨rfl, rfl⟩ := e; rw [up2_at]; exact u2_at _ _ _ _
    · rw [up2_n (by omega)]; exact (u2_n (by omega)).trans (h.2.2.2.1 p l hp hl)
  · have hs : s < ρ 0 6 := hs
    exact ⟨(congrFun (u2_o (by omega)) s).trans (h.2.2.2.2 s hs).1, (congrFun (u2_o (by omega)) s).trans (h.2.2.2.2 s hs).2.1, (congrFun (u2_o (by omega)) s).trans (h.2.2.2.2 s hs).2.2⟩
theorem CR_year {o : Nat} {ρ : Rho} {v : Nat → Nat → Int32}  {x : Nat}  (h : CR o ρ v) (hL : ρ 0 0 ≤ 5) : CR o (up2 ρ 0 2 x) (u2 v o 2 (nI x)) := by
  refine ⟨⟨(u2_n (by decide)).trans h.1.1, (u2_n (by decide)).trans h.1.2.1, u2_at _ _ _ _, (u2_n (by decide)).trans h.1.2.2.2.1, (u2_n (by decide)).trans h.1.2.2.2.2.1, (u2_n (by decide)).trans h.1.2.2.2.2.2.1, (congrFun (u2_o (by omega)) 0).trans h.1.2.2.2.2.2.2⟩, fun l hl => ?_, fun p hp => ?_, fun p l hp hl => ?_, fun s hs => ?_⟩
  · have hl : l < ρ 0 0 := hl
    refine ⟨(congrFun (u2_o (by omega)) l).trans (h.2.1 l hl).1, (congrFun (u2_o (by omega)) l).trans (h.2.1 l hl).2.1, (congrFun (u2_o (by omega)) l).trans (h.2.1 l hl).2.2.1, (congrFun (u2_o (by omega)) l).trans (h.2.1 l hl).2.2.2.1, (congrFun (u2_o (by omega)) l).trans (h.2.1 l hl).2.2.2.2⟩
  · have hp : p < ρ 0 1 := hp
    refine ⟨(congrFun (u2_o (by omega)) p).trans (h.2.2.1 p hp).1, (congrFun (u2_o (by omega)) p).trans (h.2.2.1 p hp).2.1, (congrFun (u2_o (by omega)) p).trans (h.2.2.1 p hp).2.2.1, (congrFun (u2_o (by omega)) p).trans (h.2.2.1 p hp).2.2.2.1, (congrFun (u2_o (by omega)) p).trans (h.2.2.1 p hp).2.2.2.2.1, (congrFun (u2_o (by omega)) p).trans (h.2.2.1 p hp).2.2.2.2.2⟩
  · have hp : p < ρ 0 1 := hp; have hl : l < ρ 0 0 := hl
    exact (congrFun (u2_o (by omega)) _).trans (h.2.2.2.1 p l hp hl)
  · have hs : s < ρ 0 6 := hs
    exact ⟨(congrFun (u2_o (by omega)) s).trans (h.2.2.2.2 s hs).1, (congrFun (u2_o (by omega)) s).trans (h.2.2.2.2 s hs).2.1, (congrFun (u2_o (by omega)) s).trans (h.2.2.2.2 s hs).2.2⟩
theorem CR_done {o : Nat} {ρ : Rho} {v : Nat → Nat → Int32}  {x : Nat}  (h : CR o ρ v) (hL : ρ 0 0 ≤ 5) : CR o (up2 ρ 0 3 x) (u2 v o 3 (nI x)) := by
  refine ⟨⟨(u2_n (by decide)).trans h.1.1, (u2_n (by decide)).trans h.1.2.1, (u2_n (by decide)).trans h.1.2.2.1, u2_at _ _ _ _, (u2_n (by decide)).trans h.1.2.2.2.2.1, (u2_n (by decide)).trans h.1.2.2.2.2.2.1, (congrFun (u2_o (by omega)) 0).trans h.1.2.2.2.2.2.2⟩, fun l hl => ?_, fun p hp => ?_, fun p l hp hl => ?_, fun s hs => ?_⟩
  · have hl : l < ρ 0 0 := hl
    refine ⟨(congrFun (u2_o (by omega)) l).trans (h.2.1 l hl).1, (congrFun (u2_o (by omega)) l).trans (h.2.1 l hl).2.1, (congrFun (u2_o (by omega)) l).trans (h.2.1 l hl).2.2.1, (congrFun (u2_o (by omega)) l).trans (h.2.1 l hl).2.2.2.1, (congrFun (u2_o (by omega)) l).trans (h.2.1 l hl).2.2.2.2⟩
  · have hp : p < ρ 0 1 := hp
    refine ⟨(congrFun (u2_o (by omega)) p).trans (h.2.2.1 p hp).1, (congrFun (u2_o (by omega)) p).trans (h.2.2.1 p hp).2.1, (congrFun (u2_o (by omega)) p).trans (h.2.2.1 p hp).2.2.1, (congrFun (u2_o (by omega)) p).trans (h.2.2.1 p hp).2.2.2.1, (congrFun (u2_o (by omega)) p).trans (h.2.2.1 p hp).2.2.2.2.1, (congrFun (u2_o (by omega)) p).trans (h.2.2.1 p hp).2.2.2.2.2⟩
  · have hp : p < ρ 0 1 := hp; have hl : l < ρ 0 0 := hl
    exact (congrFun (u2_o (by omega)) _).trans (h.2.2.2.1 p l hp hl)
  · have hs : s < ρ 0 6 := hs
    exact ⟨(congrFun (u2_o (by omega)) s).trans (h.2.2.2.2 s hs).1, (congrFun (u2_o (by omega)) s).trans (h.2.2.2.2 s hs).2.1, (congrFun (u2_o (by omega)) s).trans (h.2.2.2.2 s hs).2.2⟩
theorem CR_stands {o : Nat} {ρ : Rho} {v : Nat → Nat → Int32}  {x : Nat}  (h : CR o ρ v) (hL : ρ 0 0 ≤ 5) : CR o (up2 ρ 0 4 x) (u2 v o 4 (nI x)) := by
  refine ⟨⟨(u2_n (by decide)).trans h.1.1, (u2_n (by decide)).trans h.1.2.1, (u2_n (by decide)).trans h.1.2.2.1, (u2_n (by decide)).trans h.1.2.2.2.1, u2_at _ _ _ _, (u2_n (by decide)).trans h.1.2.2.2.2.2.1, (congrFun (u2_o (by omega)) 0).trans h.1.2.2.2.2.2.2⟩, fun l hl => ?_, fun p hp => ?_, fun p l hp hl => ?_, fun s hs => ?_⟩
  · have hl : l < ρ 0 0 := hl
    refine ⟨(congrFun (u2_o (by omega)) l).trans (h.2.1 l hl).1, (congrFun (u2_o (by omega)) l).trans (h.2.1 l hl).2.1, (congrFun (u2_o (by omega)) l).trans (h.2.1 l hl).2.2.1, (congrFun (u2_o (by omega)) l).trans (h.2.1 l hl).2.2.2.1, (congrFun (u2_o (by omega)) l).trans (h.2.1 l hl).2.2.2.2⟩
  · have hp : p < ρ 0 1 := hp
    refine ⟨(congrFun (u2_o (by omega)) p).trans (h.2.2.1 p hp).1, (congrFun (u2_o (by omega)) p).trans (h.2.2.1 p hp).2.1, (congrFun (u2_o (by omega)) p).trans (h.2.2.1 p hp).2.2.1, (congrFun (u2_o (by omega)) p).trans (h.2.2.1 p hp).2.2.2.1, (congrFun (u2_o (by omega)) p).trans (h.2.2.1 p hp).2.2.2.2.1, (congrFun (u2_o (by omega)) p).trans (h.2.2.1 p hp).2.2.2.2.2⟩
  · have hp : p < ρ 0 1 := hp; have hl : l < ρ 0 0 := hl
    exact (congrFun (u2_o (by omega)) _).trans (h.2.2.2.1 p l hp hl)
  · have hs : s < ρ 0 6 := hs
    exact ⟨(congrFun (u2_o (by omega)) s).trans (h.2.2.2.2 s hs).1, (congrFun (u2_o (by omega)) s).trans (h.2.2.2.2 s hs).2.1, (congrFun (u2_o (by omega)) s).trans (h.2.2.2.2 s hs).2.2⟩
theorem CR_watched {o : Nat} {ρ : Rho} {v : Nat → Nat → Int32}  {x : Nat}  (h : CR o ρ v) (hL : ρ 0 0 ≤ 5) : CR o (up2 ρ 0 5 x) (u2 v o 5 (nI x)) := by
  refine ⟨⟨(u2_n (by decide)).trans h.1.1, (u2_n (by decide)).trans h.1.2.1, (u2_n (by decide)).trans h.1.2.2.1, (u2_n (by decide)).trans h.1.2.2.2.1, (u2_n (by decide)).trans h.1.2.2.2.2.1, u2_at _ _ _ _, (congrFun (u2_o (by omega)) 0).trans h.1.2.2.2.2.2.2⟩, fun l hl => ?_, fun p hp => ?_, fun p l hp hl => ?_, fun s hs => ?_⟩
  · have hl : l < ρ 0 0 := hl
    refine ⟨(congrFun (u2_o (by omega)) l).trans (h.2.1 l hl).1, (congrFun (u2_o (by omega)) l).trans (h.2.1 l hl).2.1, (congrFun (u2_o (by omega)) l).trans (h.2.1 l hl).2.2.1, (congrFun (u2_o (by omega)) l).trans (h.2.1 l hl).2.2.2.1, (congrFun (u2_o (by omega)) l).trans (h.2.1 l hl).2.2.2.2⟩
  · have hp : p < ρ 0 1 := hp
    refine ⟨(congrFun (u2_o (by omega)) p).trans (h.2.2.1 p hp).1, (congrFun (u2_o (by omega)) p).trans (h.2.2.1 p hp).2.1, (congrFun (u2_o (by omega)) p).trans (h.2.2.1 p hp).2.2.1, (congrFun (u2_o (by omega)) p).trans (h.2.2.1 p hp).2.2.2.1, (congrFun (u2_o (by omega)) p).trans (h.2.2.1 p hp).2.2.2.2.1, (congrFun (u2_o (by omega)) p).trans (h.2.2.1 p hp).2.2.2.2.2⟩
  · have hp : p < ρ 0 1 := hp; have hl : l < ρ 0 0 := hl
    exact (congrFun (u2_o (by omega)) _).trans (h.2.2.2.1 p l hp hl)
  · have hs : s < ρ 0 6 := hs
    exact ⟨(congrFun (u2_o (by omega)) s).trans (h.2.2.2.2 s hs).1, (congrFun (u2_o (by omega)) s).trans (h.2.2.2.2 s hs).2.1, (congrFun (u2_o (by omega)) s).trans (h.2.2.2.2 s hs).2.2⟩
end
/-! 80.inv.lean.txt -/
section
/-! what ties the class to the reference at the law's loop. S: the realm, the images, the rest (0 how long THE TAPE is, 1 its bytes, 2 the FAULT of the latest text, 3 which images are kept, 4 lanes (-4: nothing), 5 sizes, 6 cells, 7 the FAULT of the latest read as the class has it, 8 as the reference has it) -/
abbrev Sg : Type := Rho × (Nat → Rho) × (Nat → Nat → Int)
def SAME (ρ σ : Rho) : Prop := σ 0 0 = ρ 0 0 ∧ σ 0 1 = ρ 0 1 ∧ σ 2 = ρ 2 ∧ σ 3 = ρ 3 ∧ σ 4 = ρ 4 ∧ σ 7 = ρ 7 ∧ σ 8 = ρ 8
def SOK (S : Sg) : Prop :=
  ROK S.1 ∧ (∀ k, k < 2 → S.2.2 3 k = 0 ∨ S.2.2 3 k = 1 ∧ ROK (S.2.1 k) ∧ SAME S.1 (S.2.1 k)) ∧ (0 ≤ S.2.2 0 0 ∧ S.2.2 0 0 ≤ 160) ∧ (∀ j : Nat, (j : Int) < S.2.2 0 0 → 0 ≤ S.2.2 1 j ∧ S.2.2 1 j ≤ 127) ∧ (0 ≤ S.2.2 2 0 ∧ S.2.2 2 0 ≤ 6) ∧
  (∀ k, k < 4 → (S.2.2 4 k = -4 ∨ 0 ≤ S.2.2 4 k ∧ S.2.2 4 k ≤ 2) ∧ 0 ≤ S.2.2 5 k ∧ S.2.2 5 k ≤ 40)
def MI (S : Sg) (v : Nat → Nat → Int32) : Prop :=
  MR S.1 v ∧ (∀ k, k < 2 → v 102 k = zI (S.2.2 3 k) ∧ (S.2.2 3 k = 1 → MB 101 (66 * (k + 1)) (S.2.1 k) v)) ∧ v 100 20 = zI (S.2.2 0 0) ∧ (∀ j : Nat, (j : Int) < S.2.2 0 0 → v 114 j = zI (S.2.2 1 j)) ∧ v 100 25 = zI (S.2.2 2 0) ∧
  (∀ k, k < 4 → v 123 k = zI (S.2.2 4 k) ∧ v 124 k = zI (S.2.2 5 k) ∧ ∀ i, i < 40 → v 125 (40 * k + i) = zI (S.2.2 6 (40 * k + i))) ∧ v 100 38 = zI (S.2.2 8 0)
def CI (S : Sg) (v : Nat → Nat → Int32) : Prop :=
  CR 3 S.1 v ∧ (∀ k, k < 2 → v 38 k = zI (S.2.2 3 k) ∧ (S.2.2 3 k = 1 → CR (58 + 17 * k) (S.2.1 k) v)) ∧ v 1 1 = zI (S.2.2 0 0) ∧ (∀ j : Nat, (j : Int) < S.2.2 0 0 → v 2 j = zI (S.2.2 1 j)) ∧ v 1 2 = zI (S.2.2 2 0) ∧
  (∀ k, k < 4 → v (92 + 2 * k) 0 = zI (if S.2.2 4 k = -4 then -4 else S.2.2 5 k) ∧ (S.2.2 4 k ≠ -4 → v (92 + 2 * k) 1 = zI (S.2.2 4 k)) ∧ ∀ i, i < 40 → v (93 + 2 * k) i = zI (S.2.2 6 (40 * k + i))) ∧ v 0 9 = zI (S.2.2 7 0) ∧ v 43 0 = 0
theorem CR.frame {o : Nat} {ρ : Rho} {v v' : Nat → Nat → Int32} (h : CR o ρ v) (hv : ∀ p, o ≤ p → p < o + 17 → v' p = v p) : CR o ρ v' := by
  unfold CR
  rw [hv o (by omega) (by omega), hv (o + 1) (by omega) (by omega), hv (o + 2) (by omega) (by omega), hv (o + 3) (by omega) (by omega), hv (o + 4) (by omega) (by omega), hv (o + 5) (by omega) (by omega), hv (o + 6) (by omega) (by omega), hv (o + 7) (by omega) (by omega), hv (o + 8) (by omega) (by omega), hv (o + 9) (by omega) (by omega), hv (o + 10) (by omega) (by omega), hv (o + 11) (by omega) (by omega), hv (o + 12) (by omega) (by omega), hv (o + 13) (by omega) (by omega), hv (o + 14) (by omega) (by omega), hv (o + 15) (by omega) (by omega), hv (o + 16) (by omega) (by omega)]
  exact h
theorem CI.frame {S : Sg} {v v' : Nat → Nat → Int32} (h : CI S v) (hv : ∀ p, p < 100 → v' p = v p) : CI S v' := by
  obtain ⟨h1, h2, h3, h4, h5, h6, h7⟩ := h
  unfold CI
  rw [hv 38 (by omega), hv 1 (by omega), hv 2 (by omega), hv 0 (by omega), hv 43 (by omega)]
  refine ⟨h1.frame (fun p _ _ => hv p (by omega)), fun k hk => ⟨(h2 k hk).1, fun z => ((h2 k hk).2 z).frame (fun p _ _ => hv p (by omega))⟩, h3, h4, h5, fun k hk => ?_, h7⟩
  rw [hv (92 + 2 * k) (by omega), hv (93 + 2 * k) (by omega)]
  exact h6 k hk
theorem MB.frame {q k : Nat} {ρ : Rho} {v v' : Nat → Nat → Int32} (h : MB q k ρ v) (hv : v' q = v q) : MB q k ρ v' := by
  unfold MB
  rw [hv]
  exact h
theorem MI.frame {S : Sg} {v v' : Nat → Nat → Int32} (h : MI S v) (hv : ∀ p, 100 ≤ p → v' p = v p) : MI S v' := by
  obtain ⟨⟨h1, h1b⟩, h2, h3, h4, h5, h6, h7⟩ := h
  unfold MI MR MF
  rw [hv 102 (by omega), hv 100 (by omega), hv 114 (by omega), hv 123 (by omega), hv 124 (by omega), hv 125 (by omega), hv 103 (by omega), hv 104 (by omega), hv 105 (by omega), hv 106 (by omega), hv 107 (by omega)]
  exact ⟨⟨h1, h1b.frame (hv 101 (by omega))⟩, fun k hk => ⟨(h2 k hk).1, fun z => ((h2 k hk).2 z).frame (hv 101 (by omega))⟩, h3, h4, h5, h6, h7⟩
/-- class and reference answer alike, and go on alike -/
def Eqv (S : Sg) (v : Nat → Nat → Int32) (w : Nat → Nat → Int64) (fq fm : mH → Option (Int32 × mH)) : Prop :=
  ∃ (r : Int32) (v1 : Nat → Nat → Int32) (w1 : Nat → Nat → Int64) (v2 : Nat → Nat → Int32) (w2 : Nat → Nat → Int64) (S' : Sg), fq (bh v w) = some (r, bh v1 w1) ∧ fm (bh v1 w1) = some (r, bh v2 w2) ∧ SOK S' ∧ CI S' v2 ∧ MI S' v2
theorem ix {x : Int32} {n : Nat} (hn : n < 2 ^ 31) (h : 0 ≤ x.toInt ∧ x.toInt < n) : ∃ j, j < n ∧ x = nI j := vp_in_of (vp_in_iff.mpr h) hn
section
variable {S S' : Sg} {v : Nat → Nat → Int32} {w : Nat → Nat → Int64}
theorem Eqv.query {fq fm : mH → Option (Int32 × mH)} {r : Int32} (hs : SOK S) (hc : CI S v) (hm : MI S v) (h1 : fq (bh v w) = some (r, bh v w)) (h2 : fm (bh v w) = some (r, bh v w)) : Eqv S v w fq fm := ⟨r, v, w, v, w, S, h1, h2, hs, hc, hm⟩
theorem Eqv.change {fq fm : mH → Option (Int32 × mH)} {r : Int32} {v1 : Nat → Nat → Int32} {w1 : Nat → Nat → Int64} (hm : MI S v) (h1 : fq (bh v w) = some (r, bh v1 w1)) (f1 : ∀ p, 100 ≤ p → v1 p = v p) (hs : SOK S') (hc : CI S' v1) (h2 : ∀ w1, MI S v1 → ∃ v2 w2, fm (bh v1 w1) = some (r, bh v2 w2) ∧ (∀ p, p < 100 → v2 p = v1 p) ∧ MI S' v2) : Eqv S v w fq fm := by
  obtain ⟨v2, w2, e, f2, hm2⟩ := h2 w1 (hm.frame f1)
  exact ⟨r, v1, w1, v2, w2, S', h1, e, hs, hc.frame f2, hm2⟩
theorem rl3 : rl 3 := Or.inl rfl
theorem q_now (v : Nat → Nat → Int32) (w : Nat → Nat → Int64) : gR (bh v w) 0 0 1 = some 3 := rfl
theorem q_rd (v : Nat → Nat → Int32) (w : Nat → Nat → Int64) : gR (bh v w) 0 0 0 = some 1 := rfl
theorem E_fault (hs : SOK S) (hc : CI S v) (hm : MI S v) : Eqv S v w (f_Q_fault 0) (f_M_fault 100) := by
  refine Eqv.query (r := zI (S.2.2 2 0)) hs hc hm ?_ ?_
  · simp only [f_Q_fault, f_Q_fault_0, hQ v w, bd1_s]
    rw [hc.2.2.2.2.1]
  · simp only [f_M_fault, f_M_fault_0, hM v w, bd1_s]
    rw [hm.2.2.2.2.1]
theorem E_torn (hs : SOK S) (hc : CI S v) (hm : MI S v) (ht : S.2.2 8 0 = S.2.2 7 0) : Eqv S v w (f_Q_torn 0) (f_M_torn 100) := by
  refine Eqv.query (r := zI (S.2.2 7 0)) hs hc hm ?_ ?_
  · simp only [f_Q_torn, f_Q_torn_0, hQ v w, bd1_s]
    rw [hc.2.2.2.2.2.2.1]
  · simp only [f_M_torn, f_M_torn_0, hM v w, bd1_s]
    rw [hm.2.2.2.2.2.2, ht]
theorem E_falls (hs : SOK S) (hc : CI S v) (hm : MI S v) : Eqv S v w (f_Q_falls 0) (f_M_falls 100) := by
  refine Eqv.query (r := nI (sFalls S.1)) hs hc hm ?_ ?_
  · simp only [f_Q_falls, f_Q_falls_0, q_now, hRl rl3 v w, bd1_s]
    rw [C_lapsing rl3 hc.1 hs.1, bd2_s]
  · simp only [f_M_falls, f_M_falls_0, hM v w, bd1_s]
    rw [M_fallsNow hm.1 hs.1, bd2_s]
theorem E_rule (x : Int32) (hs : SOK S) (hc : CI S v) (hm : MI S v) : Eqv S v w (f_Q_rule 0 x) (f_M_rule 100 x) := by
  refine Eqv.query (r := if x = 0 then v 3 0 else if x = 1 then v 3 1 else if x = 2 then v 3 2 else if x = 3 then v 3 3 else if x = 4 then v 3 4 else if x = 5 then v 3 5 else -1) hs hc hm ?_ ?_
  · simp only [f_Q_rule, f_Q_rule_0, q_now, hRl rl3 v w, bd1_s]
    repeat' split
    all_goals rfl
  · simp only [f_M_rule, f_M_rule_0, hM v w, bd1_s]
    have c1 := hc.1.1
    have m1 := hm.1.1
    have m2 := hm.1.2
    have e2 : rd (v 101) 198 (39 : Int32) = some (v 3 2) := by rw [c1.2.2.1, ← m2.2.2.2.2.2.2.2.2.2.1]; rfl
    have e3 : rd (v 101) 198 (40 : Int32) = some (v 3 3) := by rw [c1.2.2.2.1, ← m2.2.2.2.2.2.2.2.2.2.2.1]; rfl
    have e4 : rd (v 101) 198 (10 : Int32) = some (v 3 4) := by rw [c1.2.2.2.2.1, ← m2.2.2.1]; rfl
    have e5 : rd (v 101) 198 (11 : Int32) = some (v 3 5) := by rw [c1.2.2.2.2.2.1, ← m2.2.2.2.1]; rfl
    rw [e2, e3, e4, e5, m1.1, m1.2.1, c1.1, c1.2.1]
    simp only [bd1_s]
    repeat' split
    all_goals rfl
theorem E_broken (x y : Int32) (hs : SOK S) (hc : CI S v) (hm : MI S v) : Eqv S v w (f_Q_broken 0 x y) (f_M_broken 100 x y) := by
  have h1 := hs.1.1.1
  have h2 := hs.1.1.2.1
  by_cases hp : 0 ≤ x.toInt ∧ x.toInt < (S.1 0 1 : Int)
  · obtain ⟨p, hp2, rfl⟩ := ix (by omega) hp
    by_cases hl : 0 ≤ y.toInt ∧ y.toInt < (S.1 0 0 : Int)
    · obtain ⟨l, hl2, rfl⟩ := ix (by omega) hl
      refine Eqv.query (r := nI (S.1 12 (5 * p + l))) hs hc hm ?_ ?_
      · simp only [f_Q_broken, f_Q_broken_0, f_Realm_hasBoth, f_Realm_hasBoth_0, f_Realm_hasBoth_20, q_now, hRl rl3 v w, bd1_s]
        rw [C_hasOne rl3 hc.1 h2, bd2_s, if_pos hp, if_neg (by decide)]
        simp only [hRl rl3 v w, bd1_s]
        rw [C_hasLaw rl3 hc.1 h1, bd2_s, if_pos hl, if_neg (by decide), bd2_s, if_neg (by decide)]
        simp only [q_now, hRl rl3 v w, bd1_s]
        rw [C_brokenBy rl3 hc.1 hs.1 hp2 hl2, bd2_s]
      · simp only [f_M_broken, f_M_broken_0, hM v w, bd1_s]
        rw [M_isOne hm.1.1 h2, bd2_s, if_pos hp, if_neg (by decide)]
        simp only [hM v w, bd1_s]
        rw [M_isLaw hm.1.1 h1, bd2_s, if_pos hl, if_neg (by decide)]
        simp only [hM v w, bd1_s]
        rw [M_brokenBy hm.1.2 hs.1 hp2 hl2, bd2_s]
    · refine Eqv.query (r := -1) hs hc hm ?_ ?_
      · simp only [f_Q_broken, f_Q_broken_0, f_Realm_hasBoth, f_Realm_hasBoth_0, f_Realm_hasBoth_20, q_now, hRl rl3 v w, bd1_s]
        rw [C_hasOne rl3 hc.1 h2, bd2_s, if_pos hp, if_neg (by decide)]
        simp only [hRl rl3 v w, bd1_s]
        rw [C_hasLaw rl3 hc.1 h1, bd2_s, if_neg hl, if_pos rfl, bd2_s, if_pos rfl]
      · simp only [f_M_broken, f_M_broken_0, f_M_broken_25, hM v w, bd1_s]
        rw [M_isOne hm.1.1 h2, bd2_s, if_pos hp, if_neg (by decide)]
        simp only [hM v w, bd1_s]
        rw [M_isLaw hm.1.1 h1, bd2_s, if_neg hl, if_pos rfl]
  · refine Eqv.query (r := -1) hs hc hm ?_ ?_
    · simp only [f_Q_broken, f_Q_broken_0, f_Realm_hasBoth, f_Realm_hasBoth_0, f_Realm_hasBoth_20, q_now, hRl rl3 v w, bd1_s]
      rw [C_hasOne rl3 hc.1 h2, bd2_s, if_neg hp, if_pos rfl, bd2_s, if_pos rfl]
    · simp only [f_M_broken, f_M_broken_0, f_M_broken_25, hM v w, bd1_s]
      rw [M_isOne hm.1.1 h2, bd2_s, if_neg hp, if_pos rfl]
end
end
/-! 81.chg.lean.txt -/
section
section
variable {S : Sg} {ρ' : Rho} {v : Nat → Nat → Int32} {w : Nat → Nat → Int64}
theorem MB.bank {k : Nat} {σ : Rho} {j : Nat} {x : Int32} (h : MB 101 k σ v) (hj : j < k) : MB 101 k σ (u2 v 101 j x) := by
  obtain ⟨h1, h2, h3, h4, h5, h6, h7, h8, h9, h10, h11, h12, h13⟩ := h
  exact ⟨fun l hl => (u2_n (by omega)).trans (h1 l hl), fun l hl => (u2_n (by omega)).trans (h2 l hl), (u2_n (by omega)).trans h3, (u2_n (by omega)).trans h4, fun p hp => (u2_n (by omega)).trans (h5 p hp), fun p hp => (u2_n (by omega)).trans (h6 p hp), fun p hp => (u2_n (by omega)).trans (h7 p hp), fun p hp => (u2_n (by omega)).trans (h8 p hp), fun p l hp hl => (u2_n (by omega)).trans (h9 p l hp hl), (u2_n (by omega)).trans h10, (u2_n (by omega)).trans h11, (u2_n (by omega)).trans h12, fun i hi => ⟨(u2_n (by omega)).trans (h13 i hi).1, (u2_n (by omega)).trans (h13 i hi).2.1, (u2_n (by omega)).trans (h13 i hi).2.2⟩⟩
theorem MI_u {j : Nat} {x : Int32} (h : MI S v) (hj : j < 66) (hF : MF ρ' (u2 v 101 j x)) (hB : MB 101 0 ρ' (u2 v 101 j x)) : MI (ρ', S.2) (u2 v 101 j x) := by
  obtain ⟨-, h2, h3, h4, h5, h6, h7⟩ := h
  refine ⟨⟨hF, hB⟩, fun k hk => ⟨(congrFun (u2_o (by omega)) k).trans (h2 k hk).1, fun z => ((h2 k hk).2 z).bank (by omega)⟩, (congrFun (u2_o (by omega)) _).trans h3, fun i hi => (congrFun (u2_o (by omega)) i).trans (h4 i hi), (congrFun (u2_o (by omega)) _).trans h5, fun k hk => ⟨(congrFun (u2_o (by omega)) k).trans (h6 k hk).1, (congrFun (u2_o (by omega)) k).trans (h6 k hk).2.1, fun i hi => (congrFun (u2_o (by omega)) _).trans ((h6 k hk).2.2 i hi)⟩, (congrFun (u2_o (by omega)) _).trans h7⟩
theorem CI_u {q j : Nat} {x : Int32} (h : CI S v) (hq : 3 ≤ q ∧ q < 20) (hR : CR 3 ρ' (u2 v q j x)) : CI (ρ', S.2) (u2 v q j x) := by
  obtain ⟨-, h2, h3, h4, h5, h6, h7⟩ := h
  refine ⟨hR, fun k hk => ⟨(congrFun (u2_o (by omega)) k).trans (h2 k hk).1, fun z => ((h2 k hk).2 z).frame (fun p _ _ => u2_o (by omega))⟩, (congrFun (u2_o (by omega)) _).trans h3, fun i hi => (congrFun (u2_o (by omega)) i).trans (h4 i hi), (congrFun (u2_o (by omega)) _).trans h5, fun k hk => ⟨(congrFun (u2_o (by omega)) _).trans (h6 k hk).1, fun z => (congrFun (u2_o (by omega)) _).trans ((h6 k hk).2.1 z), fun i hi => (congrFun (u2_o (by omega)) i).trans ((h6 k hk).2.2 i hi)⟩, (congrFun (u2_o (by omega)) _).trans h7.1, (congrFun (u2_o (by omega)) _).trans h7.2⟩
theorem SOK_u (h : SOK S) (hk : ROK ρ') (hs : ∀ σ, SAME S.1 σ → SAME ρ' σ) : SOK (ρ', S.2) := by
  obtain ⟨-, h2, h3⟩ := h
  refine ⟨hk, fun k hk2 => ?_, h3⟩
  rcases h2 k hk2 with z | ⟨z1, z2, z3⟩
  · exact Or.inl z
  · exact Or.inr ⟨z1, z2, hs _ z3⟩
theorem u2_hi {q j : Nat} {x : Int32} (hq : q < 100) : ∀ p, 100 ≤ p → u2 v q j x p = v p := fun p hp => u2_o (by omega)
theorem u2_lo {q j : Nat} {x : Int32} (hq : 100 ≤ q) : ∀ p, p < 100 → u2 v q j x p = v p := fun p hp => u2_o (by omega)
/-- one write on each side -/
theorem Eqv.one {fq fm : mH → Option (Int32 × mH)} {r : Int32} {q j j2 : Nat} {x x2 : Int32} (hs : SOK S) (hc : CI S v) (hm : MI S v) (h1 : fq (bh v w) = some (r, bh (u2 v q j x) w)) (hq : 3 ≤ q ∧ q < 20) (hj2 : j2 < 66) (hk : ROK ρ') (hsm : ∀ σ, SAME S.1 σ → SAME ρ' σ) (hR : CR 3 ρ' (u2 v q j x))
    (h2 : ∀ v1, MI S v1 → fm (bh v1 w) = some (r, bh (u2 v1 101 j2 x2) w) ∧ MF ρ' (u2 v1 101 j2 x2) ∧ MB 101 0 ρ' (u2 v1 101 j2 x2)) : Eqv S v w fq fm := by
  have hm1 := hm.frame (v' := u2 v q j x) (u2_hi (by omega))
  obtain ⟨e, hF, hB⟩ := h2 _ hm1
  exact ⟨r, _, w, _, w, (ρ', S.2), h1, e, SOK_u hs hk hsm, (CI_u hc hq hR).frame (u2_lo (by omega)), MI_u hm1 hj2 hF hB⟩
theorem ROK_quota {ρ : Rho} {l x : Nat} (hk : ROK ρ) (hx : x ≤ 9) : ROK (up2 ρ 1 l x) := by
  refine ⟨hk.1, fun j hj => ⟨?_, (hk.2.1 j hj).2⟩, hk.2.2.1, hk.2.2.2.1, hk.2.2.2.2⟩
  by_cases e : j = l
  · subst e; rw [up2_at]; exact hx
  · rw [up2_n e]; exact (hk.2.1 j hj).1
theorem ROK_time {ρ : Rho} {p x : Nat} (hk : ROK ρ) (hx : x ≤ 5) : ROK (up2 ρ 6 p x) := by
  refine ⟨hk.1, hk.2.1, fun j hj => ⟨?_, (hk.2.2.1 j hj).2⟩, hk.2.2.2.1, hk.2.2.2.2⟩
  by_cases e : j = p
  · subst e; rw [up2_at]; exact hx
  · rw [up2_n e]; exact (hk.2.2.1 j hj).1
theorem ROK_purse {ρ : Rho} {p x : Nat} (hk : ROK ρ) (hx : x ≤ 99) : ROK (up2 ρ 9 p x) := by
  refine ⟨hk.1, hk.2.1, fun j hj => ⟨(hk.2.2.1 j hj).1, (hk.2.2.1 j hj).2.1, (hk.2.2.1 j hj).2.2.1, ?_, (hk.2.2.1 j hj).2.2.2.2⟩, hk.2.2.2.1, hk.2.2.2.2⟩
  by_cases e : j = p
  · subst e; rw [up2_at]; exact hx
  · rw [up2_n e]; exact (hk.2.2.1 j hj).2.2.2.1
theorem in_rng {x : Int32} {n : Nat} (hn : n < 2 ^ 31) : (0 : Int32).toInt ≤ x.toInt ∧ x.toInt ≤ (nI n).toInt ↔ 0 ≤ x.toInt ∧ x.toInt < ((n + 1 : Nat) : Int) := by
  rw [nI_toInt hn, show (0 : Int32).toInt = 0 from rfl]; omega
theorem in_rngL {x : Int32} {n : Nat} (hn : n < 2 ^ 31) : (0 : Int64) ≤ x.toInt64 ∧ x.toInt64 ≤ (nI n).toInt64 ↔ 0 ≤ x.toInt ∧ x.toInt < ((n + 1 : Nat) : Int) := by
  rw [show (0 : Int64) = (0 : Int32).toInt64 from rfl, i64_le, i64_le, in_rng hn]
theorem E_quota (x y : Int32) (hs : SOK S) (hc : CI S v) (hm : MI S v) : Eqv S v w (f_Q_quota 0 x y) (f_M_quota 100 x y) := by
  have h1 := hs.1.1.1
  by_cases hl : 0 ≤ x.toInt ∧ x.toInt < (S.1 0 0 : Int)
  · by_cases hy : 0 ≤ y.toInt ∧ y.toInt < ((9 + 1 : Nat) : Int)
    · obtain ⟨l, hl2, rfl⟩ := ix (by omega) hl
      obtain ⟨z, hz, rfl⟩ := ix (by omega) hy
      refine Eqv.one (r := nI (S.1 1 l)) (ρ' := up2 S.1 1 l z) (q := 4) (j := l) (x := nI z) (j2 := l) (x2 := nI z) hs hc hm ?_ (by omega) (by omega) (ROK_quota hs.1 (by omega)) (fun σ h => h) (CR_quota hl2 hc.1 h1) (fun v1 hm1 => ⟨?_, MF_u hm1.1.1 rfl rfl rfl rfl rfl rfl rfl, MB_quota h1 hs.1.1.2.1 hs.1.1.2.2.2.2.2.2 hl2 hm1.1.2⟩)
      · simp only [f_Q_quota, f_Q_quota_0, q_now, hRl rl3 v w, bd1_s]
        rw [C_hasLaw rl3 hc.1 h1, bd2_s, if_pos hl, if_neg (by decide), Q_isWithin, bd2_s, show (9 : Int32) = nI 9 from rfl, if_pos ((in_rng (by decide)).mpr hy), if_neg (by decide)]
        simp only [q_now, hRl rl3 v w, bd1_s]
        rw [rd_nI (by omega) (by decide), bd1_s, wr_nI (by omega) (by decide), bd1_s, (hc.1.2.1 l hl2).1]
      · simp only [f_M_quota, f_M_quota_0, hM v1 w, bd1_s]
        rw [M_isLaw hm1.1.1 h1, bd2_s, if_pos hl, if_neg (by decide), M_in, bd2_s, show (9 : Int64) = (nI 9).toInt64 from rfl, if_pos ((in_rngL (by decide)).mpr hy), if_neg (by decide)]
        simp only [hM v1 w, bd1_s, f_M_becomes, f_M_becomes_0]
        rw [show (0 : Int32) = nI 0 from rfl, nI_add, Nat.zero_add, rd_nI (by omega) (by decide), bd1_s, wr_nI (by omega) (by decide), bd1_s, bd2_s]
        have := hm1.1.2.1 l hl2
        rw [Nat.zero_add] at this
        rw [this]
    · refine Eqv.query (r := -1) hs hc hm ?_ ?_
      · simp only [f_Q_quota, f_Q_quota_0, f_Q_quota_21, q_now, hRl rl3 v w, bd1_s]
        rw [C_hasLaw rl3 hc.1 h1, bd2_s, if_pos hl, if_neg (by decide), Q_isWithin, bd2_s, show (9 : Int32) = nI 9 from rfl, if_neg (fun z => hy ((in_rng (by decide)).mp z)), if_pos rfl]
      · simp only [f_M_quota, f_M_quota_0, f_M_quota_31, hM v w, bd1_s]
        rw [M_isLaw hm.1.1 h1, bd2_s, if_pos hl, if_neg (by decide), M_in, bd2_s, show (9 : Int64) = (nI 9).toInt64 from rfl, if_neg (fun z => hy ((in_rngL (by decide)).mp z)), if_pos rfl]
  · refine Eqv.query (r := -1) hs hc hm ?_ ?_
    · simp only [f_Q_quota, f_Q_quota_0, f_Q_quota_21, q_now, hRl rl3 v w, bd1_s]
      rw [C_hasLaw rl3 hc.1 h1, bd2_s, if_neg hl, if_pos rfl]
    · simp only [f_M_quota, f_M_quota_0, f_M_quota_31, hM v w, bd1_s]
      rw [M_isLaw hm.1.1 h1, bd2_s, if_neg hl, if_pos rfl]
end
end
/-! 82.chg2.lean.txt -/
section
section
variable {S : Sg} {ρ' : Rho} {v : Nat → Nat → Int32} {w : Nat → Nat → Int64}
theorem E_time (x y : Int32) (hs : SOK S) (hc : CI S v) (hm : MI S v) : Eqv S v w (f_Q_time 0 x y) (f_M_time 100 x y) := by
  have h1 := hs.1.1.1
  have h2 := hs.1.1.2.1
  by_cases hp : 0 ≤ x.toInt ∧ x.toInt < (S.1 0 1 : Int)
  · by_cases hy : 0 ≤ y.toInt ∧ y.toInt < ((5 + 1 : Nat) : Int)
    · obtain ⟨p, hp2, rfl⟩ := ix (by omega) hp
      obtain ⟨z, hz, rfl⟩ := ix (by omega) hy
      refine Eqv.one (r := nI (S.1 6 p)) (ρ' := up2 S.1 6 p z) (q := 3 + 6) (j := p) (x := nI z) (j2 := 12 + p) (x2 := nI z) hs hc hm ?_ (by omega) (by omega) (ROK_time hs.1 (by omega)) (fun σ h => h) (CR_time hp2 hc.1 h1) (fun v1 hm1 => ⟨?_, MF_u hm1.1.1 rfl rfl rfl rfl rfl rfl rfl, MB_time h1 h2 hs.1.1.2.2.2.2.2.2 hp2 hm1.1.2⟩)
      · simp only [f_Q_time, f_Q_time_0, q_now, hRl rl3 v w, bd1_s]
        rw [C_hasOne rl3 hc.1 h2, bd2_s, if_pos hp, if_neg (by decide), Q_isWithin, bd2_s, show (5 : Int32) = nI 5 from rfl, if_pos ((in_rng (by decide)).mpr hy), if_neg (by decide)]
        simp only [q_now, hRl rl3 v w, bd1_s]
        rw [rd_nI (by omega) (by decide), bd1_s, wr_nI (by omega) (by decide), bd1_s, (hc.1.2.2.1 p hp2).1]
      · simp only [f_M_time, f_M_time_0, hM v1 w, bd1_s]
        rw [M_isOne hm1.1.1 h2, bd2_s, if_pos hp, if_neg (by decide), M_in, bd2_s, show (5 : Int64) = (nI 5).toInt64 from rfl, if_pos ((in_rngL (by decide)).mpr hy), if_neg (by decide)]
        simp only [hM v1 w, bd1_s, f_M_becomes, f_M_becomes_0]
        rw [show (12 : Int32) = nI 12 from rfl, nI_add, rd_nI (by omega) (by decide), bd1_s, wr_nI (by omega) (by decide), bd1_s, bd2_s]
        have := hm1.1.2.2.2.2.2.1 p hp2
        rw [show 0 + 12 + p = 12 + p by omega] at this
        rw [this]
    · refine Eqv.query (r := -1) hs hc hm ?_ ?_
      · simp only [f_Q_time, f_Q_time_0, f_Q_time_20, q_now, hRl rl3 v w, bd1_s]
        rw [C_hasOne rl3 hc.1 h2, bd2_s, if_pos hp, if_neg (by decide), Q_isWithin, bd2_s, show (5 : Int32) = nI 5 from rfl, if_neg (fun z => hy ((in_rng (by decide)).mp z)), if_pos rfl]
      · simp only [f_M_time, f_M_time_0, f_M_time_32, hM v w, bd1_s]
        rw [M_isOne hm.1.1 h2, bd2_s, if_pos hp, if_neg (by decide), M_in, bd2_s, show (5 : Int64) = (nI 5).toInt64 from rfl, if_neg (fun z => hy ((in_rngL (by decide)).mp z)), if_pos rfl]
  · refine Eqv.query (r := -1) hs hc hm ?_ ?_
    · simp only [f_Q_time, f_Q_time_0, f_Q_time_20, q_now, hRl rl3 v w, bd1_s]
      rw [C_hasOne rl3 hc.1 h2, bd2_s, if_neg hp, if_pos rfl]
    · simp only [f_M_time, f_M_time_0, f_M_time_32, hM v w, bd1_s]
      rw [M_isOne hm.1.1 h2, bd2_s, if_neg hp, if_pos rfl]
theorem E_fund (x y : Int32) (hs : SOK S) (hc : CI S v) (hm : MI S v) : Eqv S v w (f_Q_fund 0 x y) (f_M_fund 100 x y) := by
  have h1 := hs.1.1.1
  have h2 := hs.1.1.2.1
  by_cases hp : 0 ≤ x.toInt ∧ x.toInt < (S.1 0 1 : Int)
  · by_cases hy : 0 ≤ y.toInt ∧ y.toInt < ((99 + 1 : Nat) : Int)
    · obtain ⟨p, hp2, rfl⟩ := ix (by omega) hp
      obtain ⟨z, hz, rfl⟩ := ix (by omega) hy
      refine Eqv.one (r := nI (S.1 9 p)) (ρ' := up2 S.1 9 p z) (q := 3 + 9) (j := p) (x := nI z) (j2 := 15 + p) (x2 := nI z) hs hc hm ?_ (by omega) (by omega) (ROK_purse hs.1 (by omega)) (fun σ h => h) (CR_purse hp2 hc.1 h1) (fun v1 hm1 => ⟨?_, MF_u hm1.1.1 rfl rfl rfl rfl rfl rfl rfl, MB_purse h1 h2 hs.1.1.2.2.2.2.2.2 hp2 hm1.1.2⟩)
      · simp only [f_Q_fund, f_Q_fund_0, q_now, hRl rl3 v w, bd1_s]
        rw [C_hasOne rl3 hc.1 h2, bd2_s, if_pos hp, if_neg (by decide), Q_isWithin, bd2_s, show (99 : Int32) = nI 99 from rfl, if_pos ((in_rng (by decide)).mpr hy), if_neg (by decide)]
        simp only [q_now, hRl rl3 v w, bd1_s]
        rw [rd_nI (by omega) (by decide), bd1_s, wr_nI (by omega) (by decide), bd1_s, (hc.1.2.2.1 p hp2).2.2.2.1]
      · simp only [f_M_fund, f_M_fund_0, hM v1 w, bd1_s]
        rw [M_isOne hm1.1.1 h2, bd2_s, if_pos hp, if_neg (by decide), M_in, bd2_s, show (99 : Int64) = (nI 99).toInt64 from rfl, if_pos ((in_rngL (by decide)).mpr hy), if_neg (by decide)]
        simp only [hM v1 w, bd1_s, f_M_becomes, f_M_becomes_0]
        rw [show (15 : Int32) = nI 15 from rfl, nI_add, rd_nI (by omega) (by decide), bd1_s, wr_nI (by omega) (by decide), bd1_s, bd2_s]
        have := hm1.1.2.2.2.2.2.2.1 p hp2
        rw [show 0 + 15 + p = 15 + p by omega] at this
        rw [this]
    · refine Eqv.query (r := -1) hs hc hm ?_ ?_
      · simp only [f_Q_fund, f_Q_fund_0, f_Q_fund_21, q_now, hRl rl3 v w, bd1_s]
        rw [C_hasOne rl3 hc.1 h2, bd2_s, if_pos hp, if_neg (by decide), Q_isWithin, bd2_s, show (99 : Int32) = nI 99 from rfl, if_neg (fun z => hy ((in_rng (by decide)).mp z)), if_pos rfl]
      · simp only [f_M_fund, f_M_fund_0, f_M_fund_32, hM v w, bd1_s]
        rw [M_isOne hm.1.1 h2, bd2_s, if_pos hp, if_neg (by decide), M_in, bd2_s, show (99 : Int64) = (nI 99).toInt64 from rfl, if_neg (fun z => hy ((in_rngL (by decide)).mp z)), if_pos rfl]
  · refine Eqv.query (r := -1) hs hc hm ?_ ?_
    · simp only [f_Q_fund, f_Q_fund_0, f_Q_fund_21, q_now, hRl rl3 v w, bd1_s]
      rw [C_hasOne rl3 hc.1 h2, bd2_s, if_neg hp, if_pos rfl]
    · simp only [f_M_fund, f_M_fund_0, f_M_fund_32, hM v w, bd1_s]
      rw [M_isOne hm.1.1 h2, bd2_s, if_neg hp, if_pos rfl]
theorem ROK_carry {ρ : Rho} {l c : Nat} (hk : ROK ρ) (hc : c ≤ ρ 0 0) (hne : c ≠ l + 1) : ROK (up2 ρ 5 l c) := by
  refine ⟨hk.1, fun j hj => ⟨(hk.2.1 j hj).1, (hk.2.1 j hj).2.1, (hk.2.1 j hj).2.2.1, (hk.2.1 j hj).2.2.2.1, (hk.2.1 j hj).2.2.2.2.1, ?_⟩, hk.2.2.1, hk.2.2.2.1, hk.2.2.2.2⟩
  by_cases e : j = l
  · subst e; rw [up2_at]; exact ⟨hc, hne⟩
  · rw [up2_n e]; exact (hk.2.1 j hj).2.2.2.2.2
theorem carry_one {x y : Int32} {l c : Nat} (hx : x = nI l) (hy : y = cI c) (hl2 : l < S.1 0 0) (hcL : c ≤ S.1 0 0) (hne : c ≠ l + 1) (hs : SOK S) (hc : CI S v) (hm : MI S v) (e1 : ∀ v w, CI S v → f_Q_carry 0 x y (bh v w) = f_Q_carry_35 0 x y (bh v w)) (e2 : ∀ v w, MI S v → f_M_carry 100 x y (bh v w) = f_M_carry_27 100 x y (bh v w)) : Eqv S v w (f_Q_carry 0 x y) (f_M_carry 100 x y) := by
  have h1 := hs.1.1.1
  refine Eqv.one (r := cI (S.1 5 l)) (ρ' := up2 S.1 5 l c) (q := 3 + 5) (j := l) (x := cI c) (j2 := 5 + l) (x2 := cI c) hs hc hm ?_ (by omega) (by omega) (ROK_carry hs.1 hcL hne) (fun σ h => h) (CR_carry hl2 hc.1 h1) (fun v1 hm1 => ⟨?_, MF_u hm1.1.1 rfl rfl rfl rfl rfl rfl rfl, MB_carry h1 hs.1.1.2.1 hs.1.1.2.2.2.2.2.2 hl2 hm1.1.2⟩)
  · rw [e1 v w hc, hx, hy]
    simp only [f_Q_carry_35, q_now, hRl rl3 v w, bd1_s]
    rw [rd_nI (by omega) (by decide), bd1_s, wr_nI (by omega) (by decide), bd1_s, (hc.1.2.1 l hl2).2.2.2.2]
  · rw [e2 v1 w hm1, hx, hy]
    simp only [f_M_carry_27, hM v1 w, bd1_s, f_M_becomes, f_M_becomes_0]
    rw [show (5 : Int32) = nI 5 from rfl, nI_add, rd_nI (by omega) (by decide), bd1_s, wr_nI (by omega) (by decide), bd1_s, bd2_s]
    have := hm1.1.2.2.1 l hl2
    rw [show 0 + 5 + l = 5 + l by omega] at this
    rw [this]
theorem E_carry (x y : Int32) (hs : SOK S) (hc : CI S v) (hm : MI S v) : Eqv S v w (f_Q_carry 0 x y) (f_M_carry 100 x y) := by
  have h1 := hs.1.1.1
  by_cases hl : 0 ≤ x.toInt ∧ x.toInt < (S.1 0 0 : Int)
  · obtain ⟨l, hl2, e⟩ := ix (by omega) hl
    by_cases exy : y = x
    · refine Eqv.query (r := -1) hs hc hm ?_ ?_
      · simp only [f_Q_carry, f_Q_carry_0, f_Q_carry_33, q_now, hRl rl3 v w, bd1_s]
        rw [C_hasLaw rl3 hc.1 h1, bd2_s, if_pos hl, if_neg (by decide), if_pos exy]
      · simp only [f_M_carry, f_M_carry_0, f_M_carry_38, hM v w, bd1_s]
        rw [M_isLaw hm.1.1 h1, bd2_s, if_pos hl, if_neg (by decide), if_pos exy]
    · by_cases e4 : y = -4
      · refine carry_one e (c := 0) e4 hl2 (Nat.zero_le _) (by omega) hs hc hm (fun v w hc => ?_) (fun v w hm => ?_)
        · simp only [f_Q_carry, f_Q_carry_0, q_now, hRl rl3 v w, bd1_s]
          rw [C_hasLaw rl3 hc.1 h1, bd2_s, if_pos hl, if_neg (by decide), if_neg exy, if_pos e4]
        · simp only [f_M_carry, f_M_carry_0, hM v w, bd1_s]
          rw [M_isLaw hm.1.1 h1, bd2_s, if_pos hl, if_neg (by decide), if_neg exy, if_pos e4]
      · by_cases hy : 0 ≤ y.toInt ∧ y.toInt < (S.1 0 0 : Int)
        · obtain ⟨m, hm2, ey⟩ := ix (by omega) hy
          refine carry_one e (c := m + 1) ey hl2 (by omega) (fun z => exy (by rw [e, ey, show m = l by omega])) hs hc hm (fun v w hc => ?_) (fun v w hm => ?_)
          · simp only [f_Q_carry, f_Q_carry_0, q_now, hRl rl3 v w, bd1_s]
            rw [C_hasLaw rl3 hc.1 h1, bd2_s, if_pos hl, if_neg (by decide), if_neg exy, if_neg e4]
            simp only [q_now, hRl rl3 v w, bd1_s]
            rw [C_hasLaw rl3 hc.1 h1, bd2_s, if_pos hy, if_neg (by decide)]
          · simp only [f_M_carry, f_M_carry_0, hM v w, bd1_s]
            rw [M_isLaw hm.1.1 h1, bd2_s, if_pos hl, if_neg (by decide), if_neg exy, if_neg e4]
            simp only [hM v w, bd1_s]
            rw [M_isLaw hm.1.1 h1, bd2_s, if_pos hy, if_neg (by decide)]
        · refine Eqv.query (r := -1) hs hc hm ?_ ?_
          · simp only [f_Q_carry, f_Q_carry_0, f_Q_carry_33, q_now, hRl rl3 v w, bd1_s]
            rw [C_hasLaw rl3 hc.1 h1, bd2_s, if_pos hl, if_neg (by decide), if_neg exy, if_neg e4]
            simp only [q_now, hRl rl3 v w, bd1_s]
            rw [C_hasLaw rl3 hc.1 h1, bd2_s, if_neg hy, if_pos rfl]
          · simp only [f_M_carry, f_M_carry_0, f_M_carry_38, hM v w, bd1_s]
            rw [M_isLaw hm.1.1 h1, bd2_s, if_pos hl, if_neg (by decide), if_neg exy, if_neg e4]
            simp only [hM v w, bd1_s]
            rw [M_isLaw hm.1.1 h1, bd2_s, if_neg hy, if_pos rfl]
  · refine Eqv.query (r := -1) hs hc hm ?_ ?_
    · simp only [f_Q_carry, f_Q_carry_0, f_Q_carry_33, q_now, hRl rl3 v w, bd1_s]
      rw [C_hasLaw rl3 hc.1 h1, bd2_s, if_neg hl, if_pos rfl]
    · simp only [f_M_carry, f_M_carry_0, f_M_carry_38, hM v w, bd1_s]
      rw [M_isLaw hm.1.1 h1, bd2_s, if_neg hl, if_pos rfl]
/-- a bit set or taken away -/
def wb (s l : Nat) (z : Int32) : Nat := if z = 0 then s &&& (31 - 2 ^ l) else s ||| 2 ^ l
theorem wb_c : ∀ s, s < 32 → ∀ l, l < 5 → nI s &&& (((1 : Int32) <<< (nI l &&& 31)) ^^^ (-1)) = nI (s &&& (31 - 2 ^ l)) := by decide +kernel
theorem wb_b : ∀ L, L < 6 → ∀ s, s < 32 → ∀ l, l < 5 → ((s < 2 ^ L ∧ l < L) → (s ||| 2 ^ l < 2 ^ L ∧ s &&& (31 - 2 ^ l) < 2 ^ L)) := by decide +kernel
theorem wb_lt {L s l : Nat} (z : Int32) (hL : L ≤ 5) (hs : s < 2 ^ L) (hl : l < L) : wb s l z < 2 ^ L := by
  have := wb_b L (by omega) s (pw_le hL hs) l (by omega) ⟨hs, hl⟩
  unfold wb
  split
  · exact this.2
  · exact this.1
theorem Q_withBit {s l : Nat} (hs : s < 32) (hl : l < 5) (z : Int32) (h : mH) : f_Q_withBit (nI s) (nI l) z h = some (nI (wb s l z), h) := by
  simp only [f_Q_withBit, f_Q_withBit_0]
  unfold wb
  split
  · rw [wb_c s hs l hl]
  · rw [shl_I (by omega), or_I]
theorem Q_bitOf {s l : Nat} (hs : s < 32) (hl : l < 5) (h : mH) : f_Q_bitOf (nI s) (nI l) h = some (nI (bit s l), h) := by
  simp only [f_Q_bitOf, f_Q_bitOf_0]
  rw [bit_I (by omega) (by omega)]
theorem M_becomesBit {k s l : Nat} (hk : k < 198) (hs : s < 32) (hl : l < 5) (z : Int32) (e : v 101 k = nI s) : f_M_becomesBit 100 (nI k) (nI l) z (bh v w) = some (nI (bit s l), bh (u2 v 101 k (nI (wb s l z))) w) := by
  simp only [f_M_becomesBit, f_M_becomesBit_0, f_M_becomesBit_46, hM v w, bd1_s]
  rw [rd_nI hk (by decide), bd1_s, e, bit_I (by omega) (by omega)]
  unfold wb
  split
  · rw [bd1_s, wb_c s hs l hl, wr_nI hk (by decide), bd1_s]
  · rw [bd1_s, shl_I (by omega), or_I, wr_nI hk (by decide), bd1_s]
theorem ROK_watched {ρ : Rho} {x : Nat} (hk : ROK ρ) (hx : x < 2 ^ ρ 0 0) : ROK (up2 ρ 0 5 x) :=
  ⟨⟨hk.1.1, hk.1.2.1, hk.1.2.2.1, hk.1.2.2.2.1, hk.1.2.2.2.2.1, hx, hk.1.2.2.2.2.2.2⟩, hk.2.1, hk.2.2.1, hk.2.2.2.1, hk.2.2.2.2⟩
theorem ROK_refuses {ρ : Rho} {p x : Nat} (hk : ROK ρ) (hx : x < 2 ^ ρ 0 0) : ROK (up2 ρ 10 p x) := by
  refine ⟨hk.1, hk.2.1, fun j hj => ⟨(hk.2.2.1 j hj).1, (hk.2.2.1 j hj).2.1, (hk.2.2.1 j hj).2.2.1, (hk.2.2.1 j hj).2.2.2.1, ?_, (hk.2.2.1 j hj).2.2.2.2.2⟩, hk.2.2.2.1, hk.2.2.2.2⟩
  by_cases e : j = p
  · subst e; rw [up2_at]; exact hx
  · rw [up2_n e]; exact (hk.2.2.1 j hj).2.2.2.2.1
theorem ROK_wants {ρ : Rho} {p x : Nat} (hk : ROK ρ) (hx : x < 2 ^ ρ 0 0) : ROK (up2 ρ 11 p x) := by
  refine ⟨hk.1, hk.2.1, fun j hj => ⟨(hk.2.2.1 j hj).1, (hk.2.2.1 j hj).2.1, (hk.2.2.1 j hj).2.2.1, (hk.2.2.1 j hj).2.2.2.1, (hk.2.2.1 j hj).2.2.2.2.1, ?_, (hk.2.2.1 j hj).2.2.2.2.2.2⟩, hk.2.2.2.1, hk.2.2.2.2⟩
  by_cases e : j = p
  · subst e; rw [up2_at]; exact hx
  · rw [up2_n e]; exact (hk.2.2.1 j hj).2.2.2.2.2.1
theorem E_watch (x z : Int32) (hs : SOK S) (hc : CI S v) (hm : MI S v) : Eqv S v w (f_Q_watch 0 x z) (f_M_watch 100 x z) := by
  have h1 := hs.1.1.1
  have hw := hs.1.1.2.2.2.2.2.1
  have hw32 := pw_le h1 hw
  by_cases hl : 0 ≤ x.toInt ∧ x.toInt < (S.1 0 0 : Int)
  · obtain ⟨l, hl2, rfl⟩ := ix (by omega) hl
    refine Eqv.one (r := nI (bit (S.1 0 5) l)) (ρ' := up2 S.1 0 5 (wb (S.1 0 5) l z)) (q := 3) (j := 5) (x := nI (wb (S.1 0 5) l z)) (j2 := 11) (x2 := nI (wb (S.1 0 5) l z)) hs hc hm ?_ (by omega) (by omega) (ROK_watched hs.1 (wb_lt z h1 hw hl2)) (fun σ h => h) (CR_watched hc.1 h1) (fun v1 hm1 => ⟨?_, MF_u hm1.1.1 rfl rfl rfl rfl rfl rfl rfl, MB_watched h1 hs.1.1.2.1 hs.1.1.2.2.2.2.2.2 hm1.1.2⟩)
    · simp only [f_Q_watch, f_Q_watch_0, q_now, hRl rl3 v w, bd1_s]
      rw [C_hasLaw rl3 hc.1 h1, bd2_s, if_pos hl, if_neg (by decide)]
      simp only [q_now, hRl rl3 v w, bd1_s]
      rw [hc.1.1.2.2.2.2.2.1, Q_bitOf hw32 (by omega), bd2_s]
      simp only [q_now, hRl rl3 v w, bd1_s]
      rw [hc.1.1.2.2.2.2.2.1, Q_withBit hw32 (by omega), bd2_s]
      simp only [q_now, hRl rl3 v w, bd1_s]
    · simp only [f_M_watch, f_M_watch_0, hM v1 w, bd1_s]
      rw [M_isLaw hm1.1.1 h1, bd2_s, if_pos hl, if_neg (by decide)]
      simp only [hM v1 w, bd1_s]
      rw [show (11 : Int32) = nI 11 from rfl, M_becomesBit (by omega) hw32 (by omega) z hm1.1.2.2.2.2.1, bd2_s]
  · refine Eqv.query (r := -1) hs hc hm ?_ ?_
    · simp only [f_Q_watch, f_Q_watch_0, q_now, hRl rl3 v w, bd1_s]
      rw [C_hasLaw rl3 hc.1 h1, bd2_s, if_neg hl, if_pos rfl]
    · simp only [f_M_watch, f_M_watch_0, hM v w, bd1_s]
      rw [M_isLaw hm.1.1 h1, bd2_s, if_neg hl, if_pos rfl]
theorem E_refuse (x y z : Int32) (hs : SOK S) (hc : CI S v) (hm : MI S v) : Eqv S v w (f_Q_refuse 0 x y z) (f_M_refuse 100 x y z) := by
  have h1 := hs.1.1.1
  have h2 := hs.1.1.2.1
  by_cases hp : 0 ≤ x.toInt ∧ x.toInt < (S.1 0 1 : Int)
  · by_cases hl : 0 ≤ y.toInt ∧ y.toInt < (S.1 0 0 : Int)
    · obtain ⟨p, hp2, rfl⟩ := ix (by omega) hp
      obtain ⟨l, hl2, rfl⟩ := ix (by omega) hl
      have hw := (hs.1.2.2.1 p hp2).2.2.2.2.1
      have hw32 := pw_le h1 hw
      refine Eqv.one (r := nI (bit (S.1 10 p) l)) (ρ' := up2 S.1 10 p (wb (S.1 10 p) l z)) (q := 3 + 10) (j := p) (x := nI (wb (S.1 10 p) l z)) (j2 := 18 + p) (x2 := nI (wb (S.1 10 p) l z)) hs hc hm ?_ (by omega) (by omega) (ROK_refuses hs.1 (wb_lt z h1 hw hl2)) (fun σ h => h) (CR_refuses hp2 hc.1 h1) (fun v1 hm1 => ⟨?_, MF_u hm1.1.1 rfl rfl rfl rfl rfl rfl rfl, MB_refuses h1 h2 hs.1.1.2.2.2.2.2.2 hp2 hm1.1.2⟩)
      · simp only [f_Q_refuse, f_Q_refuse_0, f_Realm_hasBoth, f_Realm_hasBoth_0, f_Realm_hasBoth_20, q_now, hRl rl3 v w, bd1_s]
        rw [C_hasOne rl3 hc.1 h2, bd2_s, if_pos hp, if_neg (by decide)]
        simp only [hRl rl3 v w, bd1_s]
        rw [C_hasLaw rl3 hc.1 h1, bd2_s, if_pos hl, if_neg (by decide), bd2_s, if_neg (by decide)]
        simp only [q_now, hRl rl3 v w, bd1_s]
        rw [rd_nI (by omega) (by decide), bd1_s, (hc.1.2.2.1 p hp2).2.2.2.2.1, Q_bitOf hw32 (by omega), bd2_s]
        simp only [q_now, hRl rl3 v w, bd1_s]
        rw [rd_nI (by omega) (by decide), bd1_s, (hc.1.2.2.1 p hp2).2.2.2.2.1, Q_withBit hw32 (by omega), bd2_s]
        simp only [q_now, hRl rl3 v w, bd1_s]
        rw [wr_nI (by omega) (by decide), bd1_s]
      · simp only [f_M_refuse, f_M_refuse_0, hM v1 w, bd1_s]
        rw [M_isOne hm1.1.1 h2, bd2_s, if_pos hp, if_neg (by decide)]
        simp only [hM v1 w, bd1_s]
        rw [M_isLaw hm1.1.1 h1, bd2_s, if_pos hl, if_neg (by decide)]
        simp only [hM v1 w, bd1_s]
        have := hm1.1.2.2.2.2.2.2.2.1 p hp2
        rw [show 0 + 18 + p = 18 + p by omega] at this
        rw [show (18 : Int32) = nI 18 from rfl, nI_add, M_becomesBit (by omega) hw32 (by omega) z this, bd2_s]
    · refine Eqv.query (r := -1) hs hc hm ?_ ?_
      · simp only [f_Q_refuse, f_Q_refuse_0, f_Realm_hasBoth, f_Realm_hasBoth_0, f_Realm_hasBoth_20, q_now, hRl rl3 v w, bd1_s]
        rw [C_hasOne rl3 hc.1 h2, bd2_s, if_pos hp, if_neg (by decide)]
        simp only [hRl rl3 v w, bd1_s]
        rw [C_hasLaw rl3 hc.1 h1, bd2_s, if_neg hl, if_pos rfl, bd2_s, if_pos rfl]
      · simp only [f_M_refuse, f_M_refuse_0, f_M_refuse_29, hM v w, bd1_s]
        rw [M_isOne hm.1.1 h2, bd2_s, if_pos hp, if_neg (by decide)]
        simp only [hM v w, bd1_s]
        rw [M_isLaw hm.1.1 h1, bd2_s, if_neg hl, if_pos rfl]
  · refine Eqv.query (r := -1) hs hc hm ?_ ?_
    · simp only [f_Q_refuse, f_Q_refuse_0, f_Realm_hasBoth, f_Realm_hasBoth_0, f_Realm_hasBoth_20, q_now, hRl rl3 v w, bd1_s]
      rw [C_hasOne rl3 hc.1 h2, bd2_s, if_neg hp, if_pos rfl, bd2_s, if_pos rfl]
    · simp only [f_M_refuse, f_M_refuse_0, f_M_refuse_29, hM v w, bd1_s]
      rw [M_isOne hm.1.1 h2, bd2_s, if_neg hp, if_pos rfl]
theorem E_want (x y z : Int32) (hs : SOK S) (hc : CI S v) (hm : MI S v) : Eqv S v w (f_Q_want 0 x y z) (f_M_want 100 x y z) := by
  have h1 := hs.1.1.1
  have h2 := hs.1.1.2.1
  by_cases hp : 0 ≤ x.toInt ∧ x.toInt < (S.1 0 1 : Int)
  · by_cases hl : 0 ≤ y.toInt ∧ y.toInt < (S.1 0 0 : Int)
    · obtain ⟨p, hp2, rfl⟩ := ix (by omega) hp
      obtain ⟨l, hl2, rfl⟩ := ix (by omega) hl
      have hw := (hs.1.2.2.1 p hp2).2.2.2.2.2.1
      have hw32 := pw_le h1 hw
      refine Eqv.one (r := nI (bit (S.1 11 p) l)) (ρ' := up2 S.1 11 p (wb (S.1 11 p) l z)) (q := 3 + 11) (j := p) (x := nI (wb (S.1 11 p) l z)) (j2 := 21 + p) (x2 := nI (wb (S.1 11 p) l z)) hs hc hm ?_ (by omega) (by omega) (ROK_wants hs.1 (wb_lt z h1 hw hl2)) (fun σ h => h) (CR_wants hp2 hc.1 h1) (fun v1 hm1 => ⟨?_, MF_u hm1.1.1 rfl rfl rfl rfl rfl rfl rfl, MB_wants h1 h2 hs.1.1.2.2.2.2.2.2 hp2 hm1.1.2⟩)
      · simp only [f_Q_want, f_Q_want_0, f_Realm_hasBoth, f_Realm_hasBoth_0, f_Realm_hasBoth_20, q_now, hRl rl3 v w, bd1_s]
        rw [C_hasOne rl3 hc.1 h2, bd2_s, if_pos hp, if_neg (by decide)]
        simp only [hRl rl3 v w, bd1_s]
        rw [C_hasLaw rl3 hc.1 h1, bd2_s, if_pos hl, if_neg (by decide), bd2_s, if_neg (by decide)]
        simp only [q_now, hRl rl3 v w, bd1_s]
        rw [rd_nI (by omega) (by decide), bd1_s, (hc.1.2.2.1 p hp2).2.2.2.2.2, Q_bitOf hw32 (by omega), bd2_s]
        simp only [q_now, hRl rl3 v w, bd1_s]
        rw [rd_nI (by omega) (by decide), bd1_s, (hc.1.2.2.1 p hp2).2.2.2.2.2, Q_withBit hw32 (by omega), bd2_s]
        simp only [q_now, hRl rl3 v w, bd1_s]
        rw [wr_nI (by omega) (by decide), bd1_s]
      · simp only [f_M_want, f_M_want_0, hM v1 w, bd1_s]
        rw [M_isOne hm1.1.1 h2, bd2_s, if_pos hp, if_neg (by decide)]
        simp only [hM v1 w, bd1_s]
        rw [M_isLaw hm1.1.1 h1, bd2_s, if_pos hl, if_neg (by decide)]
        simp only [hM v1 w, bd1_s]
        have := hm1.1.2.2.2.2.2.2.2.2.1 p hp2
        rw [show 0 + 21 + p = 21 + p by omega] at this
        rw [show (21 : Int32) = nI 21 from rfl, nI_add, M_becomesBit (by omega) hw32 (by omega) z this, bd2_s]
    · refine Eqv.query (r := -1) hs hc hm ?_ ?_
      · simp only [f_Q_want, f_Q_want_0, f_Realm_hasBoth, f_Realm_hasBoth_0, f_Realm_hasBoth_20, q_now, hRl rl3 v w, bd1_s]
        rw [C_hasOne rl3 hc.1 h2, bd2_s, if_pos hp, if_neg (by decide)]
        simp only [hRl rl3 v w, bd1_s]
        rw [C_hasLaw rl3 hc.1 h1, bd2_s, if_neg hl, if_pos rfl, bd2_s, if_pos rfl]
      · simp only [f_M_want, f_M_want_0, f_M_want_29, hM v w, bd1_s]
        rw [M_isOne hm.1.1 h2, bd2_s, if_pos hp, if_neg (by decide)]
        simp only [hM v w, bd1_s]
        rw [M_isLaw hm.1.1 h1, bd2_s, if_neg hl, if_pos rfl]
  · refine Eqv.query (r := -1) hs hc hm ?_ ?_
    · simp only [f_Q_want, f_Q_want_0, f_Realm_hasBoth, f_Realm_hasBoth_0, f_Realm_hasBoth_20, q_now, hRl rl3 v w, bd1_s]
      rw [C_hasOne rl3 hc.1 h2, bd2_s, if_neg hp, if_pos rfl, bd2_s, if_pos rfl]
    · simp only [f_M_want, f_M_want_0, f_M_want_29, hM v w, bd1_s]
      rw [M_isOne hm.1.1 h2, bd2_s, if_neg hp, if_pos rfl]
end
end
