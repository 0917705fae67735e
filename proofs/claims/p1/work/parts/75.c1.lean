/-! the class's realm at o, said of the memories -/
def CR (o : Nat) (ρ : Rho) (v : Nat → Nat → Int32) : Prop :=
  (v o 0 = nI (ρ 0 0) ∧ v o 1 = nI (ρ 0 1) ∧ v o 2 = nI (ρ 0 2) ∧ v o 3 = nI (ρ 0 3) ∧ v o 4 = nI (ρ 0 4) ∧ v o 5 = nI (ρ 0 5) ∧ v (o + 13) 0 = nI (ρ 0 6)) ∧
  (∀ l, l < ρ 0 0 → v (o + 1) l = nI (ρ 1 l) ∧ v (o + 2) l = nI (ρ 2 l) ∧ v (o + 3) l = nI (ρ 3 l) ∧ v (o + 4) l = nI (ρ 4 l) ∧ v (o + 5) l = cI (ρ 5 l)) ∧
  (∀ p, p < ρ 0 1 → v (o + 6) p = nI (ρ 6 p) ∧ v (o + 7) p = nI (ρ 7 p) ∧ v (o + 8) p = nI (ρ 8 p) ∧ v (o + 9) p = nI (ρ 9 p) ∧ v (o + 10) p = nI (ρ 10 p) ∧ v (o + 11) p = nI (ρ 11 p)) ∧
  (∀ p l, p < ρ 0 1 → l < ρ 0 0 → v (o + 12) (5 * p + l) = nI (ρ 12 (5 * p + l))) ∧
  (∀ i, i < ρ 0 6 → v (o + 14) i = nI (ρ 13 i) ∧ v (o + 15) i = nI (ρ 14 i) ∧ v (o + 16) i = nI (ρ 15 i))
/-- the class's chain: as many steps as there are LAWS -/
def clf (f : Nat → Nat) : Nat → Nat → Nat → Nat
  | 0, acc, _ => acc
  | _ + 1, acc, 0 => acc
  | n + 1, acc, m + 1 => clf f n (acc ||| 2 ^ m) (f m)
def chf (f : Nat → Nat) : Nat → Nat → Nat → Nat
  | 0, acc, _ => acc
  | _ + 1, acc, 0 => acc
  | n + 1, acc, m + 1 => if bit acc m = 1 then acc else chf f n (acc ||| 2 ^ m) (f m)
theorem chn_chf (ρ : Rho) : ∀ n acc c, chn ρ n acc c = chf (ρ 5) n acc c
  | 0, _, _ => rfl
  | _ + 1, _, 0 => rfl
  | n + 1, acc, m + 1 => by
    show (if bit acc m = 1 then acc else chn ρ n (acc ||| 2 ^ m) (ρ 5 m)) = (if bit acc m = 1 then acc else chf (ρ 5) n (acc ||| 2 ^ m) (ρ 5 m))
    rw [chn_chf ρ n]
theorem clf_congr {f g : Nat → Nat} {L : Nat} (h : ∀ m, m < L → f m = g m ∧ f m ≤ L) : ∀ n acc c, c ≤ L → clf f n acc c = clf g n acc c
  | 0, _, _, _ => rfl
  | _ + 1, _, 0, _ => rfl
  | n + 1, acc, m + 1, hc => by
    show clf f n (acc ||| 2 ^ m) (f m) = clf g n (acc ||| 2 ^ m) (g m)
    have hm := h m (by omega)
    rw [← hm.1]
    exact clf_congr h n _ _ hm.2
theorem chf_congr {f g : Nat → Nat} {L : Nat} (h : ∀ m, m < L → f m = g m ∧ f m ≤ L) : ∀ n acc c, c ≤ L → chf f n acc c = chf g n acc c
  | 0, _, _, _ => rfl
  | _ + 1, _, 0, _ => rfl
  | n + 1, acc, m + 1, hc => by
    show (if bit acc m = 1 then acc else chf f n (acc ||| 2 ^ m) (f m)) = (if bit acc m = 1 then acc else chf g n (acc ||| 2 ^ m) (g m))
    have hm := h m (by omega)
    rw [← hm.1, chf_congr h n _ _ hm.2]
def l5 (a b c d e : Nat) : Nat → Nat := fun m => if m = 0 then a else if m = 1 then b else if m = 2 then c else if m = 3 then d else e
theorem ring5 : ∀ a, a < 6 → ∀ b, b < 6 → ∀ c, c < 6 → ∀ d, d < 6 → ∀ e, e < 6 → ∀ l, l < 5 → clf (l5 a b c d e) 5 0 (l + 1) = chf (l5 a b c d e) 6 0 (l + 1) := by decide +kernel
theorem ring4 : ∀ a, a < 5 → ∀ b, b < 5 → ∀ c, c < 5 → ∀ d, d < 5 → ∀ l, l < 4 → clf (l5 a b c d 0) 4 0 (l + 1) = chf (l5 a b c d 0) 6 0 (l + 1) := by decide +kernel
theorem ring3 : ∀ a, a < 4 → ∀ b, b < 4 → ∀ c, c < 4 → ∀ l, l < 3 → clf (l5 a b c 0 0) 3 0 (l + 1) = chf (l5 a b c 0 0) 6 0 (l + 1) := by decide +kernel
theorem ring2 : ∀ a, a < 3 → ∀ b, b < 3 → ∀ l, l < 2 → clf (l5 a b 0 0 0) 2 0 (l + 1) = chf (l5 a b 0 0 0) 6 0 (l + 1) := by decide +kernel
theorem ring1 : ∀ a, a < 2 → ∀ l, l < 1 → clf (l5 a 0 0 0 0) 1 0 (l + 1) = chf (l5 a 0 0 0 0) 6 0 (l + 1) := by decide +kernel
theorem ring (f : Nat → Nat) {L l : Nat} (hL : L ≤ 5) (hf : ∀ m, m < L → f m ≤ L) (hl : l < L) : clf f L 0 (l + 1) = chf f 6 0 (l + 1) := by
  have go : ∀ g : Nat → Nat, (∀ m, m < L → f m = g m) → clf g L 0 (l + 1) = chf g 6 0 (l + 1) → clf f L 0 (l + 1) = chf f 6 0 (l + 1) := by
    intro g hg h
    have hh : ∀ m, m < L → f m = g m ∧ f m ≤ L := fun m hm => ⟨hg m hm, hf m hm⟩
    rw [clf_congr hh L 0 (l + 1) (by omega), chf_congr hh 6 0 (l + 1) (by omega), h]
  rcases (show L = 1 ∨ L = 2 ∨ L = 3 ∨ L = 4 ∨ L = 5 by omega) with rfl | rfl | rfl | rfl | rfl
  · exact go (l5 (f 0) 0 0 0 0) (fun m hm => by obtain rfl : m = 0 := by omega
                                                rfl) (ring1 _ (by have := hf 0 (by omega); omega) _ hl)
  · refine go (l5 (f 0) (f 1) 0 0 0) (fun m hm => ?_) (ring2 _ (by have := hf 0 (by omega); omega) _ (by have := hf 1 (by omega); omega) _ hl)
    rcases (show m = 0 ∨ m = 1 by omega) with rfl | rfl <;> rfl
  · refine go (l5 (f 0) (f 1) (f 2) 0 0) (fun m hm => ?_) (ring3 _ (by have := hf 0 (by omega); omega) _ (by have := hf 1 (by omega); omega) _ (by have := hf 2 (by omega); omega) _ hl)
    rcases (show m = 0 ∨ m = 1 ∨ m = 2 by omega) with rfl | rfl | rfl <;> rfl
  · refine go (l5 (f 0) (f 1) (f 2) (f 3) 0) (fun m hm => ?_) (ring4 _ (by have := hf 0 (by omega); omega) _ (by have := hf 1 (by omega); omega) _ (by have := hf 2 (by omega); omega) _ (by have := hf 3 (by omega); omega) _ hl)
    rcases (show m = 0 ∨ m = 1 ∨ m = 2 ∨ m = 3 by omega) with rfl | rfl | rfl | rfl <;> rfl
  · refine go (l5 (f 0) (f 1) (f 2) (f 3) (f 4)) (fun m hm => ?_) (ring5 _ (by have := hf 0 (by omega); omega) _ (by have := hf 1 (by omega); omega) _ (by have := hf 2 (by omega); omega) _ (by have := hf 3 (by omega); omega) _ (by have := hf 4 (by omega); omega) _ hl)
    rcases (show m = 0 ∨ m = 1 ∨ m = 2 ∨ m = 3 ∨ m = 4 by omega) with rfl | rfl | rfl | rfl | rfl <;> rfl
section
variable {ρ : Rho} {v : Nat → Nat → Int32} {w : Nat → Nat → Int64} {o : Nat}
theorem Q_isWithin (a b c : Int32) (h : mH) : f_Q_isWithin a b c h = some (if b.toInt ≤ a.toInt ∧ a.toInt ≤ c.toInt then 1 else 0, h) := by
  simp only [f_Q_isWithin, f_Q_isWithin_0, f_Q_isWithin_14, Int32.lt_iff_toInt_lt]
  by_cases h1 : a.toInt < b.toInt
  · rw [if_pos h1, if_neg (by omega)]
  · rw [if_neg h1]
    by_cases h2 : c.toInt < a.toInt
    · rw [if_pos h2, if_neg (by omega)]
    · rw [if_neg h2, if_pos (by omega)]
theorem Q_hasBit {s l : Nat} (hs : s < 2 ^ 31) (hl : l < 32) (h : mH) : f_Q_hasBit (nI s) (nI l) h = some (nI (bit s l), h) := by
  simp only [f_Q_hasBit, f_Q_hasBit_0]
  rw [bit_I hs hl]
  rcases bit_01 s l with g | g <;> rw [g] <;> rfl
theorem C_hasLaw (ho : rl o) (hr : CR o ρ v) (hk : ρ 0 0 ≤ 5) (x : Int32) : f_Realm_hasLaw o x (bh v w) = some (if 0 ≤ x.toInt ∧ x.toInt < ρ 0 0 then 1 else 0, bh v w) := by
  simp only [f_Realm_hasLaw, f_Realm_hasLaw_0, f_Realm_hasLaw_16, hRl ho v w, bd1_s, hr.1.1, Int32.lt_iff_toInt_lt, Int32.le_iff_toInt_le, nI_toInt (show ρ 0 0 < 2 ^ 31 by omega)]
  have e : (0 : Int32).toInt = 0 := rfl
  rw [e]
  by_cases h1 : x.toInt < 0
  · rw [if_pos h1, if_neg (by omega)]
  · rw [if_neg h1]
    by_cases h2 : (ρ 0 0 : Int) ≤ x.toInt
    · rw [if_pos h2, if_neg (by omega)]
    · rw [if_neg h2, if_pos (by omega)]
theorem C_hasOne (ho : rl o) (hr : CR o ρ v) (hk : ρ 0 1 ≤ 3) (x : Int32) : f_Realm_hasOne o x (bh v w) = some (if 0 ≤ x.toInt ∧ x.toInt < ρ 0 1 then 1 else 0, bh v w) := by
  simp only [f_Realm_hasOne, f_Realm_hasOne_0, f_Realm_hasOne_16, hRl ho v w, bd1_s, hr.1.2.1, Int32.lt_iff_toInt_lt, Int32.le_iff_toInt_le, nI_toInt (show ρ 0 1 < 2 ^ 31 by omega)]
  have e : (0 : Int32).toInt = 0 := rfl
  rw [e]
  by_cases h1 : x.toInt < 0
  · rw [if_pos h1, if_neg (by omega)]
  · rw [if_neg h1]
    by_cases h2 : (ρ 0 1 : Int) ≤ x.toInt
    · rw [if_pos h2, if_neg (by omega)]
    · rw [if_neg h2, if_pos (by omega)]
theorem C_brokenBy (ho : rl o) (hr : CR o ρ v) (hk : ROK ρ) {p l : Nat} (hp : p < ρ 0 1) (hl : l < ρ 0 0) : f_Realm_brokenBy o (nI p) (nI l) (bh v w) = some (nI (ρ 12 (5 * p + l)), bh v w) := by
  have h1 := hk.1.1
  have h2 := hk.1.2.1
  simp only [f_Realm_brokenBy, f_Realm_brokenBy_0, hRl ho v w, bd1_s]
  rw [show (5 : Int32) = nI 5 from rfl, pk_mul, nI_add, rd_nI (by omega) (by decide), bd1_s, Nat.mul_comm p 5, hr.2.2.2.1 p l hp hl]
theorem C_brokenByOne (ho : rl o) (hr : CR o ρ v) (hk : ROK ρ) {p : Nat} (hp : p < ρ 0 1) : f_Realm_brokenByOne o (nI p) (bh v w) = some (nI (sAll ρ p), bh v w) := by
  have h1 := hk.1.1
  have h2 := hk.1.2.1
  have key : ∀ (k fuel l : Nat), k < fuel → l + k = ρ 0 0 → f_Realm_brokenByOne_4 fuel o (nI p) (nI (sumN (fun l => ρ 12 (5 * p + l)) l)) (nI l) (bh v w) = some (nI (sAll ρ p), bh v w) := by
    intro k
    induction k with
    | zero =>
      intro fuel l hf hl
      obtain ⟨n, rfl⟩ : ∃ n, fuel = n + 1 := ⟨fuel - 1, by omega⟩
      simp only [f_Realm_brokenByOne_4, f_Realm_brokenByOne_4b, hRl ho v w, bd1_s]
      rw [hr.1.1, if_pos (nI_le (by omega) (by omega)), show l = ρ 0 0 by omega]
      rfl
    | succ k ih =>
      intro fuel l hf hl
      obtain ⟨n, rfl⟩ : ∃ n, fuel = n + 1 := ⟨fuel - 1, by omega⟩
      simp only [f_Realm_brokenByOne_4, f_Realm_brokenByOne_4b, hRl ho v w, bd1_s]
      rw [hr.1.1, if_neg (nI_ge (by omega) (by omega)), show (5 : Int32) = nI 5 from rfl, pk_mul, nI_add, rd_nI (by omega) (by decide), bd1_s, Nat.mul_comm p 5, hr.2.2.2.1 p l hp (by omega), nI_add, nI_1]
      exact ih n (l + 1) (by omega) (by omega)
  simp only [f_Realm_brokenByOne, f_Realm_brokenByOne_0]
  exact key (ρ 0 0) FU 0 (by unfold FU; omega) (by omega)
theorem max0 {z : Int} (h1 : -2 ^ 31 ≤ z) (h2 : z < 2 ^ 31) : (if (0 : Int32) < zI z then zI z else 0) = nI z.toNat := by
  have e : (0 : Int32) < zI z ↔ 0 < z := by rw [Int32.lt_iff_toInt_lt, zI_t h1 h2]; rfl
  rw [ite_iff e]
  by_cases h : 0 < z
  · rw [if_pos h, ← zI_n, Int.toNat_of_nonneg (by omega)]
  · rw [if_neg h, show z.toNat = 0 by omega]; rfl
theorem C_needOf (ho : rl o) (hr : CR o ρ v) (hk : ROK ρ) {l : Nat} (hl : l < ρ 0 0) : f_Realm_needOf o (nI l) (bh v w) = some (nI (sNeed ρ l), bh v w) := by
  have h1 := hk.1.1
  have h2 := hk.1.2.1
  have hst := hk.st
  have hq : ρ 1 l ≤ 9 := (hk.2.1 l hl).1
  have hB : ∀ p, p < ρ 0 1 → ρ 12 (5 * p + l) ≤ 3 := fun p hp => Nat.le_trans (hk.2.2.2.1 p l hp hl) (hk.2.1 l hl).2.2.1
  have key : ∀ (k fuel p : Nat), k < fuel → p + k = ρ 0 1 → f_Realm_needOf_22 fuel o (nI l) (zI ((ρ 1 l : Int) - sumN (fun p => ρ 12 (5 * p + l)) p)) (nI p) (bh v w) = some (nI (ρ 1 l - sumN (fun p => ρ 12 (5 * p + l)) (ρ 0 1)), bh v w) := by
    intro k
    induction k with
    | zero =>
      intro fuel p hf hp
      obtain ⟨n, rfl⟩ : ∃ n, fuel = n + 1 := ⟨fuel - 1, by omega⟩
      have hs : sumN (fun p => ρ 12 (5 * p + l)) p ≤ 3 * p := sumN_c (fun i hi => hB i (by omega))
      simp only [f_Realm_needOf_22, f_Realm_needOf_22b, hRl ho v w, bd1_s]
      rw [hr.1.2.1, if_pos (nI_le (by omega) (by omega)), show ρ 0 1 = p by omega, max0 (by omega) (by omega)]
      congr 3
      omega
    | succ k ih =>
      intro fuel p hf hp
      obtain ⟨n, rfl⟩ : ∃ n, fuel = n + 1 := ⟨fuel - 1, by omega⟩
      simp only [f_Realm_needOf_22, f_Realm_needOf_22b, hRl ho v w, bd1_s]
      rw [hr.1.2.1, if_neg (nI_ge (by omega) (by omega)), C_brokenBy ho hr hk (by omega) hl, bd2_s, zI_subn, nI_1]
      have := ih n (p + 1) (by omega) (by omega)
      rw [show ((ρ 1 l : Int) - (sumN (fun p => ρ 12 (5 * p + l)) p : Nat)) - (ρ 12 (5 * p + l) : Nat) = (ρ 1 l : Int) - (sumN (fun p => ρ 12 (5 * p + l)) (p + 1) : Nat) by show _ = (ρ 1 l : Int) - ((sumN (fun p => ρ 12 (5 * p + l)) p + ρ 12 (5 * p + l) : Nat) : Int); omega]
      exact this
  simp only [f_Realm_needOf, f_Realm_needOf_0, hRl ho v w, bd1_s]
  rw [hr.1.2.2.2.2.1, Q_hasBit (by omega) (by omega), bd2_s]
  unfold sNeed
  rcases bit_01 (ρ 0 4) l with h | h
  · rw [h, if_pos (show nI 0 = 0 from rfl), if_neg (by decide)]
    rfl
  · rw [h, if_neg (show ¬ nI 1 = 0 by decide), if_pos rfl]
    simp only [hRl ho v w, bd1_s]
    rw [rd_nI (by omega) (by decide), bd1_s, (hr.2.1 l hl).1]
    have := key (ρ 0 1) FU 0 (by unfold FU; omega) (by omega)
    rw [show ((ρ 1 l : Nat) : Int) - (sumN (fun p => ρ 12 (5 * p + l)) 0 : Nat) = ((ρ 1 l : Nat) : Int) by show ((ρ 1 l : Nat) : Int) - ((0 : Nat) : Int) = _; omega, zI_n] at this
    exact this
theorem C_chainOf (ho : rl o) (hr : CR o ρ v) (hk : ROK ρ) {l : Nat} (hl : l < ρ 0 0) : f_Realm_chainOf o (nI l) (bh v w) = some (nI (sChain ρ l), bh v w) := by
  have h1 := hk.1.1
  have key : ∀ (k fuel acc c i : Nat), c ≤ ρ 0 0 → k < fuel → i + k = ρ 0 0 → f_Realm_chainOf_7 fuel o (nI acc) (cI c) (nI i) (bh v w) = some (nI (clf (ρ 5) k acc c), bh v w) := by
    intro k
    induction k with
    | zero =>
      intro fuel acc c i hc hf hi
      obtain ⟨n, rfl⟩ : ∃ n, fuel = n + 1 := ⟨fuel - 1, by omega⟩
      simp only [f_Realm_chainOf_7, f_Realm_chainOf_7b, f_Realm_chainOf_43, hRl ho v w, bd1_s]
      rw [hr.1.1, if_pos (nI_le (by omega) (by omega))]
      rfl
    | succ k ih =>
      intro fuel acc c i hc hf hi
      obtain ⟨n, rfl⟩ : ∃ n, fuel = n + 1 := ⟨fuel - 1, by omega⟩
      simp only [f_Realm_chainOf_7, f_Realm_chainOf_7b, f_Realm_chainOf_43, hRl ho v w, bd1_s]
      rw [hr.1.1, if_neg (nI_ge (by omega) (by omega)), C_hasLaw ho hr h1, bd2_s]
      cases c with
      | zero =>
        rw [if_neg (show ¬ (0 ≤ (cI 0).toInt ∧ (cI 0).toInt < (ρ 0 0 : Int)) from fun z => absurd z.1 (by decide)), if_pos rfl]
        rfl
      | succ m =>
        have e1 : (cI (m + 1)).toInt = (m : Int) := nI_toInt (by omega)
        have e2 : (if 0 ≤ (cI (m + 1)).toInt ∧ (cI (m + 1)).toInt < (ρ 0 0 : Int) then (1 : Int32) else 0) = 1 := if_pos (by rw [e1]; omega)
        rw [e2, if_neg (by decide)]
        simp only [hRl ho v w, bd1_s]
        show (bd1 (rd (v (o + 5)) 5 (nI m)) fun x10 => f_Realm_chainOf_7 n o (nI acc ||| 1 <<< (nI m &&& 31)) x10 (nI i + 1) (bh v w)) = _
        rw [rd_nI (by omega) (by decide), bd1_s, shl_I (by omega), or_I, nI_1, (hr.2.1 m (by omega)).2.2.2.2]
        exact ih n _ _ (i + 1) (hk.2.1 m (by omega)).2.2.2.2.2.1 (by omega) (by omega)
  simp only [f_Realm_chainOf, f_Realm_chainOf_0]
  have := key (ρ 0 0) FU 0 (l + 1) 0 (by omega) (by unfold FU; omega) (by omega)
  rw [ring (ρ 5) h1 (fun m hm => (hk.2.1 m hm).2.2.2.2.2.1) hl, ← chn_chf] at this
  exact this
end
