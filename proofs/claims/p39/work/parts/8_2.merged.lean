/-! 8_04.joined -/
section
/-! 8a.count.lean.txt -/
section
section
variable {ρ : Rho} {v : Nat → Nat → Int32} {w : Nat → Nat → Int64} {o : Nat}
theorem C_brokenInAll (ho : rl o) (hr : CR o ρ v) (hk : ROK ρ) : f_Realm_brokenInAll o (bh v w) = some (nI (sumN (sAll ρ) (ρ 0 1)), bh v w) := by
  have h2 := hk.1.2.1
  have key : ∀ (k fuel i : Nat), k < fuel → i + k = ρ 0 1 → f_Realm_brokenInAll_4 fuel o (nI (sumN (sAll ρ) i)) (nI i) (bh v w) = some (nI (sumN (sAll ρ) (ρ 0 1)), bh v w) := by
    intro k
    induction k with
    | zero =>
      intro fuel i hf hi
      obtain ⟨n, rfl⟩ : ∃ n, fuel = n + 1 := ⟨fuel - 1, by omega⟩
      simp only [f_Realm_brokenInAll_4, f_Realm_brokenInAll_4b, hRl ho v w, bd1_s]
      rw [hr.1.2.1, if_pos (nI_le (by omega) (by omega)), show i = ρ 0 1 by omega]
    | succ k ih =>
      intro fuel i hf hi
      obtain ⟨n, rfl⟩ : ∃ n, fuel = n + 1 := ⟨fuel - 1, by omega⟩
      simp only [f_Realm_brokenInAll_4, f_Realm_brokenInAll_4b, hRl ho v w, bd1_s]
      rw [hr.1.2.1, if_neg (nI_ge (by omega) (by omega)), C_brokenByOne ho hr hk (by omega), bd2_s, nI_add, nI_1]
      exact ih n (i + 1) (by omega) (by omega)
  exact key (ρ 0 1) FU 0 (by unfold FU; omega) (by omega)
theorem C_allPurses (ho : rl o) (hr : CR o ρ v) (hk : ROK ρ) : f_Realm_allPurses o (bh v w) = some (nI (sumN (ρ 9) (ρ 0 1)), bh v w) := by
  have h2 := hk.1.2.1
  have key : ∀ (k fuel i : Nat), k < fuel → i + k = ρ 0 1 → f_Realm_allPurses_4 fuel o (nI (sumN (ρ 9) i)) (nI i) (bh v w) = some (nI (sumN (ρ 9) (ρ 0 1)), bh v w) := by
    intro k
    induction k with
    | zero =>
      intro fuel i hf hi
      obtain ⟨n, rfl⟩ : ∃ n, fuel = n + 1 := ⟨fuel - 1, by omega⟩
      simp only [f_Realm_allPurses_4, f_Realm_allPurses_4b, hRl ho v w, bd1_s]
      rw [hr.1.2.1, if_pos (nI_le (by omega) (by omega)), show i = ρ 0 1 by omega]
    | succ k ih =>
      intro fuel i hf hi
      obtain ⟨n, rfl⟩ : ∃ n, fuel = n + 1 := ⟨fuel - 1, by omega⟩
      simp only [f_Realm_allPurses_4, f_Realm_allPurses_4b, hRl ho v w, bd1_s]
      rw [hr.1.2.1, if_neg (nI_ge (by omega) (by omega)), rd_nI (by omega) (by decide), bd1_s, (hr.2.2.1 i (by omega)).2.2.2.1, nI_add, nI_1]
      exact ih n (i + 1) (by omega) (by omega)
  exact key (ρ 0 1) FU 0 (by unfold FU; omega) (by omega)
theorem C_allNeed (ho : rl o) (hr : CR o ρ v) (hk : ROK ρ) : f_Realm_allNeed o (bh v w) = some (nI (sumN (sNeed ρ) (ρ 0 0)), bh v w) := by
  have h1 := hk.1.1
  have key : ∀ (k fuel i : Nat), k < fuel → i + k = ρ 0 0 → f_Realm_allNeed_4 fuel o (nI (sumN (sNeed ρ) i)) (nI i) (bh v w) = some (nI (sumN (sNeed ρ) (ρ 0 0)), bh v w) := by
    intro k
    induction k with
    | zero =>
      intro fuel i hf hi
      obtain ⟨n, rfl⟩ : ∃ n, fuel = n + 1 := ⟨fuel - 1, by omega⟩
      simp only [f_Realm_allNeed_4, f_Realm_allNeed_4b, hRl ho v w, bd1_s]
      rw [hr.1.1, if_pos (nI_le (by omega) (by omega)), show i = ρ 0 0 by omega]
    | succ k ih =>
      intro fuel i hf hi
      obtain ⟨n, rfl⟩ : ∃ n, fuel = n + 1 := ⟨fuel - 1, by omega⟩
      simp only [f_Realm_allNeed_4, f_Realm_allNeed_4b, hRl ho v w, bd1_s]
      rw [hr.1.1, if_neg (nI_ge (by omega) (by omega)), C_needOf ho hr hk (by omega), bd2_s, nI_add, nI_1]
      exact ih n (i + 1) (by omega) (by omega)
  exact key (ρ 0 0) FU 0 (by unfold FU; omega) (by omega)
theorem Q_countKept {a b : Nat} (ha : v 38 0 = nI a) (hb : v 38 1 = nI b) (la : a ≤ 1) (lb : b ≤ 1) : f_Q_countKept 0 (bh v w) = some (nI (a + b), bh v w) := by
  have e0 : rd (v 38) 2 (0 : Int32) = some (nI a) := by rw [← ha]; rfl
  have e1 : rd (v 38) 2 (1 : Int32) = some (nI b) := by rw [← hb]; rfl
  have st : ∀ (n : Nat) (s i : Int32) (x : Nat), rd (v 38) 2 i = some (nI x) → x ≤ 1 → ¬ (2 : Int32) ≤ i → f_Q_countKept_4 (n + 1) 0 s i (bh v w) = f_Q_countKept_4 n 0 (s + nI x) (i + 1) (bh v w) := by
    intro n s i x ex hx hi
    simp only [f_Q_countKept_4, f_Q_countKept_4b, f_Q_countKept_24, hQ v w, bd1_s]
    rw [if_neg hi, ex, bd1_s]
    rcases (show x = 0 ∨ x = 1 by omega) with rfl | rfl
    · rw [if_pos (show nI 0 = 0 from rfl)]; rfl
    · rw [if_neg (by decide)]; rfl
  have en : ∀ (n : Nat) (s i : Int32), (2 : Int32) ≤ i → f_Q_countKept_4 (n + 1) 0 s i (bh v w) = some (s, bh v w) := by
    intro n s i hi
    simp only [f_Q_countKept_4, f_Q_countKept_4b]
    rw [if_pos hi]
  refine ((st 599 0 0 a e0 la (by decide)).trans (st 598 (0 + nI a) 1 b e1 lb (by decide))).trans ?_
  refine (en 597 _ _ (by decide)).trans ?_
  rw [show (0 : Int32) = nI 0 from rfl, nI_add, nI_add, Nat.zero_add]
/-- the sums that the reference's count makes -/
theorem M_count_50 (hr : MR ρ v) (hk : ROK ρ) (x a b : Int32) : f_M_count 100 x (bh v w) = f_M_count_50 FU 100 x (nI (sumN (sAll ρ) (ρ 0 1))) (nI (sumN (ρ 9) (ρ 0 1))) 0 0 (bh v w) := by
  have h2 := hk.1.2.1
  have key : ∀ (k fuel i : Nat), k < fuel → i + k = ρ 0 1 → f_M_count_10 fuel 100 x (nI (sumN (sAll ρ) i)) (nI (sumN (ρ 9) i)) 0 (nI i) (bh v w) = f_M_count_50 FU 100 x (nI (sumN (sAll ρ) (ρ 0 1))) (nI (sumN (ρ 9) (ρ 0 1))) 0 0 (bh v w) := by
    intro k
    induction k with
    | zero =>
      intro fuel i hf hi
      obtain ⟨n, rfl⟩ : ∃ n, fuel = n + 1 := ⟨fuel - 1, by omega⟩
      simp only [f_M_count_10, f_M_count_10b, hM v w, bd1_s]
      rw [hr.1.2.1, if_pos (nI_le (by omega) (by omega)), show i = ρ 0 1 by omega]
    | succ k ih =>
      intro fuel i hf hi
      obtain ⟨n, rfl⟩ : ∃ n, fuel = n + 1 := ⟨fuel - 1, by omega⟩
      simp only [f_M_count_10, f_M_count_10b, hM v w, bd1_s]
      have := hr.2.2.2.2.2.2.1 i (by omega)
      rw [show 0 + 15 + i = 15 + i by omega] at this
      rw [hr.1.2.1, if_neg (nI_ge (by omega) (by omega)), M_allBy hr hk (by omega), bd2_s]
      simp only [hM v w, bd1_s]
      rw [show (15 : Int32) + nI i = nI (15 + i) by rw [show (15 : Int32) = nI 15 from rfl, nI_add], rd_nI (by omega) (by decide), bd1_s, this, nI_add, nI_add, nI_1]
      exact ih n (i + 1) (by omega) (by omega)
  exact key (ρ 0 1) FU 0 (by unfold FU; omega) (by omega)
end
section
variable {S : Sg} {v : Nat → Nat → Int32} {w : Nat → Nat → Int64}
theorem E_count (x : Int32) (hs : SOK S) (hc : CI S v) (hm : MI S v) : Eqv S v w (f_Q_count 0 x) (f_M_count 100 x) := by
  have h1 := hs.1.1.1
  have h2 := hs.1.1.2.1
  have hst := hs.1.st
  obtain ⟨a, ha, la⟩ : ∃ a : Nat, S.2.2 3 0 = a ∧ a ≤ 1 := by
    rcases hs.2.1 0 (by omega) with z | z
    · exact ⟨0, z, by omega⟩
    · exact ⟨1, z.1, by omega⟩
  obtain ⟨b, hb, lb⟩ : ∃ b : Nat, S.2.2 3 1 = b ∧ b ≤ 1 := by
    rcases hs.2.1 1 (by omega) with z | z
    · exact ⟨0, z, by omega⟩
    · exact ⟨1, z.1, by omega⟩
  have k0 : v 38 0 = nI a := by rw [(hc.2.1 0 (by omega)).1, ha]; rfl
  have k1 : v 38 1 = nI b := by rw [(hc.2.1 1 (by omega)).1, hb]; rfl
  have c5 : v 92 0 = zI (if S.2.2 4 0 = -4 then -4 else S.2.2 5 0) := (hc.2.2.2.2.2.1 0 (by omega)).1
  have eA : aR (bh v w) 5 39 (0 : Int32) = some 92 := rfl
  refine Eqv.query (r := if x = 0 then nI (sumN (bit (S.1 0 4)) 5) else if x = 1 then nI (sumN (sAll S.1) (S.1 0 1)) else if x = 2 then nI (S.1 0 6) else if x = 3 then nI (a + b) else if x = 4 then zI (S.2.2 0 0) else if x = 5 then zI (if S.2.2 4 0 = -4 then -4 else S.2.2 5 0) else if x = 6 then nI (sumN (S.1 9) (S.1 0 1)) else if x = 7 then nI (sumN (sNeed S.1) (S.1 0 0)) else -1) hs hc hm ?_ ?_
  · simp only [f_Q_count, f_Q_count_0, q_now, hQ v w, hRl rl3 v w, bd1_s, eA]
    rw [hc.1.1.2.2.2.2.1, bitCount_I _ hst, C_brokenInAll rl3 hc.1 hs.1, Q_countKept k0 k1 la lb, C_allPurses rl3 hc.1 hs.1, C_allNeed rl3 hc.1 hs.1]
    simp only [bd2_s]
    rw [show v (3 + 13) 0 = nI (S.1 0 6) from hc.1.1.2.2.2.2.2.2, hc.2.2.1, c5]
    repeat' refine it_sp ?_ ?_
    all_goals first | rfl | (split <;> rfl)
  · rw [M_count_50 hm.1 hs.1 x 0 0]
    have m0 : rd (v 102) 2 (0 : Int32) = some (nI a) := by rw [show nI a = zI (S.2.2 3 0) by rw [ha]; rfl, ← (hm.2.1 0 (by omega)).1]; rfl
    have m1 : rd (v 102) 2 (1 : Int32) = some (nI b) := by rw [show nI b = zI (S.2.2 3 1) by rw [hb]; rfl, ← (hm.2.1 1 (by omega)).1]; rfl
    have m4 : rd (v 123) 4 (0 : Int32) = some (zI (S.2.2 4 0)) := by rw [← (hm.2.2.2.2.2.1 0 (by omega)).1]; rfl
    have m5 : rd (v 124) 4 (0 : Int32) = some (zI (S.2.2 5 0)) := by rw [← (hm.2.2.2.2.2.1 0 (by omega)).2.1]; rfl
    have e10 : rd (v 101) 198 (10 : Int32) = some (nI (S.1 0 4)) := by rw [← hm.1.2.2.2.1]; rfl
    have e41 : rd (v 101) 198 (41 : Int32) = some (nI (S.1 0 6)) := by rw [← hm.1.2.2.2.2.2.2.2.2.2.2.2.2.1]; rfl
    have fl : ∀ a, a ≤ 1 → ∀ h, f_M_flag (nI a) h = some (nI a, h) := by
      intro a la h
      simp only [f_M_flag, f_M_flag_0]
      rcases (show a = 0 ∨ a = 1 by omega) with rfl | rfl <;> rfl
    have i4 : zI (S.2.2 4 0) = -4 ↔ S.2.2 4 0 = -4 := by
      rcases (hs.2.2.2.2.2 0 (by omega)).1 with z | z
      · rw [z]; exact ⟨fun _ => rfl, fun _ => rfl⟩
      · rcases (show S.2.2 4 0 = 0 ∨ S.2.2 4 0 = 1 ∨ S.2.2 4 0 = 2 by omega) with y | y | y <;> rw [y] <;> decide
    have key : ∀ (k fuel i : Nat), k < fuel → i + k = S.1 0 0 → f_M_count_50 fuel 100 x (nI (sumN (sAll S.1) (S.1 0 1))) (nI (sumN (S.1 9) (S.1 0 1))) (nI (sumN (sNeed S.1) i)) (nI i) (bh v w) = some (if x = 0 then nI (sumN (bit (S.1 0 4)) 5) else if x = 1 then nI (sumN (sAll S.1) (S.1 0 1)) else if x = 2 then nI (S.1 0 6) else if x = 3 then nI (a + b) else if x = 4 then zI (S.2.2 0 0) else if x = 5 then zI (if S.2.2 4 0 = -4 then -4 else S.2.2 5 0) else if x = 6 then nI (sumN (S.1 9) (S.1 0 1)) else if x = 7 then nI (sumN (sNeed S.1) (S.1 0 0)) else -1, bh v w) := by
      intro k
      induction k with
      | zero =>
        intro fuel i hf hi
        obtain ⟨n, rfl⟩ : ∃ n, fuel = n + 1 := ⟨fuel - 1, by omega⟩
        simp only [f_M_count_50, f_M_count_50b, hM v w, bd1_s]
        rw [hm.1.1.1, if_pos (nI_le (by omega) (by omega)), show i = S.1 0 0 by omega]
        simp only [e10, e41, m0, m1, m4, m5, bd1_s, bd2_s, M_bitsOf (show S.1 0 4 < 2 ^ 31 by omega), fl a la, fl b lb, hM v w, nI_add, hm.2.2.1, i4]
        repeat' refine it_sp ?_ ?_
        all_goals first | rfl | (split <;> rfl)
      | succ k ih =>
        intro fuel i hf hi
        obtain ⟨n, rfl⟩ : ∃ n, fuel = n + 1 := ⟨fuel - 1, by omega⟩
        simp only [f_M_count_50, f_M_count_50b, hM v w, bd1_s]
        rw [hm.1.1.1, if_neg (nI_ge (by omega) (by omega)), M_needOf hm.1 hs.1 (by omega), bd2_s, nI_add, nI_1]
        exact ih n (i + 1) (by omega) (by omega)
    exact key (S.1 0 0) FU 0 (by unfold FU; omega) (by omega)
end
end
/-! 8b.sheet.lean.txt -/
section
/-! sheets -/
theorem hSh {k : Nat} (hk : k < 4) (v : Nat → Nat → Int32) (w : Nat → Nat → Int64) : kC (bh v w) (92 + 2 * k) 5 = some () ∧ gI (bh v w) (92 + 2 * k) 5 0 = some (v (92 + 2 * k) 0) ∧ (∀ x, pV (bh v w) (92 + 2 * k) 5 0 (.int x) = some (bh (u2 v (92 + 2 * k) 0 x) w)) ∧ gI (bh v w) (92 + 2 * k) 5 1 = some (v (92 + 2 * k) 1) ∧ (∀ x, pV (bh v w) (92 + 2 * k) 5 1 (.int x) = some (bh (u2 v (92 + 2 * k) 1 x) w)) ∧ gR (bh v w) (92 + 2 * k) 5 2 = some (93 + 2 * k) ∧ aN (bh v w) 0 (93 + 2 * k) = some (nI 40) ∧ (∀ i, aI (bh v w) 0 (93 + 2 * k) i = rd (v (93 + 2 * k)) 40 i) ∧ (∀ i x, sI (bh v w) 0 (93 + 2 * k) i x = wr v w (93 + 2 * k) 40 i x) ∧ aR (bh v w) 5 39 (nI k) = some (92 + 2 * k) := by
  rcases (show k = 0 ∨ k = 1 ∨ k = 2 ∨ k = 3 by omega) with rfl | rfl | rfl | rfl <;> exact ⟨rfl, rfl, (fun _ => pV_bh rfl rfl), rfl, (fun _ => pV_bh rfl rfl), rfl, rfl, aI_bh rfl, sI_bh rfl, rfl⟩
theorem M_isSheet (x y : Int32) (h : mH) : f_M_isSheet x y h = some (if (0 ≤ x.toInt ∧ x.toInt < ((3 + 1 : Nat) : Int)) ∧ (0 ≤ y.toInt ∧ y.toInt < ((2 + 1 : Nat) : Int)) then 1 else 0, h) := by
  simp only [f_M_isSheet, f_M_isSheet_0, f_M_isSheet_28, M_in, bd2_s]
  rw [show (3 : Int64) = (nI 3).toInt64 from rfl, show (2 : Int64) = (nI 2).toInt64 from rfl]
  by_cases hx : 0 ≤ x.toInt ∧ x.toInt < ((3 + 1 : Nat) : Int)
  · rw [if_pos ((in_rngL (by decide)).mpr hx), if_neg (by decide)]
    by_cases hy : 0 ≤ y.toInt ∧ y.toInt < ((2 + 1 : Nat) : Int)
    · rw [if_pos ((in_rngL (by decide)).mpr hy), if_neg (by decide), if_pos ⟨hx, hy⟩]
    · rw [if_neg (fun z => hy ((in_rngL (by decide)).mp z)), if_pos rfl, if_neg (fun z => hy z.2)]
  · rw [if_neg (fun z => hx ((in_rngL (by decide)).mp z)), if_pos rfl, if_neg (fun z => hx z.1)]
/-- the rest with a new sheet k -/
def xsh (X : Nat → Nat → Int) (k : Nat) (lane n : Int) : Nat → Nat → Int := va_up (upX (upX X 4 k lane) 5 k n) 6 (fun i => if 40 * k ≤ i ∧ i < 40 * k + 40 then 0 else X 6 i)
section
variable {S : Sg} {v v1 : Nat → Nat → Int32} {w : Nat → Nat → Int64} {k : Nat}
theorem SOK_sh {a n : Nat} (hs : SOK S) (ha : a ≤ 2) (hn : n ≤ 40) : SOK (S.1, S.2.1, xsh S.2.2 k a n) := by
  obtain ⟨h1, h2, h3, h4, h5, h6⟩ := hs
  refine ⟨h1, h2, h3, h4, h5, fun j hj => ?_⟩
  show (va_up (S.2.2 4) k (a : Int) j = -4 ∨ 0 ≤ va_up (S.2.2 4) k (a : Int) j ∧ va_up (S.2.2 4) k (a : Int) j ≤ 2) ∧ 0 ≤ va_up (S.2.2 5) k (n : Int) j ∧ va_up (S.2.2 5) k (n : Int) j ≤ 40
  by_cases e : j = k
  · subst e; rw [up_at, up_at]; omega
  · rw [up_ne e, up_ne e]; exact h6 j hj
theorem CI_sh {a n : Nat} (hc : CI S v) (hk : k < 4) (hq : ∀ q, q ≠ 92 + 2 * k → q ≠ 93 + 2 * k → v1 q = v q) (hn : v1 (92 + 2 * k) 0 = nI n) (ha : v1 (92 + 2 * k) 1 = nI a) (hz : ∀ i, i < 40 → v1 (93 + 2 * k) i = 0) : CI (S.1, S.2.1, xsh S.2.2 k a n) v1 := by
  obtain ⟨h1, h2, h3, h4, h5, h6, h7⟩ := hc
  refine ⟨h1.frame (fun p _ _ => hq p (by omega) (by omega)), fun j hj => ?_, ?_, ?_, ?_, fun j hj => ?_, ?_⟩
  · rw [hq 38 (by omega) (by omega)]
    exact ⟨(h2 j hj).1, fun z => ((h2 j hj).2 z).frame (fun p _ _ => hq p (by omega) (by omega))⟩
  · rw [hq 1 (by omega) (by omega)]; exact h3
  · rw [hq 2 (by omega) (by omega)]; exact h4
  · rw [hq 1 (by omega) (by omega)]; exact h5
  · show v1 (92 + 2 * j) 0 = zI (if va_up (S.2.2 4) k (a : Int) j = -4 then -4 else va_up (S.2.2 5) k (n : Int) j) ∧ (va_up (S.2.2 4) k (a : Int) j ≠ -4 → v1 (92 + 2 * j) 1 = zI (va_up (S.2.2 4) k (a : Int) j)) ∧ ∀ i, i < 40 → v1 (93 + 2 * j) i = zI (if 40 * k ≤ 40 * j + i ∧ 40 * j + i < 40 * k + 40 then 0 else S.2.2 6 (40 * j + i))
    by_cases e : j = k
    · subst e
      rw [up_at, up_at, if_neg (by omega), zI_n, zI_n]
      exact ⟨hn, fun _ => ha, fun i hi => by rw [if_pos (by omega)]; exact hz i hi⟩
    · rw [up_ne e, up_ne e, hq (92 + 2 * j) (by omega) (by omega), hq (93 + 2 * j) (by omega) (by omega)]
      exact ⟨(h6 j hj).1, (h6 j hj).2.1, fun i hi => by rw [if_neg (by omega)]; exact (h6 j hj).2.2 i hi⟩
  · rw [hq 0 (by omega) (by omega), hq 43 (by omega) (by omega)]; exact h7
theorem MI_sh {a n : Nat} (hm : MI S v) (hk : k < 4) (hq : ∀ q, q ≠ 123 → q ≠ 124 → q ≠ 125 → v1 q = v q) (ha : ∀ j, v1 123 j = if j = k then nI a else v 123 j) (hn : ∀ j, v1 124 j = if j = k then nI n else v 124 j) (hz : ∀ i, v1 125 i = if 40 * k ≤ i ∧ i < 40 * k + 40 then 0 else v 125 i) : MI (S.1, S.2.1, xsh S.2.2 k a n) v1 := by
  obtain ⟨⟨h1, h1b⟩, h2, h3, h4, h5, h6, h7⟩ := hm
  refine ⟨⟨?_, h1b.frame (hq 101 (by omega) (by omega) (by omega))⟩, fun j hj => ?_, ?_, ?_, ?_, fun j hj => ?_, ?_⟩
  · unfold MF
    rw [hq 100 (by omega) (by omega) (by omega), hq 103 (by omega) (by omega) (by omega), hq 104 (by omega) (by omega) (by omega), hq 105 (by omega) (by omega) (by omega), hq 106 (by omega) (by omega) (by omega), hq 107 (by omega) (by omega) (by omega)]
    exact h1
  · rw [hq 102 (by omega) (by omega) (by omega)]
    exact ⟨(h2 j hj).1, fun z => ((h2 j hj).2 z).frame (hq 101 (by omega) (by omega) (by omega))⟩
  · rw [hq 100 (by omega) (by omega) (by omega)]; exact h3
  · rw [hq 114 (by omega) (by omega) (by omega)]; exact h4
  · rw [hq 100 (by omega) (by omega) (by omega)]; exact h5
  · show v1 123 j = zI (va_up (S.2.2 4) k (a : Int) j) ∧ v1 124 j = zI (va_up (S.2.2 5) k (n : Int) j) ∧ ∀ i, i < 40 → v1 125 (40 * j + i) = zI (if 40 * k ≤ 40 * j + i ∧ 40 * j + i < 40 * k + 40 then 0 else S.2.2 6 (40 * j + i))
    rw [ha, hn]
    by_cases e : j = k
    · subst e
      rw [up_at, up_at, if_pos rfl, if_pos rfl, zI_n, zI_n]
      exact ⟨rfl, rfl, fun i hi => by rw [hz, if_pos (by omega), if_pos (by omega)]; rfl⟩
    · rw [up_ne e, up_ne e, if_neg e, if_neg e]
      exact ⟨(h6 j hj).1, (h6 j hj).2.1, fun i hi => by rw [hz, if_neg (by omega), if_neg (by omega)]; exact (h6 j hj).2.2 i hi⟩
  · rw [hq 100 (by omega) (by omega) (by omega)]; exact h7
theorem M_sheet_z (hk : k < 4) (v : Nat → Nat → Int32) (w : Nat → Nat → Int64) : ∃ v1, f_M_sheet_40 FU 100 (nI k) 0 (bh v w) = some (1, bh v1 w) ∧ (∀ q, q ≠ 125 → v1 q = v q) ∧ ∀ i, v1 125 i = if 40 * k ≤ i ∧ i < 40 * k + 40 then 0 else v 125 i := by
  have key : ∀ (m fuel j : Nat) (v : Nat → Nat → Int32), m < fuel → j + m = 40 → ∃ v1, f_M_sheet_40 fuel 100 (nI k) (nI j) (bh v w) = some (1, bh v1 w) ∧ (∀ q, q ≠ 125 → v1 q = v q) ∧ ∀ i, v1 125 i = if 40 * k + j ≤ i ∧ i < 40 * k + 40 then 0 else v 125 i := by
    intro m
    induction m with
    | zero =>
      intro fuel j v hf hj
      obtain ⟨n, rfl⟩ : ∃ n, fuel = n + 1 := ⟨fuel - 1, by omega⟩
      simp only [f_M_sheet_40, f_M_sheet_40b]
      rw [show (40 : Int32) = nI 40 from rfl, if_pos ((nI_leI (by omega) (by omega)).mpr (by omega))]
      exact ⟨v, rfl, fun _ _ => rfl, fun i => by rw [if_neg (by omega)]⟩
    | succ m ih =>
      intro fuel j v hf hj
      obtain ⟨n, rfl⟩ : ∃ n, fuel = n + 1 := ⟨fuel - 1, by omega⟩
      simp only [f_M_sheet_40, f_M_sheet_40b, hM v w, bd1_s]
      rw [show (40 : Int32) = nI 40 from rfl, if_neg (fun z => by have := (nI_leI (by omega) (by omega)).mp z; omega), pk_mul, nI_add, wr_nI (by omega) (by decide), bd1_s, nI_1]
      obtain ⟨v1, e1, f1, f2⟩ := ih n (j + 1) (u2 v 125 (40 * k + j) 0) (by omega) (by omega)
      refine ⟨v1, e1, fun q hq => (f1 q hq).trans (u2_o hq), fun i => ?_⟩
      rw [f2]
      by_cases e : i = 40 * k + j
      · subst e; rw [if_neg (by omega), if_pos (by omega), u2_at]
      · by_cases z : 40 * k + j ≤ i ∧ i < 40 * k + 40
        · rw [if_pos (by omega), if_pos z]
        · rw [if_neg (by omega), if_neg z, u2_n e]
  exact key 40 FU 0 v (by unfold FU; omega) (by omega)
theorem E_sheet (x y z : Int32) (hs : SOK S) (hc : CI S v) (hm : MI S v) : Eqv S v w (f_Q_sheet 0 x y z) (f_M_sheet 100 x y z) := by
  have i40 : ∀ z : Int32, z ≤ 40 ↔ z.toInt ≤ 40 := fun z => by rw [Int32.le_iff_toInt_le]; rfl
  have i0 : ∀ z : Int32, 0 ≤ z ↔ 0 ≤ z.toInt := fun z => by rw [Int32.le_iff_toInt_le]; rfl
  by_cases hx : 0 ≤ x.toInt ∧ x.toInt < ((3 + 1 : Nat) : Int)
  · by_cases hy : 0 ≤ y.toInt ∧ y.toInt < ((2 + 1 : Nat) : Int)
    · by_cases h40 : z ≤ 40
      · by_cases h0 : 0 ≤ z
        · obtain ⟨k, hk, rfl⟩ := ix (by omega) hx
          obtain ⟨a, ha, rfl⟩ := ix (by omega) hy
          obtain ⟨n, hn, rfl⟩ := ix (n := 41) (x := z) (by omega) (by have := (i40 z).mp h40; have := (i0 z).mp h0; omega)
          obtain ⟨v1, e1, f1, f2, f3⟩ := fill_I (q := 93 + 2 * k) (n := 40) (x := 0) (by omega) (fun v w => (hSh hk v w).2.2.2.2.2.2.1) (fun v w => (hSh hk v w).2.2.2.2.2.2.2.2.1) (u2 (u2 v (92 + 2 * k) 1 (nI a)) (92 + 2 * k) 0 (nI n)) w
          refine Eqv.change (r := 1) (S' := (S.1, S.2.1, xsh S.2.2 k a n)) (v1 := v1) (w1 := w) hm ?_ (fun q hq => ?_) (SOK_sh hs (by omega) (by omega)) (CI_sh hc hk (fun q h1 h2 => ?_) ?_ ?_ f2) (fun w1 hm1 => ?_)
          · simp only [f_Q_sheet, f_Q_sheet_0, Q_isWithin, bd2_s]
            rw [show (3 : Int32) = nI 3 from rfl, if_pos ((in_rng (by decide)).mpr hx), if_neg (by decide), show (2 : Int32) = nI 2 from rfl, if_pos ((in_rng (by decide)).mpr hy), if_neg (by decide), if_pos h40, if_pos h0]
            simp only [hQ v w, hSh hk v w, bd1_s, f_Sheet_renew, f_Sheet_renew_0]
            simp only [hSh hk (u2 v (92 + 2 * k) 1 (nI a)) w, bd1_s]
            simp only [hSh hk (u2 (u2 v (92 + 2 * k) 1 (nI a)) (92 + 2 * k) 0 (nI n)) w, bd1_s]
            rw [e1]
            rfl
          · rw [f1 q (by omega), u2_o (by omega), u2_o (by omega)]
          · rw [f1 q h2, u2_o h1, u2_o h1]
          · rw [f1 _ (by omega), u2_at]
          · rw [f1 _ (by omega), u2_n (by decide), u2_at]
          · obtain ⟨v2, e2, g1, g2⟩ := M_sheet_z hk (u2 (u2 v1 123 k (nI a)) 124 k (nI n)) w1
            refine ⟨v2, w1, ?_, fun q hq => ?_, MI_sh hm1 hk (fun q h1 h2 h3 => ?_) (fun j => ?_) (fun j => ?_) (fun i => ?_)⟩
            · simp only [f_M_sheet, f_M_sheet_0, M_isSheet, bd2_s]
              rw [if_pos (And.intro hx hy), if_neg (by decide), if_pos h40, if_pos h0]
              simp only [hM v1 w1, bd1_s]
              rw [wr_nI (by omega) (by decide), bd1_s]
              simp only [hM (u2 v1 123 k (nI a)) w1, bd1_s]
              rw [wr_nI (by omega) (by decide), bd1_s]
              exact e2
            · rw [g1 q (by omega), u2_o (by omega), u2_o (by omega)]
            · rw [g1 q h3, u2_o h2, u2_o h1]
            · rw [g1 123 (by omega), u2_o (by omega)]
              by_cases e : j = k
              · subst e; rw [if_pos rfl, u2_at]
              · rw [if_neg e, u2_n e]
            · rw [g1 124 (by omega)]
              by_cases e : j = k
              · subst e; rw [if_pos rfl, u2_at]
              · rw [if_neg e, u2_n e, u2_o (by omega)]
            · rw [g2, u2_o (by omega), u2_o (by omega)]
        · refine Eqv.query (r := -14) hs hc hm ?_ ?_
          · simp only [f_Q_sheet, f_Q_sheet_0, Q_isWithin, bd2_s]
            rw [show (3 : Int32) = nI 3 from rfl, if_pos ((in_rng (by decide)).mpr hx), if_neg (by decide), show (2 : Int32) = nI 2 from rfl, if_pos ((in_rng (by decide)).mpr hy), if_neg (by decide), if_pos h40, if_neg h0]
          · simp only [f_M_sheet, f_M_sheet_0, M_isSheet, bd2_s]
            rw [if_pos (And.intro hx hy), if_neg (by decide), if_pos h40, if_neg h0]
      · refine Eqv.query (r := -1) hs hc hm ?_ ?_
        · simp only [f_Q_sheet, f_Q_sheet_0, f_Q_sheet_24, Q_isWithin, bd2_s]
          rw [show (3 : Int32) = nI 3 from rfl, if_pos ((in_rng (by decide)).mpr hx), if_neg (by decide), show (2 : Int32) = nI 2 from rfl, if_pos ((in_rng (by decide)).mpr hy), if_neg (by decide), if_neg h40]
        · simp only [f_M_sheet, f_M_sheet_0, f_M_sheet_14, M_isSheet, bd2_s]
          rw [if_pos (And.intro hx hy), if_neg (by decide), if_neg h40]
    · refine Eqv.query (r := -1) hs hc hm ?_ ?_
      · simp only [f_Q_sheet, f_Q_sheet_0, f_Q_sheet_24, Q_isWithin, bd2_s]
        rw [show (3 : Int32) = nI 3 from rfl, if_pos ((in_rng (by decide)).mpr hx), if_neg (by decide), show (2 : Int32) = nI 2 from rfl, if_neg (fun q => hy ((in_rng (by decide)).mp q)), if_pos rfl]
      · simp only [f_M_sheet, f_M_sheet_0, f_M_sheet_14, M_isSheet, bd2_s]
        rw [if_neg (show ¬ ((0 ≤ x.toInt ∧ x.toInt < ((3 + 1 : Nat) : Int)) ∧ (0 ≤ y.toInt ∧ y.toInt < ((2 + 1 : Nat) : Int))) from fun q => hy q.2), if_pos rfl]
  · refine Eqv.query (r := -1) hs hc hm ?_ ?_
    · simp only [f_Q_sheet, f_Q_sheet_0, f_Q_sheet_24, Q_isWithin, bd2_s]
      rw [show (3 : Int32) = nI 3 from rfl, if_neg (fun q => hx ((in_rng (by decide)).mp q)), if_pos rfl]
    · simp only [f_M_sheet, f_M_sheet_0, f_M_sheet_14, M_isSheet, bd2_s]
      rw [if_neg (show ¬ ((0 ≤ x.toInt ∧ x.toInt < ((3 + 1 : Nat) : Int)) ∧ (0 ≤ y.toInt ∧ y.toInt < ((2 + 1 : Nat) : Int))) from fun q => hx q.1), if_pos rfl]
end
end
/-! 8c.lay.lean.txt -/
section
section
variable {S : Sg} {v v1 : Nat → Nat → Int32} {w : Nat → Nat → Int64} {k : Nat}
theorem lane_I (hs : SOK S) (hk : k < 4) {c : Int} (hc : c = -4 ∨ c = 0 ∨ c = 1) : zI (S.2.2 4 k) = zI c ↔ S.2.2 4 k = c := by
  constructor
  · intro h
    have := congrArg Int32.toInt h
    have b := (hs.2.2.2.2.2 k hk).1
    rw [zI_t (by omega) (by omega), zI_t (by omega) (by omega)] at this
    exact this
  · intro h; rw [h]
theorem size_4 (hs : SOK S) (hk : k < 4) (h : S.2.2 4 k ≠ -4) : ¬ zI (S.2.2 5 k) = -4 := by
  intro z
  have := congrArg Int32.toInt z
  have b := (hs.2.2.2.2.2 k hk).2
  rw [zI_t (by omega) (by omega), show (-4 : Int32).toInt = -4 from rfl] at this
  omega
theorem C_faultAt (hs : SOK S) (hc : CI S v) (hk : k < 4) (t : Int64) : f_Sheet_faultAt (92 + 2 * k) t (bh v w) = some (if S.2.2 4 k = -4 then 1 else if 0 ≤ t.toInt ∧ t.toInt < S.2.2 5 k then 0 else 2, bh v w) := by
  have b := (hs.2.2.2.2.2 k hk).2
  simp only [f_Sheet_faultAt, f_Sheet_faultAt_0, f_Sheet_faultAt_27, hSh hk v w, bd1_s, cmp_lt]
  rw [(hc.2.2.2.2.2.1 k hk).1]
  by_cases h : S.2.2 4 k = -4
  · rw [if_pos h, if_pos h, if_pos (show zI (-4) = -4 from rfl)]
  · rw [if_neg h, if_neg h, if_neg (size_4 hs hk h)]
    by_cases h1 : t < 0
    · rw [if_pos h1, if_neg (fun z => by rw [Int64.lt_iff_toInt_lt] at h1; have : (0 : Int64).toInt = 0 := rfl; omega)]
    · rw [if_neg h1]
      rw [Int64.lt_iff_toInt_lt, show (0 : Int64).toInt = 0 from rfl] at h1
      by_cases h2 : t < (zI (S.2.2 5 k)).toInt64
      · rw [if_pos h2]
        rw [Int64.lt_iff_toInt_lt, Int32.toInt_toInt64, zI_t (by omega) (by omega)] at h2
        rw [if_pos (by omega)]
      · rw [if_neg h2]
        rw [Int64.lt_iff_toInt_lt, Int32.toInt_toInt64, zI_t (by omega) (by omega)] at h2
        rw [if_neg (by omega)]
theorem zI_toInt (x : Int32) : zI x.toInt = x := Int32.ofInt_toInt x
theorem CI_cell {i : Nat} {x : Int} (hc : CI S v) (hk : k < 4) (hi : i < 40) : CI (S.1, S.2.1, upX S.2.2 6 (40 * k + i) x) (u2 v (93 + 2 * k) i (zI x)) := by
  obtain ⟨h1, h2, h3, h4, h5, h6, h7⟩ := hc
  have hq : ∀ q, q ≠ 93 + 2 * k → u2 v (93 + 2 * k) i (zI x) q = v q := fun q hq => u2_o hq
  refine ⟨h1.frame (fun p _ _ => hq p (by omega)), fun j hj => ?_, ?_, ?_, ?_, fun j hj => ?_, ?_⟩
  · rw [hq 38 (by omega)]
    exact ⟨(h2 j hj).1, fun z => ((h2 j hj).2 z).frame (fun p _ _ => hq p (by omega))⟩
  · rw [hq 1 (by omega)]; exact h3
  · rw [hq 2 (by omega)]; exact h4
  · rw [hq 1 (by omega)]; exact h5
  · rw [hq (92 + 2 * j) (by omega)]
    refine ⟨(h6 j hj).1, (h6 j hj).2.1, fun m hm => ?_⟩
    show _ = zI (upX S.2.2 6 (40 * k + i) x 6 (40 * j + m))
    by_cases e : j = k
    · subst e
      by_cases e2 : m = i
      · subst e2; rw [u2_at, upX_at]
      · rw [u2_n e2, upX_n (by omega)]; exact (h6 j hj).2.2 m hm
    · rw [hq (93 + 2 * j) (by omega), upX_n (by omega)]; exact (h6 j hj).2.2 m hm
  · rw [hq 0 (by omega), hq 43 (by omega)]; exact h7
theorem MI_cell {i : Nat} {x : Int} (hm : MI S v) (hk : k < 4) (hi : i < 40) : MI (S.1, S.2.1, upX S.2.2 6 (40 * k + i) x) (u2 v 125 (40 * k + i) (zI x)) := by
  obtain ⟨⟨h1, h1b⟩, h2, h3, h4, h5, h6, h7⟩ := hm
  have hq : ∀ q, q ≠ 125 → u2 v 125 (40 * k + i) (zI x) q = v q := fun q hq => u2_o hq
  refine ⟨⟨?_, h1b.frame (hq 101 (by omega))⟩, fun j hj => ?_, ?_, ?_, ?_, fun j hj => ?_, ?_⟩
  · unfold MF
    rw [hq 100 (by omega), hq 103 (by omega), hq 104 (by omega), hq 105 (by omega), hq 106 (by omega), hq 107 (by omega)]
    exact h1
  · rw [hq 102 (by omega)]
    exact ⟨(h2 j hj).1, fun z => ((h2 j hj).2 z).frame (hq 101 (by omega))⟩
  · rw [hq 100 (by omega)]; exact h3
  · rw [hq 114 (by omega)]; exact h4
  · rw [hq 100 (by omega)]; exact h5
  · rw [hq 123 (by omega), hq 124 (by omega)]
    refine ⟨(h6 j hj).1, (h6 j hj).2.1, fun m hm => ?_⟩
    show _ = zI (upX S.2.2 6 (40 * k + i) x 6 (40 * j + m))
    by_cases e : 40 * j + m = 40 * k + i
    · rw [e, u2_at, upX_at]
    · rw [u2_n e, upX_n e]; exact (h6 j hj).2.2 m hm
  · rw [hq 100 (by omega)]; exact h7
theorem in_lay {y : Int32} {m : Int} (h1 : -1 ≤ m) (h2 : m ≤ 40) : (0 : Int64) ≤ y.toInt64 ∧ y.toInt64 ≤ (zI m).toInt64 ↔ 0 ≤ y.toInt ∧ y.toInt ≤ m := by
  rw [show (0 : Int64) = (0 : Int32).toInt64 from rfl, i64_le, i64_le, zI_t (by omega) (by omega), show (0 : Int32).toInt = 0 from rfl]
def cst (l : Int) (z : Int32) : Int32 := if l = 0 then z.toInt8.toInt32 else if l = 1 then z.toInt16.toInt32 else z
theorem E_lay (x y z : Int32) (hs : SOK S) (hc : CI S v) (hm : MI S v) : Eqv S v w (f_Q_lay 0 x y z) (f_M_lay 100 x y z) := by
  have hy0 : 0 ≤ (0 : Int32).toInt ∧ (0 : Int32).toInt < ((2 + 1 : Nat) : Int) := by decide
  by_cases hx : 0 ≤ x.toInt ∧ x.toInt < ((3 + 1 : Nat) : Int)
  · obtain ⟨k, hk, rfl⟩ := ix (by omega) hx
    have hk : k < 4 := hk
    have b := (hs.2.2.2.2.2 k hk).2
    have l4 : zI (S.2.2 4 k) = (-4 : Int32) ↔ S.2.2 4 k = -4 := lane_I hs hk (c := -4) (Or.inl rfl)
    have l0 : zI (S.2.2 4 k) = (0 : Int32) ↔ S.2.2 4 k = 0 := lane_I hs hk (c := 0) (Or.inr (Or.inl rfl))
    have l1 : zI (S.2.2 4 k) = (1 : Int32) ↔ S.2.2 4 k = 1 := lane_I hs hk (c := 1) (Or.inr (Or.inr rfl))
    have cin : f_Q_isWithin (nI k) 0 3 (bh v w) = some (1, bh v w) := by rw [Q_isWithin, show (3 : Int32) = nI 3 from rfl, if_pos ((in_rng (by decide)).mpr hx)]
    by_cases h4 : S.2.2 4 k = -4
    · refine Eqv.query (r := -11) hs hc hm ?_ ?_
      · simp only [f_Q_lay, f_Q_lay_0]
        rw [cin, bd2_s, if_neg (by decide)]
        simp only [hQ v w, hSh hk v w, bd1_s]
        rw [C_faultAt hs hc hk, bd2_s, if_pos h4, if_neg (by decide)]
        rfl
      · simp only [f_M_lay, f_M_lay_0, M_isSheet, bd2_s]
        rw [if_pos (And.intro hx hy0), if_neg (by decide)]
        simp only [hM v w, bd1_s]
        rw [rd_nI hk (by decide), bd1_s, (hm.2.2.2.2.2.1 k hk).1, if_pos (l4.mpr h4)]
    · have h4b : ¬ zI (S.2.2 4 k) = -4 := fun q => h4 (l4.mp q)
      by_cases hy : 0 ≤ y.toInt ∧ y.toInt < S.2.2 5 k
      · obtain ⟨i, hi, rfl⟩ := ix (n := 40) (x := y) (by omega) (by omega)
        have eI : zI (S.2.2 5 k) - 1 = zI (S.2.2 5 k - 1) := zI_sub _ 1
        refine Eqv.change (r := 1) (S' := (S.1, S.2.1, upX S.2.2 6 (40 * k + i) (cst (S.2.2 4 k) z).toInt)) (v1 := u2 v (93 + 2 * k) i (zI (cst (S.2.2 4 k) z).toInt)) (w1 := w) hm ?_ (fun q hq => u2_o (by omega)) ?_ (CI_cell hc hk hi) (fun w1 hm1 => ?_)
        · simp only [f_Q_lay, f_Q_lay_0]
          rw [cin, bd2_s, if_neg (by decide)]
          simp only [hQ v w, hSh hk v w, bd1_s]
          rw [C_faultAt hs hc hk, bd2_s, if_neg h4, Int32.toInt_toInt64, if_pos hy, if_pos rfl]
          simp only [hQ v w, hSh hk v w, bd1_s, f_Sheet_put, f_Sheet_put_0, f_Sheet_put_31]
          rw [(hc.2.2.2.2.2.1 k hk).2.1 h4, zI_toInt]
          simp only [wr_nI hi (show 40 < 2 ^ 31 by decide), bd1_s]
          unfold cst
          by_cases e0 : S.2.2 4 k = 0
          · rw [if_pos (l0.mpr e0), if_pos e0]; rfl
          · rw [if_neg (fun q => e0 (l0.mp q)), if_neg e0]
            by_cases e1 : S.2.2 4 k = 1
            · rw [if_pos (l1.mpr e1), if_pos e1]; rfl
            · rw [if_neg (fun q => e1 (l1.mp q)), if_neg e1]; rfl
        · exact hs
        · refine ⟨u2 (u2 v (93 + 2 * k) i (zI (cst (S.2.2 4 k) z).toInt)) 125 (40 * k + i) (zI (cst (S.2.2 4 k) z).toInt), w1, ?_, fun q hq => u2_o (by omega), MI_cell hm1 hk hi⟩
          generalize u2 v (93 + 2 * k) i (zI (cst (S.2.2 4 k) z).toInt) = v1 at hm1
          simp only [f_M_lay, f_M_lay_0, f_M_lay_85, M_isSheet, bd2_s]
          rw [if_pos (And.intro hx hy0), if_neg (by decide)]
          simp only [hM v1 w1, bd1_s]
          rw [rd_nI hk (by decide), bd1_s, (hm1.2.2.2.2.2.1 k hk).1, if_neg h4b, rd_nI hk (by decide), bd1_s, (hm1.2.2.2.2.2.1 k hk).2.1, eI, M_in, bd2_s, if_pos ((in_lay (by omega) (by omega)).mpr (by omega)), if_neg (by decide)]
          simp only [hM v1 w1, bd1_s]
          rw [show ((40 : Int32) * nI k) + nI i = nI (40 * k + i) by rw [show (40 : Int32) = nI 40 from rfl, pk_mul, nI_add]]
          rw [rd_nI hk (by decide), bd1_s, (hm1.2.2.2.2.2.1 k hk).1, zI_toInt]
          simp only [wr_nI (show 40 * k + i < 160 by omega) (show 160 < 2 ^ 31 by decide), bd1_s]
          unfold cst
          by_cases e0 : S.2.2 4 k = 0
          · rw [if_pos (l0.mpr e0), if_pos e0]
          · rw [if_neg (fun q => e0 (l0.mp q)), if_neg e0]
            by_cases e1 : S.2.2 4 k = 1
            · rw [if_pos (l1.mpr e1), if_pos e1]
            · rw [if_neg (fun q => e1 (l1.mp q)), if_neg e1]
      · have eI : zI (S.2.2 5 k) - 1 = zI (S.2.2 5 k - 1) := zI_sub _ 1
        have nin : ¬ ((0 : Int64) ≤ y.toInt64 ∧ y.toInt64 ≤ (zI (S.2.2 5 k - 1)).toInt64) := fun q => by have := (in_lay (by omega) (by omega)).mp q; omega
        refine Eqv.query (r := -12) hs hc hm ?_ ?_
        · simp only [f_Q_lay, f_Q_lay_0]
          rw [cin, bd2_s, if_neg (by decide)]
          simp only [hQ v w, hSh hk v w, bd1_s]
          rw [C_faultAt hs hc hk, bd2_s, if_neg h4, Int32.toInt_toInt64, if_neg hy, if_neg (by decide)]
          rfl
        · simp only [f_M_lay, f_M_lay_0, M_isSheet, bd2_s]
          rw [if_pos (And.intro hx hy0), if_neg (by decide)]
          simp only [hM v w, bd1_s]
          rw [rd_nI hk (by decide), bd1_s, (hm.2.2.2.2.2.1 k hk).1, if_neg h4b, rd_nI hk (by decide), bd1_s, (hm.2.2.2.2.2.1 k hk).2.1, eI, M_in, bd2_s, if_neg nin, if_pos rfl]
  · refine Eqv.query (r := -1) hs hc hm ?_ ?_
    · simp only [f_Q_lay, f_Q_lay_0, Q_isWithin, bd2_s]
      rw [show (3 : Int32) = nI 3 from rfl, if_neg (fun q => hx ((in_rng (by decide)).mp q)), if_pos rfl]
    · simp only [f_M_lay, f_M_lay_0, M_isSheet, bd2_s]
      rw [if_neg (show ¬ ((0 ≤ x.toInt ∧ x.toInt < ((3 + 1 : Nat) : Int)) ∧ (0 ≤ (0 : Int32).toInt ∧ (0 : Int32).toInt < ((2 + 1 : Nat) : Int))) from fun q => hx q.1), if_pos rfl]
end
end
/-! 8d.copy.lean.txt -/
section
/-! copies: a realm of the class, a bank of the reference -/
def cpv (v : Nat → Nat → Int32) (y x n : Nat) : Nat → Nat → Int32 := va_up v y (va_cpy (v x) (v y) 0 0 n)
theorem cp_bh {v : Nat → Nat → Int32} {w : Nat → Nat → Int64} {x y nx ny n : Nat} {f g : Nat → Int32} {k : Int32} (ex : tm x = .inl (0, nx, .inl f)) (ey : tm y = .inl (0, ny, .inl g)) (hk : ¬ k < 0) (hn : k.toNatClampNeg = n) (h1 : n ≤ nx) (h2 : n ≤ ny) : cpI (bh v w) 0 x 0 y 0 k = some (bh (cpv v y x n) w) := by
  unfold cpI
  have e1 : (bh v w).2.2 x = .inl (0, nx, .inl (v x)) := by show fillc _ _ (tm x) = _; rw [ex]; rfl
  have e2 : (bh v w).2.2 y = .inl (0, ny, .inl (v y)) := by show fillc _ _ (tm y) = _; rw [ey]; rfl
  have z0 : (0 : Int32).toNatClampNeg = 0 := rfl
  rw [e1, e2]
  dsimp only
  rw [z0, hn, if_pos ⟨⟨rfl, rfl⟩, by decide, by decide, hk, by omega, by omega⟩]
  congr 1
  refine bh_up (fun p hp => ⟨up_ne hp, rfl⟩) ?_
  rw [ey]
  show Sum.inl (0, ny, Sum.inl (va_up v y (va_cpy (v x) (v y) 0 0 n) y)) = _
  rw [up_at]
def cpL : List Nat := [6, 5, 5, 5, 5, 5, 3, 3, 3, 3, 3, 3, 15, 1, 8, 8, 8]
/-- the first n cells of the realm a are those of b in v -/
def cpd (a b n : Nat) (v v' : Nat → Nat → Int32) : Prop := (∀ q, q < a ∨ a + n ≤ q → v' q = v q) ∧ ∀ j, j < n → ∀ i, i < cpL.getD j 0 → v' (a + j) i = v (b + j) i
theorem cpd.step {a b n k : Nat} {v v' : Nat → Nat → Int32} (hd : a + 17 ≤ b ∨ b + 17 ≤ a) (hn : n < 17) (hk : cpL.getD n 0 = k) (h : cpd a b n v v') : cpd a b (n + 1) v (cpv v' (a + n) (b + n) k) := by
  refine ⟨fun q hq => ?_, fun j hj i hi => ?_⟩
  · unfold cpv
    rw [up_ne (by omega)]
    exact h.1 q (by omega)
  · unfold cpv
    by_cases e : j = n
    · subst e
      rw [up_at, h.1 (b + j) (by omega)]
      rw [hk] at hi
      unfold va_cpy
      rw [if_pos (by omega), show 0 + (i - 0) = i by omega]
    · rw [up_ne (by omega)]
      exact h.2 j (by omega) i hi
theorem cpR {a b : Nat} (ha : rl a) (hb : rl b) (v : Nat → Nat → Int32) (w : Nat → Nat → Int64) :
    cpI (bh v w) 0 (b + 1) 0 (a + 1) 0 5 = some (bh (cpv v (a + 1) (b + 1) 5) w) ∧ cpI (bh v w) 0 (b + 2) 0 (a + 2) 0 5 = some (bh (cpv v (a + 2) (b + 2) 5) w) ∧ cpI (bh v w) 0 (b + 3) 0 (a + 3) 0 5 = some (bh (cpv v (a + 3) (b + 3) 5) w) ∧ cpI (bh v w) 0 (b + 4) 0 (a + 4) 0 5 = some (bh (cpv v (a + 4) (b + 4) 5) w) ∧ cpI (bh v w) 0 (b + 5) 0 (a + 5) 0 5 = some (bh (cpv v (a + 5) (b + 5) 5) w) ∧
    cpI (bh v w) 0 (b + 6) 0 (a + 6) 0 3 = some (bh (cpv v (a + 6) (b + 6) 3) w) ∧ cpI (bh v w) 0 (b + 7) 0 (a + 7) 0 3 = some (bh (cpv v (a + 7) (b + 7) 3) w) ∧ cpI (bh v w) 0 (b + 8) 0 (a + 8) 0 3 = some (bh (cpv v (a + 8) (b + 8) 3) w) ∧ cpI (bh v w) 0 (b + 9) 0 (a + 9) 0 3 = some (bh (cpv v (a + 9) (b + 9) 3) w) ∧ cpI (bh v w) 0 (b + 10) 0 (a + 10) 0 3 = some (bh (cpv v (a + 10) (b + 10) 3) w) ∧ cpI (bh v w) 0 (b + 11) 0 (a + 11) 0 3 = some (bh (cpv v (a + 11) (b + 11) 3) w) ∧
    cpI (bh v w) 0 (b + 12) 0 (a + 12) 0 15 = some (bh (cpv v (a + 12) (b + 12) 15) w) ∧ cpI (bh v w) 0 (b + 14) 0 (a + 14) 0 8 = some (bh (cpv v (a + 14) (b + 14) 8) w) ∧ cpI (bh v w) 0 (b + 15) 0 (a + 15) 0 8 = some (bh (cpv v (a + 15) (b + 15) 8) w) ∧ cpI (bh v w) 0 (b + 16) 0 (a + 16) 0 8 = some (bh (cpv v (a + 16) (b + 16) 8) w) := by
  rcases ha with rfl | rfl | rfl | rfl <;> rcases hb with rfl | rfl | rfl | rfl <;> exact ⟨cp_bh rfl rfl (by decide) rfl (by decide) (by decide), cp_bh rfl rfl (by decide) rfl (by decide) (by decide), cp_bh rfl rfl (by decide) rfl (by decide) (by decide), cp_bh rfl rfl (by decide) rfl (by decide) (by decide), cp_bh rfl rfl (by decide) rfl (by decide) (by decide), cp_bh rfl rfl (by decide) rfl (by decide) (by decide), cp_bh rfl rfl (by decide) rfl (by decide) (by decide), cp_bh rfl rfl (by decide) rfl (by decide) (by decide), cp_bh rfl rfl (by decide) rfl (by decide) (by decide), cp_bh rfl rfl (by decide) rfl (by decide) (by decide), cp_bh rfl rfl (by decide) rfl (by decide) (by decide), cp_bh rfl rfl (by decide) rfl (by decide) (by decide), cp_bh rfl rfl (by decide) rfl (by decide) (by decide), cp_bh rfl rfl (by decide) rfl (by decide) (by decide), cp_bh rfl rfl (by decide) rfl (by decide) (by decide)⟩
theorem rl_apart {a b : Nat} (ha : rl a) (hb : rl b) (hab : a ≠ b) : a + 17 ≤ b ∨ b + 17 ≤ a := by
  rcases ha with rfl | rfl | rfl | rfl <;> rcases hb with rfl | rfl | rfl | rfl <;> omega
theorem cpd.fields {a b : Nat} {v : Nat → Nat → Int32} (hd : a + 17 ≤ b ∨ b + 17 ≤ a) : cpd a b 1 v (u2 (u2 (u2 (u2 (u2 (u2 v a 0 (v b 0)) a 1 (v b 1)) a 2 (v b 2)) a 3 (v b 3)) a 4 (v b 4)) a 5 (v b 5)) := by
  refine ⟨fun q hq => ?_, fun j hj i hi => ?_⟩
  · rw [u2_o (by omega), u2_o (by omega), u2_o (by omega), u2_o (by omega), u2_o (by omega), u2_o (by omega)]
  · obtain rfl : j = 0 := by omega
    have hi : i < 6 := hi
    rw [Nat.add_zero, Nat.add_zero]
    rcases (show i = 0 ∨ i = 1 ∨ i = 2 ∨ i = 3 ∨ i = 4 ∨ i = 5 by omega) with rfl | rfl | rfl | rfl | rfl | rfl
    · rw [u2_n (by decide), u2_n (by decide), u2_n (by decide), u2_n (by decide), u2_n (by decide), u2_at]
    · rw [u2_n (by decide), u2_n (by decide), u2_n (by decide), u2_n (by decide), u2_at]
    · rw [u2_n (by decide), u2_n (by decide), u2_n (by decide), u2_at]
    · rw [u2_n (by decide), u2_n (by decide), u2_at]
    · rw [u2_n (by decide), u2_at]
    · rw [u2_at]
theorem cpd.seen {a b : Nat} {v v' : Nat → Nat → Int32} (hd : a + 17 ≤ b ∨ b + 17 ≤ a) (h : cpd a b 13 v v') : cpd a b 14 v (u2 v' (a + 13) 0 (v' (b + 13) 0)) := by
  refine ⟨fun q hq => ?_, fun j hj i hi => ?_⟩
  · rw [u2_o (by omega)]
    exact h.1 q (by omega)
  · by_cases e : j = 13
    · subst e
      have hi : i < 1 := hi
      obtain rfl : i = 0 := by omega
      rw [u2_at, h.1 (b + 13) (by omega)]
    · rw [u2_o (by omega)]
      exact h.2 j (by omega) i hi
theorem C_copyFrom {a b : Nat} (ha : rl a) (hb : rl b) (hab : a ≠ b) (v : Nat → Nat → Int32) (w : Nat → Nat → Int64) : ∃ v', f_Realm_copyFrom a b (bh v w) = some (bh v' w) ∧ cpd a b 17 v v' := by
  have hd := rl_apart ha hb hab
  have H := fun v w => hRl ha v w
  have H2 := fun v w => hRl hb v w
  have K := fun v w => cpR ha hb v w
  have ne : b ≠ a := fun z => hab z.symm
  unfold f_Realm_copyFrom f_Realm_copyFrom_0
  simp only [H, H2, bd1_s]
  rw [u2_o ne, u2_o ne, u2_o ne, u2_o ne, u2_o ne, u2_o ne, u2_o ne, u2_o ne, u2_o ne, u2_o ne, u2_o ne, u2_o ne, u2_o ne, u2_o ne, u2_o ne]
  have f0 := cpd.fields (v := v) hd
  generalize u2 (u2 (u2 (u2 (u2 (u2 v a 0 (v b 0)) a 1 (v b 1)) a 2 (v b 2)) a 3 (v b 3)) a 4 (v b 4)) a 5 (v b 5) = v1 at f0
  unfold f_Sightings_copyFrom f_Sightings_copyFrom_0
  simp only [K, H, H2, bd1_s]
  refine ⟨_, rfl, ?_⟩
  refine cpd.step hd (n := 16) (by decide) rfl (cpd.step hd (n := 15) (by decide) rfl (cpd.step hd (n := 14) (by decide) rfl (cpd.seen hd ?_)))
  exact cpd.step hd (n := 12) (by decide) rfl (cpd.step hd (n := 11) (by decide) rfl (cpd.step hd (n := 10) (by decide) rfl (cpd.step hd (n := 9) (by decide) rfl (cpd.step hd (n := 8) (by decide) rfl (cpd.step hd (n := 7) (by decide) rfl (cpd.step hd (n := 6) (by decide) rfl (cpd.step hd (n := 5) (by decide) rfl (cpd.step hd (n := 4) (by decide) rfl (cpd.step hd (n := 3) (by decide) rfl (cpd.step hd (n := 2) (by decide) rfl (cpd.step hd (n := 1) (by decide) rfl f0)))))))))))
theorem CR_copy {a b : Nat} {ρ : Rho} {v v' : Nat → Nat → Int32} (h : CR b ρ v) (hk : ROK ρ) (c : cpd a b 17 v v') : CR a ρ v' := by
  obtain ⟨⟨a0, a1, a2, a3, a4, a5, a6⟩, h2, h3, h4, h5⟩ := h
  have hL := hk.1.1
  have hP := hk.1.2.1
  have hS := hk.1.2.2.2.2.2.2
  have g := c.2
  refine ⟨⟨(g 0 (by decide) 0 (by decide)).trans a0, (g 0 (by decide) 1 (by decide)).trans a1, (g 0 (by decide) 2 (by decide)).trans a2, (g 0 (by decide) 3 (by decide)).trans a3, (g 0 (by decide) 4 (by decide)).trans a4, (g 0 (by decide) 5 (by decide)).trans a5, (g 13 (by decide) 0 (by decide)).trans a6⟩, fun l hl => ?_, fun p hp => ?_, fun p l hp hl => ?_, fun i hi => ?_⟩
  · obtain ⟨b1, b2, b3, b4, b5⟩ := h2 l hl
    exact ⟨(g 1 (by decide) l (show l < 5 by omega)).trans b1, (g 2 (by decide) l (show l < 5 by omega)).trans b2, (g 3 (by decide) l (show l < 5 by omega)).trans b3, (g 4 (by decide) l (show l < 5 by omega)).trans b4, (g 5 (by decide) l (show l < 5 by omega)).trans b5⟩
  · obtain ⟨b1, b2, b3, b4, b5, b6⟩ := h3 p hp
    exact ⟨(g 6 (by decide) p (show p < 3 by omega)).trans b1, (g 7 (by decide) p (show p < 3 by omega)).trans b2, (g 8 (by decide) p (show p < 3 by omega)).trans b3, (g 9 (by decide) p (show p < 3 by omega)).trans b4, (g 10 (by decide) p (show p < 3 by omega)).trans b5, (g 11 (by decide) p (show p < 3 by omega)).trans b6⟩
  · exact (g 12 (by decide) (5 * p + l) (show 5 * p + l < 15 by omega)).trans (h4 p l hp hl)
  · obtain ⟨b1, b2, b3⟩ := h5 i hi
    exact ⟨(g 14 (by decide) i (show i < 8 by omega)).trans b1, (g 15 (by decide) i (show i < 8 by omega)).trans b2, (g 16 (by decide) i (show i < 8 by omega)).trans b3⟩
/-- a bank of 66 -/
theorem MB_copy {q q' k k' : Nat} {ρ : Rho} {v v' : Nat → Nat → Int32} (h : MB q k ρ v) (hk : ROK ρ) (c : ∀ j, j < 66 → v' q' (k' + j) = v q (k + j)) : MB q' k' ρ v' := by
  obtain ⟨h1, h2, h3, h4, h5, h6, h7, h8, h9, h10, h11, h12, h13⟩ := h
  have hL := hk.1.1
  have hP := hk.1.2.1
  have hS := hk.1.2.2.2.2.2.2
  have c' : ∀ (a b : Nat) (x : Int32) (j : Nat), j < 66 → k + j = a → k' + j = b → v q a = x → v' q' b = x := fun a b x j hj ea eb h => by subst ea; subst eb; exact (c j hj).trans h
  refine ⟨fun l hl => (c l (by omega)).trans (h1 l hl), fun l hl => c' _ _ _ (5 + l) (by omega) (by omega) (by omega) (h2 l hl), (c 10 (by omega)).trans h3, (c 11 (by omega)).trans h4, fun p hp => c' _ _ _ (12 + p) (by omega) (by omega) (by omega) (h5 p hp), fun p hp => c' _ _ _ (15 + p) (by omega) (by omega) (by omega) (h6 p hp), fun p hp => c' _ _ _ (18 + p) (by omega) (by omega) (by omega) (h7 p hp), fun p hp => c' _ _ _ (21 + p) (by omega) (by omega) (by omega) (h8 p hp), fun p l hp hl => c' _ _ _ (24 + 5 * p + l) (by omega) (by omega) (by omega) (h9 p l hp hl), (c 39 (by omega)).trans h10, (c 40 (by omega)).trans h11, (c 41 (by omega)).trans h12, fun i hi => ?_⟩
  obtain ⟨b1, b2, b3⟩ := h13 i hi
  exact ⟨c' _ _ _ (42 + 3 * i) (by omega) (by omega) (by omega) b1, c' _ _ _ (42 + 3 * i + 1) (by omega) (by omega) (by omega) b2, c' _ _ _ (42 + 3 * i + 2) (by omega) (by omega) (by omega) b3⟩
section
variable {v : Nat → Nat → Int32} {w : Nat → Nat → Int64}
theorem M_copies {a b : Nat} (ha : a + 66 ≤ 198) (hb : b + 66 ≤ 198) (hd : a + 66 ≤ b ∨ b + 66 ≤ a) (v : Nat → Nat → Int32) (w : Nat → Nat → Int64) : ∃ v', f_M_copies 100 (nI a) (nI b) (bh v w) = some (bh v' w) ∧ (∀ q, q ≠ 101 → v' q = v q) ∧ ∀ j, v' 101 j = if a ≤ j ∧ j < a + 66 then v 101 (b + (j - a)) else v 101 j := by
  have key : ∀ (k fuel i : Nat) (v : Nat → Nat → Int32), k < fuel → i + k = 66 → ∃ v', f_M_copies_2 fuel 100 (nI a) (nI b) (nI i) (bh v w) = some (bh v' w) ∧ (∀ q, q ≠ 101 → v' q = v q) ∧ ∀ j, v' 101 j = if a + i ≤ j ∧ j < a + 66 then v 101 (b + (j - a)) else v 101 j := by
    intro k
    induction k with
    | zero =>
      intro fuel i v hf hi
      obtain ⟨n, rfl⟩ : ∃ n, fuel = n + 1 := ⟨fuel - 1, by omega⟩
      simp only [f_M_copies_2, f_M_copies_2b]
      rw [show (66 : Int32) = nI 66 from rfl, if_pos ((nI_leI (by omega) (by omega)).mpr (by omega))]
      exact ⟨v, rfl, fun _ _ => rfl, fun j => by rw [if_neg (by omega)]⟩
    | succ k ih =>
      intro fuel i v hf hi
      obtain ⟨n, rfl⟩ : ∃ n, fuel = n + 1 := ⟨fuel - 1, by omega⟩
      simp only [f_M_copies_2, f_M_copies_2b, hM v w, bd1_s]
      rw [show (66 : Int32) = nI 66 from rfl, if_neg (fun z => by have := (nI_leI (by omega) (by omega)).mp z; omega), nI_add, nI_add, rd_nI (by omega) (by decide), bd1_s, wr_nI (by omega) (by decide), bd1_s, nI_1]
      obtain ⟨v', e1, f1, f2⟩ := ih n (i + 1) (u2 v 101 (a + i) (v 101 (b + i))) (by omega) (by omega)
      refine ⟨v', e1, fun q hq => (f1 q hq).trans (u2_o hq), fun j => ?_⟩
      rw [f2 j]
      by_cases e : j = a + i
      · subst e
        rw [if_neg (by omega), if_pos (by omega), u2_at, show a + i - a = i by omega]
      · by_cases h : a + (i + 1) ≤ j ∧ j < a + 66
        · rw [if_pos h, if_pos (by omega), u2_n (by omega)]
        · rw [if_neg h, if_neg (by omega), u2_n e]
  obtain ⟨v', e1, f1, f2⟩ := key 66 FU 0 v (by unfold FU; omega) (by omega)
  exact ⟨v', e1, f1, f2⟩
theorem M_saves (v : Nat → Nat → Int32) (w : Nat → Nat → Int64) : ∃ v', f_M_saves 100 (bh v w) = some (bh v' w) ∧ (∀ q, q ≠ 119 → v' q = v q) ∧ ∀ j, j < 66 → v' 119 j = v 101 j := by
  have key : ∀ (k fuel i : Nat) (v : Nat → Nat → Int32), k < fuel → i + k = 66 → ∃ v', f_M_saves_2 fuel 100 (nI i) (bh v w) = some (bh v' w) ∧ (∀ q, q ≠ 119 → v' q = v q) ∧ (∀ j, j < i → v' 119 j = v 119 j) ∧ ∀ j, i ≤ j → j < 66 → v' 119 j = v 101 j := by
    intro k
    induction k with
    | zero =>
      intro fuel i v hf hi
      obtain ⟨n, rfl⟩ : ∃ n, fuel = n + 1 := ⟨fuel - 1, by omega⟩
      simp only [f_M_saves_2, f_M_saves_2b]
      rw [show (66 : Int32) = nI 66 from rfl, if_pos ((nI_leI (by omega) (by omega)).mpr (by omega))]
      exact ⟨v, rfl, fun _ _ => rfl, fun _ _ => rfl, fun j _ _ => by omega⟩
    | succ k ih =>
      intro fuel i v hf hi
      obtain ⟨n, rfl⟩ : ∃ n, fuel = n + 1 := ⟨fuel - 1, by omega⟩
      simp only [f_M_saves_2, f_M_saves_2b, hM v w, bd1_s]
      rw [show (66 : Int32) = nI 66 from rfl, if_neg (fun z => by have := (nI_leI (by omega) (by omega)).mp z; omega), rd_nI (by omega) (by decide), bd1_s, wr_nI (by omega) (by decide), bd1_s, nI_1]
      obtain ⟨v', e1, f1, f2, f3⟩ := ih n (i + 1) (u2 v 119 i (v 101 i)) (by omega) (by omega)
      refine ⟨v', e1, fun q hq => (f1 q hq).trans (u2_o hq), fun j hj => (f2 j (by omega)).trans (u2_n (by omega)), fun j h1 h2 => ?_⟩
      by_cases e : j = i
      · subst e; rw [f2 j (by omega), u2_at]
      · rw [f3 j (by omega) h2, u2_o (by decide)]
  obtain ⟨v', e1, f1, -, f3⟩ := key 66 FU 0 v (by unfold FU; omega) (by omega)
  exact ⟨v', e1, f1, fun j hj => f3 j (by omega) hj⟩
theorem M_returns (v : Nat → Nat → Int32) (w : Nat → Nat → Int64) : ∃ v', f_M_returns 100 (bh v w) = some (bh v' w) ∧ (∀ q, q ≠ 101 → v' q = v q) ∧ (∀ j, j < 66 → v' 101 j = v 119 j) ∧ ∀ j, 66 ≤ j → v' 101 j = v 101 j := by
  have key : ∀ (k fuel i : Nat) (v : Nat → Nat → Int32), k < fuel → i + k = 66 → ∃ v', f_M_returns_2 fuel 100 (nI i) (bh v w) = some (bh v' w) ∧ (∀ q, q ≠ 101 → v' q = v q) ∧ (∀ j, j < i ∨ 66 ≤ j → v' 101 j = v 101 j) ∧ ∀ j, i ≤ j → j < 66 → v' 101 j = v 119 j := by
    intro k
    induction k with
    | zero =>
      intro fuel i v hf hi
      obtain ⟨n, rfl⟩ : ∃ n, fuel = n + 1 := ⟨fuel - 1, by omega⟩
      simp only [f_M_returns_2, f_M_returns_2b]
      rw [show (66 : Int32) = nI 66 from rfl, if_pos ((nI_leI (by omega) (by omega)).mpr (by omega))]
      exact ⟨v, rfl, fun _ _ => rfl, fun _ _ => rfl, fun j _ _ => by omega⟩
    | succ k ih =>
      intro fuel i v hf hi
      obtain ⟨n, rfl⟩ : ∃ n, fuel = n + 1 := ⟨fuel - 1, by omega⟩
      simp only [f_M_returns_2, f_M_returns_2b, hM v w, bd1_s]
      rw [show (66 : Int32) = nI 66 from rfl, if_neg (fun z => by have := (nI_leI (by omega) (by omega)).mp z; omega), rd_nI (by omega) (by decide), bd1_s, wr_nI (by omega) (by decide), bd1_s, nI_1]
      obtain ⟨v', e1, f1, f2, f3⟩ := ih n (i + 1) (u2 v 101 i (v 119 i)) (by omega) (by omega)
      refine ⟨v', e1, fun q hq => (f1 q hq).trans (u2_o hq), fun j hj => (f2 j (by omega)).trans (u2_n (by omega)), fun j h1 h2 => ?_⟩
      by_cases e : j = i
      · subst e; rw [f2 j (by omega), u2_at]
      · rw [f3 j (by omega) h2, u2_o (by decide)]
  obtain ⟨v', e1, f1, f2, f3⟩ := key 66 FU 0 v (by unfold FU; omega) (by omega)
  exact ⟨v', e1, f1, fun j hj => f3 j (by omega) hj, fun j hj => f2 j (Or.inr hj)⟩
end
end
/-! 8e.keep.lean.txt -/
section
/-! keep, back -/
theorem img_at {k : Nat} (hk : k < 2) (v : Nat → Nat → Int32) (w : Nat → Nat → Int64) : aR (bh v w) 4 37 (nI k) = some (58 + 17 * k) := by
  rcases (show k = 0 ∨ k = 1 by omega) with rfl | rfl <;> rfl
theorem rl_img {k : Nat} (hk : k < 2) : rl (58 + 17 * k) := by
  rcases (show k = 0 ∨ k = 1 by omega) with rfl | rfl
  · exact Or.inr (Or.inr (Or.inl rfl))
  · exact Or.inr (Or.inr (Or.inr rfl))
theorem rl20 : rl 20 := Or.inr (Or.inl rfl)
theorem SAME.rf (ρ : Rho) : SAME ρ ρ := ⟨rfl, rfl, rfl, rfl, rfl, rfl, rfl⟩
section
variable {S : Sg} {v v1 : Nat → Nat → Int32} {w : Nat → Nat → Int64}
theorem kept01 (hs : SOK S) {k : Nat} (hk : k < 2) : ∃ a : Nat, S.2.2 3 k = a ∧ a ≤ 1 := by
  rcases hs.2.1 k hk with z | z
  · exact ⟨0, z, by omega⟩
  · exact ⟨1, z.1, by omega⟩
theorem SOK_keep {k : Nat} (hs : SOK S) : SOK (S.1, va_up S.2.1 k S.1, upX S.2.2 3 k 1) := by
  obtain ⟨h1, h2, h3, h4, h5, h6⟩ := hs
  refine ⟨h1, fun j hj => ?_, h3, h4, h5, h6⟩
  show upX S.2.2 3 k 1 3 j = 0 ∨ upX S.2.2 3 k 1 3 j = 1 ∧ ROK (va_up S.2.1 k S.1 j) ∧ SAME S.1 (va_up S.2.1 k S.1 j)
  by_cases e : j = k
  · subst e
    rw [upX_at, up_at]
    exact Or.inr ⟨rfl, h1, SAME.rf _⟩
  · rw [upX_n e, up_ne e]
    exact h2 j hj
theorem E_keep (x : Int32) (hs : SOK S) (hc : CI S v) (hm : MI S v) : Eqv S v w (f_Q_keep 0 x) (f_M_keep 100 x) := by
  by_cases hx : 0 ≤ x.toInt ∧ x.toInt < ((1 + 1 : Nat) : Int)
  · obtain ⟨k, hk, rfl⟩ := ix (by omega) hx
    have hk : k < 2 := hk
    obtain ⟨a, ha, la⟩ := kept01 hs hk
    have ne : 58 + 17 * k ≠ 3 := by omega
    obtain ⟨v1, e1, c1⟩ := C_copyFrom (rl_img hk) rl3 ne v w
    have ec : v 38 k = nI a := by rw [(hc.2.1 k hk).1, ha]; exact zI_n a
    have em : v 102 k = nI a := by rw [(hm.2.1 k hk).1, ha]; exact zI_n a
    refine Eqv.change (r := nI a) (S' := (S.1, va_up S.2.1 k S.1, upX S.2.2 3 k 1)) (v1 := u2 v1 38 k 1) (w1 := w) hm ?_ (fun q hq => ?_) (SOK_keep hs) ?_ (fun w1 hm1 => ?_)
    · simp only [f_Q_keep, f_Q_keep_0, f_Q_keep_25, Q_isWithin, bd2_s]
      rw [show (1 : Int32).toInt = (nI 1).toInt from rfl, if_pos ((in_rng (by decide)).mpr hx), if_neg (by decide)]
      simp only [hQ v w, bd1_s]
      rw [rd_nI hk (by decide), bd1_s, ec, img_at hk, bd1_s]
      simp only [hRl (rl_img hk) v w, bd1_s]
      rw [e1]
      simp only [hQ v1 w, bd1_s]
      rw [wr_nI hk (by decide), bd1_s]
      rcases (show a = 0 ∨ a = 1 by omega) with rfl | rfl
      · rfl
      · rfl
    · rw [u2_o (by omega)]; exact c1.1 q (by omega)
    · obtain ⟨h1, h2, h3, h4, h5, h6, h7⟩ := hc
      have hq : ∀ q, q ≠ 38 → (q < 58 + 17 * k ∨ 58 + 17 * k + 17 ≤ q) → u2 v1 38 k 1 q = v q := fun q q1 q2 => (u2_o q1).trans (c1.1 q q2)
      refine ⟨h1.frame (fun p _ _ => hq p (by omega) (by omega)), fun j hj => ?_, ?_, ?_, ?_, fun j hj => ?_, ?_⟩
      · show u2 v1 38 k 1 38 j = zI (upX S.2.2 3 k 1 3 j) ∧ (upX S.2.2 3 k 1 3 j = 1 → CR (58 + 17 * j) (va_up S.2.1 k S.1 j) (u2 v1 38 k 1))
        by_cases e : j = k
        · subst e
          rw [u2_at, upX_at, up_at]
          exact ⟨rfl, fun _ => (CR_copy h1 hs.1 c1).frame (fun p _ _ => u2_o (by omega))⟩
        · rw [u2_n e, upX_n e, up_ne e, c1.1 38 (by omega)]
          exact ⟨(h2 j hj).1, fun z => ((h2 j hj).2 z).frame (fun p _ _ => hq p (by omega) (by omega))⟩
      · rw [hq 1 (by omega) (by omega)]; exact h3
      · rw [hq 2 (by omega) (by omega)]; exact h4
      · rw [hq 1 (by omega) (by omega)]; exact h5
      · rw [hq (92 + 2 * j) (by omega) (by omega), hq (93 + 2 * j) (by omega) (by omega)]; exact h6 j hj
      · rw [hq 0 (by omega) (by omega), hq 43 (by omega) (by omega)]; exact h7
    · have em1 : u2 v1 38 k 1 102 k = nI a := by rw [u2_o (by omega), c1.1 102 (by omega)]; exact em
      generalize u2 v1 38 k 1 = v2 at hm1 em1
      obtain ⟨v3, e3, f3, g3⟩ := M_copies (a := 66 * (k + 1)) (b := 0) (by omega) (by omega) (by omega) (u2 v2 102 k 1) w1
      refine ⟨v3, w1, ?_, fun q hq => by rw [f3 q (by omega), u2_o (by omega)], ?_⟩
      · simp only [f_M_keep, f_M_keep_0, M_in, bd2_s]
        rw [show (1 : Int64) = (nI 1).toInt64 from rfl, if_pos ((in_rngL (by decide)).mpr hx), if_neg (by decide)]
        simp only [hM v2 w1, bd1_s]
        rw [rd_nI hk (by decide), bd1_s, em1]
        have fl : f_M_flag (nI a) (bh v2 w1) = some (nI a, bh v2 w1) := by
          simp only [f_M_flag, f_M_flag_0]
          rcases (show a = 0 ∨ a = 1 by omega) with rfl | rfl <;> rfl
        rw [fl, bd2_s]
        simp only [hM v2 w1, bd1_s]
        rw [wr_nI hk (by decide), bd1_s]
        have e4 : (66 : Int32) * (nI k + 1) = nI (66 * (k + 1)) := by rw [nI_1, show (66 : Int32) = nI 66 from rfl, pk_mul]
        rw [show vp_nar .boolean (1 : Int32) = 1 from rfl, e4, show (0 : Int32) = nI 0 from rfl]
        simp only [hM (u2 v2 102 k 1) w1, bd1_s]
        rw [e3]
        rfl
      · obtain ⟨⟨h1, h1b⟩, h2, h3, h4, h5, h6, h7⟩ := hm1
        have hq : ∀ q, q ≠ 101 → q ≠ 102 → v3 q = v2 q := fun q q1 q2 => (f3 q q1).trans (u2_o q2)
        have hj : ∀ j, ¬ (66 * (k + 1) ≤ j ∧ j < 66 * (k + 1) + 66) → v3 101 j = v2 101 j := fun j z => by rw [g3 j, if_neg z, u2_o (by decide)]
        have hi : ∀ j, j < 66 → v3 101 (66 * (k + 1) + j) = v2 101 (0 + j) := fun j z => by rw [g3, if_pos (by omega), u2_o (by decide), show 0 + (66 * (k + 1) + j - 66 * (k + 1)) = 0 + j by omega]
        refine ⟨⟨?_, MB_copy (q := 101) (k := 0) h1b hs.1 (fun j z => by rw [hj (0 + j) (by omega)])⟩, fun j z => ?_, ?_, ?_, ?_, ?_, ?_⟩
        · unfold MF
          rw [hq 100 (by omega) (by omega), hq 103 (by omega) (by omega), hq 104 (by omega) (by omega), hq 105 (by omega) (by omega), hq 106 (by omega) (by omega), hq 107 (by omega) (by omega)]
          exact h1
        · show v3 102 j = zI (upX S.2.2 3 k 1 3 j) ∧ (upX S.2.2 3 k 1 3 j = 1 → MB 101 (66 * (j + 1)) (va_up S.2.1 k S.1 j) v3)
          rw [f3 102 (by decide)]
          by_cases e : j = k
          · subst e
            rw [u2_at, upX_at, up_at]
            exact ⟨rfl, fun _ => MB_copy (q := 101) (k := 0) h1b hs.1 hi⟩
          · rw [u2_n e, upX_n e, up_ne e]
            refine ⟨(h2 j z).1, fun y => ?_⟩
            rcases hs.2.1 j z with q | q
            · omega
            · exact MB_copy ((h2 j z).2 y) q.2.1 (fun i hi => hj _ (by omega))
        · rw [hq 100 (by omega) (by omega)]; exact h3
        · rw [hq 114 (by omega) (by omega)]; exact h4
        · rw [hq 100 (by omega) (by omega)]; exact h5
        · rw [hq 123 (by omega) (by omega), hq 124 (by omega) (by omega), hq 125 (by omega) (by omega)]; exact h6
        · rw [hq 100 (by omega) (by omega)]; exact h7
  · refine Eqv.query (r := -1) hs hc hm ?_ ?_
    · simp only [f_Q_keep, f_Q_keep_0, Q_isWithin, bd2_s]
      rw [show (1 : Int32).toInt = (nI 1).toInt from rfl, if_neg (fun q => hx ((in_rng (by decide)).mp q)), if_pos rfl]
    · simp only [f_M_keep, f_M_keep_0, M_in, bd2_s]
      rw [show (1 : Int64) = (nI 1).toInt64 from rfl, if_neg (fun q => hx ((in_rngL (by decide)).mp q)), if_pos rfl]
theorem SAME.sw {ρ σ : Rho} (h : SAME ρ σ) : SAME σ ρ := ⟨h.1.symm, h.2.1.symm, h.2.2.1.symm, h.2.2.2.1.symm, h.2.2.2.2.1.symm, h.2.2.2.2.2.1.symm, h.2.2.2.2.2.2.symm⟩
theorem SAME.tr {ρ σ τ : Rho} (h : SAME ρ σ) (g : SAME σ τ) : SAME ρ τ := ⟨g.1.trans h.1, g.2.1.trans h.2.1, g.2.2.1.trans h.2.2.1, g.2.2.2.1.trans h.2.2.2.1, g.2.2.2.2.1.trans h.2.2.2.2.1, g.2.2.2.2.2.1.trans h.2.2.2.2.2.1, g.2.2.2.2.2.2.trans h.2.2.2.2.2.2⟩
theorem MF_same {ρ σ : Rho} {v : Nat → Nat → Int32} (h : MF ρ v) (s : SAME ρ σ) : MF σ v := by
  obtain ⟨s0, s1, s2, s3, s4, s7, s8⟩ := s
  unfold MF at h ⊢
  rw [s0, s1, s2, s3, s4, s7, s8]
  exact h
theorem E_back (x : Int32) (hs : SOK S) (hc : CI S v) (hm : MI S v) : Eqv S v w (f_Q_back 0 x) (f_M_back 100 x) := by
  by_cases hx : 0 ≤ x.toInt ∧ x.toInt < ((1 + 1 : Nat) : Int)
  · obtain ⟨k, hk, rfl⟩ := ix (by omega) hx
    have hk : k < 2 := hk
    rcases hs.2.1 k hk with z | ⟨z, rk, sm⟩
    · have ec : v 38 k = 0 := by rw [(hc.2.1 k hk).1, z]; rfl
      have em : v 102 k = 0 := by rw [(hm.2.1 k hk).1, z]; rfl
      refine Eqv.query (r := -2) hs hc hm ?_ ?_
      · simp only [f_Q_back, f_Q_back_0, Q_isWithin, bd2_s]
        rw [show (1 : Int32).toInt = (nI 1).toInt from rfl, if_pos ((in_rng (by decide)).mpr hx), if_neg (by decide)]
        simp only [hQ v w, bd1_s]
        rw [rd_nI hk (by decide), bd1_s, ec, if_pos rfl]
      · simp only [f_M_back, f_M_back_0, M_in, bd2_s]
        rw [show (1 : Int64) = (nI 1).toInt64 from rfl, if_pos ((in_rngL (by decide)).mpr hx), if_neg (by decide)]
        simp only [hM v w, bd1_s]
        rw [rd_nI hk (by decide), bd1_s, em, if_pos rfl]
    · have ec : v 38 k = 1 := by rw [(hc.2.1 k hk).1, z]; rfl
      have em : v 102 k = 1 := by rw [(hm.2.1 k hk).1, z]; rfl
      have ne : 3 ≠ 58 + 17 * k := by omega
      obtain ⟨v1, e1, c1⟩ := C_copyFrom rl3 (rl_img hk) ne v w
      have cr := CR_copy ((hc.2.1 k hk).2 z) rk c1
      refine Eqv.change (r := nI (S.2.1 k 0 2)) (S' := (S.2.1 k, S.2)) (v1 := v1) (w1 := w) hm ?_ (fun q hq => c1.1 q (by omega)) (SOK_u hs rk (fun σ h => (sm.sw).tr h)) (CI_r hc cr c1.1) (fun w1 hm1 => ?_)
      · simp only [f_Q_back, f_Q_back_0, Q_isWithin, bd2_s]
        rw [show (1 : Int32).toInt = (nI 1).toInt from rfl, if_pos ((in_rng (by decide)).mpr hx), if_neg (by decide)]
        simp only [hQ v w, bd1_s]
        rw [rd_nI hk (by decide), bd1_s, ec, if_neg (by decide), img_at hk, bd1_s]
        simp only [hRl rl3 v w, bd1_s]
        rw [e1]
        simp only [hQ v1 w, hRl rl3 v1 w, bd1_s]
        rw [cr.1.2.2.1]
      · have em1 : v1 102 k = 1 := by rw [c1.1 102 (by omega)]; exact em
        obtain ⟨v3, e3, f3, g3⟩ := M_copies (a := 0) (b := 66 * (k + 1)) (by omega) (by omega) (by omega) v1 w1
        have hi : ∀ j, j < 66 → v3 101 (0 + j) = v1 101 (66 * (k + 1) + j) := fun j z => by rw [g3, if_pos (by omega), show 66 * (k + 1) + (0 + j - 0) = 66 * (k + 1) + j by omega]
        have hb : MB 101 0 (S.2.1 k) v3 := MB_copy ((hm1.2.1 k hk).2 z) rk hi
        refine ⟨v3, w1, ?_, fun q hq => f3 q (by omega), MI_r hm1 ⟨?_, hb⟩ f3 (fun j hj => by rw [g3, if_neg (by omega)])⟩
        · simp only [f_M_back, f_M_back_0, M_in, bd2_s]
          rw [show (1 : Int64) = (nI 1).toInt64 from rfl, if_pos ((in_rngL (by decide)).mpr hx), if_neg (by decide)]
          simp only [hM v1 w1, bd1_s]
          have e4 : (66 : Int32) * (nI k + 1) = nI (66 * (k + 1)) := by rw [nI_1, show (66 : Int32) = nI 66 from rfl, pk_mul]
          rw [rd_nI hk (by decide), bd1_s, em1, if_neg (by decide), e4, show (0 : Int32) = nI 0 from rfl, e3]
          simp only [hM v3 w1, bd1_s]
          have e39 : rd (v3 101) 198 (39 : Int32) = some (nI (S.2.1 k 0 2)) := by rw [← hb.2.2.2.2.2.2.2.2.2.1]; rfl
          rw [e39]
          rfl
        · have := MF_same hm1.1.1 sm
          unfold MF at this ⊢
          rw [f3 100 (by decide), f3 103 (by decide), f3 104 (by decide), f3 105 (by decide), f3 106 (by decide), f3 107 (by decide)]
          exact this
  · refine Eqv.query (r := -1) hs hc hm ?_ ?_
    · simp only [f_Q_back, f_Q_back_0, Q_isWithin, bd2_s]
      rw [show (1 : Int32).toInt = (nI 1).toInt from rfl, if_neg (fun q => hx ((in_rng (by decide)).mp q)), if_pos rfl]
    · simp only [f_M_back, f_M_back_0, M_in, bd2_s]
      rw [show (1 : Int64) = (nI 1).toInt64 from rfl, if_neg (fun q => hx ((in_rngL (by decide)).mp q)), if_pos rfl]
end
end
/-! 8f.fr.lean.txt -/
section
/-! frames: places that the tie doesn't read may change -/
def pC (p : Nat) : Prop := p < 20 ∨ 37 ≤ p ∧ p < 40 ∨ p = 43 ∨ 58 ≤ p ∧ p < 100
def pC0 (p : Nat) : Prop := p < 20 ∨ 37 ≤ p ∧ p < 40 ∨ 58 ≤ p ∧ p < 100
def pM (p : Nat) : Prop := 101 ≤ p ∧ p < 108 ∨ p = 114 ∨ 123 ≤ p
section
variable {S : Sg} {ρ' : Rho} {v v' v1 : Nat → Nat → Int32} {w : Nat → Nat → Int64}
theorem CI.fr0 (h : CI S v) (hv : ∀ p, pC0 p → v' p = v p) (h43 : v' 43 0 = 0) : CI S v' := by
  obtain ⟨h1, h2, h3, h4, h5, h6, h7⟩ := h
  unfold CI
  rw [hv 38 (by unfold pC0; omega), hv 1 (by unfold pC0; omega), hv 2 (by unfold pC0; omega), hv 0 (by unfold pC0; omega)]
  refine ⟨h1.frame (fun p _ _ => hv p (by unfold pC0; omega)), fun k hk => ⟨(h2 k hk).1, fun z => ((h2 k hk).2 z).frame (fun p _ _ => hv p (by unfold pC0; omega))⟩, h3, h4, h5, fun k hk => ?_, h7.1, h43⟩
  rw [hv (92 + 2 * k) (by unfold pC0; omega), hv (93 + 2 * k) (by unfold pC0; omega)]
  exact h6 k hk
theorem CI.fr (h : CI S v) (hv : ∀ p, pC p → v' p = v p) : CI S v' := h.fr0 (fun p hp => hv p (by unfold pC0 at hp; unfold pC; omega)) (by rw [hv 43 (by unfold pC; omega)]; exact h.2.2.2.2.2.2.2)
theorem MI.fr (h : MI S v) (hv : ∀ p, pM p → v' p = v p) (h0 : v' 100 2 = v 100 2 ∧ v' 100 3 = v 100 3 ∧ v' 100 20 = v 100 20 ∧ v' 100 25 = v 100 25 ∧ v' 100 38 = v 100 38) : MI S v' := by
  obtain ⟨⟨h1, h1b⟩, h2, h3, h4, h5, h6, h7⟩ := h
  obtain ⟨a1, a2, a3, a4, a5⟩ := h0
  unfold MI MR MF
  rw [hv 102 (by unfold pM; omega), hv 114 (by unfold pM; omega), hv 123 (by unfold pM; omega), hv 124 (by unfold pM; omega), hv 125 (by unfold pM; omega), hv 103 (by unfold pM; omega), hv 104 (by unfold pM; omega), hv 105 (by unfold pM; omega), hv 106 (by unfold pM; omega), hv 107 (by unfold pM; omega), a1, a2, a3, a4, a5]
  exact ⟨⟨h1, h1b.frame (hv 101 (by unfold pM; omega))⟩, fun k hk => ⟨(h2 k hk).1, fun z => ((h2 k hk).2 z).frame (hv 101 (by unfold pM; omega))⟩, h3, h4, h5, h6, h7⟩
theorem CI_rt (h : CI S v) (hR : CR 3 ρ' v1) (hq : ∀ q, q < 3 ∨ 37 ≤ q ∧ q < 40 ∨ q = 43 ∨ 58 ≤ q ∧ q < 100 → v1 q = v q) : CI (ρ', S.2) v1 := by
  obtain ⟨-, h2, h3, h4, h5, h6, h7⟩ := h
  refine ⟨hR, fun k hk => ?_, ?_, ?_, ?_, fun k hk => ?_, ?_⟩
  · rw [hq 38 (by omega)]
    exact ⟨(h2 k hk).1, fun z => ((h2 k hk).2 z).frame (fun p _ _ => hq p (by omega))⟩
  · rw [hq 1 (by omega)]; exact h3
  · rw [hq 2 (by omega)]; exact h4
  · rw [hq 1 (by omega)]; exact h5
  · rw [hq (92 + 2 * k) (by omega), hq (93 + 2 * k) (by omega)]; exact h6 k hk
  · rw [hq 0 (by omega), hq 43 (by omega)]; exact h7
theorem MI_rt (h : MI S v) (hR : MR ρ' v1) (hq : ∀ q, 102 ≤ q ∧ q < 108 ∨ q = 114 ∨ 123 ≤ q → v1 q = v q) (h0 : v1 100 20 = v 100 20 ∧ v1 100 25 = v 100 25 ∧ v1 100 38 = v 100 38) (hj : ∀ j, 66 ≤ j → v1 101 j = v 101 j) : MI (ρ', S.2) v1 := by
  obtain ⟨-, h2, h3, h4, h5, h6, h7⟩ := h
  refine ⟨hR, fun k hk => ?_, ?_, ?_, ?_, ?_, ?_⟩
  · rw [hq 102 (by omega)]
    exact ⟨(h2 k hk).1, fun z => ((h2 k hk).2 z).hi (by omega) hj⟩
  · rw [h0.1]; exact h3
  · rw [hq 114 (by omega)]; exact h4
  · rw [h0.2.1]; exact h5
  · rw [hq 123 (by omega), hq 124 (by omega), hq 125 (by omega)]; exact h6
  · rw [h0.2.2]; exact h7
theorem CI_torn {t : Int} (h : CI S v) : CI (S.1, S.2.1, upX S.2.2 7 0 t) (u2 v 0 9 (zI t)) := by
  obtain ⟨h1, h2, h3, h4, h5, h6, h7⟩ := h
  have hq : ∀ q, q ≠ 0 → u2 v 0 9 (zI t) q = v q := fun q hq => u2_o hq
  refine ⟨h1.frame (fun p _ _ => hq p (by omega)), fun k hk => ?_, ?_, ?_, ?_, fun k hk => ?_, u2_at _ _ _ _, (congrFun (hq 43 (by omega)) 0).trans h7.2⟩
  · rw [hq 38 (by omega)]
    exact ⟨(h2 k hk).1, fun z => ((h2 k hk).2 z).frame (fun p _ _ => hq p (by omega))⟩
  · rw [hq 1 (by omega)]; exact h3
  · rw [hq 2 (by omega)]; exact h4
  · rw [hq 1 (by omega)]; exact h5
  · rw [hq (92 + 2 * k) (by omega), hq (93 + 2 * k) (by omega)]; exact h6 k hk
theorem MI_torn7 {t : Int} (h : MI S v) : MI (S.1, S.2.1, upX S.2.2 7 0 t) v := h
theorem CI_torn8 {t : Int} (h : CI S v) : CI (S.1, S.2.1, upX S.2.2 8 0 t) v := h
theorem MI_torn {t : Int} (h : MI S v) : MI (S.1, S.2.1, upX S.2.2 8 0 t) (u2 v 100 38 (zI t)) := by
  obtain ⟨⟨h1, h1b⟩, h2, h3, h4, h5, h6, h7⟩ := h
  have hq : ∀ q, q ≠ 100 → u2 v 100 38 (zI t) q = v q := fun q hq => u2_o hq
  refine ⟨⟨?_, h1b.frame (hq 101 (by omega))⟩, fun k hk => ?_, ?_, ?_, ?_, ?_, u2_at _ _ _ _⟩
  · unfold MF
    rw [u2_n (show 2 ≠ 38 by decide), u2_n (show 3 ≠ 38 by decide), hq 103 (by omega), hq 104 (by omega), hq 105 (by omega), hq 106 (by omega), hq 107 (by omega)]
    exact h1
  · rw [hq 102 (by omega)]
    exact ⟨(h2 k hk).1, fun z => ((h2 k hk).2 z).frame (hq 101 (by omega))⟩
  · rw [u2_n (by decide)]; exact h3
  · rw [hq 114 (by omega)]; exact h4
  · rw [u2_n (by decide)]; exact h5
  · rw [hq 123 (by omega), hq 124 (by omega), hq 125 (by omega)]; exact h6
theorem SOK_torn {t t' : Int} (h : SOK S) : SOK (S.1, S.2.1, upX (upX S.2.2 7 0 t) 8 0 t') := h
/-- alike, with any kind of answer; both come to an end, and go on alike -/
def EqT {α : Type} (S : Sg) (v : Nat → Nat → Int32) (w : Nat → Nat → Int64) (fq fm : mH → Option (α × mH)) : Prop :=
  ∃ (r : α) (v1 : Nat → Nat → Int32) (w1 : Nat → Nat → Int64) (v2 : Nat → Nat → Int32) (w2 : Nat → Nat → Int64) (S' : Sg), fq (bh v w) = some (r, bh v1 w1) ∧ fm (bh v1 w1) = some (r, bh v2 w2) ∧ SOK S' ∧ CI S' v2 ∧ MI S' v2
def FiT {α : Type} (S : Sg) (v : Nat → Nat → Int32) (w : Nat → Nat → Int64) (fq fm : mH → Option (α × mH)) : Prop :=
  ∃ (r r' : α) (v1 : Nat → Nat → Int32) (w1 : Nat → Nat → Int64) (v2 : Nat → Nat → Int32) (w2 : Nat → Nat → Int64) (S' : Sg), fq (bh v w) = some (r, bh v1 w1) ∧ fm (bh v1 w1) = some (r', bh v2 w2) ∧ SOK S' ∧ CI S' v2 ∧ MI S' v2
theorem Eqv.T {fq fm : mH → Option (Int32 × mH)} (h : Eqv S v w fq fm) : EqT S v w fq fm := h
theorem EqT.fi {α : Type} {fq fm : mH → Option (α × mH)} (h : EqT S v w fq fm) : FiT S v w fq fm := by
  obtain ⟨r, v1, w1, v2, w2, S', e⟩ := h
  exact ⟨r, r, v1, w1, v2, w2, S', e⟩
theorem EqT.q {α : Type} {fq fm : mH → Option (α × mH)} {r : α} {v1 v2 : Nat → Nat → Int32} {w1 w2 : Nat → Nat → Int64} (hs : SOK S) (hc : CI S v) (hm : MI S v) (h1 : fq (bh v w) = some (r, bh v1 w1)) (f1 : ∀ p, pC p ∨ 100 ≤ p → v1 p = v p) (h2 : fm (bh v1 w1) = some (r, bh v2 w2)) (f2 : ∀ p, p ≤ 100 ∨ pM p → v2 p = v1 p) : EqT S v w fq fm := by
  have e : v2 100 = v 100 := (f2 100 (Or.inl (Nat.le_refl _))).trans (f1 100 (Or.inr (Nat.le_refl _)))
  refine ⟨r, v1, w1, v2, w2, S, h1, h2, hs, hc.fr (fun p hp => (f2 p (Or.inl (by unfold pC at hp; omega))).trans (f1 p (Or.inl hp))), hm.fr (fun p hp => (f2 p (Or.inr hp)).trans (f1 p (Or.inr (by unfold pM at hp; omega)))) ?_⟩
  rw [e]
  exact ⟨rfl, rfl, rfl, rfl, rfl⟩
theorem FiT.q {α : Type} {fq fm : mH → Option (α × mH)} {r r' : α} {v1 v2 : Nat → Nat → Int32} {w1 w2 : Nat → Nat → Int64} (hs : SOK S) (hc : CI S v) (hm : MI S v) (h1 : fq (bh v w) = some (r, bh v1 w1)) (f1 : ∀ p, pC p ∨ 100 ≤ p → v1 p = v p) (h2 : fm (bh v1 w1) = some (r', bh v2 w2)) (f2 : ∀ p, p ≤ 100 ∨ pM p → v2 p = v1 p) : FiT S v w fq fm := by
  have e : v2 100 = v 100 := (f2 100 (Or.inl (Nat.le_refl _))).trans (f1 100 (Or.inr (Nat.le_refl _)))
  refine ⟨r, r', v1, w1, v2, w2, S, h1, h2, hs, hc.fr (fun p hp => (f2 p (Or.inl (by unfold pC at hp; omega))).trans (f1 p (Or.inl hp))), hm.fr (fun p hp => (f2 p (Or.inr hp)).trans (f1 p (Or.inr (by unfold pM at hp; omega)))) ?_⟩
  rw [e]
  exact ⟨rfl, rfl, rfl, rfl, rfl⟩
end
/-! a BREAKING by any two numbers -/
def vld (ρ : Rho) (x y : Int32) : Prop := (0 ≤ x.toInt ∧ x.toInt < (ρ 0 1 : Int)) ∧ (0 ≤ y.toInt ∧ y.toInt < (ρ 0 0 : Int))
noncomputable def gbk (ρ : Rho) (x y : Int32) : Int32 := haveI := Classical.propDecidable; if vld ρ x y then rbk ρ x.toInt.toNat y.toInt.toNat else -1
noncomputable def gst (ρ : Rho) (x y : Int32) : Rho := haveI := Classical.propDecidable; if vld ρ x y then sbk ρ x.toInt.toNat y.toInt.toNat else ρ
section
variable {ρ : Rho} {v : Nat → Nat → Int32} {w : Nat → Nat → Int64} {o : Nat}
theorem vld_ix {x y : Int32} (hk : ROK ρ) (h : vld ρ x y) : ∃ p l, p < ρ 0 1 ∧ l < ρ 0 0 ∧ x = nI p ∧ y = nI l ∧ x.toInt.toNat = p ∧ y.toInt.toNat = l := by
  have h1 := hk.1.1
  have h2 := hk.1.2.1
  obtain ⟨p, hp, rfl⟩ := ix (by omega) h.1
  obtain ⟨l, hl, rfl⟩ := ix (by omega) h.2
  refine ⟨p, l, hp, hl, rfl, rfl, ?_, ?_⟩
  · rw [nI_toInt (by omega)]; rfl
  · rw [nI_toInt (by omega)]; rfl
theorem C_bk (ho : rl o) (hr : CR o ρ v) (hk : ROK ρ) (x y : Int32) : ∃ v', f_Realm_breakOnce o x y (bh v w) = some (gbk ρ x y, bh v' w) ∧ CR o (gst ρ x y) v' ∧ ∀ q, q < o ∨ o + 17 ≤ q → v' q = v q := by
  unfold gbk gst
  by_cases hb : vld ρ x y
  · rw [if_pos hb, if_pos hb]
    obtain ⟨p, l, hp, hl, ex, ey, e1, e2⟩ := vld_ix hk hb
    rw [e1, e2, ex, ey]
    exact C_breakOnce ho hr hk hp hl
  · rw [if_neg hb, if_neg hb]
    exact ⟨v, C_breakOnce_bad ho hr hk hb, hr, fun _ _ => rfl⟩
theorem M_bk (hr : MR ρ v) (hk : ROK ρ) (x y : Int32) : ∃ v', f_M_breaks 100 x y (bh v w) = some (gbk ρ x y, bh v' w) ∧ MR (gst ρ x y) v' ∧ (∀ q, q ≠ 101 → v' q = v q) ∧ ∀ j, 66 ≤ j → v' 101 j = v 101 j := by
  unfold gbk gst
  by_cases hb : vld ρ x y
  · rw [if_pos hb, if_pos hb]
    obtain ⟨p, l, hp, hl, ex, ey, e1, e2⟩ := vld_ix hk hb
    rw [e1, e2, ex, ey]
    exact M_breaks hr hk hp hl
  · rw [if_neg hb, if_neg hb]
    exact ⟨v, M_breaks_bad hr hk hb, hr, fun _ _ => rfl, fun _ _ => rfl⟩
theorem ROK_gst (hk : ROK ρ) (x y : Int32) : ROK (gst ρ x y) := by
  unfold gst
  by_cases hb : vld ρ x y
  · rw [if_pos hb]
    obtain ⟨p, l, hp, hl, ex, ey, e1, e2⟩ := vld_ix hk hb
    rw [e1, e2]
    exact ROK_sbk hk hp hl
  · rw [if_neg hb]; exact hk
theorem SAME_gst {σ : Rho} (h : SAME ρ σ) (x y : Int32) : SAME (gst ρ x y) σ := by
  unfold gst
  by_cases hb : vld ρ x y
  · rw [if_pos hb]; exact SAME_sbk h
  · rw [if_neg hb]; exact h
end
end
/-! 8g.read.lean.txt -/
section
/-! BREAKINGS read of a SHEET -/
def cl (S : Sg) (k : Nat) (f : Int) (i c : Nat) : Int32 := zI (S.2.2 6 (40 * k + ((f + 2 * i).toNat + c)))
noncomputable def rdl (S : Sg) (k : Nat) (f : Int) : Nat → Nat → Rho → Nat ⊕ (Nat × Rho × Int)
  | 0, i, ρ => .inr (i, ρ, 0)
  | n + 1, i, ρ => haveI := Classical.propDecidable
    if S.2.2 4 k = -4 then .inr (i, ρ, 1)
    else if 0 ≤ f + 2 * i ∧ f + 2 * i + 1 < S.2.2 5 k then
      (if 0 ≤ gbk ρ (cl S k f i 0) (cl S k f i 1) then rdl S k f n (i + 1) (gst ρ (cl S k f i 0) (cl S k f i 1)) else .inl i)
    else .inr (i, ρ, 2)
theorem at_I (f : Int32) {i : Nat} (hi : i ≤ 40) : (f.toInt64 + ((2 : Int32) * nI i).toInt64).toInt = f.toInt + 2 * i := by
  have h1 := f.toInt_lt
  have h2 := f.le_toInt
  rw [Int64.toInt_add, Int32.toInt_toInt64, Int32.toInt_toInt64, show (2 : Int32) = nI 2 from rfl, pk_mul, nI_toInt (by omega)]
  rw [Int.bmod_eq_of_le (by omega) (by omega)]
  omega
theorem at_S {a : Int64} {t : Int} {c : Nat} (h : a.toInt = t) (hb : -2 ^ 40 ≤ t ∧ t < 2 ^ 40) (hc : c ≤ 1) : (a + (nI c).toInt64).toInt = t + c := by
  rw [Int64.toInt_add, h, Int32.toInt_toInt64, nI_toInt (by omega)]
  rw [Int.bmod_eq_of_le (by omega) (by omega)]
theorem at_32 {a : Int64} {j : Nat} (h : a.toInt = (j : Int)) (hj : j < 2 ^ 31) : a.toInt32 = nI j := by
  apply Int32.toInt_inj.mp
  rw [Int64.toInt_toInt32, h, nI_toInt hj]
  exact Int.bmod_eq_of_le (by omega) (by omega)
section
variable {S : Sg} {v : Nat → Nat → Int32} {w : Nat → Nat → Int64} {k : Nat}
theorem C_pair (hs : SOK S) (hc : CI S v) (hk : k < 4) {a : Int64} {t : Int} (h : a.toInt = t) (hb : -2 ^ 40 ≤ t ∧ t < 2 ^ 40) : f_Sheet_faultOfPair (92 + 2 * k) a (bh v w) = some (if S.2.2 4 k = -4 then 1 else if 0 ≤ t ∧ t + 1 < S.2.2 5 k then 0 else 2, bh v w) := by
  have e1 : (a + 1).toInt = t + 1 := at_S (c := 1) h hb (by decide)
  simp only [f_Sheet_faultOfPair, f_Sheet_faultOfPair_0, hSh hk v w, bd1_s]
  rw [C_faultAt hs hc hk, bd2_s, h]
  by_cases h4 : S.2.2 4 k = -4
  · rw [if_pos h4, if_pos h4, if_neg (by decide)]
  · rw [if_neg h4, if_neg h4]
    by_cases h0 : 0 ≤ t ∧ t < S.2.2 5 k
    · rw [if_pos h0, if_pos rfl]
      simp only [hSh hk v w, bd1_s]
      rw [C_faultAt hs hc hk, bd2_s, e1, if_neg h4]
      by_cases h1 : t + 1 < S.2.2 5 k
      · rw [if_pos (by omega), if_pos (by omega)]
      · rw [if_neg (by omega), if_neg (by omega)]
    · rw [if_neg h0, if_neg (by decide), if_neg (by omega)]
theorem C_cell (hc : CI S v) (hk : k < 4) {a : Int64} {j : Nat} (h : a.toInt = (j : Int)) (hj : j < 40) : f_Sheet_cellAt (92 + 2 * k) a (bh v w) = some (zI (S.2.2 6 (40 * k + j)), bh v w) := by
  simp only [f_Sheet_cellAt, f_Sheet_cellAt_0, hSh hk v w, bd1_s]
  rw [at_32 h (by omega), rd_nI hj (by decide), bd1_s, (hc.2.2.2.2.2.1 k hk).2.2 j hj]
theorem Q_rd (hs : SOK S) (hk : k < 4) (f : Int32) {N : Nat} (hN : N ≤ 20) : ∀ (n i fuel : Nat) (ρ : Rho) (v : Nat → Nat → Int32), n + 1 < fuel → i + n = N → CI S v → CR 20 ρ v → ROK ρ →
    (∀ j, rdl S k f.toInt n i ρ = .inl j → ∃ v', f_Q_read_64 fuel 0 f (nI N) (92 + 2 * k) (nI i) 0 (nI i) (bh v w) = some ((-20) - nI j, bh v' w) ∧ ∀ q, q < 20 ∨ 37 ≤ q → v' q = v q) ∧
    (∀ c ρ' t, rdl S k f.toInt n i ρ = .inr (c, ρ', t) → ∃ v', f_Q_read_64 fuel 0 f (nI N) (92 + 2 * k) (nI i) 0 (nI i) (bh v w) = f_Q_read_141 0 (nI c) (zI t) (bh v' w) ∧ CR 20 ρ' v' ∧ ROK ρ' ∧ (∀ σ, SAME ρ σ → SAME ρ' σ) ∧ ∀ q, q < 20 ∨ 37 ≤ q → v' q = v q) := by
  intro n
  induction n with
  | zero =>
    intro i fuel ρ v hf hi hc hr hk2
    obtain ⟨m, rfl⟩ : ∃ m, fuel = m + 1 := ⟨fuel - 1, by omega⟩
    refine ⟨fun j z => (by cases z), fun c ρ' t z => ?_⟩
    have z := Sum.inr.inj z
    obtain rfl : i = c := congrArg Prod.fst z
    obtain rfl : ρ = ρ' := congrArg (fun q => q.2.1) z
    obtain rfl : (0 : Int) = t := congrArg (fun q => q.2.2) z
    refine ⟨v, ?_, hr, hk2, fun _ h => h, fun _ _ => rfl⟩
    simp only [f_Q_read_64, f_Q_read_64b]
    rw [if_pos ((nI_leI (by omega) (by omega)).mpr (by omega))]
    rfl
  | succ n ih =>
    intro i fuel ρ v hf hi hc hr hk2
    obtain ⟨m, rfl⟩ : ∃ m, fuel = m + 1 + 1 := ⟨fuel - 2, by omega⟩
    have hf1 := f.toInt_lt
    have hf2 := f.le_toInt
    have eat := at_I f (i := i) (by omega)
    have stop : ∀ (t : Int32), ¬ t = 0 → f_Q_read_64 (m + 1) 0 f (nI N) (92 + 2 * k) (nI i) t (nI i + 1) (bh v w) = f_Q_read_141 0 (nI i) t (bh v w) := by
      intro t ht
      simp only [f_Q_read_64, f_Q_read_64b]
      rw [if_neg ht]
      split <;> rfl
    have step : f_Q_read_64 (m + 1 + 1) 0 f (nI N) (92 + 2 * k) (nI i) 0 (nI i) (bh v w) = (if (if S.2.2 4 k = -4 then (1 : Int32) else if 0 ≤ f.toInt + 2 * i ∧ f.toInt + 2 * i + 1 < S.2.2 5 k then 0 else 2) = 0 then
        bd1 (gR (bh v w) 0 0 2) fun x35 => bd1 (kC (bh v w) (92 + 2 * k) 5) fun _ => bd2 (f_Sheet_cellAt (92 + 2 * k) (f.toInt64 + (((2 : Int32) * nI i).toInt64)) (bh v w)) fun x41 h39 => bd1 (kC h39 (92 + 2 * k) 5) fun _ => bd2 (f_Sheet_cellAt (92 + 2 * k) ((f.toInt64 + (((2 : Int32) * nI i).toInt64)) + (1 : Int64)) h39) fun x46 h44 => bd1 (kC h44 x35 4) fun _ => bd2 (f_Realm_breakOnce x35 x41 x46 h44) fun x51 h49 => if 0 ≤ x51 then f_Q_read_135 (f_Q_read_64 (m + 1)) 0 f (nI N) (92 + 2 * k) (nI i + (1 : Int32)) (if S.2.2 4 k = -4 then (1 : Int32) else if 0 ≤ f.toInt + 2 * i ∧ f.toInt + 2 * i + 1 < S.2.2 5 k then 0 else 2) (nI i) h49 else some (((-20) : Int32) - nI i, h49)
        else f_Q_read_64 (m + 1) 0 f (nI N) (92 + 2 * k) (nI i) (if S.2.2 4 k = -4 then (1 : Int32) else if 0 ≤ f.toInt + 2 * i ∧ f.toInt + 2 * i + 1 < S.2.2 5 k then 0 else 2) (nI i + 1) (bh v w)) := by
      show f_Q_read_64b (f_Q_read_64 (m + 1)) 0 f (nI N) (92 + 2 * k) (nI i) 0 (nI i) (bh v w) = _
      unfold f_Q_read_64b
      rw [if_neg (fun z => by have := (nI_leI (by omega) (by omega)).mp z; omega), if_pos rfl]
      simp only [hSh hk v w, bd1_s]
      rw [C_pair hs hc hk eat (by omega), bd2_s]
      simp only [hSh hk v w, bd1_s]
      rfl
    by_cases h4 : S.2.2 4 k = -4
    · have e : rdl S k f.toInt (n + 1) i ρ = .inr (i, ρ, 1) := by simp only [rdl]; rw [if_pos h4]
      rw [e]
      refine ⟨fun j z => (by cases z), fun c ρ' t z => ?_⟩
      have z := Sum.inr.inj z
      obtain rfl : i = c := congrArg Prod.fst z
      obtain rfl : ρ = ρ' := congrArg (fun q => q.2.1) z
      obtain rfl : (1 : Int) = t := congrArg (fun q => q.2.2) z
      refine ⟨v, ?_, hr, hk2, fun _ h => h, fun _ _ => rfl⟩
      rw [step, if_pos h4, if_neg (by decide), stop 1 (by decide)]
      rfl
    · by_cases h5 : 0 ≤ f.toInt + 2 * i ∧ f.toInt + 2 * i + 1 < S.2.2 5 k
      · have hz := (hs.2.2.2.2.2 k hk).2.2
        obtain ⟨j, hj⟩ : ∃ j : Nat, f.toInt + 2 * i = (j : Int) := ⟨(f.toInt + 2 * i).toNat, by omega⟩
        have ej : (f.toInt + 2 * i).toNat = j := by omega
        obtain ⟨v1, e1, c1, f1⟩ := C_bk (w := w) rl20 hr hk2 (cl S k f.toInt i 0) (cl S k f.toInt i 1)
        have hc1 : CI S v1 := hc.fr (fun p hp => f1 p (by unfold pC at hp; omega))
        have step2 : f_Q_read_64 (m + 1 + 1) 0 f (nI N) (92 + 2 * k) (nI i) 0 (nI i) (bh v w) = if 0 ≤ gbk ρ (cl S k f.toInt i 0) (cl S k f.toInt i 1) then f_Q_read_64 (m + 1) 0 f (nI N) (92 + 2 * k) (nI (i + 1)) 0 (nI (i + 1)) (bh v1 w) else some (((-20) : Int32) - nI i, bh v1 w) := by
          rw [step, if_neg h4, if_pos h5, if_pos rfl]
          simp only [hQ v w, hSh hk v w, bd1_s]
          rw [C_cell hc hk (eat.trans hj) (by omega), bd2_s]
          simp only [hSh hk v w, bd1_s]
          have ea1 : ((f.toInt64 + ((2 : Int32) * nI i).toInt64) + 1).toInt = ((j + 1 : Nat) : Int) := (at_S (c := 1) (eat.trans hj) (by omega) (by decide)).trans (by omega)
          rw [C_cell hc hk ea1 (by omega), bd2_s]
          simp only [hRl rl20 v w, bd1_s]
          have c0 : zI (S.2.2 6 (40 * k + j)) = cl S k f.toInt i 0 := by unfold cl; rw [ej]; rfl
          have c1 : zI (S.2.2 6 (40 * k + (j + 1))) = cl S k f.toInt i 1 := by unfold cl; rw [ej]
          rw [c0, c1, e1, bd2_s, nI_1]
          unfold f_Q_read_135
          rw [nI_1]
        by_cases hg : 0 ≤ gbk ρ (cl S k f.toInt i 0) (cl S k f.toInt i 1)
        · have e : rdl S k f.toInt (n + 1) i ρ = rdl S k f.toInt n (i + 1) (gst ρ (cl S k f.toInt i 0) (cl S k f.toInt i 1)) := by simp only [rdl]; rw [if_neg h4, if_pos h5, if_pos hg]
          rw [e, step2, if_pos hg]
          obtain ⟨a1, a2⟩ := ih (i + 1) (m + 1) _ v1 (by omega) (by omega) hc1 c1 (ROK_gst hk2 _ _)
          refine ⟨fun j z => ?_, fun c ρ' t z => ?_⟩
          · obtain ⟨v', b1, b2⟩ := a1 j z
            exact ⟨v', b1, fun q hq => (b2 q hq).trans (f1 q (by omega))⟩
          · obtain ⟨v', b1, b2, b3, b4, b5⟩ := a2 c ρ' t z
            exact ⟨v', b1, b2, b3, fun σ h => b4 σ (SAME_gst h _ _), fun q hq => (b5 q hq).trans (f1 q (by omega))⟩
        · have e : rdl S k f.toInt (n + 1) i ρ = .inl i := by simp only [rdl]; rw [if_neg h4, if_pos h5, if_neg hg]
          rw [e, step2, if_neg hg]
          refine ⟨fun j z => ?_, fun c ρ' t z => by cases z⟩
          obtain rfl : i = j := Sum.inl.inj z
          exact ⟨v1, rfl, fun q hq => f1 q (by omega)⟩
      · have e : rdl S k f.toInt (n + 1) i ρ = .inr (i, ρ, 2) := by simp only [rdl]; rw [if_neg h4, if_neg h5]
        rw [e]
        refine ⟨fun j z => (by cases z), fun c ρ' t z => ?_⟩
        have z := Sum.inr.inj z
        obtain rfl : i = c := congrArg Prod.fst z
        obtain rfl : ρ = ρ' := congrArg (fun q => q.2.1) z
        obtain rfl : (2 : Int) = t := congrArg (fun q => q.2.2) z
        refine ⟨v, ?_, hr, hk2, fun _ h => h, fun _ _ => rfl⟩
        rw [step, if_neg h4, if_neg h5, if_neg (by decide), stop 2 (by decide)]
        rfl
end
end
end
/-! 8_05.joined -/
section
/-! 8h.read2.lean.txt -/
section
section
variable {S : Sg} {v : Nat → Nat → Int32} {w : Nat → Nat → Int64} {k : Nat}
def hsh (S : Sg) (k : Nat) (v : Nat → Nat → Int32) : Prop := v 123 k = zI (S.2.2 4 k) ∧ v 124 k = zI (S.2.2 5 k) ∧ ∀ i, i < 40 → v 125 (40 * k + i) = zI (S.2.2 6 (40 * k + i))
/-- the reference's FAULT of a pair -/
noncomputable def flt (S : Sg) (k : Nat) (y : Int32) (t : Int) : Int32 := haveI := Classical.propDecidable; if S.2.2 4 k = -4 then 1 else if zI (S.2.2 4 k) = y then (if 0 ≤ t ∧ t + 1 < S.2.2 5 k then 0 else 2) else 3
theorem M_inn (hs : SOK S) (hk : k < 4) (hv : hsh S k v) (f y N c : Int32) {i : Nat} (hi : i ≤ 20) (rec : Nat → Int32 → Int32 → Int32 → Int32 → Int32 → Int32 → Int32 → mH → Option (Int32 × mH)) : f_M_read_51 rec FU 100 (nI k) y f N 0 c (nI i) 0 (bh v w) = f_M_read_138 rec 100 (nI k) y f N (flt S k y (f.toInt + 2 * i)) c (nI i) (bh v w) := by
  have l4 : zI (S.2.2 4 k) = (-4 : Int32) ↔ S.2.2 4 k = -4 := lane_I hs hk (c := -4) (Or.inl rfl)
  have hz := (hs.2.2.2.2.2 k hk).2
  have eat := at_I f (i := i) (by omega)
  have hf1 := f.toInt_lt
  have hf2 := f.le_toInt
  have e5 : (zI (S.2.2 5 k)).toInt64.toInt = S.2.2 5 k := by rw [Int32.toInt_toInt64, zI_t (by omega) (by omega)]
  have one : ∀ (m d : Nat), d ≤ 1 → f_M_read_51 rec (m + 1) 100 (nI k) y f N 0 c (nI i) (nI d) (bh v w) = f_M_read_51 rec m 100 (nI k) y f N (if S.2.2 4 k = -4 then 1 else if zI (S.2.2 4 k) = y then (if 0 ≤ f.toInt + 2 * i + d ∧ f.toInt + 2 * i + d < S.2.2 5 k then 0 else 2) else 3) c (nI i) (nI d + 1) (bh v w) := by
    intro m d hd
    show f_M_read_51b rec (f_M_read_51 rec m) 100 (nI k) y f N 0 c (nI i) (nI d) (bh v w) = _
    unfold f_M_read_51b f_M_read_130 f_M_read_125
    have ea := at_S (c := d) eat (by omega) hd
    rw [show (2 : Int32) = nI 2 from rfl, if_neg (fun z => by have := (nI_leI (by omega) (by omega)).mp z; omega), show nI 2 = (2 : Int32) from rfl, if_pos rfl]
    simp only [hM v w, bd1_s]
    rw [rd_nI hk (by decide), bd1_s, hv.1]
    by_cases h4 : S.2.2 4 k = -4
    · rw [if_pos (l4.mpr h4), if_pos h4]
    · rw [if_neg (fun q => h4 (l4.mp q)), if_neg h4]
      simp only [bd1_s]
      by_cases hy : zI (S.2.2 4 k) = y
      · rw [if_pos hy, if_pos hy]
        simp only [cmp_lt]
        by_cases h0 : (f.toInt64 + ((2 : Int32) * nI i).toInt64) + (nI d).toInt64 < 0
        · rw [if_pos h0, if_neg (fun q => by rw [Int64.lt_iff_toInt_lt, ea] at h0; have : (0 : Int64).toInt = 0 := rfl; omega)]
          rfl
        · rw [if_neg h0, rd_nI hk (by decide), bd1_s, hv.2.1]
          rw [Int64.lt_iff_toInt_lt, ea, show (0 : Int64).toInt = 0 from rfl] at h0
          by_cases h1 : (f.toInt64 + ((2 : Int32) * nI i).toInt64) + (nI d).toInt64 < (zI (S.2.2 5 k)).toInt64
          · rw [if_pos h1]
            rw [Int64.lt_iff_toInt_lt, ea, e5] at h1
            rw [if_pos (by omega)]
          · rw [if_neg h1]
            rw [Int64.lt_iff_toInt_lt, ea, e5] at h1
            rw [if_neg (by omega)]
            rfl
      · rw [if_neg hy, if_neg hy]
  have halt : ∀ (m : Nat) (x d : Int32), ¬ x = 0 → f_M_read_51 rec (m + 1) 100 (nI k) y f N x c (nI i) d (bh v w) = f_M_read_138 rec 100 (nI k) y f N x c (nI i) (bh v w) := by
    intro m x d hx
    show f_M_read_51b rec (f_M_read_51 rec m) 100 (nI k) y f N x c (nI i) d (bh v w) = _
    unfold f_M_read_51b
    rw [if_neg hx]
    split <;> rfl
  have last : ∀ (m : Nat) (x : Int32), f_M_read_51 rec (m + 1) 100 (nI k) y f N x c (nI i) (nI 1 + 1) (bh v w) = f_M_read_138 rec 100 (nI k) y f N x c (nI i) (bh v w) := by
    intro m x
    show f_M_read_51b rec (f_M_read_51 rec m) 100 (nI k) y f N x c (nI i) (nI 1 + 1) (bh v w) = _
    unfold f_M_read_51b
    rw [if_pos (by decide)]
  show f_M_read_51 rec (597 + 1 + 1 + 1) 100 (nI k) y f N 0 c (nI i) (nI 0) (bh v w) = _
  rw [one (597 + 1 + 1) 0 (by decide)]
  unfold flt
  by_cases h4 : S.2.2 4 k = -4
  · rw [if_pos h4, if_pos h4, halt _ _ _ (by decide)]
  · rw [if_neg h4, if_neg h4]
    by_cases hy : zI (S.2.2 4 k) = y
    · rw [if_pos hy, if_pos hy]
      by_cases h0 : 0 ≤ f.toInt + 2 * i + ((0 : Nat) : Int) ∧ f.toInt + 2 * i + ((0 : Nat) : Int) < S.2.2 5 k
      · rw [if_pos h0, show nI 0 + 1 = nI 1 from rfl, one (597 + 1) 1 (by decide), if_neg h4, if_pos hy, last]
        congr 1
        by_cases h1 : f.toInt + 2 * i + 1 < S.2.2 5 k
        · rw [if_pos (by omega), if_pos (by omega)]
        · rw [if_neg (by omega), if_neg (by omega)]
      · rw [if_neg h0, halt _ _ _ (by decide), if_neg (by omega)]
    · rw [if_neg hy, if_neg hy, halt _ _ _ (by decide)]
theorem M_rd (hs : SOK S) (hk : k < 4) (f y : Int32) (hl : S.2.2 4 k = -4 ∨ zI (S.2.2 4 k) = y) {N : Nat} (hN : N ≤ 20) : ∀ (n i fuel : Nat) (ρ : Rho) (v : Nat → Nat → Int32), n + 1 < fuel → i + n = N → hsh S k v → MR ρ v → ROK ρ →
    (∀ j, rdl S k f.toInt n i ρ = .inl j → ∃ v', f_M_read_36 fuel 100 (nI k) y f (nI N) 0 (nI i) (nI i) (bh v w) = some ((-20) - nI j, bh v' w) ∧ (∀ q, q ≠ 101 → v' q = v q) ∧ (∀ j, j < 66 → v' 101 j = v 119 j) ∧ ∀ j, 66 ≤ j → v' 101 j = v 101 j) ∧
    (∀ c ρ' t, rdl S k f.toInt n i ρ = .inr (c, ρ', t) → ∃ v', f_M_read_36 fuel 100 (nI k) y f (nI N) 0 (nI i) (nI i) (bh v w) = some (nI c, bh (u2 v' 100 38 (zI t)) w) ∧ MR ρ' v' ∧ (∀ q, q ≠ 101 → v' q = v q) ∧ ∀ j, 66 ≤ j → v' 101 j = v 101 j) := by
  intro n
  induction n with
  | zero =>
    intro i fuel ρ v hf hi hv hr hk2
    obtain ⟨m, rfl⟩ : ∃ m, fuel = m + 1 := ⟨fuel - 1, by omega⟩
    refine ⟨fun j z => (by cases z), fun c ρ' t z => ?_⟩
    have z := Sum.inr.inj z
    obtain rfl : i = c := congrArg Prod.fst z
    obtain rfl : ρ = ρ' := congrArg (fun q => q.2.1) z
    obtain rfl : (0 : Int) = t := congrArg (fun q => q.2.2) z
    refine ⟨v, ?_, hr, fun _ _ => rfl, fun _ _ => rfl⟩
    simp only [f_M_read_36, f_M_read_36b, f_M_read_198, hM v w, bd1_s]
    rw [if_pos ((nI_leI (by omega) (by omega)).mpr (by omega))]
    rfl
  | succ n ih =>
    intro i fuel ρ v hf hi hv hr hk2
    obtain ⟨m, rfl⟩ : ∃ m, fuel = m + 1 + 1 := ⟨fuel - 2, by omega⟩
    have hf1 := f.toInt_lt
    have hf2 := f.le_toInt
    have stop : ∀ (t : Int32), ¬ t = 0 → f_M_read_138 (f_M_read_36 (m + 1)) 100 (nI k) y f (nI N) t (nI i) (nI i) (bh v w) = some (nI i, bh (u2 v 100 38 t) w) := by
      intro t ht
      unfold f_M_read_138 f_M_read_192
      rw [if_neg ht]
      simp only [f_M_read_36, f_M_read_36b, f_M_read_198, hM v w, bd1_s]
      rw [if_neg ht]
      split <;> rfl
    have step : f_M_read_36 (m + 1 + 1) 100 (nI k) y f (nI N) 0 (nI i) (nI i) (bh v w) = f_M_read_138 (f_M_read_36 (m + 1)) 100 (nI k) y f (nI N) (flt S k y (f.toInt + 2 * i)) (nI i) (nI i) (bh v w) := by
      show f_M_read_36b (f_M_read_36 (m + 1)) 100 (nI k) y f (nI N) 0 (nI i) (nI i) (bh v w) = _
      unfold f_M_read_36b
      rw [if_neg (fun z => by have := (nI_leI (by omega) (by omega)).mp z; omega), if_pos rfl, M_inn hs hk hv _ _ _ _ (by omega)]
    by_cases h4 : S.2.2 4 k = -4
    · have e : rdl S k f.toInt (n + 1) i ρ = .inr (i, ρ, 1) := by simp only [rdl]; rw [if_pos h4]
      have ef : flt S k y (f.toInt + 2 * i) = 1 := by unfold flt; rw [if_pos h4]
      rw [e]
      refine ⟨fun j z => (by cases z), fun c ρ' t z => ?_⟩
      have z := Sum.inr.inj z
      obtain rfl : i = c := congrArg Prod.fst z
      obtain rfl : ρ = ρ' := congrArg (fun q => q.2.1) z
      obtain rfl : (1 : Int) = t := congrArg (fun q => q.2.2) z
      refine ⟨v, ?_, hr, fun _ _ => rfl, fun _ _ => rfl⟩
      rw [step, ef, stop 1 (by decide)]
      rfl
    · have hy : zI (S.2.2 4 k) = y := hl.resolve_left h4
      by_cases h5 : 0 ≤ f.toInt + 2 * i ∧ f.toInt + 2 * i + 1 < S.2.2 5 k
      · have ef : flt S k y (f.toInt + 2 * i) = 0 := by unfold flt; rw [if_neg h4, if_pos hy, if_pos h5]
        have hz := (hs.2.2.2.2.2 k hk).2.2
        obtain ⟨j, hj⟩ : ∃ j : Nat, f.toInt + 2 * i = (j : Int) := ⟨(f.toInt + 2 * i).toNat, by omega⟩
        have ej : (f.toInt + 2 * i).toNat = j := by omega
        obtain ⟨v1, e1, c1, f1, g1⟩ := M_bk (w := w) hr hk2 (cl S k f.toInt i 0) (cl S k f.toInt i 1)
        have hv1 : hsh S k v1 := by
          unfold hsh
          rw [f1 123 (by decide), f1 124 (by decide), f1 125 (by decide)]
          exact hv
        have eix : (((40 : Int32) * nI k) + f) + ((2 : Int32) * nI i) = nI (40 * k + j) := by
          rw [← zI_toInt f, show (40 : Int32) = nI 40 from rfl, show (2 : Int32) = nI 2 from rfl, pk_mul, pk_mul, ← zI_n, ← zI_n, zI_add, zI_add, ← zI_n]
          congr 1
          omega
        have step2 : f_M_read_36 (m + 1 + 1) 100 (nI k) y f (nI N) 0 (nI i) (nI i) (bh v w) = if 0 ≤ gbk ρ (cl S k f.toInt i 0) (cl S k f.toInt i 1) then f_M_read_36 (m + 1) 100 (nI k) y f (nI N) 0 (nI (i + 1)) (nI (i + 1)) (bh v1 w) else bd1 (f_M_returns 100 (bh v1 w)) fun h48 => some (((-20) : Int32) - nI i, h48) := by
          rw [step, ef]
          unfold f_M_read_138 f_M_read_192
          rw [if_pos rfl]
          simp only [hM v w, bd1_s]
          rw [eix, rd_nI (by omega) (by decide), bd1_s, nI_1, rd_nI (by omega) (by decide), bd1_s]
          have c0 : v 125 (40 * k + j) = cl S k f.toInt i 0 := by unfold cl; rw [ej]; exact hv.2.2 j (by omega)
          have c1 : v 125 (40 * k + j + 1) = cl S k f.toInt i 1 := by unfold cl; rw [ej]; exact hv.2.2 (j + 1) (by omega)
          rw [c0, c1, e1, bd2_s, nI_1]
          simp only [hM v1 w, bd1_s]
        by_cases hg : 0 ≤ gbk ρ (cl S k f.toInt i 0) (cl S k f.toInt i 1)
        · have e : rdl S k f.toInt (n + 1) i ρ = rdl S k f.toInt n (i + 1) (gst ρ (cl S k f.toInt i 0) (cl S k f.toInt i 1)) := by simp only [rdl]; rw [if_neg h4, if_pos h5, if_pos hg]
          rw [e, step2, if_pos hg]
          obtain ⟨a1, a2⟩ := ih (i + 1) (m + 1) _ v1 (by omega) (by omega) hv1 c1 (ROK_gst hk2 _ _)
          refine ⟨fun j z => ?_, fun c ρ' t z => ?_⟩
          · obtain ⟨v', b1, b2, b3, b4⟩ := a1 j z
            exact ⟨v', b1, fun q hq => (b2 q hq).trans (f1 q hq), fun j hj => (b3 j hj).trans (by rw [f1 119 (by decide)]), fun j hj => (b4 j hj).trans (g1 j hj)⟩
          · obtain ⟨v', b1, b2, b3, b4⟩ := a2 c ρ' t z
            exact ⟨v', b1, b2, fun q hq => (b3 q hq).trans (f1 q hq), fun j hj => (b4 j hj).trans (g1 j hj)⟩
        · have e : rdl S k f.toInt (n + 1) i ρ = .inl i := by simp only [rdl]; rw [if_neg h4, if_pos h5, if_neg hg]
          rw [e, step2, if_neg hg]
          refine ⟨fun j z => ?_, fun c ρ' t z => (by cases z)⟩
          obtain rfl : i = j := Sum.inl.inj z
          obtain ⟨v3, e3, f3, g3, h3⟩ := M_returns v1 w
          refine ⟨v3, by rw [e3]; rfl, fun q hq => (f3 q hq).trans (f1 q hq), fun j hj => (g3 j hj).trans (by rw [f1 119 (by decide)]), fun j hj => (h3 j hj).trans (g1 j hj)⟩
      · have e : rdl S k f.toInt (n + 1) i ρ = .inr (i, ρ, 2) := by simp only [rdl]; rw [if_neg h4, if_neg h5]
        have ef : flt S k y (f.toInt + 2 * i) = 2 := by unfold flt; rw [if_neg h4, if_pos hy, if_neg h5]
        rw [e]
        refine ⟨fun j z => (by cases z), fun c ρ' t z => ?_⟩
        have z := Sum.inr.inj z
        obtain rfl : i = c := congrArg Prod.fst z
        obtain rfl : ρ = ρ' := congrArg (fun q => q.2.1) z
        obtain rfl : (2 : Int) = t := congrArg (fun q => q.2.2) z
        refine ⟨v, ?_, hr, fun _ _ => rfl, fun _ _ => rfl⟩
        rw [step, ef, stop 2 (by decide)]
        rfl
theorem C_as (hs : SOK S) (hc : CI S v) (hk : k < 4) {a : Nat} (ha : a < 3) : f_Sheet_faultAs (92 + 2 * k) (nI a) (bh v w) = some (if S.2.2 4 k = -4 ∨ zI (S.2.2 4 k) = nI a then 0 else 3, bh v w) := by
  simp only [f_Sheet_faultAs, f_Sheet_faultAs_0, f_Sheet_faultAs_17, hSh hk v w, bd1_s]
  rw [(hc.2.2.2.2.2.1 k hk).1]
  by_cases h : S.2.2 4 k = -4
  · rw [if_pos h, if_pos (show zI (-4) = -4 from rfl), if_pos (Or.inl h)]
  · rw [if_neg h, if_neg (size_4 hs hk h), (hc.2.2.2.2.2.1 k hk).2.1 h]
    by_cases h2 : zI (S.2.2 4 k) = nI a
    · rw [if_pos h2, if_pos (Or.inr h2)]
    · rw [if_neg h2, if_neg (fun q => q.elim h h2)]
end
end
/-! 8i.read3.lean.txt -/
section
section
variable {S : Sg} {v : Nat → Nat → Int32} {w : Nat → Nat → Int64} {k : Nat}
theorem E_read (x y f z : Int32) (hs : SOK S) (hc : CI S v) (hm : MI S v) : Eqv S v w (f_Q_read 0 x y f z) (f_M_read 100 x y f z) := by
  by_cases hx : 0 ≤ x.toInt ∧ x.toInt < ((3 + 1 : Nat) : Int)
  · by_cases hy : 0 ≤ y.toInt ∧ y.toInt < ((2 + 1 : Nat) : Int)
    · by_cases hn : 0 ≤ z.toInt ∧ z.toInt < ((20 + 1 : Nat) : Int)
      · obtain ⟨k, hk, rfl⟩ := ix (by omega) hx
        obtain ⟨a, ha, rfl⟩ := ix (by omega) hy
        obtain ⟨N, hN, rfl⟩ := ix (by omega) hn
        have hk : k < 4 := hk
        have ha : a < 3 := ha
        have hN : N ≤ 20 := by omega
        obtain ⟨v1, e1, d1⟩ := C_copyFrom rl20 rl3 (by decide) v w
        have r1 := CR_copy hc.1 hs.1 d1
        have hc1 : CI S v1 := hc.fr (fun p hp => d1.1 p (by unfold pC at hp; omega))
        have start : f_Q_read 0 (nI k) (nI a) f (nI N) (bh v w) = f_Q_read_64 FU 0 f (nI N) (92 + 2 * k) 0 (if S.2.2 4 k = -4 ∨ zI (S.2.2 4 k) = nI a then 0 else 3) 0 (bh v1 w) := by
          simp only [f_Q_read, f_Q_read_0, Q_isWithin, bd2_s]
          rw [show (3 : Int32).toInt = (nI 3).toInt from rfl, show (2 : Int32).toInt = (nI 2).toInt from rfl, show (20 : Int32).toInt = (nI 20).toInt from rfl, if_pos ((in_rng (by decide)).mpr hx), if_neg (by decide), if_pos ((in_rng (by decide)).mpr hy), if_neg (by decide), if_pos ((in_rng (by decide)).mpr hn), if_neg (by decide)]
          simp only [hQ v w, hSh hk v w, hRl rl20 v w, bd1_s]
          rw [e1]
          simp only [hSh hk v1 w, bd1_s]
          rw [C_as hs hc1 hk ha, bd2_s]
        have startM : ∀ (v2 : Nat → Nat → Int32) (w2 : Nat → Nat → Int64), ∃ v3, f_M_read 100 (nI k) (nI a) f (nI N) (bh v2 w2) = f_M_read_36 FU 100 (nI k) (nI a) f (nI N) 0 0 0 (bh v3 w2) ∧ (∀ q, q ≠ 119 → v3 q = v2 q) ∧ ∀ j, j < 66 → v3 119 j = v2 101 j := by
          intro v2 w2
          obtain ⟨v3, e3, f3, g3⟩ := M_saves v2 w2
          refine ⟨v3, ?_, f3, g3⟩
          simp only [f_M_read, f_M_read_0, M_isSheet, M_in, bd2_s]
          rw [if_pos (And.intro hx hy), if_neg (by decide), show (20 : Int64) = (nI 20).toInt64 from rfl, if_pos ((in_rngL (by decide)).mpr hn), if_neg (by decide)]
          simp only [hM v2 w2, bd1_s]
          rw [e3]
          rfl
        by_cases hl : S.2.2 4 k = -4 ∨ zI (S.2.2 4 k) = nI a
        · rw [if_pos hl] at start
          have Q := Q_rd (w := w) hs hk f hN N 0 FU S.1 v1 (by unfold FU; omega) (by omega) hc1 r1 hs.1
          cases hr : rdl S k f.toInt N 0 S.1 with
          | inl j =>
            obtain ⟨v2, e2, f2⟩ := Q.1 j hr
            have q2 : ∀ q, q < 20 ∨ 37 ≤ q → v2 q = v q := fun q hq => (f2 q hq).trans (d1.1 q (by omega))
            have hc2 : CI S v2 := hc.fr (fun p hp => q2 p (by unfold pC at hp; omega))
            have hm2 : MI S v2 := hm.frame (fun p hp => q2 p (by omega))
            obtain ⟨v3, e3, f3, g3⟩ := startM v2 w
            have hm3 : MI S v3 := hm2.fr (fun p hp => f3 p (by unfold pM at hp; omega)) (by rw [f3 100 (by decide)]; exact ⟨rfl, rfl, rfl, rfl, rfl⟩)
            obtain ⟨v4, e4, f4, g4, h4⟩ := (M_rd (w := w) hs hk f (nI a) hl hN N 0 FU S.1 v3 (by unfold FU; omega) (by omega) (hm3.2.2.2.2.2.1 k hk) hm3.1 hs.1).1 j hr
            have e101 : v4 101 = v2 101 := by
              funext j
              by_cases hj : j < 66
              · rw [g4 j hj, g3 j hj]
              · rw [h4 j (by omega), f3 101 (by decide)]
            have q4 : ∀ q, q ≠ 119 → v4 q = v2 q := by
              intro q hq
              by_cases h : q = 101
              · subst h; exact e101
              · exact (f4 q h).trans (f3 q hq)
            exact ⟨_, v2, w, v4, w, S, start.trans e2, e3.trans e4, hs, hc2.fr (fun p hp => q4 p (by unfold pC at hp; omega)), hm2.fr (fun p hp => q4 p (by unfold pM at hp; omega)) (by rw [q4 100 (by decide)]; exact ⟨rfl, rfl, rfl, rfl, rfl⟩)⟩
          | inr q =>
            obtain ⟨c, ρ', t⟩ := q
            obtain ⟨v2, e2, c2, k2, s2, f2⟩ := Q.2 c ρ' t hr
            obtain ⟨v3, e3, d3⟩ := C_copyFrom rl3 rl20 (by decide) v2 w
            have r3 := CR_copy c2 k2 d3
            have q3 : ∀ q, q < 3 ∨ 37 ≤ q → v3 q = v q := fun q hq => (d3.1 q (by omega)).trans ((f2 q (by omega)).trans (d1.1 q (by omega)))
            have hc3 : CI (ρ', S.2) v3 := CI_rt hc r3 (fun q hq => q3 q (by omega))
            have hc4 := CI_torn (t := t) hc3
            have ea : f_Q_read 0 (nI k) (nI a) f (nI N) (bh v w) = some (nI c, bh (u2 v3 0 9 (zI t)) w) := by
              rw [start]
              refine e2.trans ?_
              simp only [f_Q_read_141, hQ v2 w, hRl rl3 v2 w, bd1_s]
              rw [e3]
              simp only [hQ v3 w, bd1_s]
            have q4 : ∀ q, 100 ≤ q → u2 v3 0 9 (zI t) q = v q := fun q hq => (u2_o (by omega)).trans (q3 q (by omega))
            have hm4 : MI S (u2 v3 0 9 (zI t)) := hm.frame (fun p hp => q4 p (by omega))
            generalize u2 v3 0 9 (zI t) = v4 at hc4 ea hm4 q4
            obtain ⟨v5, e5, f5, g5⟩ := startM v4 w
            have hm5 : MI S v5 := hm4.fr (fun p hp => f5 p (by unfold pM at hp; omega)) (by rw [f5 100 (by decide)]; exact ⟨rfl, rfl, rfl, rfl, rfl⟩)
            obtain ⟨v6, e6, m6, f6, h6⟩ := (M_rd (w := w) hs hk f (nI a) hl hN N 0 FU S.1 v5 (by unfold FU; omega) (by omega) (hm5.2.2.2.2.2.1 k hk) hm5.1 hs.1).2 c ρ' t hr
            have q6 : ∀ q, q ≠ 101 → q ≠ 119 → v6 q = v4 q := fun q a b => (f6 q a).trans (f5 q b)
            have hm6 : MI (ρ', S.2) v6 := MI_rt hm4 m6 (fun q hq => q6 q (by omega) (by omega)) (by rw [q6 100 (by decide) (by decide)]; exact ⟨rfl, rfl, rfl⟩) (fun j hj => by rw [h6 j hj, f5 101 (by decide)])
            refine ⟨_, v4, w, u2 v6 100 38 (zI t), w, (ρ', S.2.1, upX (upX S.2.2 7 0 t) 8 0 t), ea, e5.trans e6, ?_, ?_, ?_⟩
            · exact SOK_torn (S := (ρ', S.2)) (SOK_u hs k2 s2)
            · exact CI_torn8 (S := (ρ', S.2.1, upX S.2.2 7 0 t)) (hc4.frame (fun p hp => (u2_o (by omega)).trans (q6 p (by omega) (by omega))))
            · exact MI_torn (S := (ρ', S.2.1, upX S.2.2 7 0 t)) (MI_torn7 (S := (ρ', S.2)) hm6)
        · rw [if_neg hl] at start
          have h4 : ¬ S.2.2 4 k = -4 := fun q => hl (Or.inl q)
          have hy4 : ¬ zI (S.2.2 4 k) = nI a := fun q => hl (Or.inr q)
          obtain ⟨v3, e3, d3⟩ := C_copyFrom rl3 rl20 (by decide) v1 w
          have r3 := CR_copy r1 hs.1 d3
          have q3 : ∀ q, q < 3 ∨ 37 ≤ q → v3 q = v q := fun q hq => (d3.1 q (by omega)).trans (d1.1 q (by omega))
          have hc3 : CI S v3 := CI_rt hc r3 (fun q hq => q3 q (by omega))
          have hc4 := CI_torn (t := 3) hc3
          have ea : f_Q_read 0 (nI k) (nI a) f (nI N) (bh v w) = some (0, bh (u2 v3 0 9 3) w) := by
            rw [start]
            show f_Q_read_64b (f_Q_read_64 599) 0 f (nI N) (92 + 2 * k) 0 3 0 (bh v1 w) = _
            unfold f_Q_read_64b
            have fin : f_Q_read_141 0 0 3 (bh v1 w) = some (0, bh (u2 v3 0 9 3) w) := by
              simp only [f_Q_read_141, hQ v1 w, hRl rl3 v1 w, bd1_s]
              rw [e3]
              simp only [hQ v3 w, bd1_s]
            rw [if_neg (show ¬ (3 : Int32) = 0 by decide), fin]
            split <;> rfl
          have q4 : ∀ q, 100 ≤ q → u2 v3 0 9 (zI 3) q = v q := fun q hq => (u2_o (by omega)).trans (q3 q (by omega))
          have hm4 : MI S (u2 v3 0 9 (zI 3)) := hm.frame (fun p hp => q4 p (by omega))
          have ea : f_Q_read 0 (nI k) (nI a) f (nI N) (bh v w) = some (0, bh (u2 v3 0 9 (zI 3)) w) := ea
          generalize u2 v3 0 9 (zI 3) = v4 at hc4 ea hm4 q4
          obtain ⟨v5, e5, f5, g5⟩ := startM v4 w
          have hm5 : MI S v5 := hm4.fr (fun p hp => f5 p (by unfold pM at hp; omega)) (by rw [f5 100 (by decide)]; exact ⟨rfl, rfl, rfl, rfl, rfl⟩)
          have em : ∃ t : Int, f_M_read_36 FU 100 (nI k) (nI a) f (nI N) 0 0 0 (bh v5 w) = some (0, bh (u2 v5 100 38 (zI t)) w) := by
            show ∃ t : Int, f_M_read_36b (f_M_read_36 (598 + 1)) 100 (nI k) (nI a) f (nI N) 0 0 (nI 0) (bh v5 w) = _
            unfold f_M_read_36b
            by_cases h0 : nI N ≤ nI 0
            · rw [if_pos h0]
              refine ⟨0, ?_⟩
              simp only [f_M_read_198, hM v5 w, bd1_s]
              rfl
            · rw [if_neg h0, if_pos rfl, M_inn hs hk (hm5.2.2.2.2.2.1 k hk) _ _ _ _ (by omega)]
              have ef : flt S k (nI a) (f.toInt + 2 * ((0 : Nat) : Int)) = 3 := by unfold flt; rw [if_neg h4, if_neg hy4]
              refine ⟨3, ?_⟩
              rw [ef]
              unfold f_M_read_138 f_M_read_192
              rw [if_neg (show ¬ (3 : Int32) = 0 by decide)]
              show f_M_read_36b (f_M_read_36 598) 100 (nI k) (nI a) f (nI N) 3 0 (nI 0 + 1) (bh v5 w) = _
              unfold f_M_read_36b f_M_read_198
              simp only [hM v5 w, bd1_s]
              rw [if_neg (show ¬ (3 : Int32) = 0 by decide)]
              split <;> rfl
          obtain ⟨t, em⟩ := em
          refine ⟨_, v4, w, u2 v5 100 38 (zI t), w, (S.1, S.2.1, upX (upX S.2.2 7 0 3) 8 0 t), ea, e5.trans em, ?_, ?_, ?_⟩
          · exact SOK_torn hs
          · exact CI_torn8 (S := (S.1, S.2.1, upX S.2.2 7 0 3)) (hc4.frame (fun p hp => (u2_o (by omega)).trans (f5 p (by omega))))
          · exact MI_torn (S := (S.1, S.2.1, upX S.2.2 7 0 3)) (MI_torn7 (S := S) hm5)
      · refine Eqv.query (r := -1) hs hc hm ?_ ?_
        · simp only [f_Q_read, f_Q_read_0, f_Q_read_29, Q_isWithin, bd2_s]
          rw [show (3 : Int32).toInt = (nI 3).toInt from rfl, show (2 : Int32).toInt = (nI 2).toInt from rfl, show (20 : Int32).toInt = (nI 20).toInt from rfl, if_pos ((in_rng (by decide)).mpr hx), if_neg (by decide), if_pos ((in_rng (by decide)).mpr hy), if_neg (by decide), if_neg (fun q => hn ((in_rng (by decide)).mp q)), if_pos rfl]
        · simp only [f_M_read, f_M_read_0, f_M_read_21, M_isSheet, M_in, bd2_s]
          rw [if_pos (And.intro hx hy), if_neg (by decide), show (20 : Int64) = (nI 20).toInt64 from rfl, if_neg (fun q => hn ((in_rngL (by decide)).mp q)), if_pos rfl]
    · refine Eqv.query (r := -1) hs hc hm ?_ ?_
      · simp only [f_Q_read, f_Q_read_0, f_Q_read_29, Q_isWithin, bd2_s]
        rw [show (3 : Int32).toInt = (nI 3).toInt from rfl, show (2 : Int32).toInt = (nI 2).toInt from rfl, if_pos ((in_rng (by decide)).mpr hx), if_neg (by decide), if_neg (fun q => hy ((in_rng (by decide)).mp q)), if_pos rfl]
      · simp only [f_M_read, f_M_read_0, f_M_read_21, M_isSheet, bd2_s]
        rw [if_neg (show ¬ ((0 ≤ x.toInt ∧ x.toInt < ((3 + 1 : Nat) : Int)) ∧ (0 ≤ y.toInt ∧ y.toInt < ((2 + 1 : Nat) : Int))) from fun q => hy q.2), if_pos rfl]
  · refine Eqv.query (r := -1) hs hc hm ?_ ?_
    · simp only [f_Q_read, f_Q_read_0, f_Q_read_29, Q_isWithin, bd2_s]
      rw [show (3 : Int32).toInt = (nI 3).toInt from rfl, if_neg (fun q => hx ((in_rng (by decide)).mp q)), if_pos rfl]
    · simp only [f_M_read, f_M_read_0, f_M_read_21, M_isSheet, bd2_s]
      rw [if_neg (show ¬ ((0 ≤ x.toInt ∧ x.toInt < ((3 + 1 : Nat) : Int)) ∧ (0 ≤ y.toInt ∧ y.toInt < ((2 + 1 : Nat) : Int))) from fun q => hx q.1), if_pos rfl]
end
end
/-! 8j.kill.lean.txt -/
section
/-! kill -/
/-- how often all but those of the set can break a LAW -/
def sAble (ρ : Rho) (s l p : Nat) : Nat := sumN (fun q => if bit s q = 0 then sTries ρ q l else 0) p
/-- the least set of fewest, of the sets below n (0 none, else one more than the set) -/
def kst (ρ : Rho) (l : Nat) : Nat → Nat
  | 0 => 0
  | n + 1 => if (sAble ρ n l (ρ 0 1) < sNeed ρ l) ∧ (kst ρ l n = 0 ∨ sumN (bit n) 5 < sumN (bit (kst ρ l n - 1)) 5) then n + 1 else kst ρ l n
theorem kst_le (ρ : Rho) (l : Nat) : ∀ n, kst ρ l n ≤ n
  | 0 => Nat.le_refl _
  | n + 1 => by
    have := kst_le ρ l n
    unfold kst
    split <;> omega
theorem cI_s (m : Nat) : cI (m + 1) = nI m := rfl
theorem cI_n4 {c : Nat} (hc : c ≤ 100) : cI c = (-4 : Int32) ↔ c = 0 := by
  cases c with
  | zero => exact ⟨fun _ => rfl, fun _ => rfl⟩
  | succ m =>
    refine ⟨fun h => ?_, fun h => by cases h⟩
    have := congrArg Int32.toInt h
    rw [cI_s, nI_toInt (by omega)] at this
    have e : (-4 : Int32).toInt = -4 := rfl
    omega
theorem sumbit_le (s : Nat) : sumN (bit s) 5 ≤ 5 := by
  have := sumN_c (f := bit s) (c := 1) (n := 5) (fun i _ => by have := bit_lt s i; omega)
  omega
section
variable {ρ : Rho} {v : Nat → Nat → Int32} {w : Nat → Nat → Int64} {o : Nat}
theorem sAble_le (hk : ROK ρ) {s l p : Nat} (hl : l < ρ 0 0) : sAble ρ s l p ≤ 3 * p := by
  unfold sAble
  refine sumN_c (fun i _ => ?_)
  have := sTries_le hk (p := i) hl
  split <;> omega
theorem C_ableWithout (ho : rl o) (hr : CR o ρ v) (hk : ROK ρ) {s l : Nat} (hs : s < 32) (hl : l < ρ 0 0) : f_Realm_ableWithout o (nI s) (nI l) (bh v w) = some (nI (sAble ρ s l (ρ 0 1)), bh v w) := by
  have h2 := hk.1.2.1
  have key : ∀ (k fuel i : Nat), k < fuel → i + k = ρ 0 1 → f_Realm_ableWithout_5 fuel o (nI s) (nI l) (nI (sAble ρ s l i)) (nI i) (bh v w) = some (nI (sAble ρ s l (ρ 0 1)), bh v w) := by
    intro k
    induction k with
    | zero =>
      intro fuel i hf hi
      obtain ⟨n, rfl⟩ : ∃ n, fuel = n + 1 := ⟨fuel - 1, by omega⟩
      simp only [f_Realm_ableWithout_5, f_Realm_ableWithout_5b, hRl ho v w, bd1_s]
      rw [hr.1.2.1, if_pos (nI_le (by omega) (by omega)), show i = ρ 0 1 by omega]
    | succ k ih =>
      intro fuel i hf hi
      obtain ⟨n, rfl⟩ : ∃ n, fuel = n + 1 := ⟨fuel - 1, by omega⟩
      simp only [f_Realm_ableWithout_5, f_Realm_ableWithout_5b, f_Realm_ableWithout_35, hRl ho v w, bd1_s]
      rw [hr.1.2.1, if_neg (nI_ge (by omega) (by omega)), Q_hasBit (by omega) (by omega), bd2_s]
      have := ih n (i + 1) (by omega) (by omega)
      rw [show sAble ρ s l (i + 1) = sAble ρ s l i + (if bit s i = 0 then sTries ρ i l else 0) from rfl] at this
      rcases bit_01 s i with g | g
      · rw [g, if_pos (show nI 0 = 0 from rfl)]
        simp only [hRl ho v w, bd1_s]
        rw [C_ableAlone ho hr hk (by omega) hl, bd2_s, nI_add, nI_1]
        rw [if_pos g] at this
        exact this
      · rw [g, if_neg (show ¬ nI 1 = 0 by decide), show (0 : Int32) = nI 0 from rfl, nI_add, nI_1]
        rw [if_neg (by omega)] at this
        exact this
  exact key (ρ 0 1) FU 0 (by unfold FU; omega) (by omega)
theorem two_pow_I {P : Nat} (hP : P ≤ 5) : (1 : Int32) <<< (nI P &&& 31) = nI (2 ^ P) := shl_I (by omega)
theorem pw8 {P : Nat} (hP : P ≤ 3) : 2 ^ P ≤ 8 := Nat.le_trans (Nat.pow_le_pow_right (by decide) hP) (by decide)
end
section
variable {S : Sg} {v : Nat → Nat → Int32} {w : Nat → Nat → Int64}
def kans (ρ : Rho) (l : Nat) (x : Int32) : Int32 := if kst ρ l (2 ^ ρ 0 1) = 0 then -4 else if x = 0 then nI (sumN (bit (kst ρ l (2 ^ ρ 0 1) - 1)) 5) else cI (kst ρ l (2 ^ ρ 0 1))
theorem Q_kill_loop (hs : SOK S) (hc : CI S v) {l : Nat} (hl : l < S.1 0 0) (x : Int32) : f_Q_kill_45 FU 0 (nI l) x (-4) 0 (bh v w) = some (kans S.1 l x, bh v w) := by
  have h2 := hs.1.1.2.1
  have h1 := hs.1.1.1
  have hp8 := pw8 h2
  have key : ∀ (k fuel n : Nat), k < fuel → n + k = 2 ^ S.1 0 1 → f_Q_kill_45 fuel 0 (nI l) x (cI (kst S.1 l n)) (nI n) (bh v w) = some (kans S.1 l x, bh v w) := by
    intro k
    induction k with
    | zero =>
      intro fuel n hf hn
      obtain ⟨m, rfl⟩ : ∃ m, fuel = m + 1 := ⟨fuel - 1, by omega⟩
      have kl := kst_le S.1 l n
      simp only [f_Q_kill_45, f_Q_kill_45b, f_Q_kill_136, q_now, hRl rl3 v w, bd1_s]
      rw [hc.1.1.2.1, two_pow_I (by omega), if_pos ((nI_leI (by omega) (by omega)).mpr (by omega))]
      unfold kans
      rw [← hn, Nat.add_zero]
      cases hz : kst S.1 l n with
      | zero =>
        rw [if_pos rfl, if_pos (show cI 0 = -4 from rfl)]
        split <;> rfl
      | succ m =>
        rw [if_neg (show ¬ m + 1 = 0 by omega), if_neg (show ¬ cI (m + 1) = -4 from fun q => by have := (cI_n4 (c := m + 1) (by omega)).mp q; omega), cI_s, bitCount_I _ (by omega), bd2_s]
        split <;> rfl
    | succ k ih =>
      intro fuel n hf hn
      obtain ⟨m, rfl⟩ : ∃ m, fuel = m + 1 := ⟨fuel - 1, by omega⟩
      have kl := kst_le S.1 l n
      have nx := ih m (n + 1) (by omega) (by omega)
      have na := sAble_le hs.1 (s := n) (p := S.1 0 1) hl
      have nn := sNeed_le hs.1 hl
      have go : ∀ (d : Prop) [Decidable d], (d ↔ (kst S.1 l n = 0 ∨ sumN (bit n) 5 < sumN (bit (kst S.1 l n - 1)) 5)) → f_Q_kill_82 (f_Q_kill_45 m) 0 (nI l) x (cI (kst S.1 l n)) (nI n) (if d then 1 else 0) (bh v w) = some (kans S.1 l x, bh v w) := by
        intro d hd1 hd
        unfold f_Q_kill_82 f_Q_kill_113
        rw [show kst S.1 l (n + 1) = if (sAble S.1 n l (S.1 0 1) < sNeed S.1 l) ∧ (kst S.1 l n = 0 ∨ sumN (bit n) 5 < sumN (bit (kst S.1 l n - 1)) 5) then n + 1 else kst S.1 l n from rfl] at nx
        by_cases h : d
        · rw [if_pos h, if_neg (by decide)]
          simp only [q_now, hRl rl3 v w, bd1_s]
          rw [C_ableWithout rl3 hc.1 hs.1 (by omega) hl, bd2_s]
          simp only [q_now, hRl rl3 v w, bd1_s]
          rw [C_needOf rl3 hc.1 hs.1 hl, bd2_s, ite_iff (nI_leI (by omega) (by omega)), nI_1]
          by_cases g : sNeed S.1 l ≤ sAble S.1 n l (S.1 0 1)
          · rw [if_pos g]
            rw [if_neg (fun q => by omega)] at nx
            exact nx
          · rw [if_neg g]
            rw [if_pos ⟨by omega, hd.mp h⟩] at nx
            exact nx
        · rw [if_neg h, if_pos rfl, nI_1]
          rw [if_neg (fun q => h (hd.mpr q.2))] at nx
          exact nx
      simp only [f_Q_kill_45, f_Q_kill_45b, f_Q_kill_77, q_now, hRl rl3 v w, bd1_s]
      rw [hc.1.1.2.1, two_pow_I (by omega), if_neg (fun z => by have := (nI_leI (by omega) (by omega)).mp z; omega)]
      by_cases h0 : kst S.1 l n = 0
      · rw [if_pos ((cI_n4 (by omega)).mpr h0)]
        have := go True (by simp [h0])
        rw [if_pos trivial] at this
        exact this
      · rw [if_neg (fun q => h0 ((cI_n4 (by omega)).mp q))]
        obtain ⟨m2, hm2⟩ : ∃ m2, kst S.1 l n = m2 + 1 := ⟨kst S.1 l n - 1, by omega⟩
        rw [bitCount_I _ (by omega), bd2_s, hm2, cI_s, bitCount_I _ (by omega), bd2_s]
        have b1 := sumbit_le n
        have b2 := sumbit_le m2
        rw [ite_iff (nI_leI (by omega) (by omega))]
        have g1 := go (sumN (bit n) 5 < sumN (bit m2) 5) (by rw [hm2]; simp)
        rw [hm2, cI_s] at g1
        by_cases g : sumN (bit m2) 5 ≤ sumN (bit n) 5
        · rw [if_pos g]
          rw [if_neg (by omega)] at g1
          exact g1
        · rw [if_neg g]
          rw [if_pos (by omega)] at g1
          exact g1
  exact key (2 ^ S.1 0 1) FU 0 (by unfold FU; omega) (by omega)
end
end
/-! 8k.kill2.lean.txt -/
section
section
variable {S : Sg} {v : Nat → Nat → Int32} {w : Nat → Nat → Int64}
def kfew (ρ : Rho) (l n : Nat) : Int32 := if kst ρ l n = 0 then -4 else nI (sumN (bit (kst ρ l n - 1)) 5)
theorem M_kill_loop (hs : SOK S) (hm : MI S v) {l : Nat} (hl : l < S.1 0 0) (x : Int32) : f_M_kill_41 FU 100 (nI l) x (-4) (-4) 0 (bh v w) = some (kans S.1 l x, bh v w) := by
  have h2 := hs.1.1.2.1
  have h1 := hs.1.1.1
  have hp8 := pw8 h2
  have key : ∀ (k fuel n : Nat), k < fuel → n + k = 2 ^ S.1 0 1 → f_M_kill_41 fuel 100 (nI l) x (kfew S.1 l n) (cI (kst S.1 l n)) (nI n) (bh v w) = some (kans S.1 l x, bh v w) := by
    intro k
    induction k with
    | zero =>
      intro fuel n hf hn
      obtain ⟨m, rfl⟩ : ∃ m, fuel = m + 1 := ⟨fuel - 1, by omega⟩
      simp only [f_M_kill_41, f_M_kill_41b, hM v w, bd1_s]
      rw [hm.1.1.2.1, two_pow_I (by omega), if_pos ((nI_leI (by omega) (by omega)).mpr (by omega))]
      unfold kans kfew
      rw [← hn, Nat.add_zero]
      cases hz : kst S.1 l n with
      | zero =>
        rw [if_pos rfl, if_pos rfl]
        split <;> rfl
      | succ m =>
        rw [if_neg (show ¬ m + 1 = 0 by omega), if_neg (show ¬ m + 1 = 0 by omega)]
        split <;> rfl
    | succ k ih =>
      intro fuel n hf hn
      obtain ⟨m, rfl⟩ : ∃ m, fuel = m + 1 := ⟨fuel - 1, by omega⟩
      have kl := kst_le S.1 l n
      have nx := ih m (n + 1) (by omega) (by omega)
      have nn := sNeed_le hs.1 hl
      have inn : ∀ (k fuel p : Nat), k < fuel → p + k = S.1 0 1 → f_M_kill_58 (f_M_kill_41 m) fuel 100 (nI l) x (kfew S.1 l n) (cI (kst S.1 l n)) (nI n) (nI (sAble S.1 n l p)) (nI p) (bh v w) = some (kans S.1 l x, bh v w) := by
        intro k
        induction k with
        | zero =>
          intro fuel p hf hp
          obtain ⟨m2, rfl⟩ : ∃ m2, fuel = m2 + 1 := ⟨fuel - 1, by omega⟩
          obtain rfl : p = S.1 0 1 := by omega
          have na := sAble_le hs.1 (s := n) (p := S.1 0 1) hl
          show f_M_kill_58b (f_M_kill_41 m) (f_M_kill_58 (f_M_kill_41 m) m2) 100 (nI l) x (kfew S.1 l n) (cI (kst S.1 l n)) (nI n) (nI (sAble S.1 n l (S.1 0 1))) (nI (S.1 0 1)) (bh v w) = _
          unfold f_M_kill_58b
          simp only [hM v w, bd1_s]
          rw [hm.1.1.2.1, if_pos (nI_le (by omega) (by omega)), M_needOf hm.1 hs.1 hl, bd2_s, ite_iff (nI_leI (by omega) (by omega))]
          have no : ¬ ((sAble S.1 n l (S.1 0 1) < sNeed S.1 l) ∧ (kst S.1 l n = 0 ∨ sumN (bit n) 5 < sumN (bit (kst S.1 l n - 1)) 5)) → f_M_kill_128 (f_M_kill_41 m) 100 (nI l) x (kfew S.1 l n) (cI (kst S.1 l n)) (nI n) (bh v w) = some (kans S.1 l x, bh v w) := by
            intro hno
            unfold f_M_kill_128 f_M_kill_129 f_M_kill_143 f_M_kill_159
            rw [if_pos rfl, if_pos rfl, nI_1]
            have e : kst S.1 l (n + 1) = kst S.1 l n := by simp only [kst]; rw [if_neg hno]
            unfold kfew at nx ⊢
            rw [e] at nx
            exact nx
          have yes : ((sAble S.1 n l (S.1 0 1) < sNeed S.1 l) ∧ (kst S.1 l n = 0 ∨ sumN (bit n) 5 < sumN (bit (kst S.1 l n - 1)) 5)) → f_M_kill_124 (f_M_kill_41 m) 100 (nI l) x (kfew S.1 l n) (cI (kst S.1 l n)) (nI n) (bh v w) = some (kans S.1 l x, bh v w) := by
            intro hy
            unfold f_M_kill_124 f_M_kill_129 f_M_kill_143 f_M_kill_159
            rw [if_neg (by decide), if_neg (by decide), M_bitsOf (by omega), bd2_s, nI_1]
            have e : kst S.1 l (n + 1) = n + 1 := by simp only [kst]; rw [if_pos hy]
            unfold kfew at nx
            rw [e, if_neg (by omega), cI_s, show n + 1 - 1 = n by omega] at nx
            exact nx
          by_cases g : sNeed S.1 l ≤ sAble S.1 n l (S.1 0 1)
          · rw [if_pos g]
            exact no (fun q => by omega)
          · rw [if_neg g]
            by_cases h0 : kst S.1 l n = 0
            · rw [if_pos (show kfew S.1 l n = -4 by unfold kfew; rw [if_pos h0])]
              exact yes ⟨by omega, Or.inl h0⟩
            · have ek : kfew S.1 l n = nI (sumN (bit (kst S.1 l n - 1)) 5) := by unfold kfew; rw [if_neg h0]
              have b1 := sumbit_le n
              have b2 := sumbit_le (kst S.1 l n - 1)
              have n4 : ¬ kfew S.1 l n = -4 := by
                rw [ek]
                intro q
                have := congrArg Int32.toInt q
                rw [nI_toInt (by omega), show (-4 : Int32).toInt = -4 from rfl] at this
                omega
              rw [if_neg n4, M_bitsOf (by omega), bd2_s]
              by_cases g2 : sumN (bit (kst S.1 l n - 1)) 5 ≤ sumN (bit n) 5
              · rw [if_pos (by rw [ek]; exact (nI_leI (by omega) (by omega)).mpr g2)]
                exact no (fun q => q.2.elim h0 (fun z => by omega))
              · rw [if_neg (by rw [ek]; exact fun z => g2 ((nI_leI (by omega) (by omega)).mp z))]
                exact yes ⟨by omega, Or.inr (by omega)⟩
        | succ k ih2 =>
          intro fuel p hf hp
          obtain ⟨m2, rfl⟩ : ∃ m2, fuel = m2 + 1 := ⟨fuel - 1, by omega⟩
          have nx2 := ih2 m2 (p + 1) (by omega) (by omega)
          rw [show sAble S.1 n l (p + 1) = sAble S.1 n l p + (if bit n p = 0 then sTries S.1 p l else 0) from rfl] at nx2
          show f_M_kill_58b (f_M_kill_41 m) (f_M_kill_58 (f_M_kill_41 m) m2) 100 (nI l) x (kfew S.1 l n) (cI (kst S.1 l n)) (nI n) (nI (sAble S.1 n l p)) (nI p) (bh v w) = _
          unfold f_M_kill_58b f_M_kill_90
          simp only [hM v w, bd1_s]
          rw [hm.1.1.2.1, if_neg (nI_ge (by omega) (by omega)), bit_I (by omega) (by omega)]
          rcases bit_01 n p with g | g
          · rw [g, if_pos (show nI 0 = 0 from rfl)]
            rw [if_pos g] at nx2
            rw [M_triesOf hm.1 hs.1 (by omega) hl, bd2_s, nI_add, nI_1]
            exact nx2
          · rw [g, if_neg (show ¬ nI 1 = 0 by decide)]
            rw [if_neg (by omega)] at nx2
            rw [show (0 : Int32) = nI 0 from rfl, nI_add, nI_1]
            exact nx2
      show f_M_kill_41b (f_M_kill_41 m) 100 (nI l) x (kfew S.1 l n) (cI (kst S.1 l n)) (nI n) (bh v w) = _
      unfold f_M_kill_41b
      simp only [hM v w, bd1_s]
      rw [hm.1.1.2.1, two_pow_I (by omega), if_neg (fun z => by have := (nI_leI (by omega) (by omega)).mp z; omega)]
      exact inn (S.1 0 1) FU 0 (by unfold FU; omega) (by omega)
  exact key (2 ^ S.1 0 1) FU 0 (by unfold FU; omega) (by omega)
theorem E_kill (x y : Int32) (hs : SOK S) (hc : CI S v) (hm : MI S v) : Eqv S v w (f_Q_kill 0 x y) (f_M_kill 100 x y) := by
  have h1 := hs.1.1.1
  have hst := hs.1.st
  by_cases hx : 0 ≤ x.toInt ∧ x.toInt < (S.1 0 0 : Int)
  · by_cases hy : 0 ≤ y.toInt ∧ y.toInt < ((1 + 1 : Nat) : Int)
    · obtain ⟨l, hl, rfl⟩ := ix (by omega) hx
      rcases bit_01 (S.1 0 4) l with g | g
      · refine Eqv.query (r := -2) hs hc hm ?_ ?_
        · simp only [f_Q_kill, f_Q_kill_0, q_now, hRl rl3 v w, bd1_s]
          rw [C_hasLaw rl3 hc.1 h1, bd2_s, if_pos hx, if_neg (by decide), Q_isWithin, bd2_s, show (1 : Int32).toInt = (nI 1).toInt from rfl, if_pos ((in_rng (by decide)).mpr hy), if_neg (by decide)]
          simp only [q_now, hRl rl3 v w, bd1_s]
          rw [hc.1.1.2.2.2.2.1, Q_hasBit (by omega) (by omega), bd2_s, g, if_pos (show nI 0 = 0 from rfl)]
        · simp only [f_M_kill, f_M_kill_0, hM v w, bd1_s]
          rw [M_isLaw hm.1.1 h1, bd2_s, if_pos hx, if_neg (by decide), M_in, bd2_s, show (1 : Int64) = (nI 1).toInt64 from rfl, if_pos ((in_rngL (by decide)).mpr hy), if_neg (by decide)]
          simp only [hM v w, bd1_s]
          rw [M_doesStand hm.1.2 (by omega) (by omega), bd2_s, g, if_pos (show nI 0 = 0 from rfl)]
      · refine Eqv.query (r := kans S.1 l y) hs hc hm ?_ ?_
        · simp only [f_Q_kill, f_Q_kill_0, q_now, hRl rl3 v w, bd1_s]
          rw [C_hasLaw rl3 hc.1 h1, bd2_s, if_pos hx, if_neg (by decide), Q_isWithin, bd2_s, show (1 : Int32).toInt = (nI 1).toInt from rfl, if_pos ((in_rng (by decide)).mpr hy), if_neg (by decide)]
          simp only [q_now, hRl rl3 v w, bd1_s]
          rw [hc.1.1.2.2.2.2.1, Q_hasBit (by omega) (by omega), bd2_s, g, if_neg (show ¬ nI 1 = 0 by decide)]
          exact Q_kill_loop hs hc hl y
        · simp only [f_M_kill, f_M_kill_0, hM v w, bd1_s]
          rw [M_isLaw hm.1.1 h1, bd2_s, if_pos hx, if_neg (by decide), M_in, bd2_s, show (1 : Int64) = (nI 1).toInt64 from rfl, if_pos ((in_rngL (by decide)).mpr hy), if_neg (by decide)]
          simp only [hM v w, bd1_s]
          rw [M_doesStand hm.1.2 (by omega) (by omega), bd2_s, g, if_neg (show ¬ nI 1 = 0 by decide)]
          exact M_kill_loop hs hm hl y
    · refine Eqv.query (r := -1) hs hc hm ?_ ?_
      · simp only [f_Q_kill, f_Q_kill_0, f_Q_kill_20, q_now, hRl rl3 v w, bd1_s]
        rw [C_hasLaw rl3 hc.1 h1, bd2_s, if_pos hx, if_neg (by decide), Q_isWithin, bd2_s, show (1 : Int32).toInt = (nI 1).toInt from rfl, if_neg (fun q => hy ((in_rng (by decide)).mp q)), if_pos rfl]
      · simp only [f_M_kill, f_M_kill_0, f_M_kill_18, hM v w, bd1_s]
        rw [M_isLaw hm.1.1 h1, bd2_s, if_pos hx, if_neg (by decide), M_in, bd2_s, show (1 : Int64) = (nI 1).toInt64 from rfl, if_neg (fun q => hy ((in_rngL (by decide)).mp q)), if_pos rfl]
  · refine Eqv.query (r := -1) hs hc hm ?_ ?_
    · simp only [f_Q_kill, f_Q_kill_0, f_Q_kill_20, q_now, hRl rl3 v w, bd1_s]
      rw [C_hasLaw rl3 hc.1 h1, bd2_s, if_neg hx, if_pos rfl]
    · simp only [f_M_kill, f_M_kill_0, f_M_kill_18, hM v w, bd1_s]
      rw [M_isLaw hm.1.1 h1, bd2_s, if_neg hx, if_pos rfl]
end
end
/-! 8l.wild.lean.txt -/
section
/-! wild years -/
def sd (a : Int32) : Int32 := (a * (1103515245 : Int32)) + (12345 : Int32)
def dr (a : Int32) : Int32 := (a >>> ((16 : Int32) &&& 31)) &&& (32767 : Int32)
theorem dr_bv (b : BitVec 32) : (b >>> (16 : Nat)) &&& 32767#32 = (b.sshiftRight 16) &&& 32767#32 := by
  apply BitVec.eq_of_getLsbD_eq
  intro i hi
  rw [BitVec.getLsbD_and, BitVec.getLsbD_and, BitVec.getLsbD_ushiftRight, BitVec.getLsbD_sshiftRight]
  by_cases h : i < 15
  · have h1 : ¬ 32 ≤ i := by omega
    have h2 : 16 + i < 32 := by omega
    simp [h1, h2]
  · have : ∀ j, j < 32 → 15 ≤ j → (32767#32).getLsbD j = false := by decide
    rw [this i hi (by omega)]
    simp
theorem C_next (a : Int32) (h : mH) : f_Realm_nextSeed a h = some (sd a, h) := by
  unfold f_Realm_nextSeed f_Realm_nextSeed_0 sd
  exact Eq.refl _
theorem C_drawn (a : Int32) (h : mH) : f_Realm_drawn a h = some (dr a, h) := by
  unfold f_Realm_drawn f_Realm_drawn_0 dr
  refine congrArg (fun z => some (z, h)) ?_
  apply Int32.toBitVec_inj.mp
  exact dr_bv a.toBitVec
def wx (g d : Int32 → Int32) (ρ : Rho) (a : Int32) : Int32 := d (g a) - d (g a) / nI (ρ 0 1) * nI (ρ 0 1)
def wy (g d : Int32 → Int32) (ρ : Rho) (a : Int32) : Int32 := d (g (g a)) - d (g (g a)) / nI (ρ 0 0) * nI (ρ 0 0)
theorem M_wild_54b_eq (rec54 : Nat → Int32 → Int32 → Int32 → Int32 → Int32 → mH → Option (Int32 × mH)) (b0 : Nat) (b2 : Int32) (b3 : Int32) (b4 : Int32) (b5 : Int32) (b6 : Int32) (h : mH) : f_M_wild_54b rec54 b0 b2 b3 b4 b5 b6 h =
  if b2 ≤ b6 then
    bd1 (kC h b0 8) fun _ =>
    bd2 (f_M_fallsNow b0 h) fun x23 h21 =>
    bd1 (kC h21 b0 8) fun _ =>
    bd1 (f_M_returns b0 h21) fun h26 =>
    if b3 = 0 then
      some (b5, h26)
    else
      some (x23, h26)
  else
    bd1 (gI h b0 8 3) fun x29 =>
    if x29 = 0 then none else
    bd1 (gI h b0 8 2) fun x32 =>
    if x32 = 0 then none else
    bd1 (kC h b0 8) fun _ =>
    bd2 (f_M_breaks b0 ((dr (sd b4)) - (dr (sd b4)) / x29 * x29) ((dr (sd (sd b4))) - (dr (sd (sd b4))) / x32 * x32) h) fun x39 h37 =>
    if x39 < 0 then
      f_M_wild_130 rec54 b0 b2 b3 (sd (sd b4)) b6 b5 (0 : Int32) h37
    else
      f_M_wild_130 rec54 b0 b2 b3 (sd (sd b4)) b6 b5 (1 : Int32) h37 := by
  unfold f_M_wild_54b sd dr
  exact Eq.refl _
noncomputable def wlr (g d : Int32 → Int32) : Nat → Int32 → Nat → Rho → Nat × Rho
  | 0, _, c, ρ => (c, ρ)
  | n + 1, a, c, ρ => haveI := Classical.propDecidable; wlr g d n (g (g a)) (if gbk ρ (wx g d ρ a) (wy g d ρ a) < 0 then c else c + 1) (gst ρ (wx g d ρ a) (wy g d ρ a))
theorem wlr_le (g d : Int32 → Int32) : ∀ (n : Nat) (a : Int32) (c : Nat) (ρ : Rho), (wlr g d n a c ρ).1 ≤ c + n
  | 0, _, _, _ => Nat.le_refl _
  | n + 1, a, c, ρ => by
    unfold wlr
    have := wlr_le g d n (g (g a)) (@ite _ (gbk ρ (wx g d ρ a) (wy g d ρ a) < 0) (Classical.propDecidable _) c (c + 1)) (gst ρ (wx g d ρ a) (wy g d ρ a))
    refine Nat.le_trans this ?_
    split <;> omega
theorem gst_LP (ρ : Rho) (x y : Int32) : gst ρ x y 0 0 = ρ 0 0 ∧ gst ρ x y 0 1 = ρ 0 1 := by
  have := SAME_gst (SAME.rf ρ) x y
  exact ⟨this.1.symm, this.2.1.symm⟩
section
variable {v : Nat → Nat → Int32} {w : Nat → Nat → Int64}
theorem C_seed {g d : Int32 → Int32} (hn : ∀ a h, f_Realm_nextSeed a h = some (g a, h)) (hd : ∀ a h, f_Realm_drawn a h = some (d a, h)) {N : Nat} (hN : N ≤ 60) : ∀ (n i fuel c : Nat) (a : Int32) (ρ : Rho) (v : Nat → Nat → Int32), n < fuel → i + n = N → CR 20 ρ v → ROK ρ → 0 < ρ 0 1 → 0 < ρ 0 0 → ∃ v', f_Realm_breakBySeed_24 fuel 20 (nI N) (nI c) a (nI i) (bh v w) = some (nI (wlr g d n a c ρ).1, bh v' w) ∧ CR 20 (wlr g d n a c ρ).2 v' ∧ ROK (wlr g d n a c ρ).2 ∧ ∀ q, q < 20 ∨ 37 ≤ q → v' q = v q := by
  intro n
  induction n with
  | zero =>
    intro i fuel c a ρ v hf hi hr hk hP hL
    obtain ⟨m, rfl⟩ : ∃ m, fuel = m + 1 := ⟨fuel - 1, by omega⟩
    simp only [f_Realm_breakBySeed_24, f_Realm_breakBySeed_24b]
    rw [if_pos ((nI_leI (by omega) (by omega)).mpr (by omega))]
    exact ⟨v, rfl, hr, hk, fun _ _ => rfl⟩
  | succ n ih =>
    intro i fuel c a ρ v hf hi hr hk hP hL
    obtain ⟨m, rfl⟩ : ∃ m, fuel = m + 1 := ⟨fuel - 1, by omega⟩
    have h1 := hk.1.1
    have h2 := hk.1.2.1
    obtain ⟨v1, e1, c1, f1⟩ := C_bk (w := w) rl20 hr hk (wx g d ρ a) (wy g d ρ a)
    have gp := gst_LP ρ (wx g d ρ a) (wy g d ρ a)
    simp only [f_Realm_breakBySeed_24, f_Realm_breakBySeed_24b, f_Realm_breakBySeed_85, hn, hd, bd2_s, hRl rl20 v w, bd1_s]
    rw [if_neg (fun z => by have := (nI_leI (by omega) (by omega)).mp z; omega), hr.1.2.1, hr.1.1, if_neg (fun z => by have := (nI_eqI (a := ρ 0 1) (b := 0) (by omega) (by omega)).mp z; omega), if_neg (fun z => by have := (nI_eqI (a := ρ 0 0) (b := 0) (by omega) (by omega)).mp z; omega)]
    have ex : d (g a) - d (g a) / nI (ρ 0 1) * nI (ρ 0 1) = wx g d ρ a := rfl
    have ey : d (g (g a)) - d (g (g a)) / nI (ρ 0 0) * nI (ρ 0 0) = wy g d ρ a := rfl
    rw [ex, ey, e1, bd2_s]
    unfold wlr
    by_cases hg : gbk ρ (wx g d ρ a) (wy g d ρ a) < 0
    · rw [if_pos hg, if_pos hg, show (0 : Int32) = nI 0 from rfl, nI_add, nI_1, Nat.add_zero]
      obtain ⟨v', a1, a2, a3, a4⟩ := ih (i + 1) m c (g (g a)) (gst ρ (wx g d ρ a) (wy g d ρ a)) v1 (by omega) (by omega) c1 (ROK_gst hk _ _) (by rw [gp.2]; exact hP) (by rw [gp.1]; exact hL)
      exact ⟨v', a1, a2, a3, fun q hq => (a4 q hq).trans (f1 q (by omega))⟩
    · rw [if_neg hg, if_neg hg, nI_1, nI_1]
      obtain ⟨v', a1, a2, a3, a4⟩ := ih (i + 1) m (c + 1) (g (g a)) (gst ρ (wx g d ρ a) (wy g d ρ a)) v1 (by omega) (by omega) c1 (ROK_gst hk _ _) (by rw [gp.2]; exact hP) (by rw [gp.1]; exact hL)
      exact ⟨v', a1, a2, a3, fun q hq => (a4 q hq).trans (f1 q (by omega))⟩
theorem M_seed {g d : Int32 → Int32} (hb : ∀ (rec54 : Nat → Int32 → Int32 → Int32 → Int32 → Int32 → mH → Option (Int32 × mH)) (b0 : Nat) (b2 : Int32) (b3 : Int32) (b4 : Int32) (b5 : Int32) (b6 : Int32) (h : mH), f_M_wild_54b rec54 b0 b2 b3 b4 b5 b6 h =
  if b2 ≤ b6 then
    bd1 (kC h b0 8) fun _ =>
    bd2 (f_M_fallsNow b0 h) fun x23 h21 =>
    bd1 (kC h21 b0 8) fun _ =>
    bd1 (f_M_returns b0 h21) fun h26 =>
    if b3 = 0 then
      some (b5, h26)
    else
      some (x23, h26)
  else
    bd1 (gI h b0 8 3) fun x29 =>
    if x29 = 0 then none else
    bd1 (gI h b0 8 2) fun x32 =>
    if x32 = 0 then none else
    bd1 (kC h b0 8) fun _ =>
    bd2 (f_M_breaks b0 ((d (g b4)) - (d (g b4)) / x29 * x29) ((d (g (g b4))) - (d (g (g b4))) / x32 * x32) h) fun x39 h37 =>
    if x39 < 0 then
      f_M_wild_130 rec54 b0 b2 b3 (g (g b4)) b6 b5 (0 : Int32) h37
    else
      f_M_wild_130 rec54 b0 b2 b3 (g (g b4)) b6 b5 (1 : Int32) h37) {N : Nat} (hN : N ≤ 60) (z : Int32) : ∀ (n i fuel c : Nat) (a : Int32) (ρ : Rho) (v : Nat → Nat → Int32), n < fuel → i + n = N → MR ρ v → ROK ρ → 0 < ρ 0 1 → 0 < ρ 0 0 → ∃ v', f_M_wild_54 fuel 100 (nI N) z a (nI c) (nI i) (bh v w) = some (if z = 0 then nI (wlr g d n a c ρ).1 else nI (sFalls (wlr g d n a c ρ).2), bh v' w) ∧ (∀ q, q ≠ 101 → v' q = v q) ∧ (∀ j, j < 66 → v' 101 j = v 119 j) ∧ ∀ j, 66 ≤ j → v' 101 j = v 101 j := by
  intro n
  induction n with
  | zero =>
    intro i fuel c a ρ v hf hi hr hk hP hL
    obtain ⟨m, rfl⟩ : ∃ m, fuel = m + 1 := ⟨fuel - 1, by omega⟩
    obtain ⟨v1, e1, f1, g1, k1⟩ := M_returns v w
    show ∃ v', f_M_wild_54b (f_M_wild_54 m) 100 (nI N) z a (nI c) (nI i) (bh v w) = _ ∧ _
    rw [hb]
    simp only [hM v w, bd1_s]
    rw [if_pos ((nI_leI (by omega) (by omega)).mpr (by omega)), M_fallsNow hr hk, bd2_s]
    simp only [hM v w, bd1_s]
    rw [e1, bd1_s]
    refine ⟨v1, ?_, f1, g1, k1⟩
    split <;> rfl
  | succ n ih =>
    intro i fuel c a ρ v hf hi hr hk hP hL
    obtain ⟨m, rfl⟩ : ∃ m, fuel = m + 1 := ⟨fuel - 1, by omega⟩
    have h1 := hk.1.1
    have h2 := hk.1.2.1
    obtain ⟨v1, e1, c1, f1, k1⟩ := M_bk (w := w) hr hk (wx g d ρ a) (wy g d ρ a)
    have gp := gst_LP ρ (wx g d ρ a) (wy g d ρ a)
    have fl0 : ∀ h : mH, f_M_flag 0 h = some (0, h) := fun _ => rfl
    have fl1 : ∀ h : mH, f_M_flag 1 h = some (1, h) := fun _ => rfl
    show ∃ v', f_M_wild_54b (f_M_wild_54 m) 100 (nI N) z a (nI c) (nI i) (bh v w) = _ ∧ _
    rw [hb]
    simp only [f_M_wild_130, hM v w, bd1_s, fl0, fl1, bd2_s]
    rw [if_neg (fun z => by have := (nI_leI (by omega) (by omega)).mp z; omega), hr.1.2.1, hr.1.1, if_neg (fun z => by have := (nI_eqI (a := ρ 0 1) (b := 0) (by omega) (by omega)).mp z; omega), if_neg (fun z => by have := (nI_eqI (a := ρ 0 0) (b := 0) (by omega) (by omega)).mp z; omega)]
    have ex : d (g a) - d (g a) / nI (ρ 0 1) * nI (ρ 0 1) = wx g d ρ a := rfl
    have ey : d (g (g a)) - d (g (g a)) / nI (ρ 0 0) * nI (ρ 0 0) = wy g d ρ a := rfl
    rw [ex, ey, e1, bd2_s]
    unfold wlr
    by_cases hg : gbk ρ (wx g d ρ a) (wy g d ρ a) < 0
    · rw [if_pos hg, if_pos hg, show nI c + 0 = nI (c + 0) by rw [show (0 : Int32) = nI 0 from rfl, nI_add], nI_1, Nat.add_zero]
      obtain ⟨v', a1, a2, a3, a4⟩ := ih (i + 1) m c (g (g a)) (gst ρ (wx g d ρ a) (wy g d ρ a)) v1 (by omega) (by omega) c1 (ROK_gst hk _ _) (by rw [gp.2]; exact hP) (by rw [gp.1]; exact hL)
      exact ⟨v', a1, fun q hq => (a2 q hq).trans (f1 q hq), fun j hj => (a3 j hj).trans (by rw [f1 119 (by decide)]), fun j hj => (a4 j hj).trans (k1 j hj)⟩
    · rw [if_neg hg, if_neg hg, nI_1, nI_1]
      obtain ⟨v', a1, a2, a3, a4⟩ := ih (i + 1) m (c + 1) (g (g a)) (gst ρ (wx g d ρ a) (wy g d ρ a)) v1 (by omega) (by omega) c1 (ROK_gst hk _ _) (by rw [gp.2]; exact hP) (by rw [gp.1]; exact hL)
      exact ⟨v', a1, fun q hq => (a2 q hq).trans (f1 q hq), fun j hj => (a3 j hj).trans (by rw [f1 119 (by decide)]), fun j hj => (a4 j hj).trans (k1 j hj)⟩
end
section
variable {S : Sg} {v : Nat → Nat → Int32} {w : Nat → Nat → Int64}
/-- the reference's numbers saved, changed and brought back -/
theorem back_same {v1 v2 v3 : Nat → Nat → Int32} (f1 : ∀ q, q ≠ 119 → v2 q = v1 q) (g1 : ∀ j, j < 66 → v2 119 j = v1 101 j) (f2 : ∀ q, q ≠ 101 → v3 q = v2 q) (g2 : ∀ j, j < 66 → v3 101 j = v2 119 j) (k2 : ∀ j, 66 ≤ j → v3 101 j = v2 101 j) : ∀ q, q ≠ 119 → v3 q = v1 q := by
  intro q hq
  by_cases h : q = 101
  · subst h
    funext j
    by_cases hj : j < 66
    · rw [g2 j hj, g1 j hj]
    · rw [k2 j (by omega), f1 101 (by decide)]
  · exact (f2 q h).trans (f1 q hq)
theorem E_wild_of {g d : Int32 → Int32} (hn : ∀ a h, f_Realm_nextSeed a h = some (g a, h)) (hd : ∀ a h, f_Realm_drawn a h = some (d a, h)) (hb : ∀ (rec54 : Nat → Int32 → Int32 → Int32 → Int32 → Int32 → mH → Option (Int32 × mH)) (b0 : Nat) (b2 : Int32) (b3 : Int32) (b4 : Int32) (b5 : Int32) (b6 : Int32) (h : mH), f_M_wild_54b rec54 b0 b2 b3 b4 b5 b6 h =
  if b2 ≤ b6 then
    bd1 (kC h b0 8) fun _ =>
    bd2 (f_M_fallsNow b0 h) fun x23 h21 =>
    bd1 (kC h21 b0 8) fun _ =>
    bd1 (f_M_returns b0 h21) fun h26 =>
    if b3 = 0 then
      some (b5, h26)
    else
      some (x23, h26)
  else
    bd1 (gI h b0 8 3) fun x29 =>
    if x29 = 0 then none else
    bd1 (gI h b0 8 2) fun x32 =>
    if x32 = 0 then none else
    bd1 (kC h b0 8) fun _ =>
    bd2 (f_M_breaks b0 ((d (g b4)) - (d (g b4)) / x29 * x29) ((d (g (g b4))) - (d (g (g b4))) / x32 * x32) h) fun x39 h37 =>
    if x39 < 0 then
      f_M_wild_130 rec54 b0 b2 b3 (g (g b4)) b6 b5 (0 : Int32) h37
    else
      f_M_wild_130 rec54 b0 b2 b3 (g (g b4)) b6 b5 (1 : Int32) h37) (x y z : Int32) (hs : SOK S) (hc : CI S v) (hm : MI S v) : Eqv S v w (f_Q_wild 0 x y z) (f_M_wild 100 x y z) := by
  have h1 := hs.1.1.1
  have h2 := hs.1.1.2.1
  have w1 : (1 : Int64) ≤ y.toInt64 ∧ y.toInt64 ≤ 60 ↔ (1 : Int32).toInt ≤ y.toInt ∧ y.toInt ≤ (60 : Int32).toInt := by
    rw [show (1 : Int64) = (1 : Int32).toInt64 from rfl, show (60 : Int64) = (60 : Int32).toInt64 from rfl, i64_le, i64_le]
  have w2 : (0 : Int64) ≤ z.toInt64 ∧ z.toInt64 ≤ 1 ↔ (0 : Int32).toInt ≤ z.toInt ∧ z.toInt ≤ (1 : Int32).toInt := by
    rw [show (0 : Int64) = (0 : Int32).toInt64 from rfl, show (1 : Int64) = (1 : Int32).toInt64 from rfl, i64_le, i64_le]
  by_cases g1 : (1 : Int32).toInt ≤ y.toInt ∧ y.toInt ≤ (60 : Int32).toInt
  · by_cases g2 : (0 : Int32).toInt ≤ z.toInt ∧ z.toInt ≤ (1 : Int32).toInt
    · by_cases g3 : 0 < S.1 0 1 ∧ 0 < S.1 0 0
      · have e60 : (60 : Int32).toInt = 60 := rfl
        have e01 : (1 : Int32).toInt = 1 := rfl
        obtain ⟨N, hN, rfl⟩ := ix (n := 61) (x := y) (by omega) (by omega)
        obtain ⟨v1, e1, d1⟩ := C_copyFrom rl20 rl3 (by decide) v w
        obtain ⟨v2, e2, c2, k2, f2⟩ := C_seed (w := w) hn hd (show N ≤ 60 by omega) N 0 FU 0 x S.1 v1 (by unfold FU; omega) (by omega) (CR_copy hc.1 hs.1 d1) hs.1 g3.1 g3.2
        have q2 : ∀ q, q < 20 ∨ 37 ≤ q → v2 q = v q := fun q hq => (f2 q hq).trans (d1.1 q (by omega))
        have hm2 : MI S v2 := hm.frame (fun p hp => q2 p (by omega))
        obtain ⟨v3, e3, f3, s3⟩ := M_saves v2 w
        have hm3 : MI S v3 := hm2.fr (fun p hp => f3 p (by unfold pM at hp; omega)) (by rw [f3 100 (by decide)]; exact ⟨rfl, rfl, rfl, rfl, rfl⟩)
        obtain ⟨v4, e4, f4, s4, t4⟩ := M_seed (w := w) hb (show N ≤ 60 by omega) z N 0 FU 0 x S.1 v3 (by unfold FU; omega) (by omega) hm3.1 hs.1 g3.1 g3.2
        have q4 := back_same f3 s3 f4 s4 t4
        refine EqT.q (r := if z = 0 then nI (wlr g d N x 0 S.1).1 else nI (sFalls (wlr g d N x 0 S.1).2)) (v1 := v2) (w1 := w) (v2 := v4) (w2 := w) hs hc hm ?_ (fun p hp => q2 p (by unfold pC at hp; omega)) ?_ (fun p hp => q4 p (by unfold pM at hp; omega))
        · simp only [f_Q_wild, f_Q_wild_0, Q_isWithin, bd2_s]
          rw [if_pos g1, if_neg (by decide), if_pos g2, if_neg (by decide)]
          simp only [q_now, hQ v w, hRl rl3 v w, hRl rl20 v w, bd1_s]
          rw [hc.1.1.2.1, hc.1.1.1, if_neg (fun q => by have := (nI_leI (a := S.1 0 1) (b := 0) (by omega) (by omega)).mp q; omega), if_pos (show (0 : Int32) < nI (S.1 0 0) from (nI_ltI (a := 0) (by omega) (by omega)).mpr g3.2), e1]
          simp only [hQ v1 w, hRl rl20 v1 w, bd1_s, f_Realm_breakBySeed, f_Realm_breakBySeed_0]
          have cr1 := CR_copy hc.1 hs.1 d1
          rw [cr1.1.2.1, cr1.1.1, if_neg (fun q => by have := (nI_leI (a := S.1 0 1) (b := 0) (by omega) (by omega)).mp q; omega), if_pos (show (0 : Int32) < nI (S.1 0 0) from (nI_ltI (a := 0) (by omega) (by omega)).mpr g3.2)]
          have e2' : f_Realm_breakBySeed_24 FU 20 (nI N) 0 x 0 (bh v1 w) = some (nI (wlr g d N x 0 S.1).1, bh v2 w) := e2
          rw [e2', bd2_s]
          simp only [hQ v2 w, hRl rl20 v2 w, bd1_s]
          rw [C_lapsing rl20 c2 k2, bd2_s]
          split <;> rfl
        · simp only [f_M_wild, f_M_wild_0, M_in, bd2_s]
          rw [if_pos (w1.mpr g1), if_neg (by decide), if_pos (w2.mpr g2), if_neg (by decide)]
          simp only [hM v2 w, bd1_s]
          rw [hm2.1.1.2.1, hm2.1.1.1, if_neg (fun q => by have := (nI_eqI (a := S.1 0 1) (b := 0) (by omega) (by omega)).mp q; omega), if_neg (fun q => by have := (nI_eqI (a := S.1 0 0) (b := 0) (by omega) (by omega)).mp q; omega), e3, bd1_s]
          exact e4
      · refine Eqv.query (r := -2) hs hc hm ?_ ?_
        · simp only [f_Q_wild, f_Q_wild_0, f_Q_wild_41, Q_isWithin, bd2_s]
          rw [if_pos g1, if_neg (by decide), if_pos g2, if_neg (by decide)]
          simp only [q_now, hRl rl3 v w, bd1_s]
          rw [hc.1.1.2.1, hc.1.1.1]
          by_cases hP : S.1 0 1 = 0
          · rw [if_pos (by rw [hP]; decide)]
          · rw [if_neg (fun q => by have := (nI_leI (a := S.1 0 1) (b := 0) (by omega) (by omega)).mp q; omega), if_neg (fun q => by have := (nI_ltI (a := 0) (b := S.1 0 0) (by omega) (by omega)).mp q; omega)]
        · simp only [f_M_wild, f_M_wild_0, f_M_wild_38, M_in, bd2_s]
          rw [if_pos (w1.mpr g1), if_neg (by decide), if_pos (w2.mpr g2), if_neg (by decide)]
          simp only [hM v w, bd1_s]
          rw [hm.1.1.2.1, hm.1.1.1]
          by_cases hP : S.1 0 1 = 0
          · rw [if_pos (by rw [hP]; rfl)]
          · rw [if_neg (fun q => by have := (nI_eqI (a := S.1 0 1) (b := 0) (by omega) (by omega)).mp q; omega), if_pos (by rw [show S.1 0 0 = 0 by omega]; rfl)]
    · refine Eqv.query (r := -1) hs hc hm ?_ ?_
      · simp only [f_Q_wild, f_Q_wild_0, f_Q_wild_19, Q_isWithin, bd2_s]
        rw [if_pos g1, if_neg (by decide), if_neg g2, if_pos rfl]
      · simp only [f_M_wild, f_M_wild_0, f_M_wild_22, M_in, bd2_s]
        rw [if_pos (w1.mpr g1), if_neg (by decide), if_neg (fun q => g2 (w2.mp q)), if_pos rfl]
  · refine Eqv.query (r := -1) hs hc hm ?_ ?_
    · simp only [f_Q_wild, f_Q_wild_0, f_Q_wild_19, Q_isWithin, bd2_s]
      rw [if_neg g1, if_pos rfl]
    · simp only [f_M_wild, f_M_wild_0, f_M_wild_22, M_in, bd2_s]
      rw [if_neg (fun q => g1 (w1.mp q)), if_pos rfl]
theorem E_wild (x y z : Int32) (hs : SOK S) (hc : CI S v) (hm : MI S v) : Eqv S v w (f_Q_wild 0 x y z) (f_M_wild 100 x y z) := E_wild_of C_next C_drawn M_wild_54b_eq x y z hs hc hm
end
end
/-! 8m.done.lean.txt -/
section
/-! questions of a realm whose DONE is more by c: printed by wip/gen/gen_d.py -/
def CRq (c o : Nat) (ρ : Rho) (v : Nat → Nat → Int32) : Prop :=
  (v o 0 = nI (ρ 0 0) ∧ v o 1 = nI (ρ 0 1) ∧ v o 2 = nI (ρ 0 2) ∧ v o 3 = nI (ρ 0 3 + c) ∧ v o 4 = nI (ρ 0 4) ∧ v o 5 = nI (ρ 0 5) ∧ v (o + 13) 0 = nI (ρ 0 6)) ∧
  (∀ l, l < ρ 0 0 → v (o + 1) l = nI (ρ 1 l) ∧ v (o + 2) l = nI (ρ 2 l) ∧ v (o + 3) l = nI (ρ 3 l) ∧ v (o + 4) l = nI (ρ 4 l) ∧ v (o + 5) l = cI (ρ 5 l)) ∧
  (∀ p, p < ρ 0 1 → v (o + 6) p = nI (ρ 6 p) ∧ v (o + 7) p = nI (ρ 7 p) ∧ v (o + 8) p = nI (ρ 8 p) ∧ v (o + 9) p = nI (ρ 9 p) ∧ v (o + 10) p = nI (ρ 10 p) ∧ v (o + 11) p = nI (ρ 11 p)) ∧
  (∀ p l, p < ρ 0 1 → l < ρ 0 0 → v (o + 12) (5 * p + l) = nI (ρ 12 (5 * p + l))) ∧
  (∀ i, i < ρ 0 6 → v (o + 14) i = nI (ρ 13 i) ∧ v (o + 15) i = nI (ρ 14 i) ∧ v (o + 16) i = nI (ρ 15 i))
section
variable {ρ : Rho} {v : Nat → Nat → Int32} {w : Nat → Nat → Int64} {o c : Nat}
theorem CRq_of (h : CR o ρ v) : CRq 0 o ρ v := h
theorem D_hasLaw (ho : rl o) (hr : CRq c o ρ v) (hk : ρ 0 0 ≤ 5) (x : Int32) : f_Realm_hasLaw o x (bh v w) = some (if 0 ≤ x.toInt ∧ x.toInt < ρ 0 0 then 1 else 0, bh v w) := by
  simp only [f_Realm_hasLaw, f_Realm_hasLaw_0, f_Realm_hasLaw_16, hRl ho v w, bd1_s, hr.1.1, Int32.lt_iff_toInt_lt, Int32.le_iff_toInt_le, nI_toInt (show ρ 0 0 < 2 ^ 31 by omega)]
  have e : (0 : Int32).toInt = 0 := rfl
  rw [e]
  by_cases h1 : x.toInt < 0
  · rw [if_pos h1, if_neg (by omega)]
  · rw [if_neg h1]
    by_cases h2 : (ρ 0 0 : Int) ≤ x.toInt
    · rw [if_pos h2, if_neg (by omega)]
    · rw [if_neg h2, if_pos (by omega)]
theorem D_hasOne (ho : rl o) (hr : CRq c o ρ v) (hk : ρ 0 1 ≤ 3) (x : Int32) : f_Realm_hasOne o x (bh v w) = some (if 0 ≤ x.toInt ∧ x.toInt < ρ 0 1 then 1 else 0, bh v w) := by
  simp only [f_Realm_hasOne, f_Realm_hasOne_0, f_Realm_hasOne_16, hRl ho v w, bd1_s, hr.1.2.1, Int32.lt_iff_toInt_lt, Int32.le_iff_toInt_le, nI_toInt (show ρ 0 1 < 2 ^ 31 by omega)]
  have e : (0 : Int32).toInt = 0 := rfl
  rw [e]
  by_cases h1 : x.toInt < 0
  · rw [if_pos h1, if_neg (by omega)]
  · rw [if_neg h1]
    by_cases h2 : (ρ 0 1 : Int) ≤ x.toInt
    · rw [if_pos h2, if_neg (by omega)]
    · rw [if_neg h2, if_pos (by omega)]
theorem D_brokenBy (ho : rl o) (hr : CRq c o ρ v) (hk : ROK ρ) {p l : Nat} (hp : p < ρ 0 1) (hl : l < ρ 0 0) : f_Realm_brokenBy o (nI p) (nI l) (bh v w) = some (nI (ρ 12 (5 * p + l)), bh v w) := by
  have h1 := hk.1.1
  have h2 := hk.1.2.1
  simp only [f_Realm_brokenBy, f_Realm_brokenBy_0, hRl ho v w, bd1_s]
  rw [show (5 : Int32) = nI 5 from rfl, pk_mul, nI_add, rd_nI (by omega) (by decide), bd1_s, Nat.mul_comm p 5, hr.2.2.2.1 p l hp hl]
theorem D_brokenByOne (ho : rl o) (hr : CRq c o ρ v) (hk : ROK ρ) {p : Nat} (hp : p < ρ 0 1) : f_Realm_brokenByOne o (nI p) (bh v w) = some (nI (sAll ρ p), bh v w) := by
  have h1 := hk.1.1
  have h2 := hk.1.2.1
  have key : ∀ (k fuel l : Nat), k < fuel → l + k = ρ 0 0 → f_Realm_brokenByOne_4 fuel o (nI p) (nI (sumN (fun l => ρ 12 (5 * p + l)) l)) (nI l) (bh v w) = some (nI (sAll ρ p), bh v w) := by
    intro k
    induction k with
    | zero =>
      intro fuel l hf hl
      obtain ⟨n, rfl⟩ : ∃ n, fuel = n + 1 := ⟨fuel - 1, by omega⟩
      simp only [f_Realm_brokenByOne_4, f_Realm_brokenByOne_4b, hRl ho v w, bd1_s]
      rw [hr.1.1, if_pos (nI_le (by omega) (by omega)), show l = ρ 0 0 by omega]
      rfl
    | succ k ih =>
      intro fuel l hf hl
      obtain ⟨n, rfl⟩ : ∃ n, fuel = n + 1 := ⟨fuel - 1, by omega⟩
      simp only [f_Realm_brokenByOne_4, f_Realm_brokenByOne_4b, hRl ho v w, bd1_s]
      rw [hr.1.1, if_neg (nI_ge (by omega) (by omega)), show (5 : Int32) = nI 5 from rfl, pk_mul, nI_add, rd_nI (by omega) (by decide), bd1_s, Nat.mul_comm p 5, hr.2.2.2.1 p l hp (by omega), nI_add, nI_1]
      exact ih n (l + 1) (by omega) (by omega)
  simp only [f_Realm_brokenByOne, f_Realm_brokenByOne_0]
  exact key (ρ 0 0) FU 0 (by unfold FU; omega) (by omega)
theorem D_needOf (ho : rl o) (hr : CRq c o ρ v) (hk : ROK ρ) {l : Nat} (hl : l < ρ 0 0) : f_Realm_needOf o (nI l) (bh v w) = some (nI (sNeed ρ l), bh v w) := by
  have h1 := hk.1.1
  have h2 := hk.1.2.1
  have hst := hk.st
  have hq : ρ 1 l ≤ 9 := (hk.2.1 l hl).1
  have hB : ∀ p, p < ρ 0 1 → ρ 12 (5 * p + l) ≤ 3 := fun p hp => Nat.le_trans (hk.2.2.2.1 p l hp hl) (hk.2.1 l hl).2.2.1
  have key : ∀ (k fuel p : Nat), k < fuel → p + k = ρ 0 1 → f_Realm_needOf_22 fuel o (nI l) (zI ((ρ 1 l : Int) - sumN (fun p => ρ 12 (5 * p + l)) p)) (nI p) (bh v w) = some (nI (ρ 1 l - sumN (fun p => ρ 12 (5 * p + l)) (ρ 0 1)), bh v w) := by
    intro k
    induction k with
    | zero =>
      intro fuel p hf hp
      obtain ⟨n, rfl⟩ : ∃ n, fuel = n + 1 := ⟨fuel - 1, by omega⟩
      have hs : sumN (fun p => ρ 12 (5 * p + l)) p ≤ 3 * p := sumN_c (fun i hi => hB i (by omega))
      simp only [f_Realm_needOf_22, f_Realm_needOf_22b, hRl ho v w, bd1_s]
      rw [hr.1.2.1, if_pos (nI_le (by omega) (by omega)), show ρ 0 1 = p by omega, max0 (by omega) (by omega)]
      congr 3
      omega
    | succ k ih =>
      intro fuel p hf hp
      obtain ⟨n, rfl⟩ : ∃ n, fuel = n + 1 := ⟨fuel - 1, by omega⟩
      simp only [f_Realm_needOf_22, f_Realm_needOf_22b, hRl ho v w, bd1_s]
      rw [hr.1.2.1, if_neg (nI_ge (by omega) (by omega)), D_brokenBy ho hr hk (by omega) hl, bd2_s, zI_subn, nI_1]
      have := ih n (p + 1) (by omega) (by omega)
      rw [show ((ρ 1 l : Int) - (sumN (fun p => ρ 12 (5 * p + l)) p : Nat)) - (ρ 12 (5 * p + l) : Nat) = (ρ 1 l : Int) - (sumN (fun p => ρ 12 (5 * p + l)) (p + 1) : Nat) by show _ = (ρ 1 l : Int) - ((sumN (fun p => ρ 12 (5 * p + l)) p + ρ 12 (5 * p + l) : Nat) : Int); omega]
      exact this
  simp only [f_Realm_needOf, f_Realm_needOf_0, hRl ho v w, bd1_s]
  rw [hr.1.2.2.2.2.1, Q_hasBit (by omega) (by omega), bd2_s]
  unfold sNeed
  rcases bit_01 (ρ 0 4) l with h | h
  · rw [h, if_pos (show nI 0 = 0 from rfl), if_neg (by decide)]
    rfl
  · rw [h, if_neg (show ¬ nI 1 = 0 by decide), if_pos rfl]
    simp only [hRl ho v w, bd1_s]
    rw [rd_nI (by omega) (by decide), bd1_s, (hr.2.1 l hl).1]
    have := key (ρ 0 1) FU 0 (by unfold FU; omega) (by omega)
    rw [show ((ρ 1 l : Nat) : Int) - (sumN (fun p => ρ 12 (5 * p + l)) 0 : Nat) = ((ρ 1 l : Nat) : Int) by show ((ρ 1 l : Nat) : Int) - ((0 : Nat) : Int) = _; omega, zI_n] at this
    exact this
theorem D_roomOf (ho : rl o) (hr : CRq c o ρ v) (hk : ROK ρ) {p l : Nat} (hp : p < ρ 0 1) (hl : l < ρ 0 0) : f_Realm_roomOf o (nI p) (nI l) (bh v w) = some (nI (sRoom ρ p l), bh v w) := by
  have h1 := hk.1.1
  have h2 := hk.1.2.1
  have hst := hk.st
  have hrf : ρ 10 p < 32 := pw_le h1 (hk.2.2.1 p hp).2.2.2.2.1
  have hB : ρ 12 (5 * p + l) ≤ ρ 2 l := hk.2.2.2.1 p l hp hl
  have hc : ρ 2 l ≤ 3 := (hk.2.1 l hl).2.2.1
  simp only [f_Realm_roomOf, f_Realm_roomOf_0, f_Realm_roomOf_28, f_Realm_roomOf_29, hRl ho v w, bd1_s]
  rw [hr.1.2.2.2.2.1, Q_hasBit (by omega) (by omega), bd2_s]
  unfold sRoom
  rcases bit_01 (ρ 0 4) l with h | h
  · rw [h, if_pos (show nI 0 = 0 from rfl), if_pos trivial, if_neg (fun z => by have := z.1; omega)]
    rfl
  · rw [h, if_neg (show ¬ nI 1 = 0 by decide)]
    simp only [hRl ho v w, bd1_s]
    rw [rd_nI (by omega) (by decide), bd1_s, (hr.2.2.1 p hp).2.2.2.2.1, Q_hasBit (by omega) (by omega), bd2_s]
    rcases bit_01 (ρ 10 p) l with g | g
    · rw [g, if_pos (show nI 0 = 0 from rfl), if_neg (by decide)]
      simp only [hRl ho v w, bd1_s]
      rw [rd_nI (by omega) (by decide), bd1_s, (hr.2.1 l hl).2.1, D_brokenBy ho hr hk hp hl, bd2_s, ← zI_n, zI_subn, max0 (by omega) (by omega)]
      simp only [true_and, if_true]
      congr 3
      omega
    · rw [g, if_neg (show ¬ nI 1 = 0 by decide), if_pos trivial, if_neg (fun z => by have := z.2; omega)]
      rfl
theorem D_timeLeft (ho : rl o) (hr : CRq c o ρ v) (hk : ROK ρ) {p : Nat} (hp : p < ρ 0 1) : f_Realm_timeLeft o (nI p) (bh v w) = some (nI (sLeft ρ p), bh v w) := by
  have h1 := hk.1.1
  have h2 := hk.1.2.1
  have ht := (hk.2.2.1 p hp).1
  have hs : sAll ρ p ≤ 5 := (hk.2.2.1 p hp).2.2.2.2.2.2
  simp only [f_Realm_timeLeft, f_Realm_timeLeft_0, hRl ho v w, bd1_s]
  rw [rd_nI (by omega) (by decide), bd1_s, D_brokenByOne ho hr hk hp, bd2_s, (hr.2.2.1 p hp).1, ← zI_n, zI_subn, max0 (by omega) (by omega)]
  unfold sLeft
  congr 3
  omega
theorem D_ableAlone (ho : rl o) (hr : CRq c o ρ v) (hk : ROK ρ) {p l : Nat} (hp : p < ρ 0 1) (hl : l < ρ 0 0) : f_Realm_ableAlone o (nI p) (nI l) (bh v w) = some (nI (sTries ρ p l), bh v w) := by
  have a1 := sRoom_le hk (p := p) hl
  have a2 := sLeft_le hk hp
  simp only [f_Realm_ableAlone, f_Realm_ableAlone_0, hRl ho v w, bd1_s]
  rw [D_roomOf ho hr hk hp hl, bd2_s]
  simp only [hRl ho v w, bd1_s]
  rw [D_timeLeft ho hr hk hp, bd2_s, ite_iff (nI_ltI (by omega) (by omega))]
  unfold sTries
  by_cases h : sLeft ρ p < sRoom ρ p l
  · rw [if_pos h, if_pos (by omega)]
  · rw [if_neg h]
    by_cases g : sLeft ρ p ≤ sRoom ρ p l
    · rw [if_pos g, show sLeft ρ p = sRoom ρ p l by omega]
    · rw [if_neg g]
theorem D_breakable (ho : rl o) (hr : CRq c o ρ v) (hk : ROK ρ) {p : Nat} (hp : p < ρ 0 1) : f_Realm_breakable o (nI p) (bh v w) = some (nI (sCans ρ p), bh v w) := by
  have h1 := hk.1.1
  have key : ∀ (k fuel l : Nat), k < fuel → l + k = ρ 0 0 → f_Realm_breakable_4 fuel o (nI p) (nI (orN (fun l => if 0 < sTries ρ p l then 2 ^ l else 0) l)) (nI l) (bh v w) = some (nI (sCans ρ p), bh v w) := by
    intro k
    induction k with
    | zero =>
      intro fuel l hf hl
      obtain ⟨n, rfl⟩ : ∃ n, fuel = n + 1 := ⟨fuel - 1, by omega⟩
      simp only [f_Realm_breakable_4, f_Realm_breakable_4b, hRl ho v w, bd1_s]
      rw [hr.1.1, if_pos (nI_le (by omega) (by omega)), show l = ρ 0 0 by omega]
      rfl
    | succ k ih =>
      intro fuel l hf hl
      obtain ⟨n, rfl⟩ : ∃ n, fuel = n + 1 := ⟨fuel - 1, by omega⟩
      have hl2 : l < ρ 0 0 := by omega
      have ht := sTries_le hk (p := p) hl2
      simp only [f_Realm_breakable_4, f_Realm_breakable_4b, f_Realm_breakable_29, hRl ho v w, bd1_s]
      have e2 : orN (fun l => if 0 < sTries ρ p l then 2 ^ l else 0) (l + 1) = orN (fun l => if 0 < sTries ρ p l then 2 ^ l else 0) l ||| (if 0 < sTries ρ p l then 2 ^ l else 0) := rfl
      have ih2 := ih n (l + 1) (by omega) (by omega)
      rw [hr.1.1, if_neg (nI_ge (by omega) (by omega)), D_ableAlone ho hr hk hp hl2, bd2_s, ite_iff (nI_le0 (by omega))]
      by_cases z : sTries ρ p l = 0
      · rw [if_pos z, nI_1, show (0 : Int32) = nI 0 from rfl, or_I]
        rw [e2, if_neg (by omega)] at ih2
        exact ih2
      · rw [if_neg z, nI_1, shl_I (by omega), or_I]
        rw [e2, if_pos (by omega)] at ih2
        exact ih2
  simp only [f_Realm_breakable, f_Realm_breakable_0]
  exact key (ρ 0 0) FU 0 (by unfold FU; omega) (by omega)
end
theorem CRq_broke {o c : Nat} {ρ : Rho} {v : Nat → Nat → Int32} {i j : Nat} {x : Nat} (hi : i < ρ 0 1) (hj : j < ρ 0 0) (h : CRq c o ρ v) (hL : ρ 0 0 ≤ 5) : CRq c o (up2 ρ 12 (5 * i + j) x) (u2 v (o + 12) (5 * i + j) (nI x)) := by
  refine ⟨⟨(congrFun (u2_o (by omega)) 0).trans h.1.1, (congrFun (u2_o (by omega)) 1).trans h.1.2.1, (congrFun (u2_o (by omega)) 2).trans h.1.2.2.1, (congrFun (u2_o (by omega)) 3).trans h.1.2.2.2.1, (congrFun (u2_o (by omega)) 4).trans h.1.2.2.2.2.1, (congrFun (u2_o (by omega)) 5).trans h.1.2.2.2.2.2.1, (congrFun (u2_o (by omega)) 0).trans h.1.2.2.2.2.2.2⟩, fun l hl => ?_, fun p hp => ?_, fun p l hp hl => ?_, fun s hs => ?_⟩
  · have hl : l < ρ 0 0 := hl
    refine ⟨(congrFun (u2_o (by omega)) l).trans (h.2.1 l hl).1, (congrFun (u2_o (by omega)) l).trans (h.2.1 l hl).2.1, (congrFun (u2_o (by omega)) l).trans (h.2.1 l hl).2.2.1, (congrFun (u2_o (by omega)) l).trans (h.2.1 l hl).2.2.2.1, (congrFun (u2_o (by omega)) l).trans (h.2.1 l hl).2.2.2.2⟩
  · have hp : p < ρ 0 1 := hp
    refine ⟨(congrFun (u2_o (by omega)) p).trans (h.2.2.1 p hp).1, (congrFun (u2_o (by omega)) p).trans (h.2.2.1 p hp).2.1, (congrFun (u2_o (by omega)) p).trans (h.2.2.1 p hp).2.2.1, (congrFun (u2_o (by omega)) p).trans (h.2.2.1 p hp).2.2.2.1, (congrFun (u2_o (by omega)) p).trans (h.2.2.1 p hp).2.2.2.2.1, (congrFun (u2_o (by omega)) p).trans (h.2.2.1 p hp).2.2.2.2.2⟩
  · have hp : p < ρ 0 1 := hp; have hl : l < ρ 0 0 := hl
    by_cases e : p = i ∧ l = j
    · obtain ⟨rfl, rfl⟩ := e; rw [up2_at]; exact u2_at _ _ _ _
    · rw [up2_n (by omega)]; exact (u2_n (by omega)).trans (h.2.2.2.1 p l hp hl)
  · have hs : s < ρ 0 6 := hs
    exact ⟨(congrFun (u2_o (by omega)) s).trans (h.2.2.2.2 s hs).1, (congrFun (u2_o (by omega)) s).trans (h.2.2.2.2 s hs).2.1, (congrFun (u2_o (by omega)) s).trans (h.2.2.2.2 s hs).2.2⟩
end
/-! 8n.self.lean.txt -/
section
/-! each for himself -/
theorem bit_tb (s l : Nat) : bit s l = (s.testBit l).toNat := by
  unfold bit
  rw [Nat.testBit_eq_decide_div_mod_eq]
  rcases Nat.mod_two_eq_zero_or_one (s / 2 ^ l) with h | h <;> rw [h] <;> rfl
theorem bit_eq1 {s l : Nat} : bit s l = 1 ↔ s.testBit l = true := by
  rw [bit_tb]
  cases s.testBit l <;> simp
theorem bit_and (a b l : Nat) : bit (a &&& b) l = 1 ↔ bit a l = 1 ∧ bit b l = 1 := by
  rw [bit_eq1, bit_eq1, bit_eq1, Nat.testBit_and, Bool.and_eq_true]
theorem tb_orN {P : Nat → Prop} [DecidablePred P] : ∀ {n l : Nat}, (orN (fun l => if P l then 2 ^ l else 0) n).testBit l = true ↔ l < n ∧ P l
  | 0, l => by simp [orN]
  | n + 1, l => by
    show (orN (fun l => if P l then 2 ^ l else 0) n ||| (if P n then 2 ^ n else 0)).testBit l = true ↔ _
    rw [Nat.testBit_or, Bool.or_eq_true, tb_orN (n := n) (l := l)]
    by_cases h : P n
    · rw [if_pos h, Nat.testBit_two_pow]
      simp only [decide_eq_true_eq]
      constructor
      · rintro (⟨a, b⟩ | rfl)
        · exact ⟨by omega, b⟩
        · exact ⟨by omega, h⟩
      · rintro ⟨a, b⟩
        by_cases e : n = l
        · exact Or.inr e
        · exact Or.inl ⟨by omega, b⟩
    · rw [if_neg h]
      simp only [Nat.zero_testBit, Bool.false_eq_true, or_false]
      constructor
      · rintro ⟨a, b⟩; exact ⟨by omega, b⟩
      · rintro ⟨a, b⟩
        by_cases e : l = n
        · subst e; exact absurd b h
        · exact ⟨by omega, b⟩
theorem orN_and {P : Nat → Prop} [DecidablePred P] {s n : Nat} [DecidablePred (fun l => bit s l = 1 ∧ P l)] : orN (fun l => if P l then 2 ^ l else 0) n &&& s = orN (fun l => if bit s l = 1 ∧ P l then 2 ^ l else 0) n := by
  apply Nat.eq_of_testBit_eq
  intro i
  rw [Nat.testBit_and, Bool.eq_iff_iff, Bool.and_eq_true, tb_orN, tb_orN (P := fun l => bit s l = 1 ∧ P l), ← bit_eq1]
  constructor
  · rintro ⟨⟨a, b⟩, c⟩; exact ⟨a, c, b⟩
  · rintro ⟨a, c, b⟩; exact ⟨⟨a, b⟩, c⟩
def bro (ρ : Rho) (p l : Nat) : Rho := up2 ρ 12 (5 * p + l) (ρ 12 (5 * p + l) + 1)
theorem bro_12 (ρ : Rho) (p l q j : Nat) : bro ρ p l 12 (5 * q + j) = if 5 * q + j = 5 * p + l then ρ 12 (5 * p + l) + 1 else ρ 12 (5 * q + j) := by
  show (va_up (ρ 12) (5 * p + l) (ρ 12 (5 * p + l) + 1)) (5 * q + j) = _
  rfl
theorem bro_all {ρ : Rho} {p l q : Nat} (hL : ρ 0 0 ≤ 5) (hl : l < ρ 0 0) : sAll (bro ρ p l) q = sAll ρ q + (if q = p then 1 else 0) := by
  show sumN (fun j => bro ρ p l 12 (5 * q + j)) (ρ 0 0) = sumN (fun i => ρ 12 (5 * q + i)) (ρ 0 0) + _
  by_cases e : q = p
  · subst e
    rw [if_pos rfl]
    have e3 : sumN (fun j => bro ρ q l 12 (5 * q + j)) (ρ 0 0) = sumN (fun j => if j = l then (fun i => ρ 12 (5 * q + i)) l + 1 else (fun i => ρ 12 (5 * q + i)) j) (ρ 0 0) := by
      refine sumN_congr (fun j hj => ?_)
      rw [bro_12]
      by_cases z : j = l
      · subst z; rw [if_pos rfl, if_pos rfl]
      · rw [if_neg (by omega), if_neg z]
    exact e3.trans (sumN_up (f := fun i => ρ 12 (5 * q + i)) hl)
  · rw [if_neg e, Nat.add_zero]
    refine sumN_congr (fun j hj => ?_)
    rw [bro_12, if_neg (by omega)]
theorem tries_pos {ρ : Rho} {p l : Nat} (h : 0 < sTries ρ p l) : ρ 12 (5 * p + l) < ρ 2 l ∧ sAll ρ p < ρ 6 p := by
  have hc := sCan_iff.mpr h
  refine ⟨?_, ?_⟩
  · have := hc.1
    unfold sRoom at this
    split at this
    · omega
    · omega
  · have := hc.2
    unfold sLeft at this
    omega
theorem ROK_bro {ρ : Rho} {p l : Nat} (hk : ROK ρ) (hp : p < ρ 0 1) (hl : l < ρ 0 0) (ht : 0 < sTries ρ p l) : ROK (bro ρ p l) := by
  have h5 := hk.1.1
  obtain ⟨hroom, hleft⟩ := tries_pos ht
  refine ⟨hk.1, hk.2.1, fun q hq => ?_, fun q j hq hj => ?_, hk.2.2.2.2⟩
  · have hq : q < ρ 0 1 := hq
    have g := hk.2.2.1 q hq
    refine ⟨g.1, g.2.1, g.2.2.1, g.2.2.2.1, g.2.2.2.2.1, g.2.2.2.2.2.1, ?_⟩
    have e := bro_all (p := p) (q := q) h5 hl
    show sAll (bro ρ p l) q ≤ 5
    rw [e]
    have g7 : sAll ρ q ≤ 5 := g.2.2.2.2.2.2
    by_cases z : q = p
    · subst z; rw [if_pos rfl]; have := g.1; omega
    · rw [if_neg z]; omega
  · have hq : q < ρ 0 1 := hq
    have hj : j < ρ 0 0 := hj
    show bro ρ p l 12 (5 * q + j) ≤ ρ 2 j
    rw [bro_12]
    split
    · next z => obtain ⟨rfl, rfl⟩ : q = p ∧ j = l := by omega
                omega
    · exact hk.2.2.2.1 q j hq hj
def sLs (ρ : Rho) : Nat := sumN (sLeft ρ) (ρ 0 1)
theorem sumN_dn {f g : Nat → Nat} {p : Nat} : ∀ {n : Nat}, p < n → g p + 1 = f p → (∀ i, i < n → i ≠ p → g i = f i) → sumN g n + 1 = sumN f n
  | 0, h, _, _ => by omega
  | n + 1, h, hp, ho => by
    show sumN g n + g n + 1 = sumN f n + f n
    by_cases e : n = p
    · subst e
      rw [sumN_congr (g := f) (fun i hi => ho i (by omega) (by omega))]
      omega
    · have := sumN_dn (n := n) (by omega) hp (fun i hi he => ho i (by omega) he)
      have := ho n (by omega) e
      omega
theorem sLs_bro {ρ : Rho} {p l : Nat} (hk : ROK ρ) (hp : p < ρ 0 1) (hl : l < ρ 0 0) (ht : 0 < sTries ρ p l) : sLs (bro ρ p l) + 1 = sLs ρ := by
  have h5 := hk.1.1
  obtain ⟨-, hleft⟩ := tries_pos ht
  refine sumN_dn (f := sLeft ρ) (g := sLeft (bro ρ p l)) hp ?_ (fun i hi he => ?_)
  · show ρ 6 p - sAll (bro ρ p l) p + 1 = ρ 6 p - sAll ρ p
    rw [bro_all h5 hl, if_pos rfl]
    omega
  · show ρ 6 i - sAll (bro ρ p l) i = ρ 6 i - sAll ρ i
    rw [bro_all h5 hl, if_neg he, Nat.add_zero]
theorem sLs_le {ρ : Rho} (hk : ROK ρ) : sLs ρ ≤ 15 := by
  have h2 := hk.1.2.1
  have := sumN_c (f := sLeft ρ) (c := 5) (n := ρ 0 1) (fun i hi => Nat.le_trans (Nat.sub_le _ _) (hk.2.2.1 i hi).1)
  unfold sLs
  omega
/-- which LAW he breaks next, of the first n (0 none, else one more than the LAW) -/
def mnd (ρ : Rho) (p : Nat) : Nat → Nat
  | 0 => 0
  | n + 1 => if (bit (ρ 11 p) n = 1 ∧ 0 < sTries ρ p n ∧ 0 < sNeed ρ n) ∧ (mnd ρ p n = 0 ∨ sNeed ρ (mnd ρ p n - 1) < sNeed ρ n) then n + 1 else mnd ρ p n
theorem mnd_le (ρ : Rho) (p : Nat) : ∀ n, mnd ρ p n ≤ n ∧ (mnd ρ p n ≠ 0 → 0 < sTries ρ p (mnd ρ p n - 1) ∧ 0 < sNeed ρ (mnd ρ p n - 1))
  | 0 => ⟨Nat.le_refl _, fun h => absurd rfl h⟩
  | n + 1 => by
    have ih := mnd_le ρ p n
    unfold mnd
    split
    · next h => exact ⟨Nat.le_refl _, fun _ => ⟨h.1.2.1, h.1.2.2⟩⟩
    · exact ⟨by omega, ih.2⟩
def nIb (ρ : Rho) (c : Nat) : Nat := if c = 0 then 0 else sNeed ρ (c - 1)
section
variable {ρ : Rho} {v : Nat → Nat → Int32} {w : Nat → Nat → Int64} {o c : Nat}
theorem sCans_bit {p l : Nat} (hl : l < ρ 0 0) : bit (sCans ρ p) l = 1 ↔ 0 < sTries ρ p l := by
  unfold sCans
  rw [bit_eq1, tb_orN (P := fun l => 0 < sTries ρ p l)]
  exact ⟨fun h => h.2, fun h => ⟨hl, h⟩⟩
theorem sCans_lt (hk : ROK ρ) (p : Nat) : sCans ρ p < 32 := by
  unfold sCans
  refine orN_lt (fun i hi => ?_)
  have := hk.1.1
  split
  · exact Nat.lt_of_lt_of_le (Nat.pow_lt_pow_right (by decide) (show i < 5 by omega)) (by decide)
  · omega
theorem D_mostNeeded (ho : rl o) (hr : CRq c o ρ v) (hk : ROK ρ) {p : Nat} (hp : p < ρ 0 1) : f_Realm_mostNeeded o (nI p) (bh v w) = some (cI (mnd ρ p (ρ 0 0)), bh v w) := by
  have h1 := hk.1.1
  have h2 := hk.1.2.1
  have hw : ρ 11 p < 32 := pw_le h1 (hk.2.2.1 p hp).2.2.2.2.2.1
  have hs := sCans_lt hk p
  have ha := and_lt _ hs _ hw
  have key : ∀ (k fuel n : Nat), k < fuel → n + k = ρ 0 0 → f_Realm_mostNeeded_22 fuel o (nI (sCans ρ p &&& ρ 11 p)) (cI (mnd ρ p n)) (nI (nIb ρ (mnd ρ p n))) (nI n) (bh v w) = some (cI (mnd ρ p (ρ 0 0)), bh v w) := by
    intro k
    induction k with
    | zero =>
      intro fuel n hf hn
      obtain ⟨m, rfl⟩ : ∃ m, fuel = m + 1 := ⟨fuel - 1, by omega⟩
      simp only [f_Realm_mostNeeded_22, f_Realm_mostNeeded_22b, hRl ho v w, bd1_s]
      rw [hr.1.1, if_pos (nI_le (by omega) (by omega)), show n = ρ 0 0 by omega]
    | succ k ih =>
      intro fuel n hf hn
      obtain ⟨m, rfl⟩ : ∃ m, fuel = m + 1 := ⟨fuel - 1, by omega⟩
      have hl : n < ρ 0 0 := by omega
      have ml := mnd_le ρ p n
      have nx := ih m (n + 1) (by omega) (by omega)
      have nn := sNeed_le hk hl
      have nb : nIb ρ (mnd ρ p n) ≤ 9 := by
        unfold nIb
        split
        · omega
        · exact sNeed_le hk (by omega)
      simp only [f_Realm_mostNeeded_22, f_Realm_mostNeeded_22b, f_Realm_mostNeeded_62, hRl ho v w, bd1_s]
      rw [hr.1.1, if_neg (nI_ge (by omega) (by omega)), Q_hasBit (by omega) (by omega), bd2_s]
      have hb := bit_and (sCans ρ p) (ρ 11 p) n
      rw [sCans_bit hl] at hb
      rcases bit_01 (sCans ρ p &&& ρ 11 p) n with g | g
      · rw [g, if_pos (show nI 0 = 0 from rfl), nI_1]
        have e : mnd ρ p (n + 1) = mnd ρ p n := by
          simp only [mnd]
          rw [if_neg (fun q => by have := hb.mpr ⟨q.1.2.1, q.1.1⟩; omega)]
        rw [e] at nx
        exact nx
      · rw [g, if_neg (show ¬ nI 1 = 0 by decide)]
        have g2 := hb.mp g
        simp only [hRl ho v w, bd1_s]
        rw [D_needOf ho hr hk hl, bd2_s, ite_iff (nI_leI (by omega) (by omega))]
        by_cases z : sNeed ρ n ≤ nIb ρ (mnd ρ p n)
        · rw [if_pos z, nI_1]
          have e : mnd ρ p (n + 1) = mnd ρ p n := by
            simp only [mnd]
            rw [if_neg]
            rintro ⟨q1, q2⟩
            unfold nIb at z
            rcases q2 with q2 | q2
            · rw [if_pos q2] at z; omega
            · by_cases q3 : mnd ρ p n = 0
              · rw [if_pos q3] at z; omega
              · rw [if_neg q3] at z; omega
          rw [e] at nx
          exact nx
        · rw [if_neg z]
          simp only [hRl ho v w, bd1_s]
          rw [D_needOf ho hr hk hl, bd2_s, nI_1]
          have e : mnd ρ p (n + 1) = n + 1 := by
            simp only [mnd]
            rw [if_pos]
            unfold nIb at z
            by_cases q3 : mnd ρ p n = 0
            · rw [if_pos q3] at z; exact ⟨⟨g2.2, g2.1, by omega⟩, Or.inl q3⟩
            · rw [if_neg q3] at z; exact ⟨⟨g2.2, g2.1, by omega⟩, Or.inr (by omega)⟩
          rw [e] at nx
          have e2 : nIb ρ (n + 1) = sNeed ρ n := by unfold nIb; rw [if_neg (by omega)]; rfl
          rw [e2] at nx
          exact nx
  simp only [f_Realm_mostNeeded, f_Realm_mostNeeded_0, hRl ho v w, bd1_s]
  rw [D_breakable ho hr hk hp, bd2_s]
  simp only [hRl ho v w, bd1_s]
  rw [rd_nI (by omega) (by decide), bd1_s, (hr.2.2.1 p hp).2.2.2.2.2, and_I]
  exact key (ρ 0 0) FU 0 (by unfold FU; omega) (by omega)
theorem M_wantedBy (hr : MR ρ v) (hk : ROK ρ) {p : Nat} (hp : p < ρ 0 1) : f_M_wantedBy 100 (nI p) (bh v w) = some (cI (mnd ρ p (ρ 0 0)), bh v w) := by
  have h1 := hk.1.1
  have h2 := hk.1.2.1
  have hw : ρ 11 p < 32 := pw_le h1 (hk.2.2.1 p hp).2.2.2.2.2.1
  have a21 : v 101 (21 + p) = nI (ρ 11 p) := by have := hr.2.2.2.2.2.2.2.2.1 p hp; rwa [show 0 + 21 + p = 21 + p by omega] at this
  have key : ∀ (k fuel n : Nat), k < fuel → n + k = ρ 0 0 → f_M_wantedBy_5 fuel 100 (nI p) (cI (mnd ρ p n)) (nI n) (bh v w) = some (cI (mnd ρ p (ρ 0 0)), bh v w) := by
    intro k
    induction k with
    | zero =>
      intro fuel n hf hn
      obtain ⟨m, rfl⟩ : ∃ m, fuel = m + 1 := ⟨fuel - 1, by omega⟩
      simp only [f_M_wantedBy_5, f_M_wantedBy_5b, hM v w, bd1_s]
      rw [hr.1.1, if_pos (nI_le (by omega) (by omega)), show n = ρ 0 0 by omega]
    | succ k ih =>
      intro fuel n hf hn
      obtain ⟨m, rfl⟩ : ∃ m, fuel = m + 1 := ⟨fuel - 1, by omega⟩
      have hl : n < ρ 0 0 := by omega
      have ml := mnd_le ρ p n
      have nx := ih m (n + 1) (by omega) (by omega)
      have nn := sNeed_le hk hl
      have : Decidable (sCan ρ p n) := inferInstanceAs (Decidable (0 < sRoom ρ p n ∧ 0 < sLeft ρ p))
      have no : ¬ ((bit (ρ 11 p) n = 1 ∧ 0 < sTries ρ p n ∧ 0 < sNeed ρ n) ∧ (mnd ρ p n = 0 ∨ sNeed ρ (mnd ρ p n - 1) < sNeed ρ n)) → f_M_wantedBy_82 (f_M_wantedBy_5 m) 100 (nI p) (cI (mnd ρ p n)) (nI n) (bh v w) = some (cI (mnd ρ p (ρ 0 0)), bh v w) := by
        intro h
        unfold f_M_wantedBy_82 f_M_wantedBy_83
        rw [nI_1]
        have e : mnd ρ p (n + 1) = mnd ρ p n := by simp only [mnd]; rw [if_neg h]
        rw [e] at nx
        exact nx
      have yes : ((bit (ρ 11 p) n = 1 ∧ 0 < sTries ρ p n ∧ 0 < sNeed ρ n) ∧ (mnd ρ p n = 0 ∨ sNeed ρ (mnd ρ p n - 1) < sNeed ρ n)) → f_M_wantedBy_78 (f_M_wantedBy_5 m) 100 (nI p) (nI n) (bh v w) = some (cI (mnd ρ p (ρ 0 0)), bh v w) := by
        intro h
        unfold f_M_wantedBy_78 f_M_wantedBy_83
        rw [nI_1]
        have e : mnd ρ p (n + 1) = n + 1 := by simp only [mnd]; rw [if_pos h]
        rw [e] at nx
        exact nx
      simp only [f_M_wantedBy_5, f_M_wantedBy_5b, f_M_wantedBy_51, f_M_wantedBy_52, hM v w, bd1_s]
      rw [hr.1.1, if_neg (nI_ge (by omega) (by omega)), show (21 : Int32) = nI 21 from rfl, nI_add, rd_nI (by omega) (by decide), bd1_s, a21, bit_I (by omega) (by omega), ite_iff (nI_eq1 (by have := bit_lt (ρ 11 p) n; omega))]
      by_cases b1 : bit (ρ 11 p) n = 1
      · rw [if_pos b1, M_canBreak hr hk hp hl, bd2_s]
        by_cases b2 : sCan ρ p n
        · rw [if_pos b2, if_neg (by decide)]
          try simp only [hM v w, bd1_s]
          rw [M_needOf hr hk hl, bd2_s, ite_iff (nI_le0 (by omega))]
          by_cases b3 : sNeed ρ n = 0
          · rw [if_pos b3, if_pos trivial]
            exact no (fun q => by omega)
          · rw [if_neg b3, if_neg (by decide)]
            by_cases b4 : mnd ρ p n = 0
            · rw [if_pos ((cI_4 (by omega)).mpr b4)]
              exact yes ⟨⟨b1, sCan_iff.mp b2, by omega⟩, Or.inl b4⟩
            · rw [if_neg (fun q => b4 ((cI_4 (by omega)).mp q))]
              simp only [hM v w, bd1_s]
              rw [M_needOf hr hk hl, bd2_s]
              simp only [hM v w, bd1_s]
              obtain ⟨l2, hl2⟩ : ∃ l2, mnd ρ p n = l2 + 1 := ⟨mnd ρ p n - 1, by omega⟩
              have n2 := sNeed_le hk (show l2 < ρ 0 0 by omega)
              rw [hl2] at no yes ⊢
              rw [cI_s] at no ⊢
              rw [M_needOf hr hk (by omega), bd2_s, ite_iff (nI_leI (by omega) (by omega))]
              by_cases b5 : sNeed ρ n ≤ sNeed ρ l2
              · rw [if_pos b5]
                exact no (fun q => q.2.elim (fun z => by omega) (fun z => by rw [show l2 + 1 - 1 = l2 by omega] at z; omega))
              · rw [if_neg b5]
                exact yes ⟨⟨b1, sCan_iff.mp b2, by omega⟩, Or.inr (by rw [show l2 + 1 - 1 = l2 by omega]; omega)⟩
        · rw [if_neg b2, if_pos rfl, if_pos trivial]
          exact no (fun q => b2 (sCan_iff.mpr q.1.2.1))
      · rw [if_neg b1, if_pos trivial]
        exact no (fun q => b1 q.1.1)
  exact key (ρ 0 0) FU 0 (by unfold FU; omega) (by omega)
end
end
end
/-! 8_06.joined -/
section
/-! 8o.self2.lean.txt -/
section
def rnd1 (p : Nat) (s : Rho × Nat × Nat) : Rho × Nat × Nat := if mnd s.1 p (s.1 0 0) = 0 then s else (bro s.1 p (mnd s.1 p (s.1 0 0) - 1), s.2.1 + 1, s.2.2 + sHurt s.1 p (mnd s.1 p (s.1 0 0) - 1))
def rndK : Nat → Nat → Rho × Nat × Nat → Rho × Nat × Nat
  | 0, _, s => s
  | k + 1, p, s => rndK k (p + 1) (rnd1 p s)
def slf : Nat → Rho × Nat × Nat → Rho × Nat × Nat
  | 0, s => s
  | f + 1, s => if (rndK (s.1 0 1) 0 s).2.1 = s.2.1 then rndK (s.1 0 1) 0 s else slf f (rndK (s.1 0 1) 0 s)
/-- what a round keeps -/
def rkp (s t : Rho × Nat × Nat) : Prop := ROK t.1 ∧ t.1 0 0 = s.1 0 0 ∧ t.1 0 1 = s.1 0 1 ∧ t.1 0 3 = s.1 0 3 ∧ t.2.1 + sLs t.1 = s.2.1 + sLs s.1 ∧ s.2.1 ≤ t.2.1
theorem rnd1_ok {p : Nat} {s : Rho × Nat × Nat} (hk : ROK s.1) (hp : p < s.1 0 1) : rkp s (rnd1 p s) := by
  unfold rnd1
  by_cases h : mnd s.1 p (s.1 0 0) = 0
  · rw [if_pos h]; exact ⟨hk, rfl, rfl, rfl, rfl, Nat.le_refl _⟩
  · rw [if_neg h]
    have ml := mnd_le s.1 p (s.1 0 0)
    have hl : mnd s.1 p (s.1 0 0) - 1 < s.1 0 0 := by omega
    have ht := (ml.2 h).1
    have e := sLs_bro hk hp hl ht
    refine ⟨ROK_bro hk hp hl ht, rfl, rfl, rfl, ?_, Nat.le_succ _⟩
    show s.2.1 + 1 + sLs (bro s.1 p (mnd s.1 p (s.1 0 0) - 1)) = _
    omega
theorem rkp.tr {a b c : Rho × Nat × Nat} (x : rkp a b) (y : rkp b c) : rkp a c :=
  ⟨y.1, y.2.1.trans x.2.1, y.2.2.1.trans x.2.2.1, y.2.2.2.1.trans x.2.2.2.1, y.2.2.2.2.1.trans x.2.2.2.2.1, Nat.le_trans x.2.2.2.2.2 y.2.2.2.2.2⟩
theorem rndK_ok : ∀ (k p : Nat) (s : Rho × Nat × Nat), ROK s.1 → p + k ≤ s.1 0 1 → rkp s (rndK k p s)
  | 0, _, s, hk, _ => ⟨hk, rfl, rfl, rfl, rfl, Nat.le_refl _⟩
  | k + 1, p, s, hk, h => by
    have r := rnd1_ok (p := p) hk (by omega)
    exact r.tr (rndK_ok k (p + 1) (rnd1 p s) r.1 (by rw [r.2.2.1]; omega))
theorem slf_ok : ∀ (f : Nat) (s : Rho × Nat × Nat), ROK s.1 → rkp s (slf f s)
  | 0, s, hk => ⟨hk, rfl, rfl, rfl, rfl, Nat.le_refl _⟩
  | f + 1, s, hk => by
    have r := rndK_ok (s.1 0 1) 0 s hk (by omega)
    unfold slf
    split
    · exact r
    · exact r.tr (slf_ok f _ r.1)
section
variable {ρ : Rho} {v : Nat → Nat → Int32} {w : Nat → Nat → Int64} {o c : Nat}
theorem CRq_done {x : Nat} (h : CRq c o ρ v) : CRq (c + x) o ρ (u2 v o 3 (nI (ρ 0 3 + c + x))) := by
  obtain ⟨⟨a0, a1, a2, a3, a4, a5, a6⟩, h2, h3, h4, h5⟩ := h
  refine ⟨⟨(u2_n (by decide)).trans a0, (u2_n (by decide)).trans a1, (u2_n (by decide)).trans a2, ?_, (u2_n (by decide)).trans a4, (u2_n (by decide)).trans a5, (congrFun (u2_o (by omega)) 0).trans a6⟩, ?_, ?_, ?_, ?_⟩
  · rw [u2_at, Nat.add_assoc]
  · rw [u2_o (show o + 1 ≠ o by omega), u2_o (show o + 2 ≠ o by omega), u2_o (show o + 3 ≠ o by omega), u2_o (show o + 4 ≠ o by omega), u2_o (show o + 5 ≠ o by omega)]; exact h2
  · rw [u2_o (show o + 6 ≠ o by omega), u2_o (show o + 7 ≠ o by omega), u2_o (show o + 8 ≠ o by omega), u2_o (show o + 9 ≠ o by omega), u2_o (show o + 10 ≠ o by omega), u2_o (show o + 11 ≠ o by omega)]; exact h3
  · rw [u2_o (show o + 12 ≠ o by omega)]; exact h4
  · rw [u2_o (show o + 14 ≠ o by omega), u2_o (show o + 15 ≠ o by omega), u2_o (show o + 16 ≠ o by omega)]; exact h5
theorem D_mark (ho : rl o) (hr : CRq c o ρ v) (hk : ROK ρ) {p l : Nat} (hp : p < ρ 0 1) (hl : l < ρ 0 0) : ∃ v', f_Realm_mark o (nI p) (nI l) (bh v w) = some (nI (sHurt ρ p l), bh v' w) ∧ CRq (c + sHurt ρ p l) o (bro ρ p l) v' ∧ ∀ q, q < o ∨ o + 17 ≤ q → v' q = v q := by
  have h1 := hk.1.1
  have h2 := hk.1.2.1
  simp only [f_Realm_mark, f_Realm_mark_0, hRl ho v w, bd1_s]
  rw [rd_nI (by omega) (by decide), bd1_s, rd_nI (by omega) (by decide), bd1_s, (hr.2.1 l hl).2.2.1, (hr.2.2.1 p hp).2.1, nI_add, show (nI p * (5 : Int32)) + nI l = nI (5 * p + l) by rw [show (5 : Int32) = nI 5 from rfl, pk_mul, nI_add, Nat.mul_comm p 5]]
  rw [rd_nI (by omega) (by decide), bd1_s, hr.2.2.2.1 p l hp hl, nI_1, wr_nI (by omega) (by decide), bd1_s]
  have c1 := CRq_broke (x := ρ 12 (5 * p + l) + 1) hp hl hr h1
  simp only [hRl ho (u2 v (o + 12) (5 * p + l) (nI (ρ 12 (5 * p + l) + 1))) w, bd1_s]
  rw [c1.1.2.2.2.1, nI_add]
  refine ⟨_, rfl, CRq_done (x := sHurt ρ p l) c1, fun q hq => ?_⟩
  rw [u2_o (by omega), u2_o (by omega)]
theorem D_met (ho : rl o) (hr : CRq c o ρ v) (hk : ROK ρ) : f_Realm_met o (bh v w) = some (nI (orN (fun l => if sNeed ρ l = 0 then 2 ^ l else 0) (ρ 0 0) &&& ρ 0 4), bh v w) := by
  have h1 := hk.1.1
  have key : ∀ (k fuel l : Nat), k < fuel → l + k = ρ 0 0 → f_Realm_met_4 fuel o (nI (orN (fun l => if sNeed ρ l = 0 then 2 ^ l else 0) l)) (nI l) (bh v w) = some (nI (orN (fun l => if sNeed ρ l = 0 then 2 ^ l else 0) (ρ 0 0) &&& ρ 0 4), bh v w) := by
    intro k
    induction k with
    | zero =>
      intro fuel l hf hl
      obtain ⟨n, rfl⟩ : ∃ n, fuel = n + 1 := ⟨fuel - 1, by omega⟩
      simp only [f_Realm_met_4, f_Realm_met_4b, hRl ho v w, bd1_s]
      rw [hr.1.1, if_pos (nI_le (by omega) (by omega)), hr.1.2.2.2.2.1, and_I, show l = ρ 0 0 by omega]
    | succ k ih =>
      intro fuel l hf hl
      obtain ⟨n, rfl⟩ : ∃ n, fuel = n + 1 := ⟨fuel - 1, by omega⟩
      have hl2 : l < ρ 0 0 := by omega
      have hn := sNeed_le hk hl2
      simp only [f_Realm_met_4, f_Realm_met_4b, f_Realm_met_28, hRl ho v w, bd1_s]
      have e2 : orN (fun l => if sNeed ρ l = 0 then 2 ^ l else 0) (l + 1) = orN (fun l => if sNeed ρ l = 0 then 2 ^ l else 0) l ||| (if sNeed ρ l = 0 then 2 ^ l else 0) := rfl
      have ih2 := ih n (l + 1) (by omega) (by omega)
      rw [hr.1.1, if_neg (nI_ge (by omega) (by omega)), D_needOf ho hr hk hl2, bd2_s, ite_iff (nI_eq0 (by omega))]
      by_cases z : sNeed ρ l = 0
      · rw [if_pos z, nI_1, shl_I (by omega), or_I]
        rw [e2, if_pos z] at ih2
        exact ih2
      · rw [if_neg z, nI_1, show (0 : Int32) = nI 0 from rfl, or_I]
        rw [e2, if_neg z] at ih2
        exact ih2
  exact key (ρ 0 0) FU 0 (by unfold FU; omega) (by omega)
/-- the class's round -/
theorem C_rnd (rec : Nat → Int32 → Int32 → mH → Option (Int32 × mH)) (r b : Int32) : ∀ (k fuel p : Nat) (s : Rho × Nat × Nat) (v : Nat → Nat → Int32), k < fuel → p + k = s.1 0 1 → CRq s.2.2 20 s.1 v → ROK s.1 → ∃ v', f_Realm_eachForHimself_15 rec fuel 20 (nI s.2.1) r b (nI p) (bh v w) = (if nI (rndK k p s).2.1 = b then some (nI (rndK k p s).2.1, bh v' w) else rec 20 (nI (rndK k p s).2.1) (r + 1) (bh v' w)) ∧ CRq (rndK k p s).2.2 20 (rndK k p s).1 v' ∧ ∀ q, q < 20 ∨ 37 ≤ q → v' q = v q := by
  intro k
  induction k with
  | zero =>
    intro fuel p s v hf hp hr hk
    obtain ⟨n, rfl⟩ : ∃ n, fuel = n + 1 := ⟨fuel - 1, by omega⟩
    have h2 := hk.1.2.1
    refine ⟨v, ?_, hr, fun _ _ => rfl⟩
    show f_Realm_eachForHimself_15b rec (f_Realm_eachForHimself_15 rec n) 20 (nI s.2.1) r b (nI p) (bh v w) = _
    unfold f_Realm_eachForHimself_15b f_Realm_eachForHimself_71
    simp only [hRl rl20 v w, bd1_s]
    rw [hr.1.2.1, if_pos (nI_le (by omega) (by omega))]
    rfl
  | succ k ih =>
    intro fuel p s v hf hp hr hk
    obtain ⟨n, rfl⟩ : ∃ n, fuel = n + 1 := ⟨fuel - 1, by omega⟩
    have h1 := hk.1.1
    have h2 := hk.1.2.1
    have hpp : p < s.1 0 1 := by omega
    have rk := rnd1_ok (p := p) hk hpp
    have ml := mnd_le s.1 p (s.1 0 0)
    have e0 : rndK (k + 1) p s = rndK k (p + 1) (rnd1 p s) := rfl
    rw [e0]
    show ∃ v', f_Realm_eachForHimself_15b rec (f_Realm_eachForHimself_15 rec n) 20 (nI s.2.1) r b (nI p) (bh v w) = _ ∧ _
    unfold f_Realm_eachForHimself_15b f_Realm_eachForHimself_51
    simp only [hRl rl20 v w, bd1_s]
    rw [hr.1.2.1, if_neg (nI_ge (by omega) (by omega)), D_mostNeeded rl20 hr hk hpp, bd2_s]
    by_cases h : mnd s.1 p (s.1 0 0) = 0
    · have e1 : rnd1 p s = s := by unfold rnd1; rw [if_pos h]
      rw [if_pos ((cI_4 (by omega)).mpr h), nI_1, e1]
      exact ih n (p + 1) s v (by omega) (by omega) hr hk
    · obtain ⟨l, hl⟩ : ∃ l, mnd s.1 p (s.1 0 0) = l + 1 := ⟨mnd s.1 p (s.1 0 0) - 1, by omega⟩
      have e1 : rnd1 p s = (bro s.1 p l, s.2.1 + 1, s.2.2 + sHurt s.1 p l) := by unfold rnd1; rw [if_neg h, hl]; rfl
      obtain ⟨v1, a1, a2, a3⟩ := D_mark (w := w) rl20 hr hk hpp (show l < s.1 0 0 by omega)
      rw [if_neg (fun q => h ((cI_4 (by omega)).mp q)), hl, cI_s]
      simp only [hRl rl20 v w, bd1_s]
      rw [a1, bd2_s, nI_1, nI_1]
      rw [e1] at rk ⊢
      obtain ⟨v', b1, b2, b3⟩ := ih n (p + 1) (bro s.1 p l, s.2.1 + 1, s.2.2 + sHurt s.1 p l) v1 (by omega) (by rw [rk.2.2.1]; omega) a2 rk.1
      exact ⟨v', b1, b2, fun q hq => (b3 q hq).trans (a3 q (by omega))⟩
theorem C_slf : ∀ (F fuel r : Nat) (s : Rho × Nat × Nat) (v : Nat → Nat → Int32), sLs s.1 < F → F < fuel → r ≤ s.2.1 → s.2.1 + sLs s.1 ≤ 15 → CRq s.2.2 20 s.1 v → ROK s.1 → ∃ v', f_Realm_eachForHimself_4 fuel 20 (nI s.2.1) (nI r) (bh v w) = some (nI (slf F s).2.1, bh v' w) ∧ CRq (slf F s).2.2 20 (slf F s).1 v' ∧ ∀ q, q < 20 ∨ 37 ≤ q → v' q = v q := by
  intro F
  induction F with
  | zero => intro fuel r s v h; omega
  | succ F ih =>
    intro fuel r s v hF hf hr h15 hc hk
    obtain ⟨n, rfl⟩ : ∃ n, fuel = n + 1 := ⟨fuel - 1, by omega⟩
    have h2 := hk.1.2.1
    have rk := rndK_ok (s.1 0 1) 0 s hk (by omega)
    obtain ⟨v1, a1, a2, a3⟩ := C_rnd (w := w) (f_Realm_eachForHimself_4 n) (nI r) (nI s.2.1) (s.1 0 1) FU 0 s v (by unfold FU; omega) (by omega) hc hk
    show ∃ v', f_Realm_eachForHimself_4b (f_Realm_eachForHimself_4 n) 20 (nI s.2.1) (nI r) (bh v w) = _ ∧ _
    unfold f_Realm_eachForHimself_4b
    rw [show (15 : Int32) = nI 15 from rfl, if_neg (fun q => by have := (nI_ltI (by omega) (by omega)).mp q; omega), show (0 : Int32) = nI 0 from rfl, a1]
    have rm := rk.2.2.2.2.1
    have rl := rk.2.2.2.2.2
    unfold slf
    by_cases e : (rndK (s.1 0 1) 0 s).2.1 = s.2.1
    · rw [if_pos (by rw [e]), if_pos e]
      exact ⟨v1, rfl, a2, a3⟩
    · rw [if_neg (fun q => e ((nI_eqI (by omega) (by omega)).mp q)), if_neg e, nI_1]
      obtain ⟨v', b1, b2, b3⟩ := ih n (r + 1) (rndK (s.1 0 1) 0 s) v1 (by omega) (by omega) (by omega) (by omega) a2 rk.1
      exact ⟨v', b1, b2, fun q hq => (b3 q hq).trans (a3 q hq)⟩
/-- the reference's round -/
theorem M_rnd (rec : Nat → Int32 → Int32 → Int32 → Int32 → mH → Option (Int32 × mH)) (x : Int32) : ∀ (k fuel p : Nat) (s : Rho × Nat × Nat) (on : Int32) (v : Nat → Nat → Int32), k < fuel → p + k = s.1 0 1 → MR s.1 v → ROK s.1 → ∃ v', f_M_selfish_36 rec fuel 100 x (nI s.2.1) (nI s.2.2) on (nI p) (bh v w) = rec 100 x (nI (rndK k p s).2.1) (nI (rndK k p s).2.2) (if (rndK k p s).2.1 = s.2.1 then on else 1) (bh v' w) ∧ MR (rndK k p s).1 v' ∧ (∀ q, q ≠ 101 → v' q = v q) ∧ ∀ j, 66 ≤ j → v' 101 j = v 101 j := by
  intro k
  induction k with
  | zero =>
    intro fuel p s on v hf hp hr hk
    obtain ⟨n, rfl⟩ : ∃ n, fuel = n + 1 := ⟨fuel - 1, by omega⟩
    have h2 := hk.1.2.1
    refine ⟨v, ?_, hr, fun _ _ => rfl, fun _ _ => rfl⟩
    show f_M_selfish_36b rec (f_M_selfish_36 rec n) 100 x (nI s.2.1) (nI s.2.2) on (nI p) (bh v w) = _
    unfold f_M_selfish_36b
    simp only [hM v w, bd1_s]
    rw [hr.1.2.1, if_pos (nI_le (by omega) (by omega)), if_pos (show (rndK 0 p s).2.1 = s.2.1 from rfl)]
    rfl
  | succ k ih =>
    intro fuel p s on v hf hp hr hk
    obtain ⟨n, rfl⟩ : ∃ n, fuel = n + 1 := ⟨fuel - 1, by omega⟩
    have h1 := hk.1.1
    have h2 := hk.1.2.1
    have hS := hk.1.2.2.2.2.2.2
    have hpp : p < s.1 0 1 := by omega
    have rk := rnd1_ok (p := p) hk hpp
    have ml := mnd_le s.1 p (s.1 0 0)
    have e0 : rndK (k + 1) p s = rndK k (p + 1) (rnd1 p s) := rfl
    rw [e0]
    show ∃ v', f_M_selfish_36b rec (f_M_selfish_36 rec n) 100 x (nI s.2.1) (nI s.2.2) on (nI p) (bh v w) = _ ∧ _
    unfold f_M_selfish_36b f_M_selfish_103
    simp only [hM v w, bd1_s]
    rw [hr.1.2.1, if_neg (nI_ge (by omega) (by omega)), M_wantedBy hr hk hpp, bd2_s]
    by_cases h : mnd s.1 p (s.1 0 0) = 0
    · have e1 : rnd1 p s = s := by unfold rnd1; rw [if_pos h]
      rw [if_pos ((cI_4 (by omega)).mpr h), nI_1, e1]
      exact ih n (p + 1) s on v (by omega) (by omega) hr hk
    · obtain ⟨l, hl⟩ : ∃ l, mnd s.1 p (s.1 0 0) = l + 1 := ⟨mnd s.1 p (s.1 0 0) - 1, by omega⟩
      have hll : l < s.1 0 0 := by omega
      have e1 : rnd1 p s = (bro s.1 p l, s.2.1 + 1, s.2.2 + sHurt s.1 p l) := by unfold rnd1; rw [if_neg h, hl]; rfl
      have i24 : ((24 : Int32) + (5 : Int32) * nI p) + nI l = nI (24 + 5 * p + l) := by rw [show (24 : Int32) = nI 24 from rfl, show (5 : Int32) = nI 5 from rfl, pk_mul, nI_add, nI_add]
      have a12 : v 101 (24 + 5 * p + l) = nI (s.1 12 (5 * p + l)) := by have := hr.2.2.2.2.2.2.2.2.2.1 p l hpp hll; rwa [show 0 + 24 + 5 * p + l = 24 + 5 * p + l by omega] at this
      have m1 := MB_broke (x := s.1 12 (5 * p + l) + 1) h1 h2 hS hpp hll hr.2
      have mf := MF_u (k := 24 + 5 * p + l) (x := nI (s.1 12 (5 * p + l) + 1)) (ρ' := bro s.1 p l) hr.1 rfl rfl rfl rfl rfl rfl rfl
      rw [if_neg (fun q => h ((cI_4 (by omega)).mp q)), hl, cI_s, i24]
      simp only [hM v w, bd1_s]
      rw [rd_nI (by omega) (by decide), bd1_s, a12, nI_1, wr_nI (by omega) (by decide), bd1_s]
      simp only [hM (u2 v 101 (24 + 5 * p + l) (nI (s.1 12 (5 * p + l) + 1))) w, bd1_s]
      rw [rd_nI (by omega) (by decide), bd1_s, rd_nI (by omega) (by decide), bd1_s, (mf.2.2.1 l hll).2.1, (mf.2.2.2 p hpp).1]
      have eh : nI (bro s.1 p l 3 l) + nI (bro s.1 p l 7 p) = nI (sHurt s.1 p l) := nI_add _ _
      rw [eh, nI_1, nI_1, nI_add]
      rw [e1] at rk ⊢
      obtain ⟨v', b1, b2, b3, b4⟩ := ih n (p + 1) (bro s.1 p l, s.2.1 + 1, s.2.2 + sHurt s.1 p l) 1 (u2 v 101 (24 + 5 * p + l) (nI (s.1 12 (5 * p + l) + 1))) (by omega) (by rw [rk.2.2.1]; omega) ⟨mf, m1⟩ rk.1
      have rk2 := rndK_ok k (p + 1) (bro s.1 p l, s.2.1 + 1, s.2.2 + sHurt s.1 p l) rk.1 (by rw [rk.2.2.1]; omega)
      have g := rk2.2.2.2.2.2
      have g : s.2.1 + 1 ≤ (rndK k (p + 1) (bro s.1 p l, s.2.1 + 1, s.2.2 + sHurt s.1 p l)).2.1 := g
      refine ⟨v', ?_, b2, fun q hq => (b3 q hq).trans (u2_o hq), fun j hj => (b4 j hj).trans (u2_n (by omega))⟩
      rw [b1, if_neg (show ¬ (rndK k (p + 1) (bro s.1 p l, s.2.1 + 1, s.2.2 + sHurt s.1 p l)).2.1 = s.2.1 by omega)]
      congr 1
      split <;> rfl
theorem M_slf (x : Int32) : ∀ (F fuel : Nat) (s : Rho × Nat × Nat) (v : Nat → Nat → Int32), sLs s.1 < F → F + 1 < fuel → MR s.1 v → ROK s.1 → ∃ v', f_M_selfish_25 fuel 100 x (nI s.2.1) (nI s.2.2) 1 (bh v w) = f_M_selfish_118 FU 100 x (nI (slf F s).2.1) (nI (slf F s).2.2) 0 0 (bh v' w) ∧ MR (slf F s).1 v' ∧ (∀ q, q ≠ 101 → v' q = v q) ∧ ∀ j, 66 ≤ j → v' 101 j = v 101 j := by
  intro F
  induction F with
  | zero => intro fuel s v h; omega
  | succ F ih =>
    intro fuel s v hF hf hr hk
    obtain ⟨n, rfl⟩ : ∃ n, fuel = n + 1 + 1 := ⟨fuel - 2, by omega⟩
    have rk := rndK_ok (s.1 0 1) 0 s hk (by omega)
    have h2 := hk.1.2.1
    obtain ⟨v1, a1, a2, a3, a4⟩ := M_rnd (w := w) (f_M_selfish_25 (n + 1)) x (s.1 0 1) FU 0 s 0 v (by unfold FU; omega) (by omega) hr hk
    show ∃ v', f_M_selfish_25b (f_M_selfish_25 (n + 1)) 100 x (nI s.2.1) (nI s.2.2) 1 (bh v w) = _ ∧ _
    unfold f_M_selfish_25b
    rw [if_neg (by decide)]
    have a1' : f_M_selfish_36 (f_M_selfish_25 (n + 1)) FU 100 x (nI s.2.1) (nI s.2.2) 0 0 (bh v w) = _ := a1
    rw [a1']
    have rm := rk.2.2.2.2.1
    have rl := rk.2.2.2.2.2
    unfold slf
    by_cases e : (rndK (s.1 0 1) 0 s).2.1 = s.2.1
    · rw [if_pos e, if_pos e]
      refine ⟨v1, ?_, a2, a3, a4⟩
      show f_M_selfish_25b (f_M_selfish_25 n) 100 x _ _ 0 (bh v1 w) = _
      unfold f_M_selfish_25b
      rw [if_pos rfl]
    · rw [if_neg e, if_neg e]
      obtain ⟨v', b1, b2, b3, b4⟩ := ih (n + 1) (rndK (s.1 0 1) 0 s) v1 (by omega) (by omega) a2 rk.1
      exact ⟨v', b1, b2, fun q hq => (b3 q hq).trans (a3 q hq), fun j hj => (b4 j hj).trans (a4 j hj)⟩
end
end
/-! 8p.self3.lean.txt -/
section
theorem sub_done (a d : Nat) : nI (a + d) - nI a = nI d := by
  rw [← zI_n, zI_subn, ← zI_n]
  congr 1
  omega
def sMet (ρ : Rho) : Nat := orN (fun l => if bit (ρ 0 4) l = 1 ∧ sNeed ρ l = 0 then 2 ^ l else 0) (ρ 0 0)
section
variable {ρ : Rho} {v : Nat → Nat → Int32} {w : Nat → Nat → Int64}
theorem M_118 (hr : MR ρ v) (hk : ROK ρ) (x m d : Int32) : ∃ v', f_M_selfish_118 FU 100 x m d 0 0 (bh v w) = some (if x = 0 then nI (sMet ρ) else if x = 1 then m else d, bh v' w) ∧ (∀ q, q ≠ 101 → v' q = v q) ∧ (∀ j, j < 66 → v' 101 j = v 119 j) ∧ ∀ j, 66 ≤ j → v' 101 j = v 101 j := by
  have h1 := hk.1.1
  have hst := hk.st
  obtain ⟨v1, e1, f1, g1, k1⟩ := M_returns v w
  refine ⟨v1, ?_, f1, g1, k1⟩
  have z0 : ∀ l, l < 5 → (0 : Int32) <<< (nI l &&& 31) = nI 0 := by decide
  have fl0 : ∀ h : mH, f_M_flag 0 h = some (0, h) := fun _ => rfl
  have fl1 : ∀ h : mH, f_M_flag 1 h = some (1, h) := fun _ => rfl
  have key : ∀ (k fuel l : Nat), k < fuel → l + k = ρ 0 0 → f_M_selfish_118 fuel 100 x m d (nI (orN (fun l => if bit (ρ 0 4) l = 1 ∧ sNeed ρ l = 0 then 2 ^ l else 0) l)) (nI l) (bh v w) = some (if x = 0 then nI (sMet ρ) else if x = 1 then m else d, bh v1 w) := by
    intro k
    induction k with
    | zero =>
      intro fuel l hf hl
      obtain ⟨n, rfl⟩ : ∃ n, fuel = n + 1 := ⟨fuel - 1, by omega⟩
      simp only [f_M_selfish_118, f_M_selfish_118b, hM v w, bd1_s]
      rw [hr.1.1, if_pos (nI_le (by omega) (by omega)), e1, bd1_s, show l = ρ 0 0 by omega]
      unfold sMet
      split
      · rfl
      · split <;> rfl
    | succ k ih =>
      intro fuel l hf hl
      obtain ⟨n, rfl⟩ : ∃ n, fuel = n + 1 := ⟨fuel - 1, by omega⟩
      have hl2 : l < ρ 0 0 := by omega
      have hn := sNeed_le hk hl2
      have e2 : orN (fun l => if bit (ρ 0 4) l = 1 ∧ sNeed ρ l = 0 then 2 ^ l else 0) (l + 1) = orN (fun l => if bit (ρ 0 4) l = 1 ∧ sNeed ρ l = 0 then 2 ^ l else 0) l ||| (if bit (ρ 0 4) l = 1 ∧ sNeed ρ l = 0 then 2 ^ l else 0) := rfl
      have ih2 := ih n (l + 1) (by omega) (by omega)
      simp only [f_M_selfish_118, f_M_selfish_118b, f_M_selfish_151, f_M_selfish_152, fl0, fl1, bd2_s, hM v w, bd1_s]
      rw [hr.1.1, if_neg (nI_ge (by omega) (by omega)), M_doesStand hr.2 (by omega) (by omega), bd2_s]
      rcases bit_01 (ρ 0 4) l with g | g
      · rw [g, if_pos (show nI 0 = 0 from rfl), z0 l (by omega), or_I, nI_1]
        rw [e2, if_neg (fun q => by omega)] at ih2
        exact ih2
      · rw [g, if_neg (show ¬ nI 1 = 0 by decide)]
        try simp only [hM v w, bd1_s]
        rw [M_needOf hr hk hl2, bd2_s, ite_iff (nI_eq0 (by omega))]
        by_cases z : sNeed ρ l = 0
        · rw [if_pos z, shl_I (by omega), or_I, nI_1]
          rw [e2, if_pos ⟨g, z⟩] at ih2
          exact ih2
        · rw [if_neg z, z0 l (by omega), or_I, nI_1]
          rw [e2, if_neg (fun q => z q.2)] at ih2
          exact ih2
  exact key (ρ 0 0) FU 0 (by unfold FU; omega) (by omega)
end
section
variable {S : Sg} {v : Nat → Nat → Int32} {w : Nat → Nat → Int64}
theorem E_selfish (x : Int32) (hs : SOK S) (hc : CI S v) (hm : MI S v) : Eqv S v w (f_Q_selfish 0 x) (f_M_selfish 100 x) := by
  by_cases hx : 0 ≤ x.toInt ∧ x.toInt < ((2 + 1 : Nat) : Int)
  · have l15 := sLs_le hs.1
    obtain ⟨v1, e1, d1⟩ := C_copyFrom rl20 rl3 (by decide) v w
    have c1 : CRq (S.1, 0, 0).2.2 20 (S.1, 0, 0).1 v1 := CRq_of (CR_copy hc.1 hs.1 d1)
    obtain ⟨v2, e2, c2, f2⟩ := C_slf (w := w) 16 FU 0 (S.1, 0, 0) v1 (show sLs S.1 < 16 by omega) (by decide) (Nat.le_refl _) (show 0 + sLs S.1 ≤ 15 by omega) c1 hs.1
    have rk := slf_ok 16 (S.1, 0, 0) hs.1
    have q2 : ∀ q, q < 20 ∨ 37 ≤ q → v2 q = v q := fun q hq => (f2 q hq).trans (d1.1 q (by omega))
    have hm2 : MI S v2 := hm.frame (fun p hp => q2 p (by omega))
    obtain ⟨v3, e3, f3, s3⟩ := M_saves v2 w
    have hm3 : MI S v3 := hm2.fr (fun p hp => f3 p (by unfold pM at hp; omega)) (by rw [f3 100 (by decide)]; exact ⟨rfl, rfl, rfl, rfl, rfl⟩)
    obtain ⟨v4, e4, m4, f4, k4⟩ := M_slf (w := w) x 16 FU (S.1, 0, 0) v3 (show sLs S.1 < 16 by omega) (by decide) hm3.1 hs.1
    obtain ⟨v5, e5, f5, s5, k5⟩ := M_118 (w := w) m4 rk.1 x (nI (slf 16 (S.1, 0, 0)).2.1) (nI (slf 16 (S.1, 0, 0)).2.2)
    have q5 : ∀ q, q ≠ 119 → v5 q = v2 q := back_same f3 s3 (fun q hq => (f5 q hq).trans (f4 q hq)) (fun j hj => (s5 j hj).trans (by rw [f4 119 (by decide)])) (fun j hj => (k5 j hj).trans (k4 j hj))
    refine EqT.q (r := if x = 0 then nI (sMet (slf 16 (S.1, 0, 0)).1) else if x = 1 then nI (slf 16 (S.1, 0, 0)).2.1 else nI (slf 16 (S.1, 0, 0)).2.2) (v1 := v2) (w1 := w) (v2 := v5) (w2 := w) hs hc hm ?_ (fun p hp => q2 p (by unfold pC at hp; omega)) ?_ (fun p hp => q5 p (by unfold pM at hp; omega))
    · simp only [f_Q_selfish, f_Q_selfish_0, Q_isWithin, bd2_s]
      rw [show (2 : Int32).toInt = (nI 2).toInt from rfl, if_pos ((in_rng (by decide)).mpr hx), if_neg (by decide)]
      simp only [hQ v w, hRl rl20 v w, bd1_s]
      rw [e1]
      simp only [hQ v1 w, hRl rl20 v1 w, bd1_s]
      have e2' : f_Realm_eachForHimself 20 (bh v1 w) = some (nI (slf 16 (S.1, 0, 0)).2.1, bh v2 w) := e2
      rw [e2', bd2_s]
      simp only [hQ v2 w, hRl rl20 v2 w, hRl rl3 v2 w, bd1_s]
      rw [D_met rl20 c2 rk.1, bd2_s, c2.1.2.2.2.1]
      have e33 : v2 3 3 = nI (S.1 0 3) := by rw [q2 3 (by omega)]; exact hc.1.1.2.2.2.1
      have e03 : (slf 16 (S.1, 0, 0)).1 0 3 = S.1 0 3 := rk.2.2.2.1
      have esub : nI ((slf 16 (S.1, 0, 0)).1 0 3 + (slf 16 (S.1, 0, 0)).2.2) - v2 3 3 = nI (slf 16 (S.1, 0, 0)).2.2 := by
        rw [e33, e03, sub_done]
      rw [esub, orN_and]
      unfold sMet
      split
      · rfl
      · split <;> rfl
    · simp only [f_M_selfish, f_M_selfish_0, M_in, bd2_s]
      rw [show (2 : Int64) = (nI 2).toInt64 from rfl, if_pos ((in_rngL (by decide)).mpr hx), if_neg (by decide)]
      simp only [hM v2 w, bd1_s]
      rw [e3, bd1_s]
      exact e4.trans e5
  · refine Eqv.query (r := -1) hs hc hm ?_ ?_
    · simp only [f_Q_selfish, f_Q_selfish_0, Q_isWithin, bd2_s]
      rw [show (2 : Int32).toInt = (nI 2).toInt from rfl, if_neg (fun q => hx ((in_rng (by decide)).mp q)), if_pos rfl]
    · simp only [f_M_selfish, f_M_selfish_0, M_in, bd2_s]
      rw [show (2 : Int64) = (nI 2).toInt64 from rfl, if_neg (fun q => hx ((in_rngL (by decide)).mp q)), if_pos rfl]
end
end
/-! 8q.luck.lean.txt -/
section
/-! odds: numbers of 64 bits -/
def nL (n : Nat) : Int64 := Int64.ofNat n
theorem nL_add (a b : Nat) : nL a + nL b = nL (a + b) := (Int64.ofNat_add a b).symm
theorem nL_mul (a b : Nat) : nL a * nL b = nL (a * b) := (Int64.ofNat_mul a b).symm
theorem nL_div {a b : Nat} (ha : a < 2 ^ 63) (hb : b < 2 ^ 63) : nL a / nL b = nL (a / b) := (Int64.ofNat_div ha hb).symm
theorem nL_toInt {a : Nat} (ha : a < 2 ^ 63) : (nL a).toInt = a := by
  show (Int64.ofNat a).toInt = a
  rw [Int64.toInt_ofNat', show Int64.size = 18446744073709551616 from rfl]
  exact Int.bmod_eq_of_le (by omega) (by omega)
theorem nL_eq0 {a : Nat} (ha : a < 2 ^ 63) : nL a = 0 ↔ a = 0 := by
  constructor
  · intro h
    have := congrArg Int64.toInt h
    rw [nL_toInt ha] at this
    have e : (0 : Int64).toInt = 0 := rfl
    omega
  · intro h; rw [h]; rfl
theorem nL_64 {a : Nat} (ha : a < 2 ^ 31) : (nI a).toInt64 = nL a := by
  apply Int64.toInt_inj.mp
  rw [Int32.toInt_toInt64, nI_toInt ha, nL_toInt (by omega)]
theorem cmp_eq (a b : Int64) : lg_cmp a b = 0 ↔ a = b := by
  constructor
  · intro h
    unfold lg_cmp at h
    split at h
    · cases h
    · split at h
      · next e => exact e
      · cases h
  · intro h; subst h
    unfold lg_cmp
    rw [if_neg (show ¬ a > a from Int64.lt_irrefl), if_pos rfl]
theorem nL_mod {a b : Nat} (ha : a < 2 ^ 62) (hb : b < 2 ^ 62) : nL a - nL a / nL b * nL b = nL (a % b) := by
  rw [nL_div (by omega) (by omega), nL_mul]
  have h := Nat.div_add_mod a b
  have e : nL a = nL (a % b) + nL (a / b * b) := by rw [nL_add, Nat.mul_comm (a / b) b, Nat.add_comm (a % b), h]
  rw [e]
  apply Int64.toBitVec_inj.mp
  show ((nL (a % b)).toBitVec + (nL (a / b * b)).toBitVec) - (nL (a / b * b)).toBitVec = _
  rw [BitVec.add_sub_cancel]
theorem u2L_at (w : Nat → Nat → Int64) (o k : Nat) (x : Int64) : u2L w o k x o k = x := by unfold u2L; rw [up_at]; simp [vp_updL]
theorem u2L_n {w : Nat → Nat → Int64} {o k j : Nat} {x : Int64} (h : j ≠ k) : u2L w o k x o j = w o j := by unfold u2L; rw [up_at]; simp [vp_updL, h]
theorem u2L_o {w : Nat → Nat → Int64} {o k q : Nat} {x : Int64} (h : q ≠ o) : u2L w o k x q = w q := by unfold u2L; rw [up_ne h]
/-- one try more -/
def stW (n : Nat) (W : Nat → Nat) : Nat → Nat := fun k => W k * (10 - n) + (if k = 0 then 0 else W (k - 1)) * n
def itW (n : Nat) : Nat → (Nat → Nat) → (Nat → Nat)
  | 0, W => W
  | t + 1, W => itW n t (stW n W)
def lkW (ρ : Rho) (l : Nat) : Nat → Nat → (Nat → Nat) → (Nat → Nat)
  | 0, _, W => W
  | k + 1, p, W => lkW ρ l k (p + 1) (itW (ρ 8 p) (sTries ρ p l) W)
def lkT (ρ : Rho) (l : Nat) : Nat → Nat → Nat
  | 0, _ => 0
  | k + 1, p => sTries ρ p l + lkT ρ l k (p + 1)
def W0 : Nat → Nat := fun k => if k = 0 then 1 else 0
/-- after t tries -/
def Wok (t : Nat) (W : Nat → Nat) : Prop := (∀ k, t < k → W k = 0) ∧ ∀ n, sumN W n ≤ 10 ^ t
theorem Wok0 : Wok 0 W0 := by
  refine ⟨fun k hk => if_neg (by omega), fun n => ?_⟩
  have : ∀ n, sumN W0 (n + 1) = 1 := by
    intro n
    induction n with
    | zero => rfl
    | succ n ih => show sumN W0 (n + 1) + W0 (n + 1) = 1; rw [ih]; rfl
  cases n with
  | zero => exact Nat.zero_le _
  | succ n => rw [this]; exact Nat.le_refl _
theorem sum_st (n : Nat) (W : Nat → Nat) : ∀ m, sumN (stW n W) (m + 1) = (10 - n) * sumN W (m + 1) + n * sumN W m
  | 0 => by
    show 0 + (W 0 * (10 - n) + (if 0 = 0 then 0 else W (0 - 1)) * n) = (10 - n) * (0 + W 0) + n * 0
    simp [Nat.mul_comm]
  | m + 1 => by
    have ih := sum_st n W m
    show sumN (stW n W) (m + 1) + stW n W (m + 1) = (10 - n) * (sumN W (m + 1) + W (m + 1)) + n * (sumN W m + W m)
    rw [ih]
    unfold stW
    rw [if_neg (by omega), show m + 1 - 1 = m by omega, Nat.mul_add, Nat.mul_add, Nat.mul_comm (W (m + 1)), Nat.mul_comm (W m)]
    omega
theorem sumN_mono {f : Nat → Nat} : ∀ m, sumN f m ≤ sumN f (m + 1) := fun m => Nat.le_add_right _ _
theorem Wok_st {t n : Nat} {W : Nat → Nat} (h : Wok t W) (hn : n ≤ 10) : Wok (t + 1) (stW n W) := by
  refine ⟨fun k hk => ?_, fun m => ?_⟩
  · unfold stW
    rw [h.1 k (by omega), if_neg (by omega), h.1 (k - 1) (by omega)]
    simp
  · cases m with
    | zero => exact Nat.zero_le _
    | succ m =>
      rw [sum_st, Nat.pow_succ]
      have a := h.2 (m + 1)
      have b : n * sumN W m ≤ n * sumN W (m + 1) := Nat.mul_le_mul_left _ (sumN_mono m)
      have c : (10 - n) * sumN W (m + 1) + n * sumN W (m + 1) = 10 * sumN W (m + 1) := by rw [← Nat.add_mul, show 10 - n + n = 10 by omega]
      have d : 10 * sumN W (m + 1) ≤ 10 * 10 ^ t := Nat.mul_le_mul_left _ a
      omega
theorem Wok_it {n : Nat} (hn : n ≤ 10) : ∀ (k t : Nat) (W : Nat → Nat), Wok t W → Wok (t + k) (itW n k W)
  | 0, _, _, h => h
  | k + 1, t, W, h => by
    have := Wok_it hn k (t + 1) (stW n W) (Wok_st h hn)
    rw [show t + (k + 1) = t + 1 + k by omega]
    exact this
theorem Wok_lk {ρ : Rho} (hk : ROK ρ) (l : Nat) : ∀ (k p t : Nat) (W : Nat → Nat), p + k ≤ ρ 0 1 → Wok t W → Wok (t + lkT ρ l k p) (lkW ρ l k p W)
  | 0, _, _, _, _, h => h
  | k + 1, p, t, W, hp, h => by
    have := Wok_lk hk l k (p + 1) (t + sTries ρ p l) _ (by omega) (Wok_it (hk.2.2.1 p (by omega)).2.2.1 (sTries ρ p l) t W h)
    show Wok (t + (sTries ρ p l + lkT ρ l k (p + 1))) _
    rw [← Nat.add_assoc]
    exact this
theorem lkT_le {ρ : Rho} (hk : ROK ρ) {l : Nat} (hl : l < ρ 0 0) : ∀ (k p : Nat), lkT ρ l k p ≤ 3 * k
  | 0, _ => Nat.le_refl _
  | k + 1, p => by
    have := lkT_le hk hl k (p + 1)
    have := sTries_le hk (p := p) hl
    show sTries ρ p l + lkT ρ l k (p + 1) ≤ 3 * (k + 1)
    omega
theorem ten_I {n : Nat} (hn : n ≤ 10) : ((10 : Int32) - nI n).toInt64 = nL (10 - n) := by
  rw [show (10 : Int32) = nI 10 from rfl, pk_sub hn, nL_64 (by omega)]
section
variable {v : Nat → Nat → Int32} {w : Nat → Nat → Int64}
theorem halve {a b k : Nat} (hb : b < 2 ^ (k + 1)) (hr : a % b ≠ 0) (h0 : b ≠ 0) : b % (a % b) < 2 ^ k := by
  have h1 : a % b < b := Nat.mod_lt _ (Nat.pos_of_ne_zero h0)
  have h2 : b % (a % b) < a % b := Nat.mod_lt _ (Nat.pos_of_ne_zero hr)
  have h3 := Nat.div_add_mod b (a % b)
  have h4 : 1 ≤ b / (a % b) := (Nat.le_div_iff_mul_le (Nat.pos_of_ne_zero hr)).mpr (by omega)
  have h5 : (a % b) * 1 ≤ (a % b) * (b / (a % b)) := Nat.mul_le_mul_left _ h4
  rw [Nat.pow_succ] at hb
  omega
theorem M_common : ∀ (k fuel a b : Nat) (h : mH), a < 2 ^ 62 → b < 2 ^ k → k ≤ 60 → 2 * k < fuel → f_M_common_6 fuel (nL a) (nL b) h = some (nL (Nat.gcd b a), h) := by
  intro k
  induction k with
  | zero =>
    intro fuel a b h ha hb hk hf
    obtain ⟨n, rfl⟩ : ∃ n, fuel = n + 1 := ⟨fuel - 1, by omega⟩
    obtain rfl : b = 0 := by simp at hb; exact hb
    simp only [f_M_common_6, f_M_common_6b]
    rw [if_pos (show lg_cmp (nL 0) 0 = 0 from (cmp_eq _ _).mpr rfl), Nat.gcd_zero_left]
  | succ k ih =>
    intro fuel a b h ha hb hk hf
    obtain ⟨n, rfl⟩ : ∃ n, fuel = n + 1 + 1 := ⟨fuel - 2, by omega⟩
    have hp : 2 ^ (k + 1) ≤ 2 ^ 60 := Nat.pow_le_pow_right (by decide) hk
    have hb62 : b < 2 ^ 62 := by omega
    by_cases h0 : b = 0
    · subst h0
      show f_M_common_6b (f_M_common_6 (n + 1)) (nL a) (nL 0) h = _
      unfold f_M_common_6b
      rw [if_pos (show lg_cmp (nL 0) 0 = 0 from (cmp_eq _ _).mpr rfl), Nat.gcd_zero_left]
    · have hne : ¬ nL b = 0 := fun q => h0 ((nL_eq0 (by omega)).mp q)
      show f_M_common_6b (f_M_common_6 (n + 1)) (nL a) (nL b) h = _
      unfold f_M_common_6b
      rw [if_neg (fun q => hne ((cmp_eq _ _).mp q)), if_neg hne, nL_mod ha hb62]
      have hr : a % b < 2 ^ 62 := Nat.lt_trans (Nat.mod_lt _ (Nat.pos_of_ne_zero h0)) hb62
      show f_M_common_6b (f_M_common_6 n) (nL b) (nL (a % b)) h = _
      unfold f_M_common_6b
      by_cases h1 : a % b = 0
      · rw [h1, if_pos (show lg_cmp (nL 0) 0 = 0 from (cmp_eq _ _).mpr rfl), Nat.gcd_rec b a, h1, Nat.gcd_zero_left]
      · have hne1 : ¬ nL (a % b) = 0 := fun q => h1 ((nL_eq0 (by omega)).mp q)
        rw [if_neg (fun q => hne1 ((cmp_eq _ _).mp q)), if_neg hne1, nL_mod hb62 hr, ih n (a % b) (b % (a % b)) h hr (halve hb h1 h0) (by omega) (by omega), ← Nat.gcd_rec, ← Nat.gcd_rec]
theorem C_red : ∀ (k fuel a b i : Nat), a < 2 ^ 62 → b < 2 ^ k → k ≤ 40 → 2 * k < fuel → i + 2 * k < 100 → f_Odds_reduce_13 fuel 56 (nL a) (nL b) (nI i) (bh v w) = f_Odds_reduce_42 56 (nL (Nat.gcd b a)) (bh v w) := by
  intro k
  induction k with
  | zero =>
    intro fuel a b i ha hb hk hf hi
    obtain ⟨n, rfl⟩ : ∃ n, fuel = n + 1 := ⟨fuel - 1, by omega⟩
    obtain rfl : b = 0 := by simp at hb; exact hb
    simp only [f_Odds_reduce_13, f_Odds_reduce_13b]
    rw [if_pos (show lg_cmp (nL 0) 0 = 0 from (cmp_eq _ _).mpr rfl), Nat.gcd_zero_left]
    split <;> rfl
  | succ k ih =>
    intro fuel a b i ha hb hk hf hi
    obtain ⟨n, rfl⟩ : ∃ n, fuel = n + 1 + 1 := ⟨fuel - 2, by omega⟩
    have hp : 2 ^ (k + 1) ≤ 2 ^ 60 := Nat.pow_le_pow_right (by decide) (by omega)
    have hb62 : b < 2 ^ 62 := by omega
    have c1 : ∀ j, j < 100 → ¬ (100 : Int32) ≤ nI j := fun j hj z => by
      rw [show (100 : Int32) = nI 100 from rfl] at z
      have := (nI_leI (by omega) (by omega)).mp z
      omega
    by_cases h0 : b = 0
    · subst h0
      show f_Odds_reduce_13b (f_Odds_reduce_13 (n + 1)) 56 (nL a) (nL 0) (nI i) (bh v w) = _
      unfold f_Odds_reduce_13b
      rw [if_pos (show lg_cmp (nL 0) 0 = 0 from (cmp_eq _ _).mpr rfl), Nat.gcd_zero_left]
      split <;> rfl
    · have hne : ¬ nL b = 0 := fun q => h0 ((nL_eq0 (by omega)).mp q)
      show f_Odds_reduce_13b (f_Odds_reduce_13 (n + 1)) 56 (nL a) (nL b) (nI i) (bh v w) = _
      unfold f_Odds_reduce_13b
      rw [if_neg (c1 i (by omega)), if_neg (fun q => hne ((cmp_eq _ _).mp q)), if_neg hne, nL_mod ha hb62, nI_1]
      have hr : a % b < 2 ^ 62 := Nat.lt_trans (Nat.mod_lt _ (Nat.pos_of_ne_zero h0)) hb62
      show f_Odds_reduce_13b (f_Odds_reduce_13 n) 56 (nL b) (nL (a % b)) (nI (i + 1)) (bh v w) = _
      unfold f_Odds_reduce_13b
      by_cases h1 : a % b = 0
      · rw [h1, if_pos (show lg_cmp (nL 0) 0 = 0 from (cmp_eq _ _).mpr rfl), Nat.gcd_rec b a, h1, Nat.gcd_zero_left]
        split <;> rfl
      · have hne1 : ¬ nL (a % b) = 0 := fun q => h1 ((nL_eq0 (by omega)).mp q)
        rw [if_neg (c1 (i + 1) (by omega)), if_neg (fun q => hne1 ((cmp_eq _ _).mp q)), if_neg hne1, nL_mod hb62 hr, nI_1, ih n (a % b) (b % (a % b)) (i + 1 + 1) hr (halve hb h1 h0) (by omega) (by omega) (by omega), ← Nat.gcd_rec, ← Nat.gcd_rec]
end
end
/-! 8r.luck2.lean.txt -/
section
section
variable {v : Nat → Nat → Int32} {w : Nat → Nat → Int64}
def hW (o m : Nat) (w : Nat → Nat → Int64) (W : Nat → Nat) : Prop := ∀ k, k < m → w o k = nL (W k)
theorem m1_I (m : Nat) (hm : m < 100) : nI (m + 1) + (-1 : Int32) = nI m := by
  have : ∀ m, m < 100 → nI (m + 1) + (-1 : Int32) = nI m := by decide +kernel
  exact this m hm
theorem s1_I (m : Nat) (hm : m < 100) : nI (m + 1) - (1 : Int32) = nI m := by
  have : ∀ m, m < 100 → nI (m + 1) - (1 : Int32) = nI m := by decide +kernel
  exact this m hm
theorem C_try {n : Nat} (hn : n ≤ 10) {W : Nat → Nat} {a : Nat} (h : hW 57 10 w W) (ha : w 56 1 = nL a) : ∃ w', f_Odds_addTry 56 (nI n) (bh v w) = some (bh v w') ∧ hW 57 10 w' (stW n W) ∧ w' 56 1 = nL (a * 10) := by
  have key : ∀ (m fuel : Nat) (w : Nat → Nat → Int64), m < fuel → m ≤ 9 → (∀ k, k < 10 → w 57 k = if m < k then nL (stW n W k) else nL (W k)) → w 56 1 = nL a → ∃ w', f_Odds_addTry_3 fuel 56 (nI n) (nI m) (bh v w) = some (bh v w') ∧ hW 57 10 w' (stW n W) ∧ w' 56 1 = nL (a * 10) := by
    intro m
    induction m with
    | zero =>
      intro fuel w hf hm hw ha
      obtain ⟨f, rfl⟩ : ∃ f, fuel = f + 1 := ⟨fuel - 1, by omega⟩
      show ∃ w', f_Odds_addTry_3b (f_Odds_addTry_3 f) 56 (nI n) (nI 0) (bh v w) = _ ∧ _
      unfold f_Odds_addTry_3b
      rw [if_pos (show nI 0 ≤ 0 by decide)]
      simp only [hQ v w, bd1_s]
      have e0 : rd (w 57) 10 (0 : Int32) = some (nL (W 0)) := by rw [← (show w 57 0 = nL (W 0) from (hw 0 (by decide)).trans (if_neg (by decide)))]; rfl
      rw [e0, bd1_s, ten_I hn, nL_mul, show (0 : Int32) = nI 0 from rfl, wrL_nI (by decide) (by decide), bd1_s]
      simp only [hQ v (u2L w 57 0 (nL (W 0 * (10 - n)))), bd1_s]
      have e1 : u2L w 57 0 (nL (W 0 * (10 - n))) 56 1 = nL a := by rw [u2L_o (by decide)]; exact ha
      rw [e1, show (10 : Int64) = nL 10 from rfl, nL_mul]
      refine ⟨_, rfl, fun k hk => ?_, u2L_at _ _ _ _⟩
      rw [u2L_o (by decide)]
      by_cases e : k = 0
      · subst e
        rw [u2L_at]
        unfold stW
        rw [if_pos rfl, Nat.zero_mul, Nat.add_zero]
      · rw [u2L_n e, hw k hk, if_pos (by omega)]
    | succ m ih =>
      intro fuel w hf hm hw ha
      obtain ⟨f, rfl⟩ : ∃ f, fuel = f + 1 := ⟨fuel - 1, by omega⟩
      show ∃ w', f_Odds_addTry_3b (f_Odds_addTry_3 f) 56 (nI n) (nI (m + 1)) (bh v w) = _ ∧ _
      unfold f_Odds_addTry_3b
      rw [if_neg (fun z => by have := (nI_leI (a := m + 1) (b := 0) (by omega) (by omega)).mp z; omega)]
      simp only [hQ v w, bd1_s]
      rw [rd_nI (by omega) (by decide), bd1_s, s1_I m (by omega), rd_nI (by omega) (by decide), bd1_s, hw (m + 1) (by omega), if_neg (by omega), hw m (by omega), if_neg (by omega), ten_I hn, nL_64 (by omega), nL_mul, nL_mul, nL_add, wrL_nI (by omega) (by decide), bd1_s, m1_I m (by omega)]
      refine ih f _ (by omega) (by omega) (fun k hk => ?_) ((congrFun (u2L_o (by decide)) 1).trans ha)
      by_cases e : k = m + 1
      · subst e
        rw [u2L_at, if_pos (by omega)]
        unfold stW
        rw [if_neg (by omega), show m + 1 - 1 = m by omega]
      · rw [u2L_n e, hw k hk]
        by_cases g : m + 1 < k
        · rw [if_pos g, if_pos (by omega)]
        · rw [if_neg g, if_neg (by omega)]
  exact key 9 FU w (by decide) (by decide) (fun k hk => by rw [if_neg (by omega)]; exact h k hk) ha
theorem C_tries {ρ : Rho} (hr : CR 3 ρ v) (hk : ROK ρ) {p T : Nat} (hp : p < ρ 0 1) (hT : T ≤ 5) (rec : Nat → Nat → Int32 → Int32 → mH → Option mH) (l : Int32) : ∀ (k fuel i a : Nat) (W : Nat → Nat) (w : Nat → Nat → Int64), k < fuel → i + k = T → hW 57 10 w W → w 56 1 = nL a → ∃ w', f_Odds_weigh_41 rec fuel 56 3 l (nI p) (nI T) (nI i) (bh v w) = rec 56 3 l (nI (p + 1)) (bh v w') ∧ hW 57 10 w' (itW (ρ 8 p) k W) ∧ w' 56 1 = nL (a * 10 ^ k) := by
  have h2 := hk.1.2.1
  have hn := (hk.2.2.1 p hp).2.2.1
  intro k
  induction k with
  | zero =>
    intro fuel i a W w hf hi h ha
    obtain ⟨f, rfl⟩ : ∃ f, fuel = f + 1 := ⟨fuel - 1, by omega⟩
    refine ⟨w, ?_, h, by rw [ha, Nat.pow_zero, Nat.mul_one]⟩
    show f_Odds_weigh_41b rec (f_Odds_weigh_41 rec f) 56 3 l (nI p) (nI T) (nI i) (bh v w) = _
    unfold f_Odds_weigh_41b
    rw [if_pos ((nI_leI (by omega) (by omega)).mpr (by omega)), nI_1]
  | succ k ih =>
    intro fuel i a W w hf hi h ha
    obtain ⟨f, rfl⟩ : ∃ f, fuel = f + 1 := ⟨fuel - 1, by omega⟩
    obtain ⟨w1, e1, g1, a1⟩ := C_try (v := v) hn h ha
    obtain ⟨w2, e2, g2, a2⟩ := ih f (i + 1) (a * 10) (stW (ρ 8 p) W) w1 (by omega) (by omega) g1 a1
    refine ⟨w2, ?_, g2, by rw [a2, Nat.pow_succ, Nat.mul_assoc, Nat.mul_comm 10]⟩
    show f_Odds_weigh_41b rec (f_Odds_weigh_41 rec f) 56 3 l (nI p) (nI T) (nI i) (bh v w) = _
    unfold f_Odds_weigh_41b
    rw [if_neg (fun z => by have := (nI_leI (by omega) (by omega)).mp z; omega)]
    simp only [hRl rl3 v w, hQ v w, bd1_s]
    rw [rd_nI (by omega) (by decide), bd1_s, (hr.2.2.1 p hp).2.2.1, e1, bd1_s, nI_1]
    exact e2
/-- the fraction -/
def lkS (ρ : Rho) (l : Nat) : Nat := sumN (fun i => lkW ρ l (ρ 0 1) 0 W0 (sNeed ρ l + i)) (10 - sNeed ρ l)
def lkA (ρ : Rho) (l : Nat) : Nat := 10 ^ lkT ρ l (ρ 0 1) 0
theorem lk_ok {ρ : Rho} (hk : ROK ρ) {l : Nat} (hl : l < ρ 0 0) : Wok (lkT ρ l (ρ 0 1) 0) (lkW ρ l (ρ 0 1) 0 W0) ∧ lkT ρ l (ρ 0 1) 0 ≤ 9 := by
  have h2 := hk.1.2.1
  have a := Wok_lk hk l (ρ 0 1) 0 0 W0 (by omega) Wok0
  have b := lkT_le hk hl (ρ 0 1) 0
  rw [Nat.zero_add] at a
  exact ⟨a, by omega⟩
theorem sumN_sh {f : Nat → Nat} (n : Nat) : ∀ m, sumN f n + sumN (fun i => f (n + i)) m = sumN f (n + m)
  | 0 => rfl
  | m + 1 => by
    have := sumN_sh (f := f) n m
    show sumN f n + (sumN (fun i => f (n + i)) m + f (n + m)) = sumN f (n + m) + f (n + m)
    omega
theorem lkA_lt {ρ : Rho} (hk : ROK ρ) {l : Nat} (hl : l < ρ 0 0) : lkA ρ l < 2 ^ 30 ∧ 0 < lkA ρ l := by
  have h := (lk_ok hk hl).2
  refine ⟨Nat.lt_of_le_of_lt (Nat.pow_le_pow_right (by decide) h) (by decide), Nat.pow_pos (by decide)⟩
theorem lkS_le {ρ : Rho} (hk : ROK ρ) {l : Nat} (hl : l < ρ 0 0) : lkS ρ l ≤ lkA ρ l := by
  have h := (lk_ok hk hl).1.2 (sNeed ρ l + (10 - sNeed ρ l))
  have e := sumN_sh (f := lkW ρ l (ρ 0 1) 0 W0) (sNeed ρ l) (10 - sNeed ρ l)
  unfold lkS lkA
  omega
theorem C_sum {ρ : Rho} (hk : ROK ρ) {l : Nat} (hl : l < ρ 0 0) : ∀ (k fuel j : Nat) (w : Nat → Nat → Int64), k < fuel → sNeed ρ l + j + k = 10 → hW 57 10 w (lkW ρ l (ρ 0 1) 0 W0) → w 56 1 = nL (lkA ρ l) → w 56 0 = nL (sumN (fun i => lkW ρ l (ρ 0 1) 0 W0 (sNeed ρ l + i)) j) → ∃ w', f_Odds_weigh_81 fuel 56 (nI (sNeed ρ l + j)) (bh v w) = some (bh v w') ∧ w' 56 0 = nL (lkS ρ l / Nat.gcd (lkS ρ l) (lkA ρ l)) ∧ w' 56 1 = nL (lkA ρ l / Nat.gcd (lkS ρ l) (lkA ρ l)) := by
  have hA := lkA_lt hk hl
  have hS := lkS_le hk hl
  have hg : 0 < Nat.gcd (lkS ρ l) (lkA ρ l) := Nat.gcd_pos_of_pos_right _ hA.2
  have hg2 : Nat.gcd (lkS ρ l) (lkA ρ l) ≤ lkA ρ l := Nat.gcd_le_right _ hA.2
  intro k
  induction k with
  | zero =>
    intro fuel j w hf hj h h1 h0
    obtain ⟨f, rfl⟩ : ∃ f, fuel = f + 1 := ⟨fuel - 1, by omega⟩
    have ej : j = 10 - sNeed ρ l := by omega
    subst ej
    have h0 : w 56 0 = nL (lkS ρ l) := h0
    show ∃ w', f_Odds_weigh_81b (f_Odds_weigh_81 f) 56 (nI (sNeed ρ l + (10 - sNeed ρ l))) (bh v w) = _ ∧ _
    unfold f_Odds_weigh_81b
    rw [show (9 : Int32) = nI 9 from rfl, if_pos ((nI_ltI (by omega) (by omega)).mpr (by omega))]
    simp only [hQ v w, bd1_s, f_Odds_reduce, f_Odds_reduce_0]
    rw [h0, h1, show (0 : Int32) = nI 0 from rfl, C_red 30 FU (lkA ρ l) (lkS ρ l) 0 (by omega) (by omega) (by decide) (by decide) (by decide)]
    unfold f_Odds_reduce_42
    have c : ¬ lg_cmp (nL (Nat.gcd (lkS ρ l) (lkA ρ l))) 0 ≤ 0 := by
      intro z
      have q : (0 : Int32) < lg_cmp (nL (Nat.gcd (lkS ρ l) (lkA ρ l))) 0 := by
        rw [cmp_gt, Int64.lt_iff_toInt_lt, nL_toInt (by omega), show (0 : Int64).toInt = 0 from rfl]
        omega
      exact absurd q (Int32.not_lt.mpr z)
    have ne : ¬ nL (Nat.gcd (lkS ρ l) (lkA ρ l)) = 0 := fun q => by have := (nL_eq0 (by omega)).mp q; omega
    rw [if_neg c]
    simp only [hQ v w, bd1_s]
    rw [if_neg ne, h0, nL_div (by omega) (by omega)]
    simp only [hQ v (u2L w 56 0 (nL (lkS ρ l / Nat.gcd (lkS ρ l) (lkA ρ l)))), bd1_s]
    rw [if_neg ne, u2L_n (by decide), h1, nL_div (by omega) (by omega)]
    exact ⟨_, rfl, (u2L_n (by decide)).trans (u2L_at _ _ _ _), u2L_at _ _ _ _⟩
  | succ k ih =>
    intro fuel j w hf hj h h1 h0
    obtain ⟨f, rfl⟩ : ∃ f, fuel = f + 1 := ⟨fuel - 1, by omega⟩
    show ∃ w', f_Odds_weigh_81b (f_Odds_weigh_81 f) 56 (nI (sNeed ρ l + j)) (bh v w) = _ ∧ _
    unfold f_Odds_weigh_81b
    rw [show (9 : Int32) = nI 9 from rfl, if_neg (fun z => by have := (nI_ltI (by omega) (by omega)).mp z; omega)]
    simp only [hQ v w, bd1_s]
    rw [rd_nI (by omega) (by decide), bd1_s, h0, h (sNeed ρ l + j) (by omega), nL_add, nI_1]
    exact ih f (j + 1) _ (by omega) (by omega) (fun i hi => by rw [u2L_o (by decide)]; exact h i hi) ((u2L_n (by decide)).trans h1) (u2L_at _ _ _ _)
theorem C_people {ρ : Rho} (hr : CR 3 ρ v) (hk : ROK ρ) {l : Nat} (hl : l < ρ 0 0) : ∀ (k fuel p a : Nat) (W : Nat → Nat) (w : Nat → Nat → Int64), k < fuel → p + k = ρ 0 1 → hW 57 10 w W → w 56 1 = nL a → lkW ρ l k p W = lkW ρ l (ρ 0 1) 0 W0 → a * 10 ^ lkT ρ l k p = lkA ρ l → ∃ w', f_Odds_weigh_22 fuel 56 3 (nI l) (nI p) (bh v w) = some (bh v w') ∧ w' 56 0 = nL (lkS ρ l / Nat.gcd (lkS ρ l) (lkA ρ l)) ∧ w' 56 1 = nL (lkA ρ l / Nat.gcd (lkS ρ l) (lkA ρ l)) := by
  have h2 := hk.1.2.1
  have hn := sNeed_le hk hl
  intro k
  induction k with
  | zero =>
    intro fuel p a W w hf hp h ha eW eA
    obtain ⟨f, rfl⟩ : ∃ f, fuel = f + 1 := ⟨fuel - 1, by omega⟩
    have eW : W = lkW ρ l (ρ 0 1) 0 W0 := eW
    have eA : a = lkA ρ l := by rw [← eA]; exact (Nat.mul_one a).symm
    show ∃ w', f_Odds_weigh_22b (f_Odds_weigh_22 f) 56 3 (nI l) (nI p) (bh v w) = _ ∧ _
    unfold f_Odds_weigh_22b
    simp only [hRl rl3 v w, hQ v w, bd1_s]
    rw [hr.1.2.1, if_pos (nI_le (by omega) (by omega))]
    simp only [hRl rl3 v (u2L w 56 0 0), bd1_s]
    rw [C_needOf rl3 hr hk hl, bd2_s]
    have := C_sum (v := v) hk hl (10 - sNeed ρ l) FU 0 (u2L w 56 0 0) (by unfold FU; omega) (by omega) (fun i hi => by rw [u2L_o (by decide), ← eW]; exact h i hi) ((u2L_n (by decide)).trans (by rw [ha, eA])) (u2L_at _ _ _ _)
    exact this
  | succ k ih =>
    intro fuel p a W w hf hp h ha eW eA
    obtain ⟨f, rfl⟩ : ∃ f, fuel = f + 1 := ⟨fuel - 1, by omega⟩
    have hpp : p < ρ 0 1 := by omega
    have ht := sTries_le hk (p := p) hl
    obtain ⟨w1, e1, g1, a1⟩ := C_tries (v := v) hr hk hpp (show sTries ρ p l ≤ 5 by omega) (f_Odds_weigh_22 f) (nI l) (sTries ρ p l) FU 0 a W w (by unfold FU; omega) (by omega) h ha
    show ∃ w', f_Odds_weigh_22b (f_Odds_weigh_22 f) 56 3 (nI l) (nI p) (bh v w) = _ ∧ _
    unfold f_Odds_weigh_22b
    simp only [hRl rl3 v w, bd1_s]
    rw [hr.1.2.1, if_neg (nI_ge (by omega) (by omega)), C_ableAlone rl3 hr hk hpp hl, bd2_s]
    have e1' : f_Odds_weigh_41 (f_Odds_weigh_22 f) FU 56 3 (nI l) (nI p) (nI (sTries ρ p l)) 0 (bh v w) = f_Odds_weigh_22 f 56 3 (nI l) (nI (p + 1)) (bh v w1) := e1
    rw [e1']
    exact ih f (p + 1) (a * 10 ^ sTries ρ p l) _ w1 (by omega) (by omega) g1 a1 eW (by rw [← eA, Nat.mul_assoc, ← Nat.pow_add]; rfl)
theorem fill_J (x : Int64) (v : Nat → Nat → Int32) (w : Nat → Nat → Int64) : ∃ w1, f_Arrays_fillJ 57 x (bh v w) = some (bh v w1) ∧ (∀ p, p ≠ 57 → w1 p = w p) ∧ ∀ j, j < 10 → w1 57 j = x := by
  have key : ∀ (k fuel i : Nat) (w : Nat → Nat → Int64), k < fuel → i + k = 10 → ∃ w1, f_Arrays_fillJ_6 fuel 57 x (nI i) (nI 10) (bh v w) = some (bh v w1) ∧ (∀ p, p ≠ 57 → w1 p = w p) ∧ (∀ j, i ≤ j → j < 10 → w1 57 j = x) ∧ ∀ j, j < i → w1 57 j = w 57 j := by
    intro k
    induction k with
    | zero =>
      intro fuel i w hf hi
      obtain ⟨m, rfl⟩ : ∃ m, fuel = m + 1 := ⟨fuel - 1, by omega⟩
      simp only [f_Arrays_fillJ_6, f_Arrays_fillJ_6b]
      rw [if_pos ((nI_leI (by omega) (by omega)).mpr (by omega))]
      exact ⟨w, rfl, fun _ _ => rfl, fun j _ _ => by omega, fun _ _ => rfl⟩
    | succ k ih =>
      intro fuel i w hf hi
      obtain ⟨m, rfl⟩ : ∃ m, fuel = m + 1 := ⟨fuel - 1, by omega⟩
      simp only [f_Arrays_fillJ_6, f_Arrays_fillJ_6b, hQ v w]
      rw [if_neg (fun z => by have := (nI_leI (by omega) (by omega)).mp z; omega), wrL_nI (by omega) (by omega), bd1_s, nI_1]
      obtain ⟨w1, e1, f1, f2, f3⟩ := ih m (i + 1) (u2L w 57 i x) (by omega) (by omega)
      refine ⟨w1, e1, fun p hp => (f1 p hp).trans (u2L_o hp), fun j h1 h2 => ?_, fun j hj => (f3 j (by omega)).trans (u2L_n (by omega))⟩
      by_cases e : j = i
      · subst e; exact (f3 j (by omega)).trans (u2L_at _ _ _ _)
      · exact f2 j (by omega) h2
  obtain ⟨w1, e1, f1, f2, -⟩ := key 10 FU 0 w (by decide) (by omega)
  refine ⟨w1, ?_, f1, fun j hj => f2 j (by omega) hj⟩
  simp only [f_Arrays_fillJ, f_Arrays_fillJ_0]
  rw [show aN (bh v w) 3 57 = some (nI 10) from rfl, bd1_s]
  exact e1
theorem C_weigh {ρ : Rho} (hr : CR 3 ρ v) (hk : ROK ρ) {l : Nat} (hl : l < ρ 0 0) : ∃ w', f_Odds_weigh 56 3 (nI l) (bh v w) = some (bh v w') ∧ w' 56 0 = nL (lkS ρ l / Nat.gcd (lkS ρ l) (lkA ρ l)) ∧ w' 56 1 = nL (lkA ρ l / Nat.gcd (lkS ρ l) (lkA ρ l)) := by
  obtain ⟨w1, e1, f1, g1⟩ := fill_J 0 v w
  simp only [f_Odds_weigh, f_Odds_weigh_0, hQ v w, bd1_s]
  rw [e1, bd1_s]
  simp only [hQ v w1, bd1_s]
  rw [show (0 : Int32) = nI 0 from rfl, wrL_nI (by decide) (by decide), bd1_s]
  simp only [hQ v (u2L w1 57 0 1), bd1_s]
  refine C_people hr hk hl (ρ 0 1) FU 0 1 W0 _ (by have := hk.1.2.1; unfold FU; omega) (by omega) (fun i hi => ?_) (u2L_at _ _ _ _) rfl (Nat.one_mul _)
  rw [u2L_o (by decide)]
  by_cases e : i = 0
  · subst e; rw [u2L_at]; rfl
  · rw [u2L_n e, g1 i hi]
    unfold W0
    rw [if_neg e]
    rfl
end
end
/-! 8s.luck3.lean.txt -/
section
section
variable {v : Nat → Nat → Int32} {w : Nat → Nat → Int64}
theorem M_try {ρ : Rho} (hr : MR ρ v) (hk : ROK ρ) {p : Nat} (hp : p < ρ 0 1) (rec60 : Nat → Int32 → Int32 → Int64 → Int32 → mH → Option (Int64 × mH)) (rec72 : Nat → Int32 → Int32 → Int64 → Int32 → Int32 → mH → Option (Int64 × mH)) (l y : Int32) (a : Int64) (i : Int32) {W : Nat → Nat} (h : hW 120 16 w W) : ∃ w', f_M_luck_88 rec60 rec72 FU 100 l y a (nI p) i 15 (bh v w) = rec72 100 l y (a * 10) (nI p) (i + 1) (bh v w') ∧ hW 120 16 w' (stW (ρ 8 p) W) := by
  have h2 := hk.1.2.1
  have hn := (hk.2.2.1 p hp).2.2.1
  have ev : v 107 p = nI (ρ 8 p) := (hr.1.2.2.2 p hp).2
  have key : ∀ (m fuel : Nat) (w : Nat → Nat → Int64), m + 1 < fuel → m ≤ 15 → (∀ k, k < 16 → w 120 k = if m < k then nL (stW (ρ 8 p) W k) else nL (W k)) → ∃ w', f_M_luck_88 rec60 rec72 fuel 100 l y a (nI p) i (nI m) (bh v w) = rec72 100 l y (a * 10) (nI p) (i + 1) (bh v w') ∧ hW 120 16 w' (stW (ρ 8 p) W) := by
    intro m
    induction m with
    | zero =>
      intro fuel w hf hm hw
      obtain ⟨f, rfl⟩ : ∃ f, fuel = f + 1 + 1 := ⟨fuel - 2, by omega⟩
      have e0 : w 120 0 = nL (W 0) := (hw 0 (by decide)).trans (if_neg (by decide))
      refine ⟨u2L w 120 0 (nL (W 0 * (10 - ρ 8 p) + 0 * ρ 8 p)), ?_, fun k hk => ?_⟩
      · show f_M_luck_88b rec60 rec72 (f_M_luck_88 rec60 rec72 (f + 1)) 100 l y a (nI p) i (nI 0) (bh v w) = _
        unfold f_M_luck_88b f_M_luck_111
        rw [if_neg (show ¬ nI 0 < 0 by decide), if_pos (show nI 0 = 0 from rfl)]
        simp only [hM v w, bd1_s]
        rw [rd_nI (by decide) (by decide), bd1_s, rd_nI (by omega) (by decide), bd1_s, bd1_s, ev, e0, ten_I hn, nL_64 (by omega), show (0 : Int64) = nL 0 from rfl, nL_mul, nL_mul, nL_add, wrL_nI (by decide) (by decide), bd1_s]
        show f_M_luck_88b rec60 rec72 (f_M_luck_88 rec60 rec72 f) 100 l y a (nI p) i (nI 0 + -1) (bh v (u2L w 120 0 (nL (W 0 * (10 - ρ 8 p) + 0 * ρ 8 p)))) = _
        unfold f_M_luck_88b
        rw [if_pos (by decide)]
      · by_cases e : k = 0
        · subst e
          rw [u2L_at]
          unfold stW
          rw [if_pos rfl]
        · rw [u2L_n e, hw k hk, if_pos (by omega)]
    | succ m ih =>
      intro fuel w hf hm hw
      obtain ⟨f, rfl⟩ : ∃ f, fuel = f + 1 := ⟨fuel - 1, by omega⟩
      show ∃ w', f_M_luck_88b rec60 rec72 (f_M_luck_88 rec60 rec72 f) 100 l y a (nI p) i (nI (m + 1)) (bh v w) = _ ∧ _
      unfold f_M_luck_88b f_M_luck_111
      rw [if_neg (fun z => by have := (nI_ltI (a := m + 1) (b := 0) (by omega) (by omega)).mp z; omega), if_neg (fun z => by have := (nI_eqI (a := m + 1) (b := 0) (by omega) (by omega)).mp z; omega)]
      simp only [hM v w, bd1_s]
      rw [s1_I m (by omega), rd_nI (by omega) (by decide), bd1_s, rd_nI (by omega) (by decide), bd1_s, rd_nI (by omega) (by decide), bd1_s, bd1_s, ev, hw (m + 1) (by omega), if_neg (by omega), hw m (by omega), if_neg (by omega), ten_I hn, nL_64 (by omega), nL_mul, nL_mul, nL_add, wrL_nI (by omega) (by decide), bd1_s, m1_I m (by omega)]
      refine ih f _ (by omega) (by omega) (fun k hk => ?_)
      by_cases e : k = m + 1
      · subst e
        rw [u2L_at, if_pos (by omega)]
        unfold stW
        rw [if_neg (by omega), show m + 1 - 1 = m by omega]
      · rw [u2L_n e, hw k hk]
        by_cases g : m + 1 < k
        · rw [if_pos g, if_pos (by omega)]
        · rw [if_neg g, if_neg (by omega)]
  exact key 15 FU w (by decide) (by decide) (fun k hk => by rw [if_neg (by omega)]; exact h k hk)
theorem M_tries {ρ : Rho} (hr : MR ρ v) (hk : ROK ρ) {p l : Nat} (hp : p < ρ 0 1) (hl : l < ρ 0 0) (rec60 : Nat → Int32 → Int32 → Int64 → Int32 → mH → Option (Int64 × mH)) (y : Int32) : ∀ (k fuel i a : Nat) (W : Nat → Nat) (w : Nat → Nat → Int64), k < fuel → i + k = sTries ρ p l → hW 120 16 w W → ∃ w', f_M_luck_72 rec60 fuel 100 (nI l) y (nL a) (nI p) (nI i) (bh v w) = rec60 100 (nI l) y (nL (a * 10 ^ k)) (nI (p + 1)) (bh v w') ∧ hW 120 16 w' (itW (ρ 8 p) k W) := by
  have ht := sTries_le hk (p := p) hl
  intro k
  induction k with
  | zero =>
    intro fuel i a W w hf hi h
    obtain ⟨f, rfl⟩ : ∃ f, fuel = f + 1 := ⟨fuel - 1, by omega⟩
    refine ⟨w, ?_, h⟩
    show f_M_luck_72b rec60 (f_M_luck_72 rec60 f) 100 (nI l) y (nL a) (nI p) (nI i) (bh v w) = _
    unfold f_M_luck_72b
    simp only [hM v w, bd1_s]
    rw [M_triesOf hr hk hp hl, bd2_s, if_pos ((nI_leI (by omega) (by omega)).mpr (by omega)), nI_1, Nat.pow_zero, Nat.mul_one]
  | succ k ih =>
    intro fuel i a W w hf hi h
    obtain ⟨f, rfl⟩ : ∃ f, fuel = f + 1 := ⟨fuel - 1, by omega⟩
    obtain ⟨w1, e1, g1⟩ := M_try (v := v) hr hk hp rec60 (f_M_luck_72 rec60 f) (nI l) y (nL a) (nI i) h
    obtain ⟨w2, e2, g2⟩ := ih f (i + 1) (a * 10) (stW (ρ 8 p) W) w1 (by omega) (by omega) g1
    refine ⟨w2, ?_, g2⟩
    show f_M_luck_72b rec60 (f_M_luck_72 rec60 f) 100 (nI l) y (nL a) (nI p) (nI i) (bh v w) = _
    unfold f_M_luck_72b
    simp only [hM v w, bd1_s]
    rw [M_triesOf hr hk hp hl, bd2_s, if_neg (fun z => by have := (nI_leI (by omega) (by omega)).mp z; omega), e1, show (10 : Int64) = nL 10 from rfl, nL_mul, nI_1, e2, Nat.pow_succ, Nat.mul_assoc, Nat.mul_comm 10]
theorem M_sum {ρ : Rho} (hk : ROK ρ) {l : Nat} (hl : l < ρ 0 0) (y : Int32) (h : hW 120 16 w (lkW ρ l (ρ 0 1) 0 W0)) : ∀ (k fuel j : Nat), k < fuel → sNeed ρ l + j + k = 16 → f_M_luck_185 fuel 100 y (nL (lkA ρ l)) (nL (sumN (fun i => lkW ρ l (ρ 0 1) 0 W0 (sNeed ρ l + i)) j)) (nI (sNeed ρ l + j)) (bh v w) = some (if y = 0 then nL (lkS ρ l / Nat.gcd (lkS ρ l) (lkA ρ l)) else nL (lkA ρ l / Nat.gcd (lkS ρ l) (lkA ρ l)), bh v w) := by
  have hA := lkA_lt hk hl
  have hS := lkS_le hk hl
  have hn := sNeed_le hk hl
  have ok := lk_ok hk hl
  have hg : 0 < Nat.gcd (lkS ρ l) (lkA ρ l) := Nat.gcd_pos_of_pos_right _ hA.2
  have hg2 : Nat.gcd (lkS ρ l) (lkA ρ l) ≤ lkA ρ l := Nat.gcd_le_right _ hA.2
  intro k
  induction k with
  | zero =>
    intro fuel j hf hj
    obtain ⟨f, rfl⟩ : ∃ f, fuel = f + 1 := ⟨fuel - 1, by omega⟩
    have e : sumN (fun i => lkW ρ l (ρ 0 1) 0 W0 (sNeed ρ l + i)) j = lkS ρ l := by
      have a := sumN_sh (f := fun i => lkW ρ l (ρ 0 1) 0 W0 (sNeed ρ l + i)) (10 - sNeed ρ l) 6
      have b : sumN (fun i => lkW ρ l (ρ 0 1) 0 W0 (sNeed ρ l + (10 - sNeed ρ l + i))) 6 = sumN (fun _ => 0) 6 := sumN_congr (fun i hi => ok.1.1 _ (by omega))
      rw [sumN_0] at b
      rw [show j = 10 - sNeed ρ l + 6 by omega]
      unfold lkS
      omega
    rw [e]
    show f_M_luck_185b (f_M_luck_185 f) 100 y (nL (lkA ρ l)) (nL (lkS ρ l)) (nI (sNeed ρ l + j)) (bh v w) = _
    unfold f_M_luck_185b f_M_common f_M_common_0
    have ne : ¬ nL (Nat.gcd (lkS ρ l) (lkA ρ l)) = 0 := fun q => by have := (nL_eq0 (by omega)).mp q; omega
    rw [show (16 : Int32) = nI 16 from rfl, if_pos ((nI_leI (by omega) (by omega)).mpr (by omega)), M_common 30 FU (lkA ρ l) (lkS ρ l) _ (by omega) (by omega) (by decide) (by decide), bd2_s, if_neg ne, if_neg ne, nL_div (by omega) (by omega), nL_div (by omega) (by omega)]
    split <;> rfl
  | succ k ih =>
    intro fuel j hf hj
    obtain ⟨f, rfl⟩ : ∃ f, fuel = f + 1 := ⟨fuel - 1, by omega⟩
    have nx := ih f (j + 1) (by omega) (by omega)
    show f_M_luck_185b (f_M_luck_185 f) 100 y (nL (lkA ρ l)) _ (nI (sNeed ρ l + j)) (bh v w) = _
    unfold f_M_luck_185b
    simp only [hM v w, bd1_s]
    rw [show (16 : Int32) = nI 16 from rfl, if_neg (fun z => by have := (nI_leI (by omega) (by omega)).mp z; omega), rd_nI (by omega) (by decide), bd1_s, h (sNeed ρ l + j) (by omega), nL_add, nI_1]
    exact nx
theorem M_people {ρ : Rho} (hr : MR ρ v) (hk : ROK ρ) {l : Nat} (hl : l < ρ 0 0) (y : Int32) : ∀ (k fuel p a : Nat) (W : Nat → Nat) (w : Nat → Nat → Int64), k < fuel → p + k = ρ 0 1 → hW 120 16 w W → lkW ρ l k p W = lkW ρ l (ρ 0 1) 0 W0 → a * 10 ^ lkT ρ l k p = lkA ρ l → ∃ w', f_M_luck_60 fuel 100 (nI l) y (nL a) (nI p) (bh v w) = some (if y = 0 then nL (lkS ρ l / Nat.gcd (lkS ρ l) (lkA ρ l)) else nL (lkA ρ l / Nat.gcd (lkS ρ l) (lkA ρ l)), bh v w') := by
  have h2 := hk.1.2.1
  have hn := sNeed_le hk hl
  intro k
  induction k with
  | zero =>
    intro fuel p a W w hf hp h eW eA
    obtain ⟨f, rfl⟩ : ∃ f, fuel = f + 1 := ⟨fuel - 1, by omega⟩
    have eW : W = lkW ρ l (ρ 0 1) 0 W0 := eW
    have eA : a = lkA ρ l := by rw [← eA]; exact (Nat.mul_one a).symm
    refine ⟨w, ?_⟩
    show f_M_luck_60b (f_M_luck_60 f) 100 (nI l) y (nL a) (nI p) (bh v w) = _
    unfold f_M_luck_60b
    simp only [hM v w, bd1_s]
    rw [hr.1.2.1, if_pos (nI_le (by omega) (by omega)), M_needOf hr hk hl, bd2_s, eA]
    exact M_sum (v := v) hk hl y (by rw [← eW]; exact h) (16 - sNeed ρ l) FU 0 (by unfold FU; omega) (by omega)
  | succ k ih =>
    intro fuel p a W w hf hp h eW eA
    obtain ⟨f, rfl⟩ : ∃ f, fuel = f + 1 := ⟨fuel - 1, by omega⟩
    have hpp : p < ρ 0 1 := by omega
    have ht := sTries_le hk (p := p) hl
    obtain ⟨w1, e1, g1⟩ := M_tries (v := v) hr hk hpp hl (f_M_luck_60 f) y (sTries ρ p l) FU 0 a W w (by unfold FU; omega) (by omega) h
    obtain ⟨w2, e2⟩ := ih f (p + 1) (a * 10 ^ sTries ρ p l) _ w1 (by omega) (by omega) g1 eW (by rw [← eA, Nat.mul_assoc, ← Nat.pow_add]; rfl)
    refine ⟨w2, ?_⟩
    show f_M_luck_60b (f_M_luck_60 f) 100 (nI l) y (nL a) (nI p) (bh v w) = _
    unfold f_M_luck_60b
    simp only [hM v w, bd1_s]
    rw [hr.1.2.1, if_neg (nI_ge (by omega) (by omega))]
    exact e1.trans e2
theorem M_weigh {ρ : Rho} (hr : MR ρ v) (hk : ROK ρ) {l : Nat} (hl : l < ρ 0 0) (y : Int32) : ∃ w', f_M_luck_27 FU 100 (nI l) y 1 0 (bh v w) = some (if y = 0 then nL (lkS ρ l / Nat.gcd (lkS ρ l) (lkA ρ l)) else nL (lkA ρ l / Nat.gcd (lkS ρ l) (lkA ρ l)), bh v w') := by
  have key : ∀ (k fuel i : Nat) (w : Nat → Nat → Int64), k < fuel → i + k = 16 → hW 120 i w W0 → ∃ w', f_M_luck_27 fuel 100 (nI l) y 1 (nI i) (bh v w) = some (if y = 0 then nL (lkS ρ l / Nat.gcd (lkS ρ l) (lkA ρ l)) else nL (lkA ρ l / Nat.gcd (lkS ρ l) (lkA ρ l)), bh v w') := by
    intro k
    induction k with
    | zero =>
      intro fuel i w hf hi h
      obtain ⟨f, rfl⟩ : ∃ f, fuel = f + 1 := ⟨fuel - 1, by omega⟩
      obtain rfl : i = 16 := by omega
      show ∃ w', f_M_luck_27b (f_M_luck_27 f) 100 (nI l) y 1 (nI 16) (bh v w) = _
      unfold f_M_luck_27b
      rw [if_pos (by decide)]
      exact M_people hr hk hl y (ρ 0 1) FU 0 1 W0 w (by have := hk.1.2.1; unfold FU; omega) (by omega) h rfl (Nat.one_mul _)
    | succ k ih =>
      intro fuel i w hf hi h
      obtain ⟨f, rfl⟩ : ∃ f, fuel = f + 1 := ⟨fuel - 1, by omega⟩
      have nx : ∀ x : Int64, x = nL (W0 i) → ∃ w', f_M_luck_27 f 100 (nI l) y 1 (nI i + 1) (bh v (u2L w 120 i x)) = some (if y = 0 then nL (lkS ρ l / Nat.gcd (lkS ρ l) (lkA ρ l)) else nL (lkA ρ l / Nat.gcd (lkS ρ l) (lkA ρ l)), bh v w') := by
        intro x hx
        rw [nI_1]
        refine ih f (i + 1) _ (by omega) (by omega) (fun j hj => ?_)
        by_cases e : j = i
        · subst e; rw [u2L_at, hx]
        · rw [u2L_n e]; exact h j (by omega)
      show ∃ w', f_M_luck_27b (f_M_luck_27 f) 100 (nI l) y 1 (nI i) (bh v w) = _
      unfold f_M_luck_27b f_M_luck_50
      rw [show (16 : Int32) = nI 16 from rfl, if_neg (fun z => by have := (nI_leI (by omega) (by omega)).mp z; omega)]
      simp only [hM v w, bd1_s]
      rw [wrL_nI (by omega) (by decide), wrL_nI (by omega) (by decide), bd1_s, bd1_s]
      by_cases e : i = 0
      · subst e
        rw [if_pos (show nI 0 = 0 from rfl)]
        exact nx 1 rfl
      · rw [if_neg (show ¬ nI i = 0 from fun z => e ((nI_eqI (a := i) (b := 0) (by omega) (by omega)).mp z))]
        exact nx 0 (by unfold W0; rw [if_neg e]; rfl)
  exact key 16 FU 0 w (by decide) (by omega) (fun j hj => by omega)
end
section
variable {S : Sg} {v : Nat → Nat → Int32} {w : Nat → Nat → Int64}
theorem E_luck (x y : Int32) (hs : SOK S) (hc : CI S v) (hm : MI S v) : EqT S v w (f_Q_luck 0 x y) (f_M_luck 100 x y) := by
  have h1 := hs.1.1.1
  by_cases hx : 0 ≤ x.toInt ∧ x.toInt < (S.1 0 0 : Int)
  · by_cases hy : 0 ≤ y.toInt ∧ y.toInt < ((1 + 1 : Nat) : Int)
    · obtain ⟨l, hl, rfl⟩ := ix (by omega) hx
      obtain ⟨w1, e1, a0, a1⟩ := C_weigh (v := v) (w := w) hc.1 hs.1 hl
      obtain ⟨w2, e2⟩ := M_weigh (v := v) (w := w1) hm.1 hs.1 hl y
      refine EqT.q (r := if y = 0 then nL (lkS S.1 l / Nat.gcd (lkS S.1 l) (lkA S.1 l)) else nL (lkA S.1 l / Nat.gcd (lkS S.1 l) (lkA S.1 l))) (v1 := v) (w1 := w1) (v2 := v) (w2 := w2) hs hc hm ?_ (fun _ _ => rfl) ?_ (fun _ _ => rfl)
      · simp only [f_Q_luck, f_Q_luck_0, q_now, hRl rl3 v w, bd1_s]
        rw [C_hasLaw rl3 hc.1 h1, bd2_s, if_pos hx, if_neg (by decide), Q_isWithin, bd2_s, show (1 : Int32).toInt = (nI 1).toInt from rfl, if_pos ((in_rng (by decide)).mpr hy), if_neg (by decide)]
        simp only [hQ v w, bd1_s]
        rw [e1, bd1_s]
        simp only [hQ v w1, bd1_s]
        rw [a0, a1]
        split <;> rfl
      · simp only [f_M_luck, f_M_luck_0, hM v w1, bd1_s]
        rw [M_isLaw hm.1.1 h1, bd2_s, if_pos hx, if_neg (by decide), M_in, bd2_s, show (1 : Int64) = (nI 1).toInt64 from rfl, if_pos ((in_rngL (by decide)).mpr hy), if_neg (by decide)]
        exact e2
    · refine ⟨-1, v, w, v, w, S, ?_, ?_, hs, hc, hm⟩
      · simp only [f_Q_luck, f_Q_luck_0, f_Q_luck_20, q_now, hRl rl3 v w, bd1_s]
        rw [C_hasLaw rl3 hc.1 h1, bd2_s, if_pos hx, if_neg (by decide), Q_isWithin, bd2_s, show (1 : Int32).toInt = (nI 1).toInt from rfl, if_neg (fun q => hy ((in_rng (by decide)).mp q)), if_pos rfl]
      · simp only [f_M_luck, f_M_luck_0, f_M_luck_18, hM v w, bd1_s]
        rw [M_isLaw hm.1.1 h1, bd2_s, if_pos hx, if_neg (by decide), M_in, bd2_s, show (1 : Int64) = (nI 1).toInt64 from rfl, if_neg (fun q => hy ((in_rngL (by decide)).mp q)), if_pos rfl]
  · refine ⟨-1, v, w, v, w, S, ?_, ?_, hs, hc, hm⟩
    · simp only [f_Q_luck, f_Q_luck_0, f_Q_luck_20, q_now, hRl rl3 v w, bd1_s]
      rw [C_hasLaw rl3 hc.1 h1, bd2_s, if_neg hx, if_pos rfl]
    · simp only [f_M_luck, f_M_luck_0, f_M_luck_18, hM v w, bd1_s]
      rw [M_isLaw hm.1.1 h1, bd2_s, if_neg hx, if_pos rfl]
end
end
/-! 8t.times.lean.txt -/
section
/-! the reference's questions with other TIMES: printed by wip/gen/gen_t.py -/
def MBt (T : Nat → Nat) (q k : Nat) (ρ : Rho) (v : Nat → Nat → Int32) : Prop :=
  (∀ l, l < ρ 0 0 → v q (k + l) = nI (ρ 1 l)) ∧ (∀ l, l < ρ 0 0 → v q (k + 5 + l) = cI (ρ 5 l)) ∧ v q (k + 10) = nI (ρ 0 4) ∧ v q (k + 11) = nI (ρ 0 5) ∧
  (∀ p, p < ρ 0 1 → v q (k + 12 + p) = nI (T p)) ∧ (∀ p, p < ρ 0 1 → v q (k + 15 + p) = nI (ρ 9 p)) ∧ (∀ p, p < ρ 0 1 → v q (k + 18 + p) = nI (ρ 10 p)) ∧ (∀ p, p < ρ 0 1 → v q (k + 21 + p) = nI (ρ 11 p)) ∧
  (∀ p l, p < ρ 0 1 → l < ρ 0 0 → v q (k + 24 + 5 * p + l) = nI (ρ 12 (5 * p + l))) ∧ v q (k + 39) = nI (ρ 0 2) ∧ v q (k + 40) = nI (ρ 0 3) ∧ v q (k + 41) = nI (ρ 0 6) ∧
  (∀ i, i < ρ 0 6 → v q (k + 42 + 3 * i) = nI (ρ 13 i) ∧ v q (k + 42 + 3 * i + 1) = nI (ρ 14 i) ∧ v q (k + 42 + 3 * i + 2) = nI (ρ 15 i))
def MRt (T : Nat → Nat) (ρ : Rho) (v : Nat → Nat → Int32) : Prop := MF ρ v ∧ MBt T 101 0 ρ v
theorem MRt_of {ρ : Rho} {v : Nat → Nat → Int32} (h : MR ρ v) : MRt (ρ 6) ρ v := h
section
variable {ρ : Rho} {v : Nat → Nat → Int32} {w : Nat → Nat → Int64} {T : Nat → Nat}
theorem N_doesStand (hb : MBt T 101 0 ρ v) (hs : ρ 0 4 < 2 ^ 31) {l : Nat} (hl : l < 32) : f_M_doesStand 100 (nI l) (bh v w) = some (nI (bit (ρ 0 4) l), bh v w) := by
  simp only [f_M_doesStand, f_M_doesStand_0, hM v w, bd1_s, bd2_s]
  have e1 : rd (v 101) 198 (10 : Int32) = some (nI (ρ 0 4)) := by rw [← hb.2.2.1]; rfl
  rw [e1, bd1_s, bit_I hs hl]
  rcases bit_01 (ρ 0 4) l with h | h <;> rw [h] <;> rfl
theorem N_brokenBy (hb : MBt T 101 0 ρ v) (hk : ROK ρ) {p l : Nat} (hp : p < ρ 0 1) (hl : l < ρ 0 0) : f_M_brokenBy 100 (nI p) (nI l) (bh v w) = some (nI (ρ 12 (5 * p + l)), bh v w) := by
  have h1 := hk.1.1
  have h2 := hk.1.2.1
  simp only [f_M_brokenBy, f_M_brokenBy_0, hM v w, bd1_s, bd2_s]
  rw [show (24 : Int32) = nI 24 from rfl, show (5 : Int32) = nI 5 from rfl, pk_mul, nI_add, nI_add, rd_nI (by omega) (by decide), bd1_s]
  have := hb.2.2.2.2.2.2.2.2.1 p l hp hl
  rw [show 0 + 24 + 5 * p + l = 24 + 5 * p + l by omega] at this
  rw [this]
theorem N_allBy (hr : MRt T ρ v) (hk : ROK ρ) {p : Nat} (hp : p < ρ 0 1) : f_M_allBy 100 (nI p) (bh v w) = some (nI (sAll ρ p), bh v w) := by
  have h1 := hk.1.1
  have key : ∀ (k fuel l : Nat), k < fuel → l + k = ρ 0 0 → f_M_allBy_4 fuel 100 (nI p) (nI (sumN (fun l => ρ 12 (5 * p + l)) l)) (nI l) (bh v w) = some (nI (sAll ρ p), bh v w) := by
    intro k
    induction k with
    | zero =>
      intro fuel l hf hl
      obtain ⟨n, rfl⟩ : ∃ n, fuel = n + 1 := ⟨fuel - 1, by omega⟩
      simp only [f_M_allBy_4, f_M_allBy_4b, hM v w, bd1_s]
      rw [hr.1.1, if_pos (nI_le (by omega) (by omega)), show l = ρ 0 0 by omega]
      rfl
    | succ k ih =>
      intro fuel l hf hl
      obtain ⟨n, rfl⟩ : ∃ n, fuel = n + 1 := ⟨fuel - 1, by omega⟩
      simp only [f_M_allBy_4, f_M_allBy_4b, hM v w, bd1_s]
      rw [hr.1.1, if_neg (nI_ge (by omega) (by omega)), N_brokenBy hr.2 hk hp (by omega), bd2_s, nI_add, nI_1]
      exact ih n (l + 1) (by omega) (by omega)
  simp only [f_M_allBy, f_M_allBy_0]
  exact key (ρ 0 0) FU 0 (by unfold FU; omega) (by omega)
theorem N_needOf (hr : MRt T ρ v) (hk : ROK ρ) {l : Nat} (hl : l < ρ 0 0) : f_M_needOf 100 (nI l) (bh v w) = some (nI (sNeed ρ l), bh v w) := by
  have h1 := hk.1.1
  have h2 := hk.1.2.1
  have hst : ρ 0 4 < 2 ^ 31 := Nat.lt_of_lt_of_le hk.1.2.2.2.2.1 (Nat.le_trans (Nat.pow_le_pow_right (by decide) h1) (by decide))
  have hq : ρ 1 l ≤ 9 := (hk.2.1 l hl).1
  have hB : ∀ p, p < ρ 0 1 → ρ 12 (5 * p + l) ≤ 3 := fun p hp => Nat.le_trans (hk.2.2.2.1 p l hp hl) (hk.2.1 l hl).2.2.1
  have key : ∀ (k fuel p : Nat) (q : Nat), q ≤ 9 → k < fuel → p + k = ρ 0 1 → f_M_needOf_23 fuel 100 (nI l) (zI ((q : Int) - sumN (fun p => ρ 12 (5 * p + l)) p)) (nI p) (bh v w) = some (nI (q - sumN (fun p => ρ 12 (5 * p + l)) (ρ 0 1)), bh v w) := by
    intro k
    induction k with
    | zero =>
      intro fuel p q hq hf hp
      obtain ⟨n, rfl⟩ : ∃ n, fuel = n + 1 := ⟨fuel - 1, by omega⟩
      have hs : sumN (fun p => ρ 12 (5 * p + l)) p ≤ 3 * p := sumN_c (fun i hi => hB i (by omega))
      simp only [f_M_needOf_23, f_M_needOf_23b, hM v w, bd1_s]
      rw [hr.1.2.1, if_pos (nI_le (by omega) (by omega)), show ρ 0 1 = p by omega]
      by_cases hc : sumN (fun p => ρ 12 (5 * p + l)) p ≤ q
      · rw [if_pos ((zI_ge (by omega) (by omega)).mpr (by omega)), show ((q : Int) - (sumN (fun p => ρ 12 (5 * p + l)) p : Nat)) = ((q - sumN (fun p => ρ 12 (5 * p + l)) p : Nat) : Int) by omega, zI_n]
      · rw [if_neg (fun z => hc (by have := (zI_ge (by omega) (by omega)).mp z; omega)), show q - sumN (fun p => ρ 12 (5 * p + l)) p = 0 by omega]
        rfl
    | succ k ih =>
      intro fuel p q hq hf hp
      obtain ⟨n, rfl⟩ : ∃ n, fuel = n + 1 := ⟨fuel - 1, by omega⟩
      simp only [f_M_needOf_23, f_M_needOf_23b, hM v w, bd1_s]
      rw [hr.1.2.1, if_neg (nI_ge (by omega) (by omega)), N_brokenBy hr.2 hk (by omega) hl, bd2_s, zI_subn, nI_1]
      have := ih n (p + 1) q hq (by omega) (by omega)
      rw [show ((q : Int) - (sumN (fun p => ρ 12 (5 * p + l)) p : Nat)) - (ρ 12 (5 * p + l) : Nat) = (q : Int) - (sumN (fun p => ρ 12 (5 * p + l)) (p + 1) : Nat) by show _ = (q : Int) - ((sumN (fun p => ρ 12 (5 * p + l)) p + ρ 12 (5 * p + l) : Nat) : Int); omega]
      exact this
  simp only [f_M_needOf, f_M_needOf_0, f_M_needOf_20, hM v w, bd1_s]
  rw [N_doesStand hr.2 hst (by omega), bd2_s]
  rcases bit_01 (ρ 0 4) l with h | h
  · rw [h, if_pos (show nI 0 = 0 from rfl)]
    have := key (ρ 0 1) FU 0 0 (by omega) (by unfold FU; omega) (by omega)
    rw [show ((0 : Nat) : Int) - (sumN (fun p => ρ 12 (5 * p + l)) 0 : Nat) = ((0 : Nat) : Int) by rfl, zI_n] at this
    rw [show (0 : Int32) = nI 0 from rfl, this]
    unfold sNeed
    rw [h, if_neg (by decide), Nat.zero_sub]
  · rw [h, if_neg (show ¬ nI 1 = 0 by decide)]
    simp only [hM v w, bd1_s]
    rw [show (0 : Int32) = nI 0 from rfl, nI_add, rd_nI (by omega) (by decide), bd1_s, hr.2.1 l hl]
    have := key (ρ 0 1) FU 0 (ρ 1 l) hq (by unfold FU; omega) (by omega)
    rw [show ((ρ 1 l : Nat) : Int) - (sumN (fun p => ρ 12 (5 * p + l)) 0 : Nat) = ((ρ 1 l : Nat) : Int) by show ((ρ 1 l : Nat) : Int) - ((0 : Nat) : Int) = _; omega, zI_n] at this
    rw [this]
    unfold sNeed
    rw [h, if_pos rfl]
theorem N_roomOf (hr : MRt T ρ v) (hk : ROK ρ) {p l : Nat} (hp : p < ρ 0 1) (hl : l < ρ 0 0) : f_M_roomOf 100 (nI p) (nI l) (bh v w) = some (nI (sRoom ρ p l), bh v w) := by
  have h1 := hk.1.1
  have h2 := hk.1.2.1
  have hst := hk.st
  have hrf : ρ 10 p < 32 := pw_le h1 (hk.2.2.1 p hp).2.2.2.2.1
  have hB : ρ 12 (5 * p + l) ≤ ρ 2 l := hk.2.2.2.1 p l hp hl
  have hc : ρ 2 l ≤ 3 := (hk.2.1 l hl).2.2.1
  simp only [f_M_roomOf, f_M_roomOf_0, f_M_roomOf_28, f_M_roomOf_29, f_M_roomOf_51, hM v w, bd1_s]
  rw [N_doesStand hr.2 (by omega) (by omega), bd2_s]
  unfold sRoom
  rcases bit_01 (ρ 0 4) l with h | h
  · simp [h]
    rfl
  · rw [h, if_neg (show ¬ nI 1 = 0 by decide)]
    simp only [hM v w, bd1_s]
    rw [show (18 : Int32) = nI 18 from rfl, nI_add, rd_nI (by omega) (by decide), bd1_s]
    have e1 := hr.2.2.2.2.2.2.2.1 p hp
    rw [show 0 + 18 + p = 18 + p by omega] at e1
    rw [e1, bit_I (by omega) (by omega), ite_iff (nI_eq0 (by have := bit_lt (ρ 10 p) l; omega))]
    rcases bit_01 (ρ 10 p) l with g | g
    · rw [if_pos g, if_neg (by decide), rd_nI (by omega) (by decide), bd1_s, (hr.1.2.2.1 l hl).1, N_brokenBy hr.2 hk hp hl, bd2_s, pk_sub hB, if_pos (nI_pos' (by omega)), if_pos ⟨trivial, g⟩]
    · rw [if_neg (by omega), if_pos trivial, if_pos (by decide), if_neg (fun z => by have := z.2; omega)]
      rfl
end
end
/-! 8u.rota.lean.txt -/
section
/-! rotas: what the table of least harms holds -/
def FAR : Nat := 1000000
def rN (ρ : Rho) (s l : Nat) : Nat := if bit s l = 1 then sNeed ρ l else 0
def rR (ρ : Rho) (p l : Nat) : Nat := if p < ρ 0 1 then sRoom ρ p l else 0
def rH (ρ : Rho) (p l : Nat) : Nat := if p < ρ 0 1 then ρ 3 l + ρ 7 p else 0
/-- x and y of the first two, z of the third -/
def rCost (ρ : Rho) (l x y z : Nat) : Nat := x * rH ρ 0 l + y * rH ρ 1 l + z * rH ρ 2 l
def rVal (ρ : Rho) (l a b c x y z B : Nat) : Nat := if x ≤ a ∧ y ≤ b ∧ z ≤ c ∧ x ≤ rR ρ 0 l ∧ y ≤ rR ρ 1 l ∧ z ≤ rR ρ 2 l ∧ B < FAR then rCost ρ l x y z + B else FAR
def rOpt (ρ : Rho) (s : Nat) (B : Nat → Nat → Nat → Nat) (l a b c x y : Nat) : Nat := if x + y ≤ rN ρ s l ∧ rN ρ s l - x - y ≤ 3 then rVal ρ l a b c x y (rN ρ s l - x - y) (B (a - x) (b - y) (c - (rN ρ s l - x - y))) else FAR
def rMin (f : Nat → Nat → Nat) : Nat → Nat
  | 0 => FAR
  | t + 1 => if f (t / 4) (t % 4) < rMin f t then f (t / 4) (t % 4) else rMin f t
def rBst (ρ : Rho) (s : Nat) : Nat → Nat → Nat → Nat → Nat
  | 0, _, _, _ => 0
  | k + 1, a, b, c => rMin (rOpt ρ s (rBst ρ s k) (ρ 0 0 - (k + 1)) a b c) 16
theorem rMin_le (f : Nat → Nat → Nat) : ∀ t, rMin f t ≤ FAR
  | 0 => Nat.le_refl _
  | t + 1 => by
    have := rMin_le f t
    unfold rMin
    split <;> omega
theorem rMin_or {f : Nat → Nat → Nat} {m : Nat} (h : ∀ x y, f x y = FAR ∨ f x y ≤ m) : ∀ t, rMin f t = FAR ∨ rMin f t ≤ m
  | 0 => Or.inl rfl
  | t + 1 => by
    have := rMin_or h t
    unfold rMin
    split
    · exact h _ _
    · exact this
section
variable {ρ : Rho} {v : Nat → Nat → Int32} {w : Nat → Nat → Int64} {T : Nat → Nat}
theorem rR_le (hk : ROK ρ) {p l : Nat} (hl : l < ρ 0 0) : rR ρ p l ≤ 3 := by
  unfold rR
  split
  · exact sRoom_le hk hl
  · omega
theorem rH_le (hk : ROK ρ) {p l : Nat} (hl : l < ρ 0 0) : rH ρ p l ≤ 12 := by
  unfold rH
  split
  · next h =>
    have := (hk.2.1 l hl).2.2.2.1
    have := (hk.2.2.1 p h).2.1
    omega
  · omega
theorem rN_le (hk : ROK ρ) {s l : Nat} (hl : l < ρ 0 0) : rN ρ s l ≤ 9 := by
  unfold rN
  split
  · exact sNeed_le hk hl
  · omega
theorem rCost_le (hk : ROK ρ) {l x y z : Nat} (hl : l < ρ 0 0) (hx : x ≤ 3) (hy : y ≤ 3) (hz : z ≤ 3) : rCost ρ l x y z ≤ 108 := by
  have a := Nat.mul_le_mul hx (rH_le hk (p := 0) hl)
  have b := Nat.mul_le_mul hy (rH_le hk (p := 1) hl)
  have c := Nat.mul_le_mul hz (rH_le hk (p := 2) hl)
  unfold rCost
  omega
theorem rVal_or (hk : ROK ρ) {l a b c x y z B m : Nat} (hl : l < ρ 0 0) (hB : B = FAR ∨ B ≤ m) : rVal ρ l a b c x y z B = FAR ∨ rVal ρ l a b c x y z B ≤ m + 108 := by
  unfold rVal
  split
  · next h =>
    have r0 := rR_le hk (p := 0) hl
    have r1 := rR_le hk (p := 1) hl
    have r2 := rR_le hk (p := 2) hl
    have := rCost_le hk (x := x) (y := y) (z := z) hl (by omega) (by omega) (by omega)
    omega
  · exact Or.inl rfl
theorem rBst_or (hk : ROK ρ) (s : Nat) : ∀ (k a b c : Nat), k ≤ ρ 0 0 → rBst ρ s k a b c = FAR ∨ rBst ρ s k a b c ≤ 108 * k
  | 0, _, _, _, _ => Or.inr (Nat.le_refl _)
  | k + 1, a, b, c, h => by
    have ih := fun a b c => rBst_or hk s k a b c (by omega)
    refine rMin_or (m := 108 * (k + 1)) (fun x y => ?_) 16
    unfold rOpt
    split
    · have := rVal_or hk (a := a) (b := b) (c := c) (x := x) (y := y) (z := rN ρ s (ρ 0 0 - (k + 1)) - x - y) (show ρ 0 0 - (k + 1) < ρ 0 0 by omega) (ih (a - x) (b - y) (c - (rN ρ s (ρ 0 0 - (k + 1)) - x - y)))
      omega
    · exact Or.inl rfl
def atN (l a b c : Nat) : Nat := ((16 * l + a) * 16 + b) * 16 + c
theorem M_at (l a b c : Nat) (h : mH) : f_M_at (nI l) (nI a) (nI b) (nI c) h = some (nI (atN l a b c), h) := by
  unfold f_M_at f_M_at_0 atN
  rw [show (16 : Int32) = nI 16 from rfl, pk_mul, nI_add, pk_mul, nI_add, pk_mul, nI_add]
theorem M_roomAt (hr : MRt T ρ v) (hk : ROK ρ) {p l : Nat} (hp : p < 3) (hl : l < ρ 0 0) : f_M_roomAt 100 (nI p) (nI l) (bh v w) = some (nI (rR ρ p l), bh v w) := by
  have h2 := hk.1.2.1
  simp only [f_M_roomAt, f_M_roomAt_0, hM v w, bd1_s]
  rw [hr.1.2.1, ite_iff (nI_leI (by omega) (by omega))]
  unfold rR
  by_cases h : p < ρ 0 1
  · rw [if_neg (by omega), if_pos h, N_roomOf hr hk h hl, bd2_s]
  · rw [if_pos (by omega), if_neg h]
    rfl
theorem h_term (hr : MF ρ v) {p l x : Nat} (hl : l < ρ 0 0) (hx : x ≤ rR ρ p l) : nI x * (v 104 l + v 106 p) = nI (x * rH ρ p l) := by
  unfold rR at hx
  unfold rH
  by_cases h : p < ρ 0 1
  · rw [if_pos h, (hr.2.2.1 l hl).2.1, (hr.2.2.2 p h).1, nI_add, pk_mul]
  · rw [if_neg h] at hx ⊢
    obtain rfl : x = 0 := by omega
    rw [Nat.zero_mul]
    exact Int32.zero_mul
theorem M_harmBy (hr : MRt T ρ v) (hk : ROK ρ) {l a b c x y z B : Nat} (hl : l < ρ 0 0) (ha : a < 16) (hb : b < 16) (hc : c < 16) (hx : x ≤ 3) (hy : y ≤ 3) (hz : z ≤ 3) (hB : B = FAR ∨ B ≤ 1000) (ht : x ≤ a → y ≤ b → z ≤ c → v 115 (atN (l + 1) (a - x) (b - y) (c - z)) = nI B) : f_M_harmBy 100 (nI l) (nI a) (nI b) (nI c) (nI x) (nI y) (nI z) (bh v w) = some (nI (rVal ρ l a b c x y z B), bh v w) := by
  have h1 := hk.1.1
  have r0 := rR_le hk (p := 0) hl
  have r1 := rR_le hk (p := 1) hl
  have r2 := rR_le hk (p := 2) hl
  have fB : B < 2 ^ 31 := by unfold FAR at hB; omega
  simp only [f_M_harmBy, f_M_harmBy_0, f_M_harmBy_52]
  unfold rVal
  rw [ite_iff (nI_ltI (by omega) (by omega))]
  by_cases c1 : a < x
  · rw [if_pos c1, if_neg (fun q => by omega)]; rfl
  rw [if_neg c1, ite_iff (nI_ltI (by omega) (by omega))]
  by_cases c2 : b < y
  · rw [if_pos c2, if_neg (fun q => by omega)]; rfl
  rw [if_neg c2, ite_iff (nI_ltI (by omega) (by omega))]
  by_cases c3 : c < z
  · rw [if_pos c3, if_neg (fun q => by omega)]; rfl
  rw [if_neg c3]
  simp only [hM v w, bd1_s]
  rw [show (0 : Int32) = nI 0 from rfl, show (1 : Int32) = nI 1 from rfl, show (2 : Int32) = nI 2 from rfl, M_roomAt hr hk (by decide) hl, bd2_s, ite_iff (nI_ltI (by omega) (by omega))]
  by_cases c4 : rR ρ 0 l < x
  · rw [if_pos c4, if_neg (fun q => by omega)]; rfl
  rw [if_neg c4]
  simp only [hM v w, bd1_s]
  rw [M_roomAt hr hk (by decide) hl, bd2_s, ite_iff (nI_ltI (by omega) (by omega))]
  by_cases c5 : rR ρ 1 l < y
  · rw [if_pos c5, if_neg (fun q => by omega)]; rfl
  rw [if_neg c5]
  simp only [hM v w, bd1_s]
  rw [M_roomAt hr hk (by decide) hl, bd2_s, ite_iff (nI_leI (by omega) (by omega))]
  by_cases c6 : z ≤ rR ρ 2 l
  · rw [if_pos c6]
    simp only [hM v w, bd1_s]
    rw [rd_nI (by omega) (by decide), bd1_s, rd_nI (by decide) (by decide), bd1_s, bd1_s, rd_nI (by decide) (by decide), bd1_s, bd1_s, rd_nI (by decide) (by decide), bd1_s, nI_add l 1, pk_sub (by omega), pk_sub (by omega), pk_sub (by omega), M_at, bd2_s]
    simp only [hM v w, bd1_s]
    rw [rd_nI (by unfold atN; omega) (by decide), bd1_s, ht (by omega) (by omega) (by omega), h_term hr.1 hl (by omega), h_term hr.1 hl (by omega), h_term hr.1 hl c6, nI_add, nI_add, nI_add, show (1000000 : Int32) = nI FAR from rfl, ite_iff (nI_eqI fB (by decide))]
    by_cases c7 : B = FAR
    · rw [if_pos c7, if_neg (fun q => by omega)]
    · rw [if_neg c7, if_pos ⟨by omega, by omega, by omega, by omega, by omega, c6, by unfold FAR at *; omega⟩]
      rfl
  · rw [if_neg c6, if_neg (fun q => c6 q.2.2.2.2.2.1)]; rfl
end
end
/-! 8v.rota2.lean.txt -/
section
section
variable {ρ : Rho} {v : Nat → Nat → Int32} {w : Nat → Nat → Int64} {T : Nat → Nat} {s A B C : Nat}
def rBase (ρ : Rho) (s : Nat) (T : Nat → Nat) (A B C : Nat) (v : Nat → Nat → Int32) : Prop := MRt T ρ v ∧ (∀ l, l < ρ 0 0 → v 116 l = nI (rN ρ s l)) ∧ v 117 0 = nI A ∧ v 117 1 = nI B ∧ v 117 2 = nI C
theorem MRt.frame {v' : Nat → Nat → Int32} (h : MRt T ρ v) (hq : ∀ q, 100 ≤ q ∧ q < 108 → v' q = v q) : MRt T ρ v' := by
  unfold MRt MF MBt at h ⊢
  rw [hq 100 (by omega), hq 101 (by omega), hq 103 (by omega), hq 104 (by omega), hq 105 (by omega), hq 106 (by omega), hq 107 (by omega)]
  exact h
theorem rBase.frame {v' : Nat → Nat → Int32} (h : rBase ρ s T A B C v) (hq : ∀ q, q ≠ 115 → v' q = v q) : rBase ρ s T A B C v' := by
  obtain ⟨h1, h2, h3, h4, h5⟩ := h
  unfold rBase
  rw [hq 116 (by decide), hq 117 (by decide)]
  exact ⟨h1.frame (fun q z => hq q (by omega)), h2, h3, h4, h5⟩
theorem rBst_s {l : Nat} (hl : l < ρ 0 0) (a b c : Nat) : rBst ρ s (ρ 0 0 - l) a b c = rMin (rOpt ρ s (rBst ρ s (ρ 0 0 - (l + 1))) l a b c) 16 := by
  obtain ⟨k, hk⟩ : ∃ k, ρ 0 0 - l = k + 1 := ⟨ρ 0 0 - l - 1, by omega⟩
  rw [hk]
  show rMin (rOpt ρ s (rBst ρ s k) (ρ 0 0 - (k + 1)) a b c) 16 = _
  rw [show ρ 0 0 - (k + 1) = l by omega, show ρ 0 0 - (l + 1) = k by omega]
theorem M_leastOf (hb : rBase ρ s T A B C v) (hk : ROK ρ) {l a b c : Nat} (hl : l < ρ 0 0) (ha : a < 16) (hb2 : b < 16) (hc : c < 16) (ht : ∀ a' b' c', a' ≤ a → b' ≤ b → c' ≤ c → v 115 (atN (l + 1) a' b' c') = nI (rBst ρ s (ρ 0 0 - (l + 1)) a' b' c')) : f_M_leastOf 100 (nI l) (nI a) (nI b) (nI c) (bh v w) = some (nI (rBst ρ s (ρ 0 0 - l) a b c), bh v w) := by
  have h1 := hk.1.1
  rw [rBst_s hl]
  generalize hf : rOpt ρ s (rBst ρ s (ρ 0 0 - (l + 1))) l a b c = f
  have hN := rN_le hk (s := s) hl
  have fF : FAR < 2 ^ 31 := by decide
  have stp : ∀ (rec7 : Nat → Int32 → Int32 → Int32 → Int32 → Int32 → Int32 → mH → Option (Int32 × mH)) (m x y : Nat), x ≤ 3 → y ≤ 3 → f_M_leastOf_16 rec7 (m + 1) 100 (nI l) (nI a) (nI b) (nI c) (nI (rMin f (4 * x + y))) (nI x) (nI y) (bh v w) = f_M_leastOf_16 rec7 m 100 (nI l) (nI a) (nI b) (nI c) (nI (rMin f (4 * x + (y + 1)))) (nI x) (nI (y + 1)) (bh v w) := by
    intro rec7 m x y hx hy
    have hm := rMin_le f (4 * x + y)
    have e1 : rMin f (4 * x + (y + 1)) = if f x y < rMin f (4 * x + y) then f x y else rMin f (4 * x + y) := by
      show (if f ((4 * x + y) / 4) ((4 * x + y) % 4) < rMin f (4 * x + y) then f ((4 * x + y) / 4) ((4 * x + y) % 4) else rMin f (4 * x + y)) = _
      rw [show (4 * x + y) / 4 = x by omega, show (4 * x + y) % 4 = y by omega]
    show f_M_leastOf_16b rec7 (f_M_leastOf_16 rec7 m) 100 (nI l) (nI a) (nI b) (nI c) (nI (rMin f (4 * x + y))) (nI x) (nI y) (bh v w) = _
    unfold f_M_leastOf_16b f_M_leastOf_69 f_M_leastOf_85
    rw [show (3 : Int32) = nI 3 from rfl, if_neg (fun z => by have := (nI_ltI (by omega) (by omega)).mp z; omega)]
    simp only [hM v w, bd1_s]
    rw [rd_nI (by omega) (by decide), bd1_s, hb.2.1 l hl, show nI (rN ρ s l) - nI x - nI y = zI ((rN ρ s l : Int) - x - y) by rw [← zI_n (rN ρ s l), zI_subn, zI_subn], M_in, bd2_s, show (3 : Int64) = (zI 3).toInt64 from rfl]
    by_cases g : 0 ≤ (rN ρ s l : Int) - x - y ∧ (rN ρ s l : Int) - x - y ≤ 3
    · rw [if_pos ((in_lay (by decide) (by decide)).mpr (by rw [zI_t (by omega) (by omega)]; exact g)), if_neg (by decide)]
      simp only [hM v w, bd1_s]
      obtain ⟨z, hz⟩ : ∃ z : Nat, (rN ρ s l : Int) - x - y = z := ⟨((rN ρ s l : Int) - x - y).toNat, by omega⟩
      have ez : rN ρ s l - x - y = z := by omega
      have hB := rBst_or hk s (ρ 0 0 - (l + 1)) (a - x) (b - y) (c - z) (by omega)
      rw [hz, zI_n, M_harmBy hb.1 hk (B := rBst ρ s (ρ 0 0 - (l + 1)) (a - x) (b - y) (c - z)) hl ha hb2 hc hx hy (by omega) (by omega) (fun _ _ _ => ht _ _ _ (by omega) (by omega) (by omega)), bd2_s]
      have ef : f x y = rVal ρ l a b c x y z (rBst ρ s (ρ 0 0 - (l + 1)) (a - x) (b - y) (c - z)) := by
        rw [← hf]
        unfold rOpt
        rw [if_pos (by omega), ez]
      rw [← ef, e1]
      have hv := rVal_or hk (a := a) (b := b) (c := c) (x := x) (y := y) (z := z) hl hB
      rw [← ef] at hv
      have hfl : f x y < 2 ^ 31 := by unfold FAR at hv; omega
      rw [ite_iff (nI_leI (by omega) hfl), nI_1]
      by_cases q : rMin f (4 * x + y) ≤ f x y
      · rw [if_pos q, if_neg (by omega)]
      · rw [if_neg q, if_pos (by omega)]
    · have gi : ¬ ((0 : Int64) ≤ (zI ((rN ρ s l : Int) - x - y)).toInt64 ∧ (zI ((rN ρ s l : Int) - x - y)).toInt64 ≤ (zI 3).toInt64) := fun q => g (by
        have := (in_lay (y := zI ((rN ρ s l : Int) - x - y)) (m := 3) (by decide) (by decide)).mp q
        rwa [zI_t (by omega) (by omega)] at this)
      rw [if_neg gi, if_pos rfl]
      have ef : f x y = FAR := by
        rw [← hf]
        unfold rOpt
        rw [if_neg (by omega)]
      rw [e1, ef, if_neg (show ¬ FAR < rMin f (4 * x + y) by omega), show (1000000 : Int32) = nI FAR from rfl, if_pos ((nI_leI (by omega) fF).mpr hm), nI_1]
  have row : ∀ (rec7 : Nat → Int32 → Int32 → Int32 → Int32 → Int32 → Int32 → mH → Option (Int32 × mH)) (x : Nat), x ≤ 3 → f_M_leastOf_16 rec7 FU 100 (nI l) (nI a) (nI b) (nI c) (nI (rMin f (4 * x))) (nI x) 0 (bh v w) = rec7 100 (nI l) (nI a) (nI b) (nI c) (nI (rMin f (4 * (x + 1)))) (nI (x + 1)) (bh v w) := by
    intro rec7 x hx
    have s0 := stp rec7 599 x 0 hx (by omega)
    have s1 := stp rec7 598 x 1 hx (by omega)
    have s2 := stp rec7 597 x 2 hx (by omega)
    have s3 := stp rec7 596 x 3 hx (by omega)
    refine (s0.trans (s1.trans (s2.trans s3))).trans ?_
    show f_M_leastOf_16b rec7 (f_M_leastOf_16 rec7 595) 100 (nI l) (nI a) (nI b) (nI c) (nI (rMin f (4 * x + 4))) (nI x) (nI 4) (bh v w) = _
    unfold f_M_leastOf_16b
    rw [if_pos (by decide), nI_1, show 4 * (x + 1) = 4 * x + 4 by omega]
  have r0 : ∀ (m x : Nat), x ≤ 3 → f_M_leastOf_7 (m + 1) 100 (nI l) (nI a) (nI b) (nI c) (nI (rMin f (4 * x))) (nI x) (bh v w) = f_M_leastOf_7 m 100 (nI l) (nI a) (nI b) (nI c) (nI (rMin f (4 * (x + 1)))) (nI (x + 1)) (bh v w) := by
    intro m x hx
    show f_M_leastOf_7b (f_M_leastOf_7 m) 100 (nI l) (nI a) (nI b) (nI c) (nI (rMin f (4 * x))) (nI x) (bh v w) = _
    unfold f_M_leastOf_7b
    rw [show (3 : Int32) = nI 3 from rfl, if_neg (fun z => by have := (nI_ltI (by omega) (by omega)).mp z; omega), row _ x hx]
  have t0 := r0 599 0 (by omega)
  have t1 := r0 598 1 (by omega)
  have t2 := r0 597 2 (by omega)
  have t3 := r0 596 3 (by omega)
  refine (t0.trans (t1.trans (t2.trans t3))).trans ?_
  show f_M_leastOf_7b (f_M_leastOf_7 595) 100 (nI l) (nI a) (nI b) (nI c) (nI (rMin f 16)) (nI 4) (bh v w) = _
  unfold f_M_leastOf_7b
  rw [if_pos (by decide)]
/-- what is done of the table -/
def rP (ρ : Rho) (s A B C l0 a0 b0 c0 : Nat) (v : Nat → Nat → Int32) : Prop := ∀ l a b c, l ≤ ρ 0 0 → a ≤ A → b ≤ B → c ≤ C → (l0 < l ∨ l = l0 ∧ (a < a0 ∨ a = a0 ∧ (b < b0 ∨ b = b0 ∧ c < c0))) → v 115 (atN l a b c) = nI (rBst ρ s (ρ 0 0 - l) a b c)
theorem atN_inj {l a b c l' a' b' c' : Nat} (h : atN l a b c = atN l' a' b' c') (ha : a < 16) (hb : b < 16) (hc : c < 16) (ha' : a' < 16) (hb' : b' < 16) (hc' : c' < 16) : l = l' ∧ a = a' ∧ b = b' ∧ c = c' := by
  unfold atN at h
  omega
theorem M_cLoop (hk : ROK ρ) (hA : A < 16) (hB : B < 16) (hC : C < 16) (rec5 : Nat → Int32 → mH → Option (Int32 × mH)) (rec11 : Nat → Int32 → Int32 → mH → Option (Int32 × mH)) (rec23 : Nat → Int32 → Int32 → Int32 → mH → Option (Int32 × mH)) {l a b : Nat} (hl : l ≤ ρ 0 0) (ha : a ≤ A) (hbb : b ≤ B) : ∀ (k fuel c : Nat) (v : Nat → Nat → Int32), k < fuel → c + k = C + 1 → rBase ρ s T A B C v → rP ρ s A B C l a b c v → ∃ v', f_M_findRota_36 rec5 rec11 rec23 fuel 100 (nI l) (nI a) (nI b) (nI c) (bh v w) = rec23 100 (nI l) (nI a) (nI (b + 1)) (bh v' w) ∧ rP ρ s A B C l a (b + 1) 0 v' ∧ ∀ q, q ≠ 115 → v' q = v q := by
  have h1 := hk.1.1
  intro k
  induction k with
  | zero =>
    intro fuel c v hf hc hb hp
    obtain ⟨n, rfl⟩ : ∃ n, fuel = n + 1 := ⟨fuel - 1, by omega⟩
    refine ⟨v, ?_, fun l' a' b' c' q1 q2 q3 q4 q5 => hp l' a' b' c' q1 q2 q3 q4 (by omega), fun _ _ => rfl⟩
    show f_M_findRota_36b rec5 rec11 rec23 (f_M_findRota_36 rec5 rec11 rec23 n) 100 (nI l) (nI a) (nI b) (nI c) (bh v w) = _
    unfold f_M_findRota_36b
    simp only [hM v w, bd1_s]
    have e2 : rd (v 117) 3 (2 : Int32) = some (nI C) := by rw [← hb.2.2.2.2]; rfl
    rw [e2, bd1_s, if_pos ((nI_ltI (by omega) (by omega)).mpr (by omega)), nI_1]
  | succ k ih =>
    intro fuel c v hf hc hb hp
    obtain ⟨n, rfl⟩ : ∃ n, fuel = n + 1 := ⟨fuel - 1, by omega⟩
    have wr1 : ∀ x : Nat, x = rBst ρ s (ρ 0 0 - l) a b c → ∃ v', f_M_findRota_36 rec5 rec11 rec23 n 100 (nI l) (nI a) (nI b) (nI (c + 1)) (bh (u2 v 115 (atN l a b c) (nI x)) w) = rec23 100 (nI l) (nI a) (nI (b + 1)) (bh v' w) ∧ rP ρ s A B C l a (b + 1) 0 v' ∧ ∀ q, q ≠ 115 → v' q = v q := by
      intro x hx
      have hp' : rP ρ s A B C l a b (c + 1) (u2 v 115 (atN l a b c) (nI x)) := by
        intro l' a' b' c' q1 q2 q3 q4 q5
        by_cases e : atN l' a' b' c' = atN l a b c
        · obtain ⟨z1, z2, z3, z4⟩ := atN_inj e (by omega) (by omega) (by omega) (by omega) (by omega) (by omega)
          rw [z1, z2, z3, z4, u2_at, hx]
        · rw [u2_n e]
          refine hp l' a' b' c' q1 q2 q3 q4 ?_
          have : ¬ (l' = l ∧ a' = a ∧ b' = b ∧ c' = c) := fun z => e (by rw [z.1, z.2.1, z.2.2.1, z.2.2.2])
          omega
      obtain ⟨v', e1, e2, e3⟩ := ih n (c + 1) (u2 v 115 (atN l a b c) (nI x)) (by omega) (by omega) (hb.frame (fun q hq => u2_o hq)) hp'
      exact ⟨v', e1, e2, fun q hq => (e3 q hq).trans (u2_o hq)⟩
    show ∃ v', f_M_findRota_36b rec5 rec11 rec23 (f_M_findRota_36 rec5 rec11 rec23 n) 100 (nI l) (nI a) (nI b) (nI c) (bh v w) = _ ∧ _
    unfold f_M_findRota_36b f_M_findRota_80
    simp only [hM v w, bd1_s]
    have e2 : rd (v 117) 3 (2 : Int32) = some (nI C) := by rw [← hb.2.2.2.2]; rfl
    rw [e2, bd1_s, if_neg (fun z => by have := (nI_ltI (by omega) (by omega)).mp z; omega), M_at, bd2_s]
    simp only [hM v w, bd1_s]
    rw [hb.1.1.1, ite_iff (nI_eqI (by omega) (by omega)), wr_nI (by unfold atN; omega) (by decide), bd1_s, nI_1]
    by_cases e : l = ρ 0 0
    · rw [if_pos e]
      exact wr1 0 (by rw [e, Nat.sub_self]; rfl)
    · rw [if_neg e, M_leastOf hb hk (by omega) (by omega) (by omega) (by omega) (fun a' b' c' q1 q2 q3 => hp (l + 1) a' b' c' (by omega) (by omega) (by omega) (by omega) (by omega)), bd2_s]
      simp only [hM v w, bd1_s]
      rw [wr_nI (by unfold atN; omega) (by decide), bd1_s]
      exact wr1 _ rfl
end
end
end
