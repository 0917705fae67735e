/-! 8a.count.lean.txt -/
section
section
variable {ρ : Rho} {v : Nat → Nat → Int32} {w : Nat → Nat → Int64} {o : Nat}
theorem C_brokenInAll (ho : rl o) (hr : CR o ρ v) (hk : ROK ρ) : f_Realm_brokenInAll o (bh v w) = some (nI (sumN (sAll ρ) (ρ 0 1)), bh v w) := by
  have h2 := hk.1.2.1
  have key : ∀ (k fuel i : Nat), k < fuel → i + k = ρ 0 1 → f_Realm_brokenInAll_4 fuel o (nI (sumN (sAll ρ) i)) (nI i) (bh v w) = some (nI (sumN (sAll ρ) (ρ 0 1)), bh v w) := by
    intro k
    induction k with
    | zero =>
      intro fuel i hf hi
      obtain ⟨n, rfl⟩ : ∃ n, fuel = n + 1 := ⟨fuel - 1, by omega⟩
      simp only [f_Realm_brokenInAll_4, f_Realm_brokenInAll_4b, hRl ho v w, bd1_s]
      rw [hr.1.2.1, if_pos (nI_le (by omega) (by omega)), show i = ρ 0 1 by omega]
    | succ k ih =>
      intro fuel i hf hi
      obtain ⟨n, rfl⟩ : ∃ n, fuel = n + 1 := ⟨fuel - 1, by omega⟩
      simp only [f_Realm_brokenInAll_4, f_Realm_brokenInAll_4b, hRl ho v w, bd1_s]
      rw [hr.1.2.1, if_neg (nI_ge (by omega) (by omega)), C_brokenByOne ho hr hk (by omega), bd2_s, nI_add, nI_1]
      exact ih n (i + 1) (by omega) (by omega)
  exact key (ρ 0 1) FU 0 (by unfold FU; omega) (by omega)
theorem C_allPurses (ho : rl o) (hr : CR o ρ v) (hk : ROK ρ) : f_Realm_allPurses o (bh v w) = some (nI (sumN (ρ 9) (ρ 0 1)), bh v w) := by
  have h2 := hk.1.2.1
  have key : ∀ (k fuel i : Nat), k < fuel → i + k = ρ 0 1 → f_Realm_allPurses_4 fuel o (nI (sumN (ρ 9) i)) (nI i) (bh v w) = some (nI (sumN (ρ 9) (ρ 0 1)), bh v w) := by
    intro k
    induction k with
    | zero =>
      intro fuel i hf hi
      obtain ⟨n, rfl⟩ : ∃ n, fuel = n + 1 := ⟨fuel - 1, by omega⟩
      simp only [f_Realm_allPurses_4, f_Realm_allPurses_4b, hRl ho v w, bd1_s]
      rw [hr.1.2.1, if_pos (nI_le (by omega) (by omega)), show i = ρ 0 1 by omega]
    | succ k ih =>
      intro fuel i hf hi
      obtain ⟨n, rfl⟩ : ∃ n, fuel = n + 1 := ⟨fuel - 1, by omega⟩
      simp only [f_Realm_allPurses_4, f_Realm_allPurses_4b, hRl ho v w, bd1_s]
      rw [hr.1.2.1, if_neg (nI_ge (by omega) (by omega)), rd_nI (by omega) (by decide), bd1_s, (hr.2.2.1 i (by omega)).2.2.2.1, nI_add, nI_1]
      exact ih n (i + 1) (by omega) (by omega)
  exact key (ρ 0 1) FU 0 (by unfold FU; omega) (by omega)
theorem C_allNeed (ho : rl o) (hr : CR o ρ v) (hk : ROK ρ) : f_Realm_allNeed o (bh v w) = some (nI (sumN (sNeed ρ) (ρ 0 0)), bh v w) := by
  have h1 := hk.1.1
  have key : ∀ (k fuel i : Nat), k < fuel → i + k = ρ 0 0 → f_Realm_allNeed_4 fuel o (nI (sumN (sNeed ρ) i)) (nI i) (bh v w) = some (nI (sumN (sNeed ρ) (ρ 0 0)), bh v w) := by
    intro k
    induction k with
    | zero =>
      intro fuel i hf hi
      obtain ⟨n, rfl⟩ : ∃ n, fuel = n + 1 := ⟨fuel - 1, by omega⟩
      simp only [f_Realm_allNeed_4, f_Realm_allNeed_4b, hRl ho v w, bd1_s]
      rw [hr.1.1, if_pos (nI_le (by omega) (by omega)), show i = ρ 0 0 by omega]
    | succ k ih =>
      intro fuel i hf hi
      obtain ⟨n, rfl⟩ : ∃ n, fuel = n + 1 := ⟨fuel - 1, by omega⟩
      simp only [f_Realm_allNeed_4, f_Realm_allNeed_4b, hRl ho v w, bd1_s]
      rw [hr.1.1, if_neg (nI_ge (by omega) (by omega)), C_needOf ho hr hk (by omega), bd2_s, nI_add, nI_1]
      exact ih n (i + 1) (by omega) (by omega)
  exact key (ρ 0 0) FU 0 (by unfold FU; omega) (by omega)
theorem Q_countKept {a b : Nat} (ha : v 38 0 = nI a) (hb : v 38 1 = nI b) (la : a ≤ 1) (lb : b ≤ 1) : f_Q_countKept 0 (bh v w) = some (nI (a + b), bh v w) := by
  have e0 : rd (v 38) 2 (0 : Int32) = some (nI a) := by rw [← ha]; rfl
  have e1 : rd (v 38) 2 (1 : Int32) = some (nI b) := by rw [← hb]; rfl
  have st : ∀ (n : Nat) (s i : Int32) (x : Nat), rd (v 38) 2 i = some (nI x) → x ≤ 1 → ¬ (2 : Int32) ≤ i → f_Q_countKept_4 (n + 1) 0 s i (bh v w) = f_Q_countKept_4 n 0 (s + nI x) (i + 1) (bh v w) := by
    intro n s i x ex hx hi
    simp only [f_Q_countKept_4, f_Q_countKept_4b, f_Q_countKept_24, hQ v w, bd1_s]
    rw [if_neg hi, ex, bd1_s]
    rcases (show x = 0 ∨ x = 1 by omega) with rfl | rfl
    · rw [if_pos (show nI 0 = 0 from rfl)]; rfl
    · rw [if_neg (by decide)]; rfl
  have en : ∀ (n : Nat) (s i : Int32), (2 : Int32) ≤ i → f_Q_countKept_4 (n + 1) 0 s i (bh v w) = some (s, bh v w) := by
    intro n s i hi
    simp only [f_Q_countKept_4, f_Q_countKept_4b]
    rw [if_pos hi]
  refine ((st 599 0 0 a e0 la (by decide)).trans (st 598 (0 + nI a) 1 b e1 lb (by decide))).trans ?_
  refine (en 597 _ _ (by decide)).trans ?_
  rw [show (0 : Int32) = nI 0 from rfl, nI_add, nI_add, Nat.zero_add]
/-- the sums that the reference's count makes -/
theorem M_count_50 (hr : MR ρ v) (hk : ROK ρ) (x a b : Int32) : f_M_count 100 x (bh v w) = f_M_count_50 FU 100 x (nI (sumN (sAll ρ) (ρ 0 1))) (nI (sumN (ρ 9) (ρ 0 1))) 0 0 (bh v w) := by
  have h2 := hk.1.2.1
  have key : ∀ (k fuel i : Nat), k < fuel → i + k = ρ 0 1 → f_M_count_10 fuel 100 x (nI (sumN (sAll ρ) i)) (nI (sumN (ρ 9) i)) 0 (nI i) (bh v w) = f_M_count_50 FU 100 x (nI (sumN (sAll ρ) (ρ 0 1))) (nI (sumN (ρ 9) (ρ 0 1))) 0 0 (bh v w) := by
    intro k
    induction k with
    | zero =>
      intro fuel i hf hi
      obtain ⟨n, rfl⟩ : ∃ n, fuel = n + 1 := ⟨fuel - 1, by omega⟩
      simp only [f_M_count_10, f_M_count_10b, hM v w, bd1_s]
      rw [hr.1.2.1, if_pos (nI_le (by omega) (by omega)), show i = ρ 0 1 by omega]
    | succ k ih =>
      intro fuel i hf hi
      obtain ⟨n, rfl⟩ : ∃ n, fuel = n + 1 := ⟨fuel - 1, by omega⟩
      simp only [f_M_count_10, f_M_count_10b, hM v w, bd1_s]
      have := hr.2.2.2.2.2.2.1 i (by omega)
      rw [show 0 + 15 + i = 15 + i by omega] at this
      rw [hr.1.2.1, if_neg (nI_ge (by omega) (by omega)), M_allBy hr hk (by omega), bd2_s]
      simp only [hM v w, bd1_s]
      rw [show (15 : Int32) + nI i = nI (15 + i) by rw [show (15 : Int32) = nI 15 from rfl, nI_add], rd_nI (by omega) (by decide), bd1_s, this, nI_add, nI_add, nI_1]
      exact ih n (i + 1) (by omega) (by omega)
  exact key (ρ 0 1) FU 0 (by unfold FU; omega) (by omega)
end
section
variable {S : Sg} {v : Nat → Nat → Int32} {w : Nat → Nat → Int64}
theorem E_count (x : Int32) (hs : SOK S) (hc : CI S v) (hm : MI S v) : Eqv S v w (f_Q_count 0 x) (f_M_count 100 x) := by
  have h1 := hs.1.1.1
  have h2 := hs.1.1.2.1
  have hst := hs.1.st
  obtain ⟨a, ha, la⟩ : ∃ a : Nat, S.2.2 3 0 = a ∧ a ≤ 1 := by
    rcases hs.2.1 0 (by omega) with z | z
    · exact ⟨0, z, by omega⟩
    · exact ⟨1, z.1, by omega⟩
  obtain ⟨b, hb, lb⟩ : ∃ b : Nat, S.2.2 3 1 = b ∧ b ≤ 1 := by
    rcases hs.2.1 1 (by omega) with z | z
    · exact ⟨0, z, by omega⟩
    · exact ⟨1, z.1, by omega⟩
  have k0 : v 38 0 = nI a := by rw [(hc.2.1 0 (by omega)).1, ha]; rfl
  have k1 : v 38 1 = nI b := by rw [(hc.2.1 1 (by omega)).1, hb]; rfl
  have c5 : v 92 0 = zI (if S.2.2 4 0 = -4 then -4 else S.2.2 5 0) := (hc.2.2.2.2.2.1 0 (by omega)).1
  have eA : aR (bh v w) 5 39 (0 : Int32) = some 92 := rfl
  refine Eqv.query (r := if x = 0 then nI (sumN (bit (S.1 0 4)) 5) else if x = 1 then nI (sumN (sAll S.1) (S.1 0 1)) else if x = 2 then nI (S.1 0 6) else if x = 3 then nI (a + b) else if x = 4 then zI (S.2.2 0 0) else if x = 5 then zI (if S.2.2 4 0 = -4 then -4 else S.2.2 5 0) else if x = 6 then nI (sumN (S.1 9) (S.1 0 1)) else if x = 7 then nI (sumN (sNeed S.1) (S.1 0 0)) else -1) hs hc hm ?_ ?_
  · simp only [f_Q_count, f_Q_count_0, q_now, hQ v w, hRl rl3 v w, bd1_s, eA]
    rw [hc.1.1.2.2.2.2.1, bitCount_I _ hst, C_brokenInAll rl3 hc.1 hs.1, Q_countKept k0 k1 la lb, C_allPurses rl3 hc.1 hs.1, C_allNeed rl3 hc.1 hs.1]
    simp only [bd2_s]
    rw [show v (3 + 13) 0 = nI (S.1 0 6) from hc.1.1.2.2.2.2.2.2, hc.2.2.1, c5]
    repeat' refine it_sp ?_ ?_
    all_goals first | rfl | (split <;> rfl)
  · rw [M_count_50 hm.1 hs.1 x 0 0]
    have m0 : rd (v 102) 2 (0 : Int32) = some (nI a) := by rw [show nI a = zI (S.2.2 3 0) by rw [ha]; rfl, ← (hm.2.1 0 (by omega)).1]; rfl
    have m1 : rd (v 102) 2 (1 : Int32) = some (nI b) := by rw [show nI b = zI (S.2.2 3 1) by rw [hb]; rfl, ← (hm.2.1 1 (by omega)).1]; rfl
    have m4 : rd (v 123) 4 (0 : Int32) = some (zI (S.2.2 4 0)) := by rw [← (hm.2.2.2.2.2.1 0 (by omega)).1]; rfl
    have m5 : rd (v 124) 4 (0 : Int32) = some (zI (S.2.2 5 0)) := by rw [← (hm.2.2.2.2.2.1 0 (by omega)).2.1]; rfl
    have e10 : rd (v 101) 198 (10 : Int32) = some (nI (S.1 0 4)) := by rw [← hm.1.2.2.2.1]; rfl
    have e41 : rd (v 101) 198 (41 : Int32) = some (nI (S.1 0 6)) := by rw [← hm.1.2.2.2.2.2.2.2.2.2.2.2.2.1]; rfl
    have fl : ∀ a, a ≤ 1 → ∀ h, f_M_flag (nI a) h = some (nI a, h) := by
      intro a la h
      simp only [f_M_flag, f_M_flag_0]
      rcases (show a = 0 ∨ a = 1 by omega) with rfl | rfl <;> rfl
    have i4 : zI (S.2.2 4 0) = -4 ↔ S.2.2 4 0 = -4 := by
      rcases (hs.2.2.2.2.2 0 (by omega)).1 with z | z
      · rw [z]; exact ⟨fun _ => rfl, fun _ => rfl⟩
      · rcases (show S.2.2 4 0 = 0 ∨ S.2.2 4 0 = 1 ∨ S.2.2 4 0 = 2 by omega) with y | y | y <;> rw [y] <;> decide
    have key : ∀ (k fuel i : Nat), k < fuel → i + k = S.1 0 0 → f_M_count_50 fuel 100 x (nI (sumN (sAll S.1) (S.1 0 1))) (nI (sumN (S.1 9) (S.1 0 1))) (nI (sumN (sNeed S.1) i)) (nI i) (bh v w) = some (if x = 0 then nI (sumN (bit (S.1 0 4)) 5) else if x = 1 then nI (sumN (sAll S.1) (S.1 0 1)) else if x = 2 then nI (S.1 0 6) else if x = 3 then nI (a + b) else if x = 4 then zI (S.2.2 0 0) else if x = 5 then zI (if S.2.2 4 0 = -4 then -4 else S.2.2 5 0) else if x = 6 then nI (sumN (S.1 9) (S.1 0 1)) else if x = 7 then nI (sumN (sNeed S.1) (S.1 0 0)) else -1, bh v w) := by
      intro k
      induction k with
      | zero =>
        intro fuel i hf hi
        obtain ⟨n, rfl⟩ : ∃ n, fuel = n + 1 := ⟨fuel - 1, by omega⟩
        simp only [f_M_count_50, f_M_count_50b, hM v w, bd1_s]
        rw [hm.1.1.1, if_pos (nI_le (by omega) (by omega)), show i = S.1 0 0 by omega]
        simp only [e10, e41, m0, m1, m4, m5, bd1_s, bd2_s, M_bitsOf (show S.1 0 4 < 2 ^ 31 by omega), fl a la, fl b lb, hM v w, nI_add, hm.2.2.1, i4]
        repeat' refine it_sp ?_ ?_
        all_goals first | rfl | (split <;> rfl)
      | succ k ih =>
        intro fuel i hf hi
        obtain ⟨n, rfl⟩ : ∃ n, fuel = n + 1 := ⟨fuel - 1, by omega⟩
        simp only [f_M_count_50, f_M_count_50b, hM v w, bd1_s]
        rw [hm.1.1.1, if_neg (nI_ge (by omega) (by omega)), M_needOf hm.1 hs.1 (by omega), bd2_s, nI_add, nI_1]
        exact ih n (i + 1) (by omega) (by omega)
    exact key (S.1 0 0) FU 0 (by unfold FU; omega) (by omega)
end
end
/-! 8b.sheet.lean.txt -/
section
/-! sheets -/
theorem hSh {k : Nat} (hk : k < 4) (v : Nat → Nat → Int32) (w : Nat → Nat → Int64) : kC (bh v w) (92 + 2 * k) 5 = some () ∧ gI (bh v w) (92 + 2 * k) 5 0 = some (v (92 + 2 * k) 0) ∧ (∀ x, pV (bh v w) (92 + 2 * k) 5 0 (.int x) = some (bh (u2 v (92 + 2 * k) 0 x) w)) ∧ gI (bh v w) (92 + 2 * k) 5 1 = some (v (92 + 2 * k) 1) ∧ (∀ x, pV (bh v w) (92 + 2 * k) 5 1 (.int x) = some (bh (u2 v (92 + 2 * k) 1 x) w)) ∧ gR (bh v w) (92 + 2 * k) 5 2 = some (93 + 2 * k) ∧ aN (bh v w) 0 (93 + 2 * k) = some (nI 40) ∧ (∀ i, aI (bh v w) 0 (93 + 2 * k) i = rd (v (93 + 2 * k)) 40 i) ∧ (∀ i x, sI (bh v w) 0 (93 + 2 * k) i x = wr v w (93 + 2 * k) 40 i x) ∧ aR (bh v w) 5 39 (nI k) = some (92 + 2 * k) := by
  rcases (show k = 0 ∨ k = 1 ∨ k = 2 ∨ k = 3 by omega) with rfl | rfl | rfl | rfl <;> exact ⟨rfl, rfl, (fun _ => pV_bh rfl rfl), rfl, (fun _ => pV_bh rfl rfl), rfl, rfl, aI_bh rfl, sI_bh rfl, rfl⟩
theorem M_isSheet (x y : Int32) (h : mH) : f_M_isSheet x y h = some (if (0 ≤ x.toInt ∧ x.toInt < ((3 + 1 : Nat) : Int)) ∧ (0 ≤ y.toInt ∧ y.toInt < ((2 + 1 : Nat) : Int)) then 1 else 0, h) := by
  simp only [f_M_isSheet, f_M_isSheet_0, f_M_isSheet_28, M_in, bd2_s]
  rw [show (3 : Int64) = (nI 3).toInt64 from rfl, show (2 : Int64) = (nI 2).toInt64 from rfl]
  by_cases hx : 0 ≤ x.toInt ∧ x.toInt < ((3 + 1 : Nat) : Int)
  · rw [if_pos ((in_rngL (by decide)).mpr hx), if_neg (by decide)]
    by_cases hy : 0 ≤ y.toInt ∧ y.toInt < ((2 + 1 : Nat) : Int)
    · rw [if_pos ((in_rngL (by decide)).mpr hy), if_neg (by decide), if_pos ⟨hx, hy⟩]
    · rw [if_neg (fun z => hy ((in_rngL (by decide)).mp z)), if_pos rfl, if_neg (fun z => hy z.2)]
  · rw [if_neg (fun z => hx ((in_rngL (by decide)).mp z)), if_pos rfl, if_neg (fun z => hx z.1)]
/-- the rest with a new sheet k -/
def xsh (X : Nat → Nat → Int) (k : Nat) (lane n : Int) : Nat → Nat → Int := va_up (upX (upX X 4 k lane) 5 k n) 6 (fun i => if 40 * k ≤ i ∧ i < 40 * k + 40 then 0 else X 6 i)
section
variable {S : Sg} {v v1 : Nat → Nat → Int32} {w : Nat → Nat → Int64} {k : Nat}
theorem SOK_sh {a n : Nat} (hs : SOK S) (ha : a ≤ 2) (hn : n ≤ 40) : SOK (S.1, S.2.1, xsh S.2.2 k a n) := by
  obtain ⟨h1, h2, h3, h4, h5, h6⟩ := hs
  refine ⟨h1, h2, h3, h4, h5, fun j hj => ?_⟩
  show (va_up (S.2.2 4) k (a : Int) j = -4 ∨ 0 ≤ va_up (S.2.2 4) k (a : Int) j ∧ va_up (S.2.2 4) k (a : Int) j ≤ 2) ∧ 0 ≤ va_up (S.2.2 5) k (n : Int) j ∧ va_up (S.2.2 5) k (n : Int) j ≤ 40
  by_cases e : j = k
  · subst e; rw [up_at, up_at]; omega
  · rw [up_ne e, up_ne e]; exact h6 j hj
theorem CI_sh {a n : Nat} (hc : CI S v) (hk : k < 4) (hq : ∀ q, q ≠ 92 + 2 * k → q ≠ 93 + 2 * k → v1 q = v q) (hn : v1 (92 + 2 * k) 0 = nI n) (ha : v1 (92 + 2 * k) 1 = nI a) (hz : ∀ i, i < 40 → v1 (93 + 2 * k) i = 0) : CI (S.1, S.2.1, xsh S.2.2 k a n) v1 := by
  obtain ⟨h1, h2, h3, h4, h5, h6, h7⟩ := hc
  refine ⟨h1.frame (fun p _ _ => hq p (by omega) (by omega)), fun j hj => ?_, ?_, ?_, ?_, fun j hj => ?_, ?_⟩
  · rw [hq 38 (by omega) (by omega)]
    exact ⟨(h2 j hj).1, fun z => ((h2 j hj).2 z).frame (fun p _ _ => hq p (by omega) (by omega))⟩
  · rw [hq 1 (by omega) (by omega)]; exact h3
  · rw [hq 2 (by omega) (by omega)]; exact h4
  · rw [hq 1 (by omega) (by omega)]; exact h5
  · show v1 (92 + 2 * j) 0 = zI (if va_up (S.2.2 4) k (a : Int) j = -4 then -4 else va_up (S.2.2 5) k (n : Int) j) ∧ (va_up (S.2.2 4) k (a : Int) j ≠ -4 → v1 (92 + 2 * j) 1 = zI (va_up (S.2.2 4) k (a : Int) j)) ∧ ∀ i, i < 40 → v1 (93 + 2 * j) i = zI (if 40 * k ≤ 40 * j + i ∧ 40 * j + i < 40 * k + 40 then 0 else S.2.2 6 (40 * j + i))
    by_cases e : j = k
    · subst e
      rw [up_at, up_at, if_neg (by omega), zI_n, zI_n]
      exact ⟨hn, fun _ => ha, fun i hi => by rw [if_pos (by omega)]; exact hz i hi⟩
    · rw [up_ne e, up_ne e, hq (92 + 2 * j) (by omega) (by omega), hq (93 + 2 * j) (by omega) (by omega)]
      exact ⟨(h6 j hj).1, (h6 j hj).2.1, fun i hi => by rw [if_neg (by omega)]; exact (h6 j hj).2.2 i hi⟩
  · rw [hq 0 (by omega) (by omega), hq 43 (by omega) (by omega)]; exact h7
theorem MI_sh {a n : Nat} (hm : MI S v) (hk : k < 4) (hq : ∀ q, q ≠ 123 → q ≠ 124 → q ≠ 125 → v1 q = v q) (ha : ∀ j, v1 123 j = if j = k then nI a else v 123 j) (hn : ∀ j, v1 124 j = if j = k then nI n else v 124 j) (hz : ∀ i, v1 125 i = if 40 * k ≤ i ∧ i < 40 * k + 40 then 0 else v 125 i) : MI (S.1, S.2.1, xsh S.2.2 k a n) v1 := by
  obtain ⟨⟨h1, h1b⟩, h2, h3, h4, h5, h6, h7⟩ := hm
  refine ⟨⟨?_, h1b.frame (hq 101 (by omega) (by omega) (by omega))⟩, fun j hj => ?_, ?_, ?_, ?_, fun j hj => ?_, ?_⟩
  · unfold MF
    rw [hq 100 (by omega) (by omega) (by omega), hq 103 (by omega) (by omega) (by omega), hq 104 (by omega) (by omega) (by omega), hq 105 (by omega) (by omega) (by omega), hq 106 (by omega) (by omega) (by omega), hq 107 (by omega) (by omega) (by omega)]
    exact h1
  · rw [hq 102 (by omega) (by omega) (by omega)]
    exact ⟨(h2 j hj).1, fun z => ((h2 j hj).2 z).frame (hq 101 (by omega) (by omega) (by omega))⟩
  · rw [hq 100 (by omega) (by omega) (by omega)]; exact h3
  · rw [hq 114 (by omega) (by omega) (by omega)]; exact h4
  · rw [hq 100 (by omega) (by omega) (by omega)]; exact h5
  · show v1 123 j = zI (va_up (S.2.2 4) k (a : Int) j) ∧ v1 124 j = zI (va_up (S.2.2 5) k (n : Int) j) ∧ ∀ i, i < 40 → v1 125 (40 * j + i) = zI (if 40 * k ≤ 40 * j + i ∧ 40 * j + i < 40 * k + 40 then 0 else S.2.2 6 (40 * j + i))
    rw [ha, hn]
    by_cases e : j = k
    · subst e
      rw [up_at, up_at, if_pos rfl, if_pos rfl, zI_n, zI_n]
      exact ⟨rfl, rfl, fun i hi => by rw [hz, if_pos (by omega), if_pos (by omega)]; rfl⟩
    · rw [up_ne e, up_ne e, if_neg e, if_neg e]
      exact ⟨(h6 j hj).1, (h6 j hj).2.1, fun i hi => by rw [hz, if_neg (by omega), if_neg (by omega)]; exact (h6 j hj).2.2 i hi⟩
  · rw [hq 100 (by omega) (by omega) (by omega)]; exact h7
theorem M_sheet_z (hk : k < 4) (v : Nat → Nat → Int32) (w : Nat → Nat → Int64) : ∃ v1, f_M_sheet_40 FU 100 (nI k) 0 (bh v w) = some (1, bh v1 w) ∧ (∀ q, q ≠ 125 → v1 q = v q) ∧ ∀ i, v1 125 i = if 40 * k ≤ i ∧ i < 40 * k + 40 then 0 else v 125 i := by
  have key : ∀ (m fuel j : Nat) (v : Nat → Nat → Int32), m < fuel → j + m = 40 → ∃ v1, f_M_sheet_40 fuel 100 (nI k) (nI j) (bh v w) = some (1, bh v1 w) ∧ (∀ q, q ≠ 125 → v1 q = v q) ∧ ∀ i, v1 125 i = if 40 * k + j ≤ i ∧ i < 40 * k + 40 then 0 else v 125 i := by
    intro m
    induction m with
    | zero =>
      intro fuel j v hf hj
      obtain ⟨n, rfl⟩ : ∃ n, fuel = n + 1 := ⟨fuel - 1, by omega⟩
      simp only [f_M_sheet_40, f_M_sheet_40b]
      rw [show (40 : Int32) = nI 40 from rfl, if_pos ((nI_leI (by omega) (by omega)).mpr (by omega))]
      exact ⟨v, rfl, fun _ _ => rfl, fun i => by rw [if_neg (by omega)]⟩
    | succ m ih =>
      intro fuel j v hf hj
      obtain ⟨n, rfl⟩ : ∃ n, fuel = n + 1 := ⟨fuel - 1, by omega⟩
      simp only [f_M_sheet_40, f_M_sheet_40b, hM v w, bd1_s]
      rw [show (40 : Int32) = nI 40 from rfl, if_neg (fun z => by have := (nI_leI (by omega) (by omega)).mp z; omega), pk_mul, nI_add, wr_nI (by omega) (by decide), bd1_s, nI_1]
      obtain ⟨v1, e1, f1, f2⟩ := ih n (j + 1) (u2 v 125 (40 * k + j) 0) (by omega) (by omega)
      refine ⟨v1, e1, fun q hq => (f1 q hq).trans (u2_o hq), fun i => ?_⟩
      rw [f2]
      by_cases e : i = 40 * k + j
      · subst e; rw [if_neg (by omega), if_pos (by omega), u2_at]
      · by_cases z : 40 * k + j ≤ i ∧ i < 40 * k + 40
        · rw [if_pos (by omega), if_pos z]
        · rw [if_neg (by omega), if_neg z, u2_n e]
  exact key 40 FU 0 v (by unfold FU; omega) (by omega)
theorem E_sheet (x y z : Int32) (hs : SOK S) (hc : CI S v) (hm : MI S v) : Eqv S v w (f_Q_sheet 0 x y z) (f_M_sheet 100 x y z) := by
  have i40 : ∀ z : Int32, z ≤ 40 ↔ z.toInt ≤ 40 := fun z => by rw [Int32.le_iff_toInt_le]; rfl
  have i0 : ∀ z : Int32, 0 ≤ z ↔ 0 ≤ z.toInt := fun z => by rw [Int32.le_iff_toInt_le]; rfl
  by_cases hx : 0 ≤ x.toInt ∧ x.toInt < ((3 + 1 : Nat) : Int)
  · by_cases hy : 0 ≤ y.toInt ∧ y.toInt < ((2 + 1 : Nat) : Int)
    · by_cases h40 : z ≤ 40
      · by_cases h0 : 0 ≤ z
        · obtain ⟨k, hk, rfl⟩ := ix (by omega) hx
          obtain ⟨a, ha, rfl⟩ := ix (by omega) hy
          obtain ⟨n, hn, rfl⟩ := ix (n := 41) (x := z) (by omega) (by have := (i40 z).mp h40; have := (i0 z).mp h0; omega)
          obtain ⟨v1, e1, f1, f2, f3⟩ := fill_I (q := 93 + 2 * k) (n := 40) (x := 0) (by omega) (fun v w => (hSh hk v w).2.2.2.2.2.2.1) (fun v w => (hSh hk v w).2.2.2.2.2.2.2.2.1) (u2 (u2 v (92 + 2 * k) 1 (nI a)) (92 + 2 * k) 0 (nI n)) w
          refine Eqv.change (r := 1) (S' := (S.1, S.2.1, xsh S.2.2 k a n)) (v1 := v1) (w1 := w) hm ?_ (fun q hq => ?_) (SOK_sh hs (by omega) (by omega)) (CI_sh hc hk (fun q h1 h2 => ?_) ?_ ?_ f2) (fun w1 hm1 => ?_)
          · simp only [f_Q_sheet, f_Q_sheet_0, Q_isWithin, bd2_s]
            rw [show (3 : Int32) = nI 3 from rfl, if_pos ((in_rng (by decide)).mpr hx), if_neg (by decide), show (2 : Int32) = nI 2 from rfl, if_pos ((in_rng (by decide)).mpr hy), if_neg (by decide), if_pos h40, if_pos h0]
            simp only [hQ v w, hSh hk v w, bd1_s, f_Sheet_renew, f_Sheet_renew_0]
            simp only [hSh hk (u2 v (92 + 2 * k) 1 (nI a)) w, bd1_s]
            simp only [hSh hk (u2 (u2 v (92 + 2 * k) 1 (nI a)) (92 + 2 * k) 0 (nI n)) w, bd1_s]
            rw [e1]
            rfl
          · rw [f1 q (by omega), u2_o (by omega), u2_o (by omega)]
          · rw [f1 q h2, u2_o h1, u2_o h1]
          · rw [f1 _ (by omega), u2_at]
          · rw [f1 _ (by omega), u2_n (by decide), u2_at]
          · obtain ⟨v2, e2, g1, g2⟩ := M_sheet_z hk (u2 (u2 v1 123 k (nI a)) 124 k (nI n)) w1
            refine ⟨v2, w1, ?_, fun q hq => ?_, MI_sh hm1 hk (fun q h1 h2 h3 => ?_) (fun j => ?_) (fun j => ?_) (fun i => ?_)⟩
            · simp only [f_M_sheet, f_M_sheet_0, M_isSheet, bd2_s]
              rw [if_pos (And.intro hx hy), if_neg (by decide), if_pos h40, if_pos h0]
              simp only [hM v1 w1, bd1_s]
              rw [wr_nI (by omega) (by decide), bd1_s]
              simp only [hM (u2 v1 123 k (nI a)) w1, bd1_s]
              rw [wr_nI (by omega) (by decide), bd1_s]
              exact e2
            · rw [g1 q (by omega), u2_o (by omega), u2_o (by omega)]
            · rw [g1 q h3, u2_o h2, u2_o h1]
            · rw [g1 123 (by omega), u2_o (by omega)]
              by_cases e : j = k
              · subst e; rw [if_pos rfl, u2_at]
              · rw [if_neg e, u2_n e]
            · rw [g1 124 (by omega)]
              by_cases e : j = k
              · subst e; rw [if_pos rfl, u2_at]
              · rw [if_neg e, u2_n e, u2_o (by omega)]
            · rw [g2, u2_o (by omega), u2_o (by omega)]
        · refine Eqv.query (r := -14) hs hc hm ?_ ?_
          · simp only [f_Q_sheet, f_Q_sheet_0, Q_isWithin, bd2_s]
            rw [show (3 : Int32) = nI 3 from rfl, if_pos ((in_rng (by decide)).mpr hx), if_neg (by decide), show (2 : Int32) = nI 2 from rfl, if_pos ((in_rng (by decide)).mpr hy), if_neg (by decide), if_pos h40, if_neg h0]
          · simp only [f_M_sheet, f_M_sheet_0, M_isSheet, bd2_s]
            rw [if_pos (And.intro hx hy), if_neg (by decide), if_pos h40, if_neg h0]
      · refine Eqv.query (r := -1) hs hc hm ?_ ?_
        · simp only [f_Q_sheet, f_Q_sheet_0, f_Q_sheet_24, Q_isWithin, bd2_s]
          rw [show (3 : Int32) = nI 3 from rfl, if_pos ((in_rng (by decide)).mpr hx), if_neg (by decide), show (2 : Int32) = nI 2 from rfl, if_pos ((in_rng (by decide)).mpr hy), if_neg (by decide), if_neg h40]
        · simp only [f_M_sheet, f_M_sheet_0, f_M_sheet_14, M_isSheet, bd2_s]
          rw [if_pos (And.intro hx hy), if_neg (by decide), if_neg h40]
    · refine Eqv.query (r := -1) hs hc hm ?_ ?_
      · simp only [f_Q_sheet, f_Q_sheet_0, f_Q_sheet_24, Q_isWithin, bd2_s]
        rw [show (3 : Int32) = nI 3 from rfl, if_pos ((in_rng (by decide)).mpr hx), if_neg (by decide), show (2 : Int32) = nI 2 from rfl, if_neg (fun q => hy ((in_rng (by decide)).mp q)), if_pos rfl]
      · simp only [f_M_sheet, f_M_sheet_0, f_M_sheet_14, M_isSheet, bd2_s]
        rw [if_neg (show ¬ ((0 ≤ x.toInt ∧ x.toInt < ((3 + 1 : Nat) : Int)) ∧ (0 ≤ y.toInt ∧ y.toInt < ((2 + 1 : Nat) : Int))) from fun q => hy q.2), if_pos rfl]
  · refine Eqv.query (r := -1) hs hc hm ?_ ?_
    · simp only [f_Q_sheet, f_Q_sheet_0, f_Q_sheet_24, Q_isWithin, bd2_s]
      rw [show (3 : Int32) = nI 3 from rfl, if_neg (fun q => hx ((in_rng (by decide)).mp q)), if_pos rfl]
    · simp only [f_M_sheet, f_M_sheet_0, f_M_sheet_14, M_isSheet, bd2_s]
      rw [if_neg (show ¬ ((0 ≤ x.toInt ∧ x.toInt < ((3 + 1 : Nat) : Int)) ∧ (0 ≤ y.toInt ∧ y.toInt < ((2 + 1 : Nat) : Int))) from fun q => hx q.1), if_pos rfl]
end
end
/-! 8c.lay.lean.txt -/
section
section
variable {S : Sg} {v v1 : Nat → Nat → Int32} {w : Nat → Nat → Int64} {k : Nat}
theorem lane_I (hs : SOK S) (hk : k < 4) {c : Int} (hc : c = -4 ∨ c = 0 ∨ c = 1) : zI (S.2.2 4 k) = zI c ↔ S.2.2 4 k = c := by
  constructor
  · intro h
    have := congrArg Int32.toInt h
    have b := (hs.2.2.2.2.2 k hk).1
    rw [zI_t (by omega) (by omega), zI_t (by omega) (by omega)] at this
    exact this
  · intro h; rw [h]
theorem size_4 (hs : SOK S) (hk : k < 4) (h : S.2.2 4 k ≠ -4) : ¬ zI (S.2.2 5 k) = -4 := by
  intro z
  have := congrArg Int32.toInt z
  have b := (hs.2.2.2.2.2 k hk).2
  rw [zI_t (by omega) (by omega), show (-4 : Int32).toInt = -4 from rfl] at this
  omega
theorem C_faultAt (hs : SOK S) (hc : CI S v) (hk : k < 4) (t : Int64) : f_Sheet_faultAt (92 + 2 * k) t (bh v w) = some (if S.2.2 4 k = -4 then 1 else if 0 ≤ t.toInt ∧ t.toInt < S.2.2 5 k then 0 else 2, bh v w) := by
  have b := (hs.2.2.2.2.2 k hk).2
  simp only [f_Sheet_faultAt, f_Sheet_faultAt_0, f_Sheet_faultAt_27, hSh hk v w, bd1_s, cmp_lt]
  rw [(hc.2.2.2.2.2.1 k hk).1]
  by_cases h : S.2.2 4 k = -4
  · rw [if_pos h, if_pos h, if_pos (show zI (-4) = -4 from rfl)]
  · rw [if_neg h, if_neg h, if_neg (size_4 hs hk h)]
    by_cases h1 : t < 0
    · rw [if_pos h1, if_neg (fun z => by rw [Int64.lt_iff_toInt_lt] at h1; have : (0 : Int64).toInt = 0 := rfl; omega)]
    · rw [if_neg h1]
      rw [Int64.lt_iff_toInt_lt, show (0 : Int64).toInt = 0 from rfl] at h1
      by_cases h2 : t < (zI (S.2.2 5 k)).toInt64
      · rw [if_pos h2]
        rw [Int64.lt_iff_toInt_lt, Int32.toInt_toInt64, zI_t (by omega) (by omega)] at h2
        rw [if_pos (by omega)]
      · rw [if_neg h2]
        rw [Int64.lt_iff_toInt_lt, Int32.toInt_toInt64, zI_t (by omega) (by omega)] at h2
        rw [if_neg (by omega)]
theorem zI_toInt (x : Int32) : zI x.toInt = x := Int32.ofInt_toInt x
theorem CI_cell {i : Nat} {x : Int} (hc : CI S v) (hk : k < 4) (hi : i < 40) : CI (S.1, S.2.1, upX S.2.2 6 (40 * k + i) x) (u2 v (93 + 2 * k) i (zI x)) := by
  obtain ⟨h1, h2, h3, h4, h5, h6, h7⟩ := hc
  have hq : ∀ q, q ≠ 93 + 2 * k → u2 v (93 + 2 * k) i (zI x) q = v q := fun q hq => u2_o hq
  refine ⟨h1.frame (fun p _ _ => hq p (by omega)), fun j hj => ?_, ?_, ?_, ?_, fun j hj => ?_, ?_⟩
  · rw [hq 38 (by omega)]
    exact ⟨(h2 j hj).1, fun z => ((h2 j hj).2 z).frame (fun p _ _ => hq p (by omega))⟩
  · rw [hq 1 (by omega)]; exact h3
  · rw [hq 2 (by omega)]; exact h4
  · rw [hq 1 (by omega)]; exact h5
  · rw [hq (92 + 2 * j) (by omega)]
    refine ⟨(h6 j hj).1, (h6 j hj).2.1, fun m hm => ?_⟩
    show _ = zI (upX S.2.2 6 (40 * k + i) x 6 (40 * j + m))
    by_cases e : j = k
    · subst e
      by_cases e2 : m = i
      · subst e2; rw [u2_at, upX_at]
      · rw [u2_n e2, upX_n (by omega)]; exact (h6 j hj).2.2 m hm
    · rw [hq (93 + 2 * j) (by omega), upX_n (by omega)]; exact (h6 j hj).2.2 m hm
  · rw [hq 0 (by omega), hq 43 (by omega)]; exact h7
theorem MI_cell {i : Nat} {x : Int} (hm : MI S v) (hk : k < 4) (hi : i < 40) : MI (S.1, S.2.1, upX S.2.2 6 (40 * k + i) x) (u2 v 125 (40 * k + i) (zI x)) := by
  obtain ⟨⟨h1, h1b⟩, h2, h3, h4, h5, h6, h7⟩ := hm
  have hq : ∀ q, q ≠ 125 → u2 v 125 (40 * k + i) (zI x) q = v q := fun q hq => u2_o hq
  refine ⟨⟨?_, h1b.frame (hq 101 (by omega))⟩, fun j hj => ?_, ?_, ?_, ?_, fun j hj => ?_, ?_⟩
  · unfold MF
    rw [hq 100 (by omega), hq 103 (by omega), hq 104 (by omega), hq 105 (by omega), hq 106 (by omega), hq 107 (by omega)]
    exact h1
  · rw [hq 102 (by omega)]
    exact ⟨(h2 j hj).1, fun z => ((h2 j hj).2 z).frame (hq 101 (by omega))⟩
  · rw [hq 100 (by omega)]; exact h3
  · rw [hq 114 (by omega)]; exact h4
  · rw [hq 100 (by omega)]; exact h5
  · rw [hq 123 (by omega), hq 124 (by omega)]
    refine ⟨(h6 j hj).1, (h6 j hj).2.1, fun m hm => ?_⟩
    show _ = zI (upX S.2.2 6 (40 * k + i) x 6 (40 * j + m))
    by_cases e : 40 * j + m = 40 * k + i
    · rw [e, u2_at, upX_at]
    · rw [u2_n e, upX_n e]; exact (h6 j hj).2.2 m hm
  · rw [hq 100 (by omega)]; exact h7
theorem in_lay {y : Int32} {m : Int} (h1 : -1 ≤ m) (h2 : m ≤ 40) : (0 : Int64) ≤ y.toInt64 ∧ y.toInt64 ≤ (zI m).toInt64 ↔ 0 ≤ y.toInt ∧ y.toInt ≤ m := by
  rw [show (0 : Int64) = (0 : Int32).toInt64 from rfl, i64_le, i64_le, zI_t (by omega) (by omega), show (0 : Int32).toInt = 0 from rfl]
def cst (l : Int) (z : Int32) : Int32 := if l = 0 then z.toInt8.toInt32 else if l = 1 then z.toInt16.toInt32 else z
theorem E_lay (x y z : Int32) (hs : SOK S) (hc : CI S v) (hm : MI S v) : Eqv S v w (f_Q_lay 0 x y z) (f_M_lay 100 x y z) := by
  have hy0 : 0 ≤ (0 : Int32).toInt ∧ (0 : Int32).toInt < ((2 + 1 : Nat) : Int) := by decide
  by_cases hx : 0 ≤ x.toInt ∧ x.toInt < ((3 + 1 : Nat) : Int)
  · obtain ⟨k, hk, rfl⟩ := ix (by omega) hx
    have hk : k < 4 := hk
    have b := (hs.2.2.2.2.2 k hk).2
    have l4 : zI (S.2.2 4 k) = (-4 : Int32) ↔ S.2.2 4 k = -4 := lane_I hs hk (c := -4) (Or.inl rfl)
    have l0 : zI (S.2.2 4 k) = (0 : Int32) ↔ S.2.2 4 k = 0 := lane_I hs hk (c := 0) (Or.inr (Or.inl rfl))
    have l1 : zI (S.2.2 4 k) = (1 : Int32) ↔ S.2.2 4 k = 1 := lane_I hs hk (c := 1) (Or.inr (Or.inr rfl))
    have cin : f_Q_isWithin (nI k) 0 3 (bh v w) = some (1, bh v w) := by rw [Q_isWithin, show (3 : Int32) = nI 3 from rfl, if_pos ((in_rng (by decide)).mpr hx)]
    by_cases h4 : S.2.2 4 k = -4
    · refine Eqv.query (r := -11) hs hc hm ?_ ?_
      · simp only [f_Q_lay, f_Q_lay_0]
        rw [cin, bd2_s, if_neg (by decide)]
        simp only [hQ v w, hSh hk v w, bd1_s]
        rw [C_faultAt hs hc hk, bd2_s, if_pos h4, if_neg (by decide)]
        rfl
      · simp only [f_M_lay, f_M_lay_0, M_isSheet, bd2_s]
        rw [if_pos (And.intro hx hy0), if_neg (by decide)]
        simp only [hM v w, bd1_s]
        rw [rd_nI hk (by decide), bd1_s, (hm.2.2.2.2.2.1 k hk).1, if_pos (l4.mpr h4)]
    · have h4b : ¬ zI (S.2.2 4 k) = -4 := fun q => h4 (l4.mp q)
      by_cases hy : 0 ≤ y.toInt ∧ y.toInt < S.2.2 5 k
      · obtain ⟨i, hi, rfl⟩ := ix (n := 40) (x := y) (by omega) (by omega)
        have eI : zI (S.2.2 5 k) - 1 = zI (S.2.2 5 k - 1) := zI_sub _ 1
        refine Eqv.change (r := 1) (S' := (S.1, S.2.1, upX S.2.2 6 (40 * k + i) (cst (S.2.2 4 k) z).toInt)) (v1 := u2 v (93 + 2 * k) i (zI (cst (S.2.2 4 k) z).toInt)) (w1 := w) hm ?_ (fun q hq => u2_o (by omega)) ?_ (CI_cell hc hk hi) (fun w1 hm1 => ?_)
        · simp only [f_Q_lay, f_Q_lay_0]
          rw [cin, bd2_s, if_neg (by decide)]
          simp only [hQ v w, hSh hk v w, bd1_s]
          rw [C_faultAt hs hc hk, bd2_s, if_neg h4, Int32.toInt_toInt64, if_pos hy, if_pos rfl]
          simp only [hQ v w, hSh hk v w, bd1_s, f_Sheet_put, f_Sheet_put_0, f_Sheet_put_31]
          rw [(hc.2.2.2.2.2.1 k hk).2.1 h4, zI_toInt]
          simp only [wr_nI hi (show 40 < 2 ^ 31 by decide), bd1_s]
          unfold cst
          by_cases e0 : S.2.2 4 k = 0
          · rw [if_pos (l0.mpr e0), if_pos e0]; rfl
          · rw [if_neg (fun q => e0 (l0.mp q)), if_neg e0]
            by_cases e1 : S.2.2 4 k = 1
            · rw [if_pos (l1.mpr e1), if_pos e1]; rfl
            · rw [if_neg (fun q => e1 (l1.mp q)), if_neg e1]; rfl
        · exact hs
        · refine ⟨u2 (u2 v (93 + 2 * k) i (zI (cst (S.2.2 4 k) z).toInt)) 125 (40 * k + i) (zI (cst (S.2.2 4 k) z).toInt), w1, ?_, fun q hq => u2_o (by omega), MI_cell hm1 hk hi⟩
          generalize u2 v (93 + 2 * k) i (zI (cst (S.2.2 4 k) z).toInt) = v1 at hm1
          simp only [f_M_lay, f_M_lay_0, f_M_lay_85, M_isSheet, bd2_s]
          rw [if_pos (And.intro hx hy0), if_neg (by decide)]
          simp only [hM v1 w1, bd1_s]
          rw [rd_nI hk (by decide), bd1_s, (hm1.2.2.2.2.2.1 k hk).1, if_neg h4b, rd_nI hk (by decide), bd1_s, (hm1.2.2.2.2.2.1 k hk).2.1, eI, M_in, bd2_s, if_pos ((in_lay (by omega) (by omega)).mpr (by omega)), if_neg (by decide)]
          simp only [hM v1 w1, bd1_s]
          rw [show ((40 : Int32) * nI k) + nI i = nI (40 * k + i) by rw [show (40 : Int32) = nI 40 from rfl, pk_mul, nI_add]]
          rw [rd_nI hk (by decide), bd1_s, (hm1.2.2.2.2.2.1 k hk).1, zI_toInt]
          simp only [wr_nI (show 40 * k + i < 160 by omega) (show 160 < 2 ^ 31 by decide), bd1_s]
          unfold cst
          by_cases e0 : S.2.2 4 k = 0
          · rw [if_pos (l0.mpr e0), if_pos e0]
          · rw [if_neg (fun q => e0 (l0.mp q)), if_neg e0]
            by_cases e1 : S.2.2 4 k = 1
            · rw [if_pos (l1.mpr e1), if_pos e1]
            · rw [if_neg (fun q => e1 (l1.mp q)), if_neg e1]
      · have eI : zI (S.2.2 5 k) - 1 = zI (S.2.2 5 k - 1) := zI_sub _ 1
        have nin : ¬ ((0 : Int64) ≤ y.toInt64 ∧ y.toInt64 ≤ (zI (S.2.2 5 k - 1)).toInt64) := fun q => by have := (in_lay (by omega) (by omega)).mp q; omega
        refine Eqv.query (r := -12) hs hc hm ?_ ?_
        · simp only [f_Q_lay, f_Q_lay_0]
          rw [cin, bd2_s, if_neg (by decide)]
          simp only [hQ v w, hSh hk v w, bd1_s]
          rw [C_faultAt hs hc hk, bd2_s, if_neg h4, Int32.toInt_toInt64, if_neg hy, if_neg (by decide)]
          rfl
        · simp only [f_M_lay, f_M_lay_0, M_isSheet, bd2_s]
          rw [if_pos (And.intro hx hy0), if_neg (by decide)]
          simp only [hM v w, bd1_s]
          rw [rd_nI hk (by decide), bd1_s, (hm.2.2.2.2.2.1 k hk).1, if_neg h4b, rd_nI hk (by decide), bd1_s, (hm.2.2.2.2.2.1 k hk).2.1, eI, M_in, bd2_s, if_neg nin, if_pos rfl]
  · refine Eqv.query (r := -1) hs hc hm ?_ ?_
    · simp only [f_Q_lay, f_Q_lay_0, Q_isWithin, bd2_s]
      rw [show (3 : Int32) = nI 3 from rfl, if_neg (fun q => hx ((in_rng (by decide)).mp q)), if_pos rfl]
    · simp only [f_M_lay, f_M_lay_0, M_isSheet, bd2_s]
      rw [if_neg (show ¬ ((0 ≤ x.toInt ∧ x.toInt < ((3 + 1 : Nat) : Int)) ∧ (0 ≤ (0 : Int32).toInt ∧ (0 : Int32).toInt < ((2 + 1 : Nat) : Int))) from fun q => hx q.1), if_pos rfl]
end
end
/-! 8d.copy.lean.txt -/
section
/-! copies: a realm of the class, a bank of the reference -/
def cpv (v : Nat → Nat → Int32) (y x n : Nat) : Nat → Nat → Int32 := va_up v y (va_cpy (v x) (v y) 0 0 n)
theorem cp_bh {v : Nat → Nat → Int32} {w : Nat → Nat → Int64} {x y nx ny n : Nat} {f g : Nat → Int32} {k : Int32} (ex : tm x = .inl (0, nx, .inl f)) (ey : tm y = .inl (0, ny, .inl g)) (hk : ¬ k < 0) (hn : k.toNatClampNeg = n) (h1 : n ≤ nx) (h2 : n ≤ ny) : cpI (bh v w) 0 x 0 y 0 k = some (bh (cpv v y x n) w) := by
  unfold cpI
  have e1 : (bh v w).2.2 x = .inl (0, nx, .inl (v x)) := by show fillc _ _ (tm x) = _; rw [ex]; rfl
  have e2 : (bh v w).2.2 y = .inl (0, ny, .inl (v y)) := by show fillc _ _ (tm y) = _; rw [ey]; rfl
  have z0 : (0 : Int32).toNatClampNeg = 0 := rfl
  rw [e1, e2]
  dsimp only
  rw [z0, hn, if_pos ⟨⟨rfl, rfl⟩, by decide, by decide, hk, by omega, by omega⟩]
  congr 1
  refine bh_up (fun p hp => ⟨up_ne hp, rfl⟩) ?_
  rw [ey]
  show Sum.inl (0, ny, Sum.inl (va_up v y (va_cpy (v x) (v y) 0 0 n) y)) = _
  rw [up_at]
def cpL : List Nat := [6, 5, 5, 5, 5, 5, 3, 3, 3, 3, 3, 3, 15, 1, 8, 8, 8]
/-- the first n cells of the realm a are those of b in v -/
def cpd (a b n : Nat) (v v' : Nat → Nat → Int32) : Prop := (∀ q, q < a ∨ a + n ≤ q → v' q = v q) ∧ ∀ j, j < n → ∀ i, i < cpL.getD j 0 → v' (a + j) i = v (b + j) i
theorem cpd.step {a b n k : Nat} {v v' : Nat → Nat → Int32} (hd : a + 17 ≤ b ∨ b + 17 ≤ a) (hn : n < 17) (hk : cpL.getD n 0 = k) (h : cpd a b n v v') : cpd a b (n + 1) v (cpv v' (a + n) (b + n) k) := by
  refine ⟨fun q hq => ?_, fun j hj i hi => ?_⟩
  · unfold cpv
    rw [up_ne (by omega)]
    exact h.1 q (by omega)
  · unfold cpv
    by_cases e : j = n
    · subst e
      rw [up_at, h.1 (b + j) (by omega)]
      rw [hk] at hi
      unfold va_cpy
      rw [if_pos (by omega), show 0 + (i - 0) = i by omega]
    · rw [up_ne (by omega)]
      exact h.2 j (by omega) i hi
theorem cpR {a b : Nat} (ha : rl a) (hb : rl b) (v : Nat → Nat → Int32) (w : Nat → Nat → Int64) :
    cpI (bh v w) 0 (b + 1) 0 (a + 1) 0 5 = some (bh (cpv v (a + 1) (b + 1) 5) w) ∧ cpI (bh v w) 0 (b + 2) 0 (a + 2) 0 5 = some (bh (cpv v (a + 2) (b + 2) 5) w) ∧ cpI (bh v w) 0 (b + 3) 0 (a + 3) 0 5 = some (bh (cpv v (a + 3) (b + 3) 5) w) ∧ cpI (bh v w) 0 (b + 4) 0 (a + 4) 0 5 = some (bh (cpv v (a + 4) (b + 4) 5) w) ∧ cpI (bh v w) 0 (b + 5) 0 (a + 5) 0 5 = some (bh (cpv v (a + 5) (b + 5) 5) w) ∧
    cpI (bh v w) 0 (b + 6) 0 (a + 6) 0 3 = some (bh (cpv v (a + 6) (b + 6) 3) w) ∧ cpI (bh v w) 0 (b + 7) 0 (a + 7) 0 3 = some (bh (cpv v (a + 7) (b + 7) 3) w) ∧ cpI (bh v w) 0 (b + 8) 0 (a + 8) 0 3 = some (bh (cpv v (a + 8) (b + 8) 3) w) ∧ cpI (bh v w) 0 (b + 9) 0 (a + 9) 0 3 = some (bh (cpv v (a + 9) (b + 9) 3) w) ∧ cpI (bh v w) 0 (b + 10) 0 (a + 10) 0 3 = some (bh (cpv v (a + 10) (b + 10) 3) w) ∧ cpI (bh v w) 0 (b + 11) 0 (a + 11) 0 3 = some (bh (cpv v (a + 11) (b + 11) 3) w) ∧
    cpI (bh v w) 0 (b + 12) 0 (a + 12) 0 15 = some (bh (cpv v (a + 12) (b + 12) 15) w) ∧ cpI (bh v w) 0 (b + 14) 0 (a + 14) 0 8 = some (bh (cpv v (a + 14) (b + 14) 8) w) ∧ cpI (bh v w) 0 (b + 15) 0 (a + 15) 0 8 = some (bh (cpv v (a + 15) (b + 15) 8) w) ∧ cpI (bh v w) 0 (b + 16) 0 (a + 16) 0 8 = some (bh (cpv v (a + 16) (b + 16) 8) w) := by
  rcases ha with rfl | rfl | rfl | rfl <;> rcases hb with rfl | rfl | rfl | rfl <;> exact ⟨cp_bh rfl rfl (by decide) rfl (by decide) (by decide), cp_bh rfl rfl (by decide) rfl (by decide) (by decide), cp_bh rfl rfl (by decide) rfl (by decide) (by decide), cp_bh rfl rfl (by decide) rfl (by decide) (by decide), cp_bh rfl rfl (by decide) rfl (by decide) (by decide), cp_bh rfl rfl (by decide) rfl (by decide) (by decide), cp_bh rfl rfl (by decide) rfl (by decide) (by decide), cp_bh rfl rfl (by decide) rfl (by decide) (by decide), cp_bh rfl rfl (by decide) rfl (by decide) (by decide), cp_bh rfl rfl (by decide) rfl (by decide) (by decide), cp_bh rfl rfl (by decide) rfl (by decide) (by decide), cp_bh rfl rfl (by decide) rfl (by decide) (by decide), cp_bh rfl rfl (by decide) rfl (by decide) (by decide), cp_bh rfl rfl (by decide) rfl (by decide) (by decide), cp_bh rfl rfl (by decide) rfl (by decide) (by decide)⟩
theorem rl_apart {a b : Nat} (ha : rl a) (hb : rl b) (hab : a ≠ b) : a + 17 ≤ b ∨ b + 17 ≤ a := by
  rcases ha with rfl | rfl | rfl | rfl <;> rcases hb with rfl | rfl | rfl | rfl <;> omega
theorem cpd.fields {a b : Nat} {v : Nat → Nat → Int32} (hd : a + 17 ≤ b ∨ b + 17 ≤ a) : cpd a b 1 v (u2 (u2 (u2 (u2 (u2 (u2 v a 0 (v b 0)) a 1 (v b 1)) a 2 (v b 2)) a 3 (v b 3)) a 4 (v b 4)) a 5 (v b 5)) := by
  refine ⟨fun q hq => ?_, fun j hj i hi => ?_⟩
  · rw [u2_o (by omega), u2_o (by omega), u2_o (by omega), u2_o (by omega), u2_o (by omega), u2_o (by omega)]
  · obtain rfl : j = 0 := by omega
    have hi : i < 6 := hi
    rw [Nat.add_zero, Nat.add_zero]
    rcases (show i = 0 ∨ i = 1 ∨ i = 2 ∨ i = 3 ∨ i = 4 ∨ i = 5 by omega) with rfl | rfl | rfl | rfl | rfl | rfl
    · rw [u2_n (by decide), u2_n (by decide), u2_n (by decide), u2_n (by decide), u2_n (by decide), u2_at]
    · rw [u2_n (by decide), u2_n (by decide), u2_n (by decide), u2_n (by decide), u2_at]
    · rw [u2_n (by decide), u2_n (by decide), u2_n (by decide), u2_at]
    · rw [u2_n (by decide), u2_n (by decide), u2_at]
    · rw [u2_n (by decide), u2_at]
    · rw [u2_at]
theorem cpd.seen {a b : Nat} {v v' : Nat → Nat → Int32} (hd : a + 17 ≤ b ∨ b + 17 ≤ a) (h : cpd a b 13 v v') : cpd a b 14 v (u2 v' (a + 13) 0 (v' (b + 13) 0)) := by
  refine ⟨fun q hq => ?_, fun j hj i hi => ?_⟩
  · rw [u2_o (by omega)]
    exact h.1 q (by omega)
  · by_cases e : j = 13
    · subst e
      have hi : i < 1 := hi
      obtain rfl : i = 0 := by omega
      rw [u2_at, h.1 (b + 13) (by omega)]
    · rw [u2_o (by omega)]
      exact h.2 j (by omega) i hi
theorem C_copyFrom {a b : Nat} (ha : rl a) (hb : rl b) (hab : a ≠ b) (v : Nat → Nat → Int32) (w : Nat → Nat → Int64) : ∃ v', f_Realm_copyFrom a b (bh v w) = some (bh v' w) ∧ cpd a b 17 v v' := by
  have hd := rl_apart ha hb hab
  have H := fun v w => hRl ha v w
  have H2 := fun v w => hRl hb v w
  have K := fun v w => cpR ha hb v w
  have ne : b ≠ a := fun z => hab z.symm
  unfold f_Realm_copyFrom f_Realm_copyFrom_0
  simp only [H, H2, bd1_s]
  rw [u2_o ne, u2_o ne, u2_o ne, u2_o ne, u2_o ne, u2_o ne, u2_o ne, u2_o ne, u2_o ne, u2_o ne, u2_o ne, u2_o ne, u2_o ne, u2_o ne, u2_o ne]
  have f0 := cpd.fields (v := v) hd
  generalize u2 (u2 (u2 (u2 (u2 (u2 v a 0 (v b 0)) a 1 (v b 1)) a 2 (v b 2)) a 3 (v b 3)) a 4 (v b 4)) a 5 (v b 5) = v1 at f0
  unfold f_Sightings_copyFrom f_Sightings_copyFrom_0
  simp only [K, H, H2, bd1_s]
  refine ⟨_, rfl, ?_⟩
  refine cpd.step hd (n := 16) (by decide) rfl (cpd.step hd (n := 15) (by decide) rfl (cpd.step hd (n := 14) (by decide) rfl (cpd.seen hd ?_)))
  exact cpd.step hd (n := 12) (by decide) rfl (cpd.step hd (n := 11) (by decide) rfl (cpd.step hd (n := 10) (by decide) rfl (cpd.step hd (n := 9) (by decide) rfl (cpd.step hd (n := 8) (by decide) rfl (cpd.step hd (n := 7) (by decide) rfl (cpd.step hd (n := 6) (by decide) rfl (cpd.step hd (n := 5) (by decide) rfl (cpd.step hd (n := 4) (by decide) rfl (cpd.step hd (n := 3) (by decide) rfl (cpd.step hd (n := 2) (by decide) rfl (cpd.step hd (n := 1) (by decide) rfl f0)))))))))))
theorem CR_copy {a b : Nat} {ρ : Rho} {v v' : Nat → Nat → Int32} (h : CR b ρ v) (hk : ROK ρ) (c : cpd a b 17 v v') : CR a ρ v' := by
  obtain ⟨⟨a0, a1, a2, a3, a4, a5, a6⟩, h2, h3, h4, h5⟩ := h
  have hL := hk.1.1
  have hP := hk.1.2.1
  have hS := hk.1.2.2.2.2.2.2
  have g := c.2
  refine ⟨⟨(g 0 (by decide) 0 (by decide)).trans a0, (g 0 (by decide) 1 (by decide)).trans a1, (g 0 (by decide) 2 (by decide)).trans a2, (g 0 (by decide) 3 (by decide)).trans a3, (g 0 (by decide) 4 (by decide)).trans a4, (g 0 (by decide) 5 (by decide)).trans a5, (g 13 (by decide) 0 (by decide)).trans a6⟩, fun l hl => ?_, fun p hp => ?_, fun p l hp hl => ?_, fun i hi => ?_⟩
  · obtain ⟨b1, b2, b3, b4, b5⟩ := h2 l hl
    exact ⟨(g 1 (by decide) l (show l < 5 by omega)).trans b1, (g 2 (by decide) l (show l < 5 by omega)).trans b2, (g 3 (by decide) l (show l < 5 by omega)).trans b3, (g 4 (by decide) l (show l < 5 by omega)).trans b4, (g 5 (by decide) l (show l < 5 by omega)).trans b5⟩
  · obtain ⟨b1, b2, b3, b4, b5, b6⟩ := h3 p hp
    exact ⟨(g 6 (by decide) p (show p < 3 by omega)).trans b1, (g 7 (by decide) p (show p < 3 by omega)).trans b2, (g 8 (by decide) p (show p < 3 by omega)).trans b3, (g 9 (by decide) p (show p < 3 by omega)).trans b4, (g 10 (by decide) p (show p < 3 by omega)).trans b5, (g 11 (by decide) p (show p < 3 by omega)).trans b6⟩
  · exact (g 12 (by decide) (5 * p + l) (show 5 * p + l < 15 by omega)).trans (h4 p l hp hl)
  · obtain ⟨b1, b2, b3⟩ := h5 i hi
    exact ⟨(g 14 (by decide) i (show i < 8 by omega)).trans b1, (g 15 (by decide) i (show i < 8 by omega)).trans b2, (g 16 (by decide) i (show i < 8 by omega)).trans b3⟩
/-- a bank of 66 -/
theorem MB_copy {q q' k k' : Nat} {ρ : Rho} {v v' : Nat → Nat → Int32} (h : MB q k ρ v) (hk : ROK ρ) (c : ∀ j, j < 66 → v' q' (k' + j) = v q (k + j)) : MB q' k' ρ v' := by
  obtain ⟨h1, h2, h3, h4, h5, h6, h7, h8, h9, h10, h11, h12, h13⟩ := h
  have hL := hk.1.1
  have hP := hk.1.2.1
  have hS := hk.1.2.2.2.2.2.2
  have c' : ∀ (a b : Nat) (x : Int32) (j : Nat), j < 66 → k + j = a → k' + j = b → v q a = x → v' q' b = x := fun a b x j hj ea eb h => by subst ea; subst eb; exact (c j hj).trans h
  refine ⟨fun l hl => (c l (by omega)).trans (h1 l hl), fun l hl => c' _ _ _ (5 + l) (by omega) (by omega) (by omega) (h2 l hl), (c 10 (by omega)).trans h3, (c 11 (by omega)).trans h4, fun p hp => c' _ _ _ (12 + p) (by omega) (by omega) (by omega) (h5 p hp), fun p hp => c' _ _ _ (15 + p) (by omega) (by omega) (by omega) (h6 p hp), fun p hp => c' _ _ _ (18 + p) (by omega) (by omega) (by omega) (h7 p hp), fun p hp => c' _ _ _ (21 + p) (by omega) (by omega) (by omega) (h8 p hp), fun p l hp hl => c' _ _ _ (24 + 5 * p + l) (by omega) (by omega) (by omega) (h9 p l hp hl), (c 39 (by omega)).trans h10, (c 40 (by omega)).trans h11, (c 41 (by omega)).trans h12, fun i hi => ?_⟩
  obtain ⟨b1, b2, b3⟩ := h13 i hi
  exact ⟨c' _ _ _ (42 + 3 * i) (by omega) (by omega) (by omega) b1, c' _ _ _ (42 + 3 * i + 1) (by omega) (by omega) (by omega) b2, c' _ _ _ (42 + 3 * i + 2) (by omega) (by omega) (by omega) b3⟩
section
variable {v : Nat → Nat → Int32} {w : Nat → Nat → Int64}
theorem M_copies {a b : Nat} (ha : a + 66 ≤ 198) (hb : b + 66 ≤ 198) (hd : a + 66 ≤ b ∨ b + 66 ≤ a) (v : Nat → Nat → Int32) (w : Nat → Nat → Int64) : ∃ v', f_M_copies 100 (nI a) (nI b) (bh v w) = some (bh v' w) ∧ (∀ q, q ≠ 101 → v' q = v q) ∧ ∀ j, v' 101 j = if a ≤ j ∧ j < a + 66 then v 101 (b + (j - a)) else v 101 j := by
  have key : ∀ (k fuel i : Nat) (v : Nat → Nat → Int32), k < fuel → i + k = 66 → ∃ v', f_M_copies_2 fuel 100 (nI a) (nI b) (nI i) (bh v w) = some (bh v' w) ∧ (∀ q, q ≠ 101 → v' q = v q) ∧ ∀ j, v' 101 j = if a + i ≤ j ∧ j < a + 66 then v 101 (b + (j - a)) else v 101 j := by
    intro k
    induction k with
    | zero =>
      intro fuel i v hf hi
      obtain ⟨n, rfl⟩ : ∃ n, fuel = n + 1 := ⟨fuel - 1, by omega⟩
      simp only [f_M_copies_2, f_M_copies_2b]
      rw [show (66 : Int32) = nI 66 from rfl, if_pos ((nI_leI (by omega) (by omega)).mpr (by omega))]
      exact ⟨v, rfl, fun _ _ => rfl, fun j => by rw [if_neg (by omega)]⟩
    | succ k ih =>
      intro fuel i v hf hi
      obtain ⟨n, rfl⟩ : ∃ n, fuel = n + 1 := ⟨fuel - 1, by omega⟩
      simp only [f_M_copies_2, f_M_copies_2b, hM v w, bd1_s]
      rw [show (66 : Int32) = nI 66 from rfl, if_neg (fun z => by have := (nI_leI (by omega) (by omega)).mp z; omega), nI_add, nI_add, rd_nI (by omega) (by decide), bd1_s, wr_nI (by omega) (by decide), bd1_s, nI_1]
      obtain ⟨v', e1, f1, f2⟩ := ih n (i + 1) (u2 v 101 (a + i) (v 101 (b + i))) (by omega) (by omega)
      refine ⟨v', e1, fun q hq => (f1 q hq).trans (u2_o hq), fun j => ?_⟩
      rw [f2 j]
      by_cases e : j = a + i
      · subst e
        rw [if_neg (by omega), if_pos (by omega), u2_at, show a + i - a = i by omega]
      · by_cases h : a + (i + 1) ≤ j ∧ j < a + 66
        · rw [if_pos h, if_pos (by omega), u2_n (by omega)]
        · rw [if_neg h, if_neg (by omega), u2_n e]
  obtain ⟨v', e1, f1, f2⟩ := key 66 FU 0 v (by unfold FU; omega) (by omega)
  exact ⟨v', e1, f1, f2⟩
theorem M_saves (v : Nat → Nat → Int32) (w : Nat → Nat → Int64) : ∃ v', f_M_saves 100 (bh v w) = some (bh v' w) ∧ (∀ q, q ≠ 119 → v' q = v q) ∧ ∀ j, j < 66 → v' 119 j = v 101 j := by
  have key : ∀ (k fuel i : Nat) (v : Nat → Nat → Int32), k < fuel → i + k = 66 → ∃ v', f_M_saves_2 fuel 100 (nI i) (bh v w) = some (bh v' w) ∧ (∀ q, q ≠ 119 → v' q = v q) ∧ (∀ j, j < i → v' 119 j = v 119 j) ∧ ∀ j, i ≤ j → j < 66 → v' 119 j = v 101 j := by
    intro k
    induction k with
    | zero =>
      intro fuel i v hf hi
      obtain ⟨n, rfl⟩ : ∃ n, fuel = n + 1 := ⟨fuel - 1, by omega⟩
      simp only [f_M_saves_2, f_M_saves_2b]
      rw [show (66 : Int32) = nI 66 from rfl, if_pos ((nI_leI (by omega) (by omega)).mpr (by omega))]
      exact ⟨v, rfl, fun _ _ => rfl, fun _ _ => rfl, fun j _ _ => by omega⟩
    | succ k ih =>
      intro fuel i v hf hi
      obtain ⟨n, rfl⟩ : ∃ n, fuel = n + 1 := ⟨fuel - 1, by omega⟩
      simp only [f_M_saves_2, f_M_saves_2b, hM v w, bd1_s]
      rw [show (66 : Int32) = nI 66 from rfl, if_neg (fun z => by have := (nI_leI (by omega) (by omega)).mp z; omega), rd_nI (by omega) (by decide), bd1_s, wr_nI (by omega) (by decide), bd1_s, nI_1]
      obtain ⟨v', e1, f1, f2, f3⟩ := ih n (i + 1) (u2 v 119 i (v 101 i)) (by omega) (by omega)
      refine ⟨v', e1, fun q hq => (f1 q hq).trans (u2_o hq), fun j hj => (f2 j (by omega)).trans (u2_n (by omega)), fun j h1 h2 => ?_⟩
      by_cases e : j = i
      · subst e; rw [f2 j (by omega), u2_at]
      · rw [f3 j (by omega) h2, u2_o (by decide)]
  obtain ⟨v', e1, f1, -, f3⟩ := key 66 FU 0 v (by unfold FU; omega) (by omega)
  exact ⟨v', e1, f1, fun j hj => f3 j (by omega) hj⟩
theorem M_returns (v : Nat → Nat → Int32) (w : Nat → Nat → Int64) : ∃ v', f_M_returns 100 (bh v w) = some (bh v' w) ∧ (∀ q, q ≠ 101 → v' q = v q) ∧ (∀ j, j < 66 → v' 101 j = v 119 j) ∧ ∀ j, 66 ≤ j → v' 101 j = v 101 j := by
  have key : ∀ (k fuel i : Nat) (v : Nat → Nat → Int32), k < fuel → i + k = 66 → ∃ v', f_M_returns_2 fuel 100 (nI i) (bh v w) = some (bh v' w) ∧ (∀ q, q ≠ 101 → v' q = v q) ∧ (∀ j, j < i ∨ 66 ≤ j → v' 101 j = v 101 j) ∧ ∀ j, i ≤ j → j < 66 → v' 101 j = v 119 j := by
    intro k
    induction k with
    | zero =>
      intro fuel i v hf hi
      obtain ⟨n, rfl⟩ : ∃ n, fuel = n + 1 := ⟨fuel - 1, by omega⟩
      simp only [f_M_returns_2, f_M_returns_2b]
      rw [show (66 : Int32) = nI 66 from rfl, if_pos ((nI_leI (by omega) (by omega)).mpr (by omega))]
      exact ⟨v, rfl, fun _ _ => rfl, fun _ _ => rfl, fun j _ _ => by omega⟩
    | succ k ih =>
      intro fuel i v hf hi
      obtain ⟨n, rfl⟩ : ∃ n, fuel = n + 1 := ⟨fuel - 1, by omega⟩
      simp only [f_M_returns_2, f_M_returns_2b, hM v w, bd1_s]
      rw [show (66 : Int32) = nI 66 from rfl, if_neg (fun z => by have := (nI_leI (by omega) (by omega)).mp z; omega), rd_nI (by omega) (by decide), bd1_s, wr_nI (by omega) (by decide), bd1_s, nI_1]
      obtain ⟨v', e1, f1, f2, f3⟩ := ih n (i + 1) (u2 v 101 i (v 119 i)) (by omega) (by omega)
      refine ⟨v', e1, fun q hq => (f1 q hq).trans (u2_o hq), fun j hj => (f2 j (by omega)).trans (u2_n (by omega)), fun j h1 h2 => ?_⟩
      by_cases e : j = i
      · subst e; rw [f2 j (by omega), u2_at]
      · rw [f3 j (by omega) h2, u2_o (by decide)]
  obtain ⟨v', e1, f1, f2, f3⟩ := key 66 FU 0 v (by unfold FU; omega) (by omega)
  exact ⟨v', e1, f1, fun j hj => f3 j (by omega) hj, fun j hj => f2 j (Or.inr hj)⟩
end
end
/-! 8e.keep.lean.txt -/
section
/-! keep, back -/
theorem img_at {k : Nat} (hk : k < 2) (v : Nat → Nat → Int32) (w : Nat → Nat → Int64) : aR (bh v w) 4 37 (nI k) = some (58 + 17 * k) := by
  rcases (show k = 0 ∨ k = 1 by omega) with rfl | rfl <;> rfl
theorem rl_img {k : Nat} (hk : k < 2) : rl (58 + 17 * k) := by
  rcases (show k = 0 ∨ k = 1 by omega) with rfl | rfl
  · exact Or.inr (Or.inr (Or.inl rfl))
  · exact Or.inr (Or.inr (Or.inr rfl))
theorem rl20 : rl 20 := Or.inr (Or.inl rfl)
theorem SAME.rf (ρ : Rho) : SAME ρ ρ := ⟨rfl, rfl, rfl, rfl, rfl, rfl, rfl⟩
section
variable {S : Sg} {v v1 : Nat → Nat → Int32} {w : Nat → Nat → Int64}
theorem kept01 (hs : SOK S) {k : Nat} (hk : k < 2) : ∃ a : Nat, S.2.2 3 k = a ∧ a ≤ 1 := by
  rcases hs.2.1 k hk with z | z
  · exact ⟨0, z, by omega⟩
  · exact ⟨1, z.1, by omega⟩
theorem SOK_keep {k : Nat} (hs : SOK S) : SOK (S.1, va_up S.2.1 k S.1, upX S.2.2 3 k 1) := by
  obtain ⟨h1, h2, h3, h4, h5, h6⟩ := hs
  refine ⟨h1, fun j hj => ?_, h3, h4, h5, h6⟩
  show upX S.2.2 3 k 1 3 j = 0 ∨ upX S.2.2 3 k 1 3 j = 1 ∧ ROK (va_up S.2.1 k S.1 j) ∧ SAME S.1 (va_up S.2.1 k S.1 j)
  by_cases e : j = k
  · subst e
    rw [upX_at, up_at]
    exact Or.inr ⟨rfl, h1, SAME.rf _⟩
  · rw [upX_n e, up_ne e]
    exact h2 j hj
theorem E_keep (x : Int32) (hs : SOK S) (hc : CI S v) (hm : MI S v) : Eqv S v w (f_Q_keep 0 x) (f_M_keep 100 x) := by
  by_cases hx : 0 ≤ x.toInt ∧ x.toInt < ((1 + 1 : Nat) : Int)
  · obtain ⟨k, hk, rfl⟩ := ix (by omega) hx
    have hk : k < 2 := hk
    obtain ⟨a, ha, la⟩ := kept01 hs hk
    have ne : 58 + 17 * k ≠ 3 := by omega
    obtain ⟨v1, e1, c1⟩ := C_copyFrom (rl_img hk) rl3 ne v w
    have ec : v 38 k = nI a := by rw [(hc.2.1 k hk).1, ha]; exact zI_n a
    have em : v 102 k = nI a := by rw [(hm.2.1 k hk).1, ha]; exact zI_n a
    refine Eqv.change (r := nI a) (S' := (S.1, va_up S.2.1 k S.1, upX S.2.2 3 k 1)) (v1 := u2 v1 38 k 1) (w1 := w) hm ?_ (fun q hq => ?_) (SOK_keep hs) ?_ (fun w1 hm1 => ?_)
    · simp only [f_Q_keep, f_Q_keep_0, f_Q_keep_25, Q_isWithin, bd2_s]
      rw [show (1 : Int32).toInt = (nI 1).toInt from rfl, if_pos ((in_rng (by decide)).mpr hx), if_neg (by decide)]
      simp only [hQ v w, bd1_s]
      rw [rd_nI hk (by decide), bd1_s, ec, img_at hk, bd1_s]
      simp only [hRl (rl_img hk) v w, bd1_s]
      rw [e1]
      simp only [hQ v1 w, bd1_s]
      rw [wr_nI hk (by decide), bd1_s]
      rcases (show a = 0 ∨ a = 1 by omega) with rfl | rfl
      · rfl
      · rfl
    · rw [u2_o (by omega)]; exact c1.1 q (by omega)
    · obtain ⟨h1, h2, h3, h4, h5, h6, h7⟩ := hc
      have hq : ∀ q, q ≠ 38 → (q < 58 + 17 * k ∨ 58 + 17 * k + 17 ≤ q) → u2 v1 38 k 1 q = v q := fun q q1 q2 => (u2_o q1).trans (c1.1 q q2)
      refine ⟨h1.frame (fun p _ _ => hq p (by omega) (by omega)), fun j hj => ?_, ?_, ?_, ?_, fun j hj => ?_, ?_⟩
      · show u2 v1 38 k 1 38 j = zI (upX S.2.2 3 k 1 3 j) ∧ (upX S.2.2 3 k 1 3 j = 1 → CR (58 + 17 * j) (va_up S.2.1 k S.1 j) (u2 v1 38 k 1))
        by_cases e : j = k
        · subst e
          rw [u2_at, upX_at, up_at]
          exact ⟨rfl, fun _ => (CR_copy h1 hs.1 c1).frame (fun p _ _ => u2_o (by omega))⟩
        · rw [u2_n e, upX_n e, up_ne e, c1.1 38 (by omega)]
          exact ⟨(h2 j hj).1, fun z => ((h2 j hj).2 z).frame (fun p _ _ => hq p (by omega) (by omega))⟩
      · rw [hq 1 (by omega) (by omega)]; exact h3
      · rw [hq 2 (by omega) (by omega)]; exact h4
      · rw [hq 1 (by omega) (by omega)]; exact h5
      · rw [hq (92 + 2 * j) (by omega) (by omega), hq (93 + 2 * j) (by omega) (by omega)]; exact h6 j hj
      · rw [hq 0 (by omega) (by omega), hq 43 (by omega) (by omega)]; exact h7
    · have em1 : u2 v1 38 k 1 102 k = nI a := by rw [u2_o (by omega), c1.1 102 (by omega)]; exact em
      generalize u2 v1 38 k 1 = v2 at hm1 em1
      obtain ⟨v3, e3, f3, g3⟩ := M_copies (a := 66 * (k + 1)) (b := 0) (by omega) (by omega) (by omega) (u2 v2 102 k 1) w1
      refine ⟨v3, w1, ?_, fun q hq => by rw [f3 q (by omega), u2_o (by omega)], ?_⟩
      · simp only [f_M_keep, f_M_keep_0, M_in, bd2_s]
        rw [show (1 : Int64) = (nI 1).toInt64 from rfl, if_pos ((in_rngL (by decide)).mpr hx), if_neg (by decide)]
        simp only [hM v2 w1, bd1_s]
        rw [rd_nI hk (by decide), bd1_s, em1]
        have fl : f_M_flag (nI a) (bh v2 w1) = some (nI a, bh v2 w1) := by
          simp only [f_M_flag, f_M_flag_0]
          rcases (show a = 0 ∨ a = 1 by omega) with rfl | rfl <;> rfl
        rw [fl, bd2_s]
        simp only [hM v2 w1, bd1_s]
        rw [wr_nI hk (by decide), bd1_s]
        have e4 : (66 : Int32) * (nI k + 1) = nI (66 * (k + 1)) := by rw [nI_1, show (66 : Int32) = nI 66 from rfl, pk_mul]
        rw [show vp_nar .boolean (1 : Int32) = 1 from rfl, e4, show (0 : Int32) = nI 0 from rfl]
        simp only [hM (u2 v2 102 k 1) w1, bd1_s]
        rw [e3]
        rfl
      · obtain ⟨⟨h1, h1b⟩, h2, h3, h4, h5, h6, h7⟩ := hm1
        have hq : ∀ q, q ≠ 101 → q ≠ 102 → v3 q = v2 q := fun q q1 q2 => (f3 q q1).trans (u2_o q2)
        have hj : ∀ j, ¬ (66 * (k + 1) ≤ j ∧ j < 66 * (k + 1) + 66) → v3 101 j = v2 101 j := fun j z => by rw [g3 j, if_neg z, u2_o (by decide)]
        have hi : ∀ j, j < 66 → v3 101 (66 * (k + 1) + j) = v2 101 (0 + j) := fun j z => by rw [g3, if_pos (by omega), u2_o (by decide), show 0 + (66 * (k + 1) + j - 66 * (k + 1)) = 0 + j by omega]
        refine ⟨⟨?_, MB_copy (q := 101) (k := 0) h1b hs.1 (fun j z => by rw [hj (0 + j) (by omega)])⟩, fun j z => ?_, ?_, ?_, ?_, ?_, ?_⟩
        · unfold MF
          rw [hq 100 (by omega) (by omega), hq 103 (by omega) (by omega), hq 104 (by omega) (by omega), hq 105 (by omega) (by omega), hq 106 (by omega) (by omega), hq 107 (by omega) (by omega)]
          exact h1
        · show v3 102 j = zI (upX S.2.2 3 k 1 3 j) ∧ (upX S.2.2 3 k 1 3 j = 1 → MB 101 (66 * (j + 1)) (va_up S.2.1 k S.1 j) v3)
          rw [f3 102 (by decide)]
          by_cases e : j = k
          · subst e
            rw [u2_at, upX_at, up_at]
            exact ⟨rfl, fun _ => MB_copy (q := 101) (k := 0) h1b hs.1 hi⟩
          · rw [u2_n e, upX_n e, up_ne e]
            refine ⟨(h2 j z).1, fun y => ?_⟩
            rcases hs.2.1 j z with q | q
            · omega
            · exact MB_copy ((h2 j z).2 y) q.2.1 (fun i hi => hj _ (by omega))
        · rw [hq 100 (by omega) (by omega)]; exact h3
        · rw [hq 114 (by omega) (by omega)]; exact h4
        · rw [hq 100 (by omega) (by omega)]; exact h5
        · rw [hq 123 (by omega) (by omega), hq 124 (by omega) (by omega), hq 125 (by omega) (by omega)]; exact h6
        · rw [hq 100 (by omega) (by omega)]; exact h7
  · refine Eqv.query (r := -1) hs hc hm ?_ ?_
    · simp only [f_Q_keep, f_Q_keep_0, Q_isWithin, bd2_s]
      rw [show (1 : Int32).toInt = (nI 1).toInt from rfl, if_neg (fun q => hx ((in_rng (by decide)).mp q)), if_pos rfl]
    · simp only [f_M_keep, f_M_keep_0, M_in, bd2_s]
      rw [show (1 : Int64) = (nI 1).toInt64 from rfl, if_neg (fun q => hx ((in_rngL (by decide)).mp q)), if_pos rfl]
theorem SAME.sw {ρ σ : Rho} (h : SAME ρ σ) : SAME σ ρ := ⟨h.1.symm, h.2.1.symm, h.2.2.1.symm, h.2.2.2.1.symm, h.2.2.2.2.1.symm, h.2.2.2.2.2.1.symm, h.2.2.2.2.2.2.symm⟩
theorem SAME.tr {ρ σ τ : Rho} (h : SAME ρ σ) (g : SAME σ τ) : SAME ρ τ := ⟨g.1.trans h.1, g.2.1.trans h.2.1, g.2.2.1.trans h.2.2.1, g.2.2.2.1.trans h.2.2.2.1, g.2.2.2.2.1.trans h.2.2.2.2.1, g.2.2.2.2.2.1.trans h.2.2.2.2.2.1, g.2.2.2.2.2.2.trans h.2.2.2.2.2.2⟩
theorem MF_same {ρ σ : Rho} {v : Nat → Nat → Int32} (h : MF ρ v) (s : SAME ρ σ) : MF σ v := by
  obtain ⟨s0, s1, s2, s3, s4, s7, s8⟩ := s
  unfold MF at h ⊢
  rw [s0, s1, s2, s3, s4, s7, s8]
  exact h
theorem E_back (x : Int32) (hs : SOK S) (hc : CI S v) (hm : MI S v) : Eqv S v w (f_Q_back 0 x) (f_M_back 100 x) := by
  by_cases hx : 0 ≤ x.toInt ∧ x.toInt < ((1 + 1 : Nat) : Int)
  · obtain ⟨k, hk, rfl⟩ := ix (by omega) hx
    have hk : k < 2 := hk
    rcases hs.2.1 k hk with z | ⟨z, rk, sm⟩
    · have ec : v 38 k = 0 := by rw [(hc.2.1 k hk).1, z]; rfl
      have em : v 102 k = 0 := by rw [(hm.2.1 k hk).1, z]; rfl
      refine Eqv.query (r := -2) hs hc hm ?_ ?_
      · simp only [f_Q_back, f_Q_back_0, Q_isWithin, bd2_s]
        rw [show (1 : Int32).toInt = (nI 1).toInt from rfl, if_pos ((in_rng (by decide)).mpr hx), if_neg (by decide)]
        simp only [hQ v w, bd1_s]
        rw [rd_nI hk (by decide), bd1_s, ec, if_pos rfl]
      · simp only [f_M_back, f_M_back_0, M_in, bd2_s]
        rw [show (1 : Int64) = (nI 1).toInt64 from rfl, if_pos ((in_rngL (by decide)).mpr hx), if_neg (by decide)]
        simp only [hM v w, bd1_s]
        rw [rd_nI hk (by decide), bd1_s, em, if_pos rfl]
    · have ec : v 38 k = 1 := by rw [(hc.2.1 k hk).1, z]; rfl
      have em : v 102 k = 1 := by rw [(hm.2.1 k hk).1, z]; rfl
      have ne : 3 ≠ 58 + 17 * k := by omega
      obtain ⟨v1, e1, c1⟩ := C_copyFrom rl3 (rl_img hk) ne v w
      have cr := CR_copy ((hc.2.1 k hk).2 z) rk c1
      refine Eqv.change (r := nI (S.2.1 k 0 2)) (S' := (S.2.1 k, S.2)) (v1 := v1) (w1 := w) hm ?_ (fun q hq => c1.1 q (by omega)) (SOK_u hs rk (fun σ h => (sm.sw).tr h)) (CI_r hc cr c1.1) (fun w1 hm1 => ?_)
      · simp only [f_Q_back, f_Q_back_0, Q_isWithin, bd2_s]
        rw [show (1 : Int32).toInt = (nI 1).toInt from rfl, if_pos ((in_rng (by decide)).mpr hx), if_neg (by decide)]
        simp only [hQ v w, bd1_s]
        rw [rd_nI hk (by decide), bd1_s, ec, if_neg (by decide), img_at hk, bd1_s]
        simp only [hRl rl3 v w, bd1_s]
        rw [e1]
        simp only [hQ v1 w, hRl rl3 v1 w, bd1_s]
        rw [cr.1.2.2.1]
      · have em1 : v1 102 k = 1 := by rw [c1.1 102 (by omega)]; exact em
        obtain ⟨v3, e3, f3, g3⟩ := M_copies (a := 0) (b := 66 * (k + 1)) (by omega) (by omega) (by omega) v1 w1
        have hi : ∀ j, j < 66 → v3 101 (0 + j) = v1 101 (66 * (k + 1) + j) := fun j z => by rw [g3, if_pos (by omega), show 66 * (k + 1) + (0 + j - 0) = 66 * (k + 1) + j by omega]
        have hb : MB 101 0 (S.2.1 k) v3 := MB_copy ((hm1.2.1 k hk).2 z) rk hi
        refine ⟨v3, w1, ?_, fun q hq => f3 q (by omega), MI_r hm1 ⟨?_, hb⟩ f3 (fun j hj => by rw [g3, if_neg (by omega)])⟩
        · simp only [f_M_back, f_M_back_0, M_in, bd2_s]
          rw [show (1 : Int64) = (nI 1).toInt64 from rfl, if_pos ((in_rngL (by decide)).mpr hx), if_neg (by decide)]
          simp only [hM v1 w1, bd1_s]
          have e4 : (66 : Int32) * (nI k + 1) = nI (66 * (k + 1)) := by rw [nI_1, show (66 : Int32) = nI 66 from rfl, pk_mul]
          rw [rd_nI hk (by decide), bd1_s, em1, if_neg (by decide), e4, show (0 : Int32) = nI 0 from rfl, e3]
          simp only [hM v3 w1, bd1_s]
          have e39 : rd (v3 101) 198 (39 : Int32) = some (nI (S.2.1 k 0 2)) := by rw [← hb.2.2.2.2.2.2.2.2.2.1]; rfl
          rw [e39]
          rfl
        · have := MF_same hm1.1.1 sm
          unfold MF at this ⊢
          rw [f3 100 (by decide), f3 103 (by decide), f3 104 (by decide), f3 105 (by decide), f3 106 (by decide), f3 107 (by decide)]
          exact this
  · refine Eqv.query (r := -1) hs hc hm ?_ ?_
    · simp only [f_Q_back, f_Q_back_0, Q_isWithin, bd2_s]
      rw [show (1 : Int32).toInt = (nI 1).toInt from rfl, if_neg (fun q => hx ((in_rng (by decide)).mp q)), if_pos rfl]
    · simp only [f_M_back, f_M_back_0, M_in, bd2_s]
      rw [show (1 : Int64) = (nI 1).toInt64 from rfl, if_neg (fun q => hx ((in_rngL (by decide)).mp q)), if_pos rfl]
end
end
/-! 8f.fr.lean.txt -/
section
/-! frames: places that the tie doesn't read may change -/
def pC (p : Nat) : Prop := p < 20 ∨ 37 ≤ p ∧ p < 40 ∨ p = 43 ∨ 58 ≤ p ∧ p < 100
def pC0 (p : Nat) : Prop := p < 20 ∨ 37 ≤ p ∧ p < 40 ∨ 58 ≤ p ∧ p < 100
def pM (p : Nat) : Prop := 101 ≤ p ∧ p < 108 ∨ p = 114 ∨ 123 ≤ p
section
variable {S : Sg} {ρ' : Rho} {v v' v1 : Nat → Nat → Int32} {w : Nat → Nat → Int64}
theorem CI.fr0 (h : CI S v) (hv : ∀ p, pC0 p → v' p = v p) (h43 : v' 43 0 = 0) : CI S v' := by
  obtain ⟨h1, h2, h3, h4, h5, h6, h7⟩ := h
  unfold CI
  rw [hv 38 (by unfold pC0; omega), hv 1 (by unfold pC0; omega), hv 2 (by unfold pC0; omega), hv 0 (by unfold pC0; omega)]
  refine ⟨h1.frame (fun p _ _ => hv p (by unfold pC0; omega)), fun k hk => ⟨(h2 k hk).1, fun z => ((h2 k hk).2 z).frame (fun p _ _ => hv p (by unfold pC0; omega))⟩, h3, h4, h5, fun k hk => ?_, h7.1, h43⟩
  rw [hv (92 + 2 * k) (by unfold pC0; omega), hv (93 + 2 * k) (by unfold pC0; omega)]
  exact h6 k hk
theorem CI.fr (h : CI S v) (hv : ∀ p, pC p → v' p = v p) : CI S v' := h.fr0 (fun p hp => hv p (by unfold pC0 at hp; unfold pC; omega)) (by rw [hv 43 (by unfold pC; omega)]; exact h.2.2.2.2.2.2.2)
theorem MI.fr (h : MI S v) (hv : ∀ p, pM p → v' p = v p) (h0 : v' 100 2 = v 100 2 ∧ v' 100 3 = v 100 3 ∧ v' 100 20 = v 100 20 ∧ v' 100 25 = v 100 25 ∧ v' 100 38 = v 100 38) : MI S v' := by
  obtain ⟨⟨h1, h1b⟩, h2, h3, h4, h5, h6, h7⟩ := h
  obtain ⟨a1, a2, a3, a4, a5⟩ := h0
  unfold MI MR MF
  rw [hv 102 (by unfold pM; omega), hv 114 (by unfold pM; omega), hv 123 (by unfold pM; omega), hv 124 (by unfold pM; omega), hv 125 (by unfold pM; omega), hv 103 (by unfold pM; omega), hv 104 (by unfold pM; omega), hv 105 (by unfold pM; omega), hv 106 (by unfold pM; omega), hv 107 (by unfold pM; omega), a1, a2, a3, a4, a5]
  exact ⟨⟨h1, h1b.frame (hv 101 (by unfold pM; omega))⟩, fun k hk => ⟨(h2 k hk).1, fun z => ((h2 k hk).2 z).frame (hv 101 (by unfold pM; omega))⟩, h3, h4, h5, h6, h7⟩
theorem CI_rt (h : CI S v) (hR : CR 3 ρ' v1) (hq : ∀ q, q < 3 ∨ 37 ≤ q ∧ q < 40 ∨ q = 43 ∨ 58 ≤ q ∧ q < 100 → v1 q = v q) : CI (ρ', S.2) v1 := by
  obtain ⟨-, h2, h3, h4, h5, h6, h7⟩ := h
  refine ⟨hR, fun k hk => ?_, ?_, ?_, ?_, fun k hk => ?_, ?_⟩
  · rw [hq 38 (by omega)]
    exact ⟨(h2 k hk).1, fun z => ((h2 k hk).2 z).frame (fun p _ _ => hq p (by omega))⟩
  · rw [hq 1 (by omega)]; exact h3
  · rw [hq 2 (by omega)]; exact h4
  · rw [hq 1 (by omega)]; exact h5
  · rw [hq (92 + 2 * k) (by omega), hq (93 + 2 * k) (by omega)]; exact h6 k hk
  · rw [hq 0 (by omega), hq 43 (by omega)]; exact h7
theorem MI_rt (h : MI S v) (hR : MR ρ' v1) (hq : ∀ q, 102 ≤ q ∧ q < 108 ∨ q = 114 ∨ 123 ≤ q → v1 q = v q) (h0 : v1 100 20 = v 100 20 ∧ v1 100 25 = v 100 25 ∧ v1 100 38 = v 100 38) (hj : ∀ j, 66 ≤ j → v1 101 j = v 101 j) : MI (ρ', S.2) v1 := by
  obtain ⟨-, h2, h3, h4, h5, h6, h7⟩ := h
  refine ⟨hR, fun k hk => ?_, ?_, ?_, ?_, ?_, ?_⟩
  · rw [hq 102 (by omega)]
    exact ⟨(h2 k hk).1, fun z => ((h2 k hk).2 z).hi (by omega) hj⟩
  · rw [h0.1]; exact h3
  · rw [hq 114 (by omega)]; exact h4
  · rw [h0.2.1]; exact h5
  · rw [hq 123 (by omega), hq 124 (by omega), hq 125 (by omega)]; exact h6
  · rw [h0.2.2]; exact h7
theorem CI_torn {t : Int} (h : CI S v) : CI (S.1, S.2.1, upX S.2.2 7 0 t) (u2 v 0 9 (zI t)) := by
  obtain ⟨h1, h2, h3, h4, h5, h6, h7⟩ := h
  have hq : ∀ q, q ≠ 0 → u2 v 0 9 (zI t) q = v q := fun q hq => u2_o hq
  refine ⟨h1.frame (fun p _ _ => hq p (by omega)), fun k hk => ?_, ?_, ?_, ?_, fun k hk => ?_, u2_at _ _ _ _, (congrFun (hq 43 (by omega)) 0).trans h7.2⟩
  · rw [hq 38 (by omega)]
    exact ⟨(h2 k hk).1, fun z => ((h2 k hk).2 z).frame (fun p _ _ => hq p (by omega))⟩
  · rw [hq 1 (by omega)]; exact h3
  · rw [hq 2 (by omega)]; exact h4
  · rw [hq 1 (by omega)]; exact h5
  · rw [hq (92 + 2 * k) (by omega), hq (93 + 2 * k) (by omega)]; exact h6 k hk
theorem MI_torn7 {t : Int} (h : MI S v) : MI (S.1, S.2.1, upX S.2.2 7 0 t) v := h
theorem CI_torn8 {t : Int} (h : CI S v) : CI (S.1, S.2.1, upX S.2.2 8 0 t) v := h
theorem MI_torn {t : Int} (h : MI S v) : MI (S.1, S.2.1, upX S.2.2 8 0 t) (u2 v 100 38 (zI t)) := by
  obtain ⟨⟨h1, h1b⟩, h2, h3, h4, h5, h6, h7⟩ := h
  have hq : ∀ q, q ≠ 100 → u2 v 100 38 (zI t) q = v q := fun q hq => u2_o hq
  refine ⟨⟨?_, h1b.frame (hq 101 (by omega))⟩, fun k hk => ?_, ?_, ?_, ?_, ?_, u2_at _ _ _ _⟩
  · unfold MF
    rw [u2_n (show 2 ≠ 38 by decide), u2_n (show 3 ≠ 38 by decide), hq 103 (by omega), hq 104 (by omega), hq 105 (by omega), hq 106 (by omega), hq 107 (by omega)]
    exact h1
  · rw [hq 102 (by omega)]
    exact ⟨(h2 k hk).1, fun z => ((h2 k hk).2 z).frame (hq 101 (by omega))⟩
  · rw [u2_n (by decide)]; exact h3
  · rw [hq 114 (by omega)]; exact h4
  · rw [u2_n (by decide)]; exact h5
  · rw [hq 123 (by omega), hq 124 (by omega), hq 125 (by omega)]; exact h6
theorem SOK_torn {t t' : Int} (h : SOK S) : SOK (S.1, S.2.1, upX (upX S.2.2 7 0 t) 8 0 t') := h
/-- alike, with any kind of answer; both come to an end, and go on alike -/
def EqT {α : Type} (S : Sg) (v : Nat → Nat → Int32) (w : Nat → Nat → Int64) (fq fm : mH → Option (α × mH)) : Prop :=
  ∃ (r : α) (v1 : Nat → Nat → Int32) (w1 : Nat → Nat → Int64) (v2 : Nat → Nat → Int32) (w2 : Nat → Nat → Int64) (S' : Sg), fq (bh v w) = some (r, bh v1 w1) ∧ fm (bh v1 w1) = some (r, bh v2 w2) ∧ SOK S' ∧ CI S' v2 ∧ MI S' v2
def FiT {α : Type} (S : Sg) (v : Nat → Nat → Int32) (w : Nat → Nat → Int64) (fq fm : mH → Option (α × mH)) : Prop :=
  ∃ (r r' : α) (v1 : Nat → Nat → Int32) (w1 : Nat → Nat → Int64) (v2 : Nat → Nat → Int32) (w2 : Nat → Nat → Int64) (S' : Sg), fq (bh v w) = some (r, bh v1 w1) ∧ fm (bh v1 w1) = some (r', bh v2 w2) ∧ SOK S' ∧ CI S' v2 ∧ MI S' v2
theorem Eqv.T {fq fm : mH → Option (Int32 × mH)} (h : Eqv S v w fq fm) : EqT S v w fq fm := h
theorem EqT.fi {α : Type} {fq fm : mH → Option (α × mH)} (h : EqT S v w fq fm) : FiT S v w fq fm := by
  obtain ⟨r, v1, w1, v2, w2, S', e⟩ := h
  exact ⟨r, r, v1, w1, v2, w2, S', e⟩
theorem EqT.q {α : Type} {fq fm : mH → Option (α × mH)} {r : α} {v1 v2 : Nat → Nat → Int32} {w1 w2 : Nat → Nat → Int64} (hs : SOK S) (hc : CI S v) (hm : MI S v) (h1 : fq (bh v w) = some (r, bh v1 w1)) (f1 : ∀ p, pC p ∨ 100 ≤ p → v1 p = v p) (h2 : fm (bh v1 w1) = some (r, bh v2 w2)) (f2 : ∀ p, p ≤ 100 ∨ pM p → v2 p = v1 p) : EqT S v w fq fm := by
  have e : v2 100 = v 100 := (f2 100 (Or.inl (Nat.le_refl _))).trans (f1 100 (Or.inr (Nat.le_refl _)))
  refine ⟨r, v1, w1, v2, w2, S, h1, h2, hs, hc.fr (fun p hp => (f2 p (Or.inl (by unfold pC at hp; omega))).trans (f1 p (Or.inl hp))), hm.fr (fun p hp => (f2 p (Or.inr hp)).trans (f1 p (Or.inr (by unfold pM at hp; omega)))) ?_⟩
  rw [e]
  exact ⟨rfl, rfl, rfl, rfl, rfl⟩
theorem FiT.q {α : Type} {fq fm : mH → Option (α × mH)} {r r' : α} {v1 v2 : Nat → Nat → Int32} {w1 w2 : Nat → Nat → Int64} (hs : SOK S) (hc : CI S v) (hm : MI S v) (h1 : fq (bh v w) = some (r, bh v1 w1)) (f1 : ∀ p, pC p ∨ 100 ≤ p → v1 p = v p) (h2 : fm (bh v1 w1) = some (r', bh v2 w2)) (f2 : ∀ p, p ≤ 100 ∨ pM p → v2 p = v1 p) : FiT S v w fq fm := by
  have e : v2 100 = v 100 := (f2 100 (Or.inl (Nat.le_refl _))).trans (f1 100 (Or.inr (Nat.le_refl _)))
  refine ⟨r, r', v1, w1, v2, w2, S, h1, h2, hs, hc.fr (fun p hp => (f2 p (Or.inl (by unfold pC at hp; omega))).trans (f1 p (Or.inl hp))), hm.fr (fun p hp => (f2 p (Or.inr hp)).trans (f1 p (Or.inr (by unfold pM at hp; omega)))) ?_⟩
  rw [e]
  exact ⟨rfl, rfl, rfl, rfl, rfl⟩
end
/-! a BREAKING by any two numbers -/
def vld (ρ : Rho) (x y : Int32) : Prop := (0 ≤ x.toInt ∧ x.toInt < (ρ 0 1 : Int)) ∧ (0 ≤ y.toInt ∧ y.toInt < (ρ 0 0 : Int))
noncomputable def gbk (ρ : Rho) (x y : Int32) : Int32 := haveI := Classical.propDecidable; if vld ρ x y then rbk ρ x.toInt.toNat y.toInt.toNat else -1
noncomputable def gst (ρ : Rho) (x y : Int32) : Rho := haveI := Classical.propDecidable; if vld ρ x y then sbk ρ x.toInt.toNat y.toInt.toNat else ρ
section
variable {ρ : Rho} {v : Nat → Nat → Int32} {w : Nat → Nat → Int64} {o : Nat}
theorem vld_ix {x y : Int32} (hk : ROK ρ) (h : vld ρ x y) : ∃ p l, p < ρ 0 1 ∧ l < ρ 0 0 ∧ x = nI p ∧ y = nI l ∧ x.toInt.toNat = p ∧ y.toInt.toNat = l := by
  have h1 := hk.1.1
  have h2 := hk.1.2.1
  obtain ⟨p, hp, rfl⟩ := ix (by omega) h.1
  obtain ⟨l, hl, rfl⟩ := ix (by omega) h.2
  refine ⟨p, l, hp, hl, rfl, rfl, ?_, ?_⟩
  · rw [nI_toInt (by omega)]; rfl
  · rw [nI_toInt (by omega)]; rfl
theorem C_bk (ho : rl o) (hr : CR o ρ v) (hk : ROK ρ) (x y : Int32) : ∃ v', f_Realm_breakOnce o x y (bh v w) = some (gbk ρ x y, bh v' w) ∧ CR o (gst ρ x y) v' ∧ ∀ q, q < o ∨ o + 17 ≤ q → v' q = v q := by
  unfold gbk gst
  by_cases hb : vld ρ x y
  · rw [if_pos hb, if_pos hb]
    obtain ⟨p, l, hp, hl, ex, ey, e1, e2⟩ := vld_ix hk hb
    rw [e1, e2, ex, ey]
    exact C_breakOnce ho hr hk hp hl
  · rw [if_neg hb, if_neg hb]
    exact ⟨v, C_breakOnce_bad ho hr hk hb, hr, fun _ _ => rfl⟩
theorem M_bk (hr : MR ρ v) (hk : ROK ρ) (x y : Int32) : ∃ v', f_M_breaks 100 x y (bh v w) = some (gbk ρ x y, bh v' w) ∧ MR (gst ρ x y) v' ∧ (∀ q, q ≠ 101 → v' q = v q) ∧ ∀ j, 66 ≤ j → v' 101 j = v 101 j := by
  unfold gbk gst
  by_cases hb : vld ρ x y
  · rw [if_pos hb, if_pos hb]
    obtain ⟨p, l, hp, hl, ex, ey, e1, e2⟩ := vld_ix hk hb
    rw [e1, e2, ex, ey]
    exact M_breaks hr hk hp hl
  · rw [if_neg hb, if_neg hb]
    exact ⟨v, M_breaks_bad hr hk hb, hr, fun _ _ => rfl, fun _ _ => rfl⟩
theorem ROK_gst (hk : ROK ρ) (x y : Int32) : ROK (gst ρ x y) := by
  unfold gst
  by_cases hb : vld ρ x y
  · rw [if_pos hb]
    obtain ⟨p, l, hp, hl, ex, ey, e1, e2⟩ := vld_ix hk hb
    rw [e1, e2]
    exact ROK_sbk hk hp hl
  · rw [if_neg hb]; exact hk
theorem SAME_gst {σ : Rho} (h : SAME ρ σ) (x y : Int32) : SAME (gst ρ x y) σ := by
  unfold gst
  by_cases hb : vld ρ x y
  · rw [if_pos hb]; exact SAME_sbk h
  · rw [if_neg hb]; exact h
end
end
/-! 8g.read.lean.txt -/
section
/-! BREAKINGS read of a SHEET -/
def cl (S : Sg) (k : Nat) (f : Int) (i c : Nat) : Int32 := zI (S.2.2 6 (40 * k + ((f + 2 * i).toNat + c)))
noncomputable def rdl (S : Sg) (k : Nat) (f : Int) : Nat → Nat → Rho → Nat ⊕ (Nat × Rho × Int)
  | 0, i, ρ => .inr (i, ρ, 0)
  | n + 1, i, ρ => haveI := Classical.propDecidable
    if S.2.2 4 k = -4 then .inr (i, ρ, 1)
    else if 0 ≤ f + 2 * i ∧ f + 2 * i + 1 < S.2.2 5 k then
      (if 0 ≤ gbk ρ (cl S k f i 0) (cl S k f i 1) then rdl S k f n (i + 1) (gst ρ (cl S k f i 0) (cl S k f i 1)) else .inl i)
    else .inr (i, ρ, 2)
theorem at_I (f : Int32) {i : Nat} (hi : i ≤ 40) : (f.toInt64 + ((2 : Int32) * nI i).toInt64).toInt = f.toInt + 2 * i := by
  have h1 := f.toInt_lt
  have h2 := f.le_toInt
  rw [Int64.toInt_add, Int32.toInt_toInt64, Int32.toInt_toInt64, show (2 : Int32) = nI 2 from rfl, pk_mul, nI_toInt (by omega)]
  rw [Int.bmod_eq_of_le (by omega) (by omega)]
  omega
theorem at_S {a : Int64} {t : Int} {c : Nat} (h : a.toInt = t) (hb : -2 ^ 40 ≤ t ∧ t < 2 ^ 40) (hc : c ≤ 1) : (a + (nI c).toInt64).toInt = t + c := by
  rw [Int64.toInt_add, h, Int32.toInt_toInt64, nI_toInt (by omega)]
  rw [Int.bmod_eq_of_le (by omega) (by omega)]
theorem at_32 {a : Int64} {j : Nat} (h : a.toInt = (j : Int)) (hj : j < 2 ^ 31) : a.toInt32 = nI j := by
  apply Int32.toInt_inj.mp
  rw [Int64.toInt_toInt32, h, nI_toInt hj]
  exact Int.bmod_eq_of_le (by omega) (by omega)
section
variable {S : Sg} {v : Nat → Nat → Int32} {w : Nat → Nat → Int64} {k : Nat}
theorem C_pair (hs : SOK S) (hc : CI S v) (hk : k < 4) {a : Int64} {t : Int} (h : a.toInt = t) (hb : -2 ^ 40 ≤ t ∧ t < 2 ^ 40) : f_Sheet_faultOfPair (92 + 2 * k) a (bh v w) = some (if S.2.2 4 k = -4 then 1 else if 0 ≤ t ∧ t + 1 < S.2.2 5 k then 0 else 2, bh v w) := by
  have e1 : (a + 1).toInt = t + 1 := at_S (c := 1) h hb (by decide)
  simp only [f_Sheet_faultOfPair, f_Sheet_faultOfPair_0, hSh hk v w, bd1_s]
  rw [C_faultAt hs hc hk, bd2_s, h]
  by_cases h4 : S.2.2 4 k = -4
  · rw [if_pos h4, if_pos h4, if_neg (by decide)]
  · rw [if_neg h4, if_neg h4]
    by_cases h0 : 0 ≤ t ∧ t < S.2.2 5 k
    · rw [if_pos h0, if_pos rfl]
      simp only [hSh hk v w, bd1_s]
      rw [C_faultAt hs hc hk, bd2_s, e1, if_neg h4]
      by_cases h1 : t + 1 < S.2.2 5 k
      · rw [if_pos (by omega), if_pos (by omega)]
      · rw [if_neg (by omega), if_neg (by omega)]
    · rw [if_neg h0, if_neg (by decide), if_neg (by omega)]
theorem C_cell (hc : CI S v) (hk : k < 4) {a : Int64} {j : Nat} (h : a.toInt = (j : Int)) (hj : j < 40) : f_Sheet_cellAt (92 + 2 * k) a (bh v w) = some (zI (S.2.2 6 (40 * k + j)), bh v w) := by
  simp only [f_Sheet_cellAt, f_Sheet_cellAt_0, hSh hk v w, bd1_s]
  rw [at_32 h (by omega), rd_nI hj (by decide), bd1_s, (hc.2.2.2.2.2.1 k hk).2.2 j hj]
theorem Q_rd (hs : SOK S) (hk : k < 4) (f : Int32) {N : Nat} (hN : N ≤ 20) : ∀ (n i fuel : Nat) (ρ : Rho) (v : Nat → Nat → Int32), n + 1 < fuel → i + n = N → CI S v → CR 20 ρ v → ROK ρ →
    (∀ j, rdl S k f.toInt n i ρ = .inl j → ∃ v', f_Q_read_64 fuel 0 f (nI N) (92 + 2 * k) (nI i) 0 (nI i) (bh v w) = some ((-20) - nI j, bh v' w) ∧ ∀ q, q < 20 ∨ 37 ≤ q → v' q = v q) ∧
    (∀ c ρ' t, rdl S k f.toInt n i ρ = .inr (c, ρ', t) → ∃ v', f_Q_read_64 fuel 0 f (nI N) (92 + 2 * k) (nI i) 0 (nI i) (bh v w) = f_Q_read_141 0 (nI c) (zI t) (bh v' w) ∧ CR 20 ρ' v' ∧ ROK ρ' ∧ (∀ σ, SAME ρ σ → SAME ρ' σ) ∧ ∀ q, q < 20 ∨ 37 ≤ q → v' q = v q) := by
  intro n
  induction n with
  | zero =>
    intro i fuel ρ v hf hi hc hr hk2
    obtain ⟨m, rfl⟩ : ∃ m, fuel = m + 1 := ⟨fuel - 1, by omega⟩
    refine ⟨fun j z => (by cases z), fun c ρ' t z => ?_⟩
    have z := Sum.inr.inj z
    obtain rfl : i = c := congrArg Prod.fst z
    obtain rfl : ρ = ρ' := congrArg (fun q => q.2.1) z
    obtain rfl : (0 : Int) = t := congrArg (fun q => q.2.2) z
    refine ⟨v, ?_, hr, hk2, fun _ h => h, fun _ _ => rfl⟩
    simp only [f_Q_read_64, f_Q_read_64b]
    rw [if_pos ((nI_leI (by omega) (by omega)).mpr (by omega))]
    rfl
  | succ n ih =>
    intro i fuel ρ v hf hi hc hr hk2
    obtain ⟨m, rfl⟩ : ∃ m, fuel = m + 1 + 1 := ⟨fuel - 2, by omega⟩
    have hf1 := f.toInt_lt
    have hf2 := f.le_toInt
    have eat := at_I f (i := i) (by omega)
    have stop : ∀ (t : Int32), ¬ t = 0 → f_Q_read_64 (m + 1) 0 f (nI N) (92 + 2 * k) (nI i) t (nI i + 1) (bh v w) = f_Q_read_141 0 (nI i) t (bh v w) := by
      intro t ht
      simp only [f_Q_read_64, f_Q_read_64b]
      rw [if_neg ht]
      split <;> rfl
    have step : f_Q_read_64 (m + 1 + 1) 0 f (nI N) (92 + 2 * k) (nI i) 0 (nI i) (bh v w) = (if (if S.2.2 4 k = -4 then (1 : Int32) else if 0 ≤ f.toInt + 2 * i ∧ f.toInt + 2 * i + 1 < S.2.2 5 k then 0 else 2) = 0 then
        bd1 (gR (bh v w) 0 0 2) fun x35 => bd1 (kC (bh v w) (92 + 2 * k) 5) fun _ => bd2 (f_Sheet_cellAt (92 + 2 * k) (f.toInt64 + (((2 : Int32) * nI i).toInt64)) (bh v w)) fun x41 h39 => bd1 (kC h39 (92 + 2 * k) 5) fun _ => bd2 (f_Sheet_cellAt (92 + 2 * k) ((f.toInt64 + (((2 : Int32) * nI i).toInt64)) + (1 : Int64)) h39) fun x46 h44 => bd1 (kC h44 x35 4) fun _ => bd2 (f_Realm_breakOnce x35 x41 x46 h44) fun x51 h49 => if 0 ≤ x51 then f_Q_read_135 (f_Q_read_64 (m + 1)) 0 f (nI N) (92 + 2 * k) (nI i + (1 : Int32)) (if S.2.2 4 k = -4 then (1 : Int32) else if 0 ≤ f.toInt + 2 * i ∧ f.toInt + 2 * i + 1 < S.2.2 5 k then 0 else 2) (nI i) h49 else some (((-20) : Int32) - nI i, h49)
        else f_Q_read_64 (m + 1) 0 f (nI N) (92 + 2 * k) (nI i) (if S.2.2 4 k = -4 then (1 : Int32) else if 0 ≤ f.toInt + 2 * i ∧ f.toInt + 2 * i + 1 < S.2.2 5 k then 0 else 2) (nI i + 1) (bh v w)) := by
      show f_Q_read_64b (f_Q_read_64 (m + 1)) 0 f (nI N) (92 + 2 * k) (nI i) 0 (nI i) (bh v w) = _
      unfold f_Q_read_64b
      rw [if_neg (fun z => by have := (nI_leI (by omega) (by omega)).mp z; omega), if_pos rfl]
      simp only [hSh hk v w, bd1_s]
      rw [C_pair hs hc hk eat (by omega), bd2_s]
      simp only [hSh hk v w, bd1_s]
      rfl
    by_cases h4 : S.2.2 4 k = -4
    · have e : rdl S k f.toInt (n + 1) i ρ = .inr (i, ρ, 1) := by simp only [rdl]; rw [if_pos h4]
      rw [e]
      refine ⟨fun j z => (by cases z), fun c ρ' t z => ?_⟩
      have z := Sum.inr.inj z
      obtain rfl : i = c := congrArg Prod.fst z
      obtain rfl : ρ = ρ' := congrArg (fun q => q.2.1) z
      obtain rfl : (1 : Int) = t := congrArg (fun q => q.2.2) z
      refine ⟨v, ?_, hr, hk2, fun _ h => h, fun _ _ => rfl⟩
      rw [step, if_pos h4, if_neg (by decide), stop 1 (by decide)]
      rfl
    · by_cases h5 : 0 ≤ f.toInt + 2 * i ∧ f.toInt + 2 * i + 1 < S.2.2 5 k
      · have hz := (hs.2.2.2.2.2 k hk).2.2
        obtain ⟨j, hj⟩ : ∃ j : Nat, f.toInt + 2 * i = (j : Int) := ⟨(f.toInt + 2 * i).toNat, by omega⟩
        have ej : (f.toInt + 2 * i).toNat = j := by omega
        obtain ⟨v1, e1, c1, f1⟩ := C_bk (w := w) rl20 hr hk2 (cl S k f.toInt i 0) (cl S k f.toInt i 1)
        have hc1 : CI S v1 := hc.fr (fun p hp => f1 p (by unfold pC at hp; omega))
        have step2 : f_Q_read_64 (m + 1 + 1) 0 f (nI N) (92 + 2 * k) (nI i) 0 (nI i) (bh v w) = if 0 ≤ gbk ρ (cl S k f.toInt i 0) (cl S k f.toInt i 1) then f_Q_read_64 (m + 1) 0 f (nI N) (92 + 2 * k) (nI (i + 1)) 0 (nI (i + 1)) (bh v1 w) else some (((-20) : Int32) - nI i, bh v1 w) := by
          rw [step, if_neg h4, if_pos h5, if_pos rfl]
          simp only [hQ v w, hSh hk v w, bd1_s]
          rw [C_cell hc hk (eat.trans hj) (by omega), bd2_s]
          simp only [hSh hk v w, bd1_s]
          have ea1 : ((f.toInt64 + ((2 : Int32) * nI i).toInt64) + 1).toInt = ((j + 1 : Nat) : Int) := (at_S (c := 1) (eat.trans hj) (by omega) (by decide)).trans (by omega)
          rw [C_cell hc hk ea1 (by omega), bd2_s]
          simp only [hRl rl20 v w, bd1_s]
          have c0 : zI (S.2.2 6 (40 * k + j)) = cl S k f.toInt i 0 := by unfold cl; rw [ej]; rfl
          have c1 : zI (S.2.2 6 (40 * k + (j + 1))) = cl S k f.toInt i 1 := by unfold cl; rw [ej]
          rw [c0, c1, e1, bd2_s, nI_1]
          unfold f_Q_read_135
          rw [nI_1]
        by_cases hg : 0 ≤ gbk ρ (cl S k f.toInt i 0) (cl S k f.toInt i 1)
        · have e : rdl S k f.toInt (n + 1) i ρ = rdl S k f.toInt n (i + 1) (gst ρ (cl S k f.toInt i 0) (cl S k f.toInt i 1)) := by simp only [rdl]; rw [if_neg h4, if_pos h5, if_pos hg]
          rw [e, step2, if_pos hg]
          obtain ⟨a1, a2⟩ := ih (i + 1) (m + 1) _ v1 (by omega) (by omega) hc1 c1 (ROK_gst hk2 _ _)
          refine ⟨fun j z => ?_, fun c ρ' t z => ?_⟩
          · obtain ⟨v', b1, b2⟩ := a1 j z
            exact ⟨v', b1, fun q hq => (b2 q hq).trans (f1 q (by omega))⟩
          · obtain ⟨v', b1, b2, b3, b4, b5⟩ := a2 c ρ' t z
            exact ⟨v', b1, b2, b3, fun σ h => b4 σ (SAME_gst h _ _), fun q hq => (b5 q hq).trans (f1 q (by omega))⟩
        · have e : rdl S k f.toInt (n + 1) i ρ = .inl i := by simp only [rdl]; rw [if_neg h4, if_pos h5, if_neg hg]
          rw [e, step2, if_neg hg]
          refine ⟨fun j z => ?_, fun c ρ' t z => by cases z⟩
          obtain rfl : i = j := Sum.inl.inj z
          exact ⟨v1, rfl, fun q hq => f1 q (by omega)⟩
      · have e : rdl S k f.toInt (n + 1) i ρ = .inr (i, ρ, 2) := by simp only [rdl]; rw [if_neg h4, if_neg h5]
        rw [e]
        refine ⟨fun j z => (by cases z), fun c ρ' t z => ?_⟩
        have z := Sum.inr.inj z
        obtain rfl : i = c := congrArg Prod.fst z
        obtain rfl : ρ = ρ' := congrArg (fun q => q.2.1) z
        obtain rfl : (2 : Int) = t := congrArg (fun q => q.2.2) z
        refine ⟨v, ?_, hr, hk2, fun _ h => h, fun _ _ => rfl⟩
        rw [step, if_neg h4, if_neg h5, if_neg (by decide), stop 2 (by decide)]
        rfl
end
end
