section
variable {ρ : Rho} {v : Nat → Nat → Int32} {w : Nat → Nat → Int64} {o : Nat}
theorem C_brokenInAll (ho : rl o) (hr : CR o ρ v) (hk : ROK ρ) : f_Realm_brokenInAll o (bh v w) = some (nI (sumN (sAll ρ) (ρ 0 1)), bh v w) := by
  have h2 := hk.1.2.1
  have key : ∀ (k fuel i : Nat), k < fuel → i + k = ρ 0 1 → f_Realm_brokenInAll_4 fuel o (nI (sumN (sAll ρ) i)) (nI i) (bh v w) = some (nI (sumN (sAll ρ) (ρ 0 1)), bh v w) := by
    intro k
    induction k with
    | zero =>
      intro fuel i hf hi
      obtain ⟨n, rfl⟩ : ∃ n, fuel = n + 1 := ⟨fuel - 1, by omega⟩
      simp only [f_Realm_brokenInAll_4, f_Realm_brokenInAll_4b, hRl ho v w, bd1_s]
      rw [hr.1.2.1, if_pos (nI_le (by omega) (by omega)), show i = ρ 0 1 by omega]
    | succ k ih =>
      intro fuel i hf hi
      obtain ⟨n, rfl⟩ : ∃ n, fuel = n + 1 := ⟨fuel - 1, by omega⟩
      simp only [f_Realm_brokenInAll_4, f_Realm_brokenInAll_4b, hRl ho v w, bd1_s]
      rw [hr.1.2.1, if_neg (nI_ge (by omega) (by omega)), C_brokenByOne ho hr hk (by omega), bd2_s, nI_add, nI_1]
      exact ih n (i + 1) (by omega) (by omega)
  exact key (ρ 0 1) FU 0 (by unfold FU; omega) (by omega)
theorem C_allPurses (ho : rl o) (hr : CR o ρ v) (hk : ROK ρ) : f_Realm_allPurses o (bh v w) = some (nI (sumN (ρ 9) (ρ 0 1)), bh v w) := by
  have h2 := hk.1.2.1
  have key : ∀ (k fuel i : Nat), k < fuel → i + k = ρ 0 1 → f_Realm_allPurses_4 fuel o (nI (sumN (ρ 9) i)) (nI i) (bh v w) = some (nI (sumN (ρ 9) (ρ 0 1)), bh v w) := by
    intro k
    induction k with
    | zero =>
      intro fuel i hf hi
      obtain ⟨n, rfl⟩ : ∃ n, fuel = n + 1 := ⟨fuel - 1, by omega⟩
      simp only [f_Realm_allPurses_4, f_Realm_allPurses_4b, hRl ho v w, bd1_s]
      rw [hr.1.2.1, if_pos (nI_le (by omega) (by omega)), show i = ρ 0 1 by omega]
    | succ k ih =>
      intro fuel i hf hi
      obtain ⟨n, rfl⟩ : ∃ n, fuel = n + 1 := ⟨fuel - 1, by omega⟩
      simp only [f_Realm_allPurses_4, f_Realm_allPurses_4b, hRl ho v w, bd1_s]
      rw [hr.1.2.1, if_neg (nI_ge (by omega) (by omega)), rd_nI (by omega) (by decide), bd1_s, (hr.2.2.1 i (by omega)).2.2.2.1, nI_add, nI_1]
      exact ih n (i + 1) (by omega) (by omega)
  exact key (ρ 0 1) FU 0 (by unfold FU; omega) (by omega)
theorem C_allNeed (ho : rl o) (hr : CR o ρ v) (hk : ROK ρ) : f_Realm_allNeed o (bh v w) = some (nI (sumN (sNeed ρ) (ρ 0 0)), bh v w) := by
  have h1 := hk.1.1
  have key : ∀ (k fuel i : Nat), k < fuel → i + k = ρ 0 0 → f_Realm_allNeed_4 fuel o (nI (sumN (sNeed ρ) i)) (nI i) (bh v w) = some (nI (sumN (sNeed ρ) (ρ 0 0)), bh v w) := by
    intro k
    induction k with
    | zero =>
      intro fuel i hf hi
      obtain ⟨n, rfl⟩ : ∃ n, fuel = n + 1 := ⟨fuel - 1, by omega⟩
      simp only [f_Realm_allNeed_4, f_Realm_allNeed_4b, hRl ho v w, bd1_s]
      rw [hr.1.1, if_pos (nI_le (by omega) (by omega)), show i = ρ 0 0 by omega]
    | succ k ih =>
      intro fuel i hf hi
      obtain ⟨n, rfl⟩ : ∃ n, fuel = n + 1 := ⟨fuel - 1, by omega⟩
      simp only [f_Realm_allNeed_4, f_Realm_allNeed_4b, hRl ho v w, bd1_s]
      rw [hr.1.1, if_neg (nI_ge (by omega) (by omega)), C_needOf ho hr hk (by omega), bd2_s, nI_add, nI_1]
      exact ih n (i + 1) (by omega) (by omega)
  exact key (ρ 0 0) FU 0 (by unfold FU; omega) (by omega)
theorem Q_countKept {a b : Nat} (ha : v 38 0 = nI a) (hb : v 38 1 = nI b) (la : a ≤ 1) (lb : b ≤ 1) : f_Q_countKept 0 (bh v w) = some (nI (a + b), bh v w) := by
  have e0 : rd (v 38) 2 (0 : Int32) = some (nI a) := by rw [← ha]; rfl
  have e1 : rd (v 38) 2 (1 : Int32) = some (nI b) := by rw [← hb]; rfl
  have st : ∀ (n : Nat) (s i : Int32) (x : Nat), rd (v 38) 2 i = some (nI x) → x ≤ 1 → ¬ (2 : Int32) ≤ i → f_Q_countKept_4 (n + 1) 0 s i (bh v w) = f_Q_countKept_4 n 0 (s + nI x) (i + 1) (bh v w) := by
    intro n s i x ex hx hi
    simp only [f_Q_countKept_4, f_Q_countKept_4b, f_Q_countKept_24, hQ v w, bd1_s]
    rw [if_neg hi, ex, bd1_s]
    rcases (show x = 0 ∨ x = 1 by omega) with rfl | rfl
    · rw [if_pos (show nI 0 = 0 from rfl)]; rfl
    · rw [if_neg (by decide)]; rfl
  have en : ∀ (n : Nat) (s i : Int32), (2 : Int32) ≤ i → f_Q_countKept_4 (n + 1) 0 s i (bh v w) = some (s, bh v w) := by
    intro n s i hi
    simp only [f_Q_countKept_4, f_Q_countKept_4b]
    rw [if_pos hi]
  refine ((st 599 0 0 a e0 la (by decide)).trans (st 598 (0 + nI a) 1 b e1 lb (by decide))).trans ?_
  refine (en 597 _ _ (by decide)).trans ?_
  rw [show (0 : Int32) = nI 0 from rfl, nI_add, nI_add, Nat.zero_add]
/-- the sums that the reference's count makes -/
theorem M_count_50 (hr : MR ρ v) (hk : ROK ρ) (x a b : Int32) : f_M_count 100 x (bh v w) = f_M_count_50 FU 100 x (nI (sumN (sAll ρ) (ρ 0 1))) (nI (sumN (ρ 9) (ρ 0 1))) 0 0 (bh v w) := by
  have h2 := hk.1.2.1
  have key : ∀ (k fuel i : Nat), k < fuel → i + k = ρ 0 1 → f_M_count_10 fuel 100 x (nI (sumN (sAll ρ) i)) (nI (sumN (ρ 9) i)) 0 (nI i) (bh v w) = f_M_count_50 FU 100 x (nI (sumN (sAll ρ) (ρ 0 1))) (nI (sumN (ρ 9) (ρ 0 1))) 0 0 (bh v w) := by
    intro k
    induction k with
    | zero =>
      intro fuel i hf hi
      obtain ⟨n, rfl⟩ : ∃ n, fuel = n + 1 := ⟨fuel - 1, by omega⟩
      simp only [f_M_count_10, f_M_count_10b, hM v w, bd1_s]
      rw [hr.1.2.1, if_pos (nI_le (by omega) (by omega)), show i = ρ 0 1 by omega]
    | succ k ih =>
      intro fuel i hf hi
      obtain ⟨n, rfl⟩ : ∃ n, fuel = n + 1 := ⟨fuel - 1, by omega⟩
      simp only [f_M_count_10, f_M_count_10b, hM v w, bd1_s]
      have := hr.2.2.2.2.2.2.1 i (by omega)
      rw [show 0 + 15 + i = 15 + i by omega] at this
      rw [hr.1.2.1, if_neg (nI_ge (by omega) (by omega)), M_allBy hr hk (by omega), bd2_s]
      simp only [hM v w, bd1_s]
      rw [show (15 : Int32) + nI i = nI (15 + i) by rw [show (15 : Int32) = nI 15 from rfl, nI_add], rd_nI (by omega) (by decide), bd1_s, this, nI_add, nI_add, nI_1]
      exact ih n (i + 1) (by omega) (by omega)
  exact key (ρ 0 1) FU 0 (by unfold FU; omega) (by omega)
end
section
variable {S : Sg} {v : Nat → Nat → Int32} {w : Nat → Nat → Int64}
theorem E_count (x : Int32) (hs : SOK S) (hc : CI S v) (hm : MI S v) : Eqv S v w (f_Q_count 0 x) (f_M_count 100 x) := by
  have h1 := hs.1.1.1
  have h2 := hs.1.1.2.1
  have hst := hs.1.st
  obtain ⟨a, ha, la⟩ : ∃ a : Nat, S.2.2 3 0 = a ∧ a ≤ 1 := by
    rcases hs.2.1 0 (by omega) with z | z
    · exact ⟨0, z, by omega⟩
    · exact ⟨1, z.1, by omega⟩
  obtain ⟨b, hb, lb⟩ : ∃ b : Nat, S.2.2 3 1 = b ∧ b ≤ 1 := by
    rcases hs.2.1 1 (by omega) with z | z
    · exact ⟨0, z, by omega⟩
    · exact ⟨1, z.1, by omega⟩
  have k0 : v 38 0 = nI a := by rw [(hc.2.1 0 (by omega)).1, ha]; rfl
  have k1 : v 38 1 = nI b := by rw [(hc.2.1 1 (by omega)).1, hb]; rfl
  have c5 : v 92 0 = zI (if S.2.2 4 0 = -4 then -4 else S.2.2 5 0) := (hc.2.2.2.2.2.1 0 (by omega)).1
  have eA : aR (bh v w) 5 39 (0 : Int32) = some 92 := rfl
  refine Eqv.query (r := if x = 0 then nI (sumN (bit (S.1 0 4)) 5) else if x = 1 then nI (sumN (sAll S.1) (S.1 0 1)) else if x = 2 then nI (S.1 0 6) else if x = 3 then nI (a + b) else if x = 4 then zI (S.2.2 0 0) else if x = 5 then zI (if S.2.2 4 0 = -4 then -4 else S.2.2 5 0) else if x = 6 then nI (sumN (S.1 9) (S.1 0 1)) else if x = 7 then nI (sumN (sNeed S.1) (S.1 0 0)) else -1) hs hc hm ?_ ?_
  · simp only [f_Q_count, f_Q_count_0, q_now, hQ v w, hRl rl3 v w, bd1_s, eA]
    rw [hc.1.1.2.2.2.2.1, bitCount_I _ hst, C_brokenInAll rl3 hc.1 hs.1, Q_countKept k0 k1 la lb, C_allPurses rl3 hc.1 hs.1, C_allNeed rl3 hc.1 hs.1]
    simp only [bd2_s]
    rw [show v (3 + 13) 0 = nI (S.1 0 6) from hc.1.1.2.2.2.2.2.2, hc.2.2.1, c5]
    repeat' split
    all_goals rfl
  · rw [M_count_50 hm.1 hs.1 x 0 0]
    have m0 : rd (v 102) 2 (0 : Int32) = some (nI a) := by rw [show nI a = zI (S.2.2 3 0) by rw [ha]; rfl, ← (hm.2.1 0 (by omega)).1]; rfl
    have m1 : rd (v 102) 2 (1 : Int32) = some (nI b) := by rw [show nI b = zI (S.2.2 3 1) by rw [hb]; rfl, ← (hm.2.1 1 (by omega)).1]; rfl
    have m4 : rd (v 123) 4 (0 : Int32) = some (zI (S.2.2 4 0)) := by rw [← (hm.2.2.2.2.2.1 0 (by omega)).1]; rfl
    have m5 : rd (v 124) 4 (0 : Int32) = some (zI (S.2.2 5 0)) := by rw [← (hm.2.2.2.2.2.1 0 (by omega)).2.1]; rfl
    have e10 : rd (v 101) 198 (10 : Int32) = some (nI (S.1 0 4)) := by rw [← hm.1.2.2.2.1]; rfl
    have e41 : rd (v 101) 198 (41 : Int32) = some (nI (S.1 0 6)) := by rw [← hm.1.2.2.2.2.2.2.2.2.2.2.2.2.1]; rfl
    have fl : ∀ a, a ≤ 1 → ∀ h, f_M_flag (nI a) h = some (nI a, h) := by
      intro a la h
      simp only [f_M_flag, f_M_flag_0]
      rcases (show a = 0 ∨ a = 1 by omega) with rfl | rfl <;> rfl
    have i4 : zI (S.2.2 4 0) = -4 ↔ S.2.2 4 0 = -4 := by
      rcases (hs.2.2.2.2.2 0 (by omega)).1 with z | z
      · rw [z]; exact ⟨fun _ => rfl, fun _ => rfl⟩
      · rcases (show S.2.2 4 0 = 0 ∨ S.2.2 4 0 = 1 ∨ S.2.2 4 0 = 2 by omega) with y | y | y <;> rw [y] <;> decide
    have key : ∀ (k fuel i : Nat), k < fuel → i + k = S.1 0 0 → f_M_count_50 fuel 100 x (nI (sumN (sAll S.1) (S.1 0 1))) (nI (sumN (S.1 9) (S.1 0 1))) (nI (sumN (sNeed S.1) i)) (nI i) (bh v w) = some (if x = 0 then nI (sumN (bit (S.1 0 4)) 5) else if x = 1 then nI (sumN (sAll S.1) (S.1 0 1)) else if x = 2 then nI (S.1 0 6) else if x = 3 then nI (a + b) else if x = 4 then zI (S.2.2 0 0) else if x = 5 then zI (if S.2.2 4 0 = -4 then -4 else S.2.2 5 0) else if x = 6 then nI (sumN (S.1 9) (S.1 0 1)) else if x = 7 then nI (sumN (sNeed S.1) (S.1 0 0)) else -1, bh v w) := by
      intro k
      induction k with
      | zero =>
        intro fuel i hf hi
        obtain ⟨n, rfl⟩ : ∃ n, fuel = n + 1 := ⟨fuel - 1, by omega⟩
        simp only [f_M_count_50, f_M_count_50b, hM v w, bd1_s]
        rw [hm.1.1.1, if_pos (nI_le (by omega) (by omega)), show i = S.1 0 0 by omega]
        simp only [e10, e41, m0, m1, m4, m5, bd1_s, bd2_s, M_bitsOf (show S.1 0 4 < 2 ^ 31 by omega), fl a la, fl b lb, hM v w, nI_add, hm.2.2.1, i4]
        repeat' split
        all_goals first | rfl | (simp_all; done)
      | succ k ih =>
        intro fuel i hf hi
        obtain ⟨n, rfl⟩ : ∃ n, fuel = n + 1 := ⟨fuel - 1, by omega⟩
        simp only [f_M_count_50, f_M_count_50b, hM v w, bd1_s]
        rw [hm.1.1.1, if_neg (nI_ge (by omega) (by omega)), M_needOf hm.1 hs.1 (by omega), bd2_s, nI_add, nI_1]
        exact ih n (i + 1) (by omega) (by omega)
    exact key (S.1 0 0) FU 0 (by unfold FU; omega) (by omega)
end
