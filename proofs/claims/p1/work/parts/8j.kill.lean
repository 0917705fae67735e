/-! kill -/
/-- how often all but those of the set can break a LAW -/
def sAble (ρ : Rho) (s l p : Nat) : Nat := sumN (fun q => if bit s q = 0 then sTries ρ q l else 0) p
/-- the least set of fewest, of the sets below n (0 none, else one more than the set) -/
def kst (ρ : Rho) (l : Nat) : Nat → Nat
  | 0 => 0
  | n + 1 => if (sAble ρ n l (ρ 0 1) < sNeed ρ l) ∧ (kst ρ l n = 0 ∨ sumN (bit n) 5 < sumN (bit (kst ρ l n - 1)) 5) then n + 1 else kst ρ l n
theorem kst_le (ρ : Rho) (l : Nat) : ∀ n, kst ρ l n ≤ n
  | 0 => Nat.le_refl _
  | n + 1 => by
    have := kst_le ρ l n
    unfold kst
    split <;> omega
theorem cI_s (m : Nat) : cI (m + 1) = nI m := rfl
theorem cI_n4 {c : Nat} (hc : c ≤ 100) : cI c = (-4 : Int32) ↔ c = 0 := by
  cases c with
  | zero => exact ⟨fun _ => rfl, fun _ => rfl⟩
  | succ m =>
    refine ⟨fun h => ?_, fun h => by cases h⟩
    have := congrArg Int32.toInt h
    rw [cI_s, nI_toInt (by omega)] at this
    have e : (-4 : Int32).toInt = -4 := rfl
    omega
theorem sumbit_le (s : Nat) : sumN (bit s) 5 ≤ 5 := by
  have := sumN_c (f := bit s) (c := 1) (n := 5) (fun i _ => by have := bit_lt s i; omega)
  omega
section
variable {ρ : Rho} {v : Nat → Nat → Int32} {w : Nat → Nat → Int64} {o : Nat}
theorem sAble_le (hk : ROK ρ) {s l p : Nat} (hl : l < ρ 0 0) : sAble ρ s l p ≤ 3 * p := by
  unfold sAble
  refine sumN_c (fun i _ => ?_)
  have := sTries_le hk (p := i) hl
  split <;> omega
theorem C_ableWithout (ho : rl o) (hr : CR o ρ v) (hk : ROK ρ) {s l : Nat} (hs : s < 32) (hl : l < ρ 0 0) : f_Realm_ableWithout o (nI s) (nI l) (bh v w) = some (nI (sAble ρ s l (ρ 0 1)), bh v w) := by
  have h2 := hk.1.2.1
  have key : ∀ (k fuel i : Nat), k < fuel → i + k = ρ 0 1 → f_Realm_ableWithout_5 fuel o (nI s) (nI l) (nI (sAble ρ s l i)) (nI i) (bh v w) = some (nI (sAble ρ s l (ρ 0 1)), bh v w) := by
    intro k
    induction k with
    | zero =>
      intro fuel i hf hi
      obtain ⟨n, rfl⟩ : ∃ n, fuel = n + 1 := ⟨fuel - 1, by omega⟩
      simp only [f_Realm_ableWithout_5, f_Realm_ableWithout_5b, hRl ho v w, bd1_s]
      rw [hr.1.2.1, if_pos (nI_le (by omega) (by omega)), show i = ρ 0 1 by omega]
    | succ k ih =>
      intro fuel i hf hi
      obtain ⟨n, rfl⟩ : ∃ n, fuel = n + 1 := ⟨fuel - 1, by omega⟩
      simp only [f_Realm_ableWithout_5, f_Realm_ableWithout_5b, f_Realm_ableWithout_35, hRl ho v w, bd1_s]
      rw [hr.1.2.1, if_neg (nI_ge (by omega) (by omega)), Q_hasBit (by omega) (by omega), bd2_s]
      have := ih n (i + 1) (by omega) (by omega)
      rw [show sAble ρ s l (i + 1) = sAble ρ s l i + (if bit s i = 0 then sTries ρ i l else 0) from rfl] at this
      rcases bit_01 s i with g | g
      · rw [g, if_pos (show nI 0 = 0 from rfl)]
        simp only [hRl ho v w, bd1_s]
        rw [C_ableAlone ho hr hk (by omega) hl, bd2_s, nI_add, nI_1]
        rw [if_pos g] at this
        exact this
      · rw [g, if_neg (show ¬ nI 1 = 0 by decide), show (0 : Int32) = nI 0 from rfl, nI_add, nI_1]
        rw [if_neg (by omega)] at this
        exact this
  exact key (ρ 0 1) FU 0 (by unfold FU; omega) (by omega)
theorem two_pow_I {P : Nat} (hP : P ≤ 5) : (1 : Int32) <<< (nI P &&& 31) = nI (2 ^ P) := shl_I (by omega)
theorem pw8 {P : Nat} (hP : P ≤ 3) : 2 ^ P ≤ 8 := Nat.le_trans (Nat.pow_le_pow_right (by decide) hP) (by decide)
end
section
variable {S : Sg} {v : Nat → Nat → Int32} {w : Nat → Nat → Int64}
def kans (ρ : Rho) (l : Nat) (x : Int32) : Int32 := if kst ρ l (2 ^ ρ 0 1) = 0 then -4 else if x = 0 then nI (sumN (bit (kst ρ l (2 ^ ρ 0 1) - 1)) 5) else cI (kst ρ l (2 ^ ρ 0 1))
theorem Q_kill_loop (hs : SOK S) (hc : CI S v) {l : Nat} (hl : l < S.1 0 0) (x : Int32) : f_Q_kill_45 FU 0 (nI l) x (-4) 0 (bh v w) = some (kans S.1 l x, bh v w) := by
  have h2 := hs.1.1.2.1
  have h1 := hs.1.1.1
  have hp8 := pw8 h2
  have key : ∀ (k fuel n : Nat), k < fuel → n + k = 2 ^ S.1 0 1 → f_Q_kill_45 fuel 0 (nI l) x (cI (kst S.1 l n)) (nI n) (bh v w) = some (kans S.1 l x, bh v w) := by
    intro k
    induction k with
    | zero =>
      intro fuel n hf hn
      obtain ⟨m, rfl⟩ : ∃ m, fuel = m + 1 := ⟨fuel - 1, by omega⟩
      have kl := kst_le S.1 l n
      simp only [f_Q_kill_45, f_Q_kill_45b, f_Q_kill_136, q_now, hRl rl3 v w, bd1_s]
      rw [hc.1.1.2.1, two_pow_I (by omega), if_pos ((nI_leI (by omega) (by omega)).mpr (by omega))]
      unfold kans
      rw [← hn, Nat.add_zero]
      cases hz : kst S.1 l n with
      | zero =>
        rw [if_pos rfl, if_pos (show cI 0 = -4 from rfl)]
        split <;> rfl
      | succ m =>
        rw [if_neg (show ¬ m + 1 = 0 by omega), if_neg (show ¬ cI (m + 1) = -4 from fun q => by have := (cI_n4 (c := m + 1) (by omega)).mp q; omega), cI_s, bitCount_I _ (by omega), bd2_s]
        split <;> rfl
    | succ k ih =>
      intro fuel n hf hn
      obtain ⟨m, rfl⟩ : ∃ m, fuel = m + 1 := ⟨fuel - 1, by omega⟩
      have kl := kst_le S.1 l n
      have nx := ih m (n + 1) (by omega) (by omega)
      have na := sAble_le hs.1 (s := n) (p := S.1 0 1) hl
      have nn := sNeed_le hs.1 hl
      have go : ∀ (d : Prop) [Decidable d], (d ↔ (kst S.1 l n = 0 ∨ sumN (bit n) 5 < sumN (bit (kst S.1 l n - 1)) 5)) → f_Q_kill_82 (f_Q_kill_45 m) 0 (nI l) x (cI (kst S.1 l n)) (nI n) (if d then 1 else 0) (bh v w) = some (kans S.1 l x, bh v w) := by
        intro d hd1 hd
        unfold f_Q_kill_82 f_Q_kill_113
        rw [show kst S.1 l (n + 1) = if (sAble S.1 n l (S.1 0 1) < sNeed S.1 l) ∧ (kst S.1 l n = 0 ∨ sumN (bit n) 5 < sumN (bit (kst S.1 l n - 1)) 5) then n + 1 else kst S.1 l n from rfl] at nx
        by_cases h : d
        · rw [if_pos h, if_neg (by decide)]
          simp only [q_now, hRl rl3 v w, bd1_s]
          rw [C_ableWithout rl3 hc.1 hs.1 (by omega) hl, bd2_s]
          simp only [q_now, hRl rl3 v w, bd1_s]
          rw [C_needOf rl3 hc.1 hs.1 hl, bd2_s, ite_iff (nI_leI (by omega) (by omega)), nI_1]
          by_cases g : sNeed S.1 l ≤ sAble S.1 n l (S.1 0 1)
          · rw [if_pos g]
            rw [if_neg (fun q => by omega)] at nx
            exact nx
          · rw [if_neg g]
            rw [if_pos ⟨by omega, hd.mp h⟩] at nx
            exact nx
        · rw [if_neg h, if_pos rfl, nI_1]
          rw [if_neg (fun q => h (hd.mpr q.2))] at nx
          exact nx
      simp only [f_Q_kill_45, f_Q_kill_45b, f_Q_kill_77, q_now, hRl rl3 v w, bd1_s]
      rw [hc.1.1.2.1, two_pow_I (by omega), if_neg (fun z => by have := (nI_leI (by omega) (by omega)).mp z; omega)]
      by_cases h0 : kst S.1 l n = 0
      · rw [if_pos ((cI_n4 (by omega)).mpr h0)]
        have := go True (by simp [h0])
        rw [if_pos trivial] at this
        exact this
      · rw [if_neg (fun q => h0 ((cI_n4 (by omega)).mp q))]
        obtain ⟨m2, hm2⟩ : ∃ m2, kst S.1 l n = m2 + 1 := ⟨kst S.1 l n - 1, by omega⟩
        rw [bitCount_I _ (by omega), bd2_s, hm2, cI_s, bitCount_I _ (by omega), bd2_s]
        have b1 := sumbit_le n
        have b2 := sumbit_le m2
        rw [ite_iff (nI_leI (by omega) (by omega))]
        have g1 := go (sumN (bit n) 5 < sumN (bit m2) 5) (by rw [hm2]; simp)
        rw [hm2, cI_s] at g1
        by_cases g : sumN (bit m2) 5 ≤ sumN (bit n) 5
        · rw [if_pos g]
          rw [if_neg (by omega)] at g1
          exact g1
        · rw [if_neg g]
          rw [if_pos (by omega)] at g1
          exact g1
  exact key (2 ^ S.1 0 1) FU 0 (by unfold FU; omega) (by omega)
end
