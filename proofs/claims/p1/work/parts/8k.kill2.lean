section
variable {S : Sg} {v : Nat → Nat → Int32} {w : Nat → Nat → Int64}
def kfew (ρ : Rho) (l n : Nat) : Int32 := if kst ρ l n = 0 then -4 else nI (sumN (bit (kst ρ l n - 1)) 5)
theorem M_kill_loop (hs : SOK S) (hm : MI S v) {l : Nat} (hl : l < S.1 0 0) (x : Int32) : f_M_kill_41 FU 100 (nI l) x (-4) (-4) 0 (bh v w) = some (kans S.1 l x, bh v w) := by
  have h2 := hs.1.1.2.1
  have h1 := hs.1.1.1
  have hp8 := pw8 h2
  have key : ∀ (k fuel n : Nat), k < fuel → n + k = 2 ^ S.1 0 1 → f_M_kill_41 fuel 100 (nI l) x (kfew S.1 l n) (cI (kst S.1 l n)) (nI n) (bh v w) = some (kans S.1 l x, bh v w) := by
    intro k
    induction k with
    | zero =>
      intro fuel n hf hn
      obtain ⟨m, rfl⟩ : ∃ m, fuel = m + 1 := ⟨fuel - 1, by omega⟩
      simp only [f_M_kill_41, f_M_kill_41b, hM v w, bd1_s]
      rw [hm.1.1.2.1, two_pow_I (by omega), if_pos ((nI_leI (by omega) (by omega)).mpr (by omega))]
      unfold kans kfew
      rw [← hn, Nat.add_zero]
      cases hz : kst S.1 l n with
      | zero =>
        rw [if_pos rfl, if_pos rfl]
        split <;> rfl
      | succ m =>
        rw [if_neg (show ¬ m + 1 = 0 by omega), if_neg (show ¬ m + 1 = 0 by omega)]
        split <;> rfl
    | succ k ih =>
      intro fuel n hf hn
      obtain ⟨m, rfl⟩ : ∃ m, fuel = m + 1 := ⟨fuel - 1, by omega⟩
      have kl := kst_le S.1 l n
      have nx := ih m (n + 1) (by omega) (by omega)
      have nn := sNeed_le hs.1 hl
      have inn : ∀ (k fuel p : Nat), k < fuel → p + k = S.1 0 1 → f_M_kill_58 (f_M_kill_41 m) fuel 100 (nI l) x (kfew S.1 l n) (cI (kst S.1 l n)) (nI n) (nI (sAble S.1 n l p)) (nI p) (bh v w) = some (kans S.1 l x, bh v w) := by
        intro k
        induction k with
        | zero =>
          intro fuel p hf hp
          obtain ⟨m2, rfl⟩ : ∃ m2, fuel = m2 + 1 := ⟨fuel - 1, by omega⟩
          obtain rfl : p = S.1 0 1 := by omega
          have na := sAble_le hs.1 (s := n) (p := S.1 0 1) hl
          show f_M_kill_58b (f_M_kill_41 m) (f_M_kill_58 (f_M_kill_41 m) m2) 100 (nI l) x (kfew S.1 l n) (cI (kst S.1 l n)) (nI n) (nI (sAble S.1 n l (S.1 0 1))) (nI (S.1 0 1)) (bh v w) = _
          unfold f_M_kill_58b
          simp only [hM v w, bd1_s]
          rw [hm.1.1.2.1, if_pos (nI_le (by omega) (by omega)), M_needOf hm.1 hs.1 hl, bd2_s, ite_iff (nI_leI (by omega) (by omega))]
          have no : ¬ ((sAble S.1 n l (S.1 0 1) < sNeed S.1 l) ∧ (kst S.1 l n = 0 ∨ sumN (bit n) 5 < sumN (bit (kst S.1 l n - 1)) 5)) → f_M_kill_128 (f_M_kill_41 m) 100 (nI l) x (kfew S.1 l n) (cI (kst S.1 l n)) (nI n) (bh v w) = some (kans S.1 l x, bh v w) := by
            intro hno
            unfold f_M_kill_128 f_M_kill_129 f_M_kill_143 f_M_kill_159
            rw [if_pos rfl, if_pos rfl, nI_1]
            have e : kst S.1 l (n + 1) = kst S.1 l n := by simp only [kst]; rw [if_neg hno]
            unfold kfew at nx ⊢
            rw [e] at nx
            exact nx
          have yes : ((sAble S.1 n l (S.1 0 1) < sNeed S.1 l) ∧ (kst S.1 l n = 0 ∨ sumN (bit n) 5 < sumN (bit (kst S.1 l n - 1)) 5)) → f_M_kill_124 (f_M_kill_41 m) 100 (nI l) x (kfew S.1 l n) (cI (kst S.1 l n)) (nI n) (bh v w) = some (kans S.1 l x, bh v w) := by
            intro hy
            unfold f_M_kill_124 f_M_kill_129 f_M_kill_143 f_M_kill_159
            rw [if_neg (by decide), if_neg (by decide), M_bitsOf (by omega), bd2_s, nI_1]
            have e : kst S.1 l (n + 1) = n + 1 := by simp only [kst]; rw [if_pos hy]
            unfold kfew at nx
            rw [e, if_neg (by omega), cI_s, show n + 1 - 1 = n by omega] at nx
            exact nx
          by_cases g : sNeed S.1 l ≤ sAble S.1 n l (S.1 0 1)
          · rw [if_pos g]
            exact no (fun q => by omega)
          · rw [if_neg g]
            by_cases h0 : kst S.1 l n = 0
            · rw [if_pos (show kfew S.1 l n = -4 by unfold kfew; rw [if_pos h0])]
              exact yes ⟨by omega, Or.inl h0⟩
            · have ek : kfew S.1 l n = nI (sumN (bit (kst S.1 l n - 1)) 5) := by unfold kfew; rw [if_neg h0]
              have b1 := sumbit_le n
              have b2 := sumbit_le (kst S.1 l n - 1)
              have n4 : ¬ kfew S.1 l n = -4 := by
                rw [ek]
                intro q
                have := congrArg Int32.toInt q
                rw [nI_toInt (by omega), show (-4 : Int32).toInt = -4 from rfl] at this
                omega
              rw [if_neg n4, M_bitsOf (by omega), bd2_s]
              by_cases g2 : sumN (bit (kst S.1 l n - 1)) 5 ≤ sumN (bit n) 5
              · rw [if_pos (by rw [ek]; exact (nI_leI (by omega) (by omega)).mpr g2)]
                exact no (fun q => q.2.elim h0 (fun z => by omega))
              · rw [if_neg (by rw [ek]; exact fun z => g2 ((nI_leI (by omega) (by omega)).mp z))]
                exact yes ⟨by omega, Or.inr (by omega)⟩
        | succ k ih2 =>
          intro fuel p hf hp
          obtain ⟨m2, rfl⟩ : ∃ m2, fuel = m2 + 1 := ⟨fuel - 1, by omega⟩
          have nx2 := ih2 m2 (p + 1) (by omega) (by omega)
          rw [show sAble S.1 n l (p + 1) = sAble S.1 n l p + (if bit n p = 0 then sTries S.1 p l else 0) from rfl] at nx2
          show f_M_kill_58b (f_M_kill_41 m) (f_M_kill_58 (f_M_kill_41 m) m2) 100 (nI l) x (kfew S.1 l n) (cI (kst S.1 l n)) (nI n) (nI (sAble S.1 n l p)) (nI p) (bh v w) = _
          unfold f_M_kill_58b f_M_kill_90
          simp only [hM v w, bd1_s]
          rw [hm.1.1.2.1, if_neg (nI_ge (by omega) (by omega)), bit_I (by omega) (by omega)]
          rcases bit_01 n p with g | g
          · rw [g, if_pos (show nI 0 = 0 from rfl)]
            rw [if_pos g] at nx2
            rw [M_triesOf hm.1 hs.1 (by omega) hl, bd2_s, nI_add, nI_1]
            exact nx2
          · rw [g, if_neg (show ¬ nI 1 = 0 by decide)]
            rw [if_neg (by omega)] at nx2
            rw [show (0 : Int32) = nI 0 from rfl, nI_add, nI_1]
            exact nx2
      show f_M_kill_41b (f_M_kill_41 m) 100 (nI l) x (kfew S.1 l n) (cI (kst S.1 l n)) (nI n) (bh v w) = _
      unfold f_M_kill_41b
      simp only [hM v w, bd1_s]
      rw [hm.1.1.2.1, two_pow_I (by omega), if_neg (fun z => by have := (nI_leI (by omega) (by omega)).mp z; omega)]
      exact inn (S.1 0 1) FU 0 (by unfold FU; omega) (by omega)
  exact key (2 ^ S.1 0 1) FU 0 (by unfold FU; omega) (by omega)
theorem E_kill (x y : Int32) (hs : SOK S) (hc : CI S v) (hm : MI S v) : Eqv S v w (f_Q_kill 0 x y) (f_M_kill 100 x y) := by
  have h1 := hs.1.1.1
  have hst := hs.1.st
  by_cases hx : 0 ≤ x.toInt ∧ x.toInt < (S.1 0 0 : Int)
  · by_cases hy : 0 ≤ y.toInt ∧ y.toInt < ((1 + 1 : Nat) : Int)
    · obtain ⟨l, hl, rfl⟩ := ix (by omega) hx
      rcases bit_01 (S.1 0 4) l with g | g
      · refine Eqv.query (r := -2) hs hc hm ?_ ?_
        · simp only [f_Q_kill, f_Q_kill_0, q_now, hRl rl3 v w, bd1_s]
          rw [C_hasLaw rl3 hc.1 h1, bd2_s, if_pos hx, if_neg (by decide), Q_isWithin, bd2_s, show (1 : Int32).toInt = (nI 1).toInt from rfl, if_pos ((in_rng (by decide)).mpr hy), if_neg (by decide)]
          simp only [q_now, hRl rl3 v w, bd1_s]
          rw [hc.1.1.2.2.2.2.1, Q_hasBit (by omega) (by omega), bd2_s, g, if_pos (show nI 0 = 0 from rfl)]
        · simp only [f_M_kill, f_M_kill_0, hM v w, bd1_s]
          rw [M_isLaw hm.1.1 h1, bd2_s, if_pos hx, if_neg (by decide), M_in, bd2_s, show (1 : Int64) = (nI 1).toInt64 from rfl, if_pos ((in_rngL (by decide)).mpr hy), if_neg (by decide)]
          simp only [hM v w, bd1_s]
          rw [M_doesStand hm.1.2 (by omega) (by omega), bd2_s, g, if_pos (show nI 0 = 0 from rfl)]
      · refine Eqv.query (r := kans S.1 l y) hs hc hm ?_ ?_
        · simp only [f_Q_kill, f_Q_kill_0, q_now, hRl rl3 v w, bd1_s]
          rw [C_hasLaw rl3 hc.1 h1, bd2_s, if_pos hx, if_neg (by decide), Q_isWithin, bd2_s, show (1 : Int32).toInt = (nI 1).toInt from rfl, if_pos ((in_rng (by decide)).mpr hy), if_neg (by decide)]
          simp only [q_now, hRl rl3 v w, bd1_s]
          rw [hc.1.1.2.2.2.2.1, Q_hasBit (by omega) (by omega), bd2_s, g, if_neg (show ¬ nI 1 = 0 by decide)]
          exact Q_kill_loop hs hc hl y
        · simp only [f_M_kill, f_M_kill_0, hM v w, bd1_s]
          rw [M_isLaw hm.1.1 h1, bd2_s, if_pos hx, if_neg (by decide), M_in, bd2_s, show (1 : Int64) = (nI 1).toInt64 from rfl, if_pos ((in_rngL (by decide)).mpr hy), if_neg (by decide)]
          simp only [hM v w, bd1_s]
          rw [M_doesStand hm.1.2 (by omega) (by omega), bd2_s, g, if_neg (show ¬ nI 1 = 0 by decide)]
          exact M_kill_loop hs hm hl y
    · refine Eqv.query (r := -1) hs hc hm ?_ ?_
      · simp only [f_Q_kill, f_Q_kill_0, f_Q_kill_20, q_now, hRl rl3 v w, bd1_s]
        rw [C_hasLaw rl3 hc.1 h1, bd2_s, if_pos hx, if_neg (by decide), Q_isWithin, bd2_s, show (1 : Int32).toInt = (nI 1).toInt from rfl, if_neg (fun q => hy ((in_rng (by decide)).mp q)), if_pos rfl]
      · simp only [f_M_kill, f_M_kill_0, f_M_kill_18, hM v w, bd1_s]
        rw [M_isLaw hm.1.1 h1, bd2_s, if_pos hx, if_neg (by decide), M_in, bd2_s, show (1 : Int64) = (nI 1).toInt64 from rfl, if_neg (fun q => hy ((in_rngL (by decide)).mp q)), if_pos rfl]
  · refine Eqv.query (r := -1) hs hc hm ?_ ?_
    · simp only [f_Q_kill, f_Q_kill_0, f_Q_kill_20, q_now, hRl rl3 v w, bd1_s]
      rw [C_hasLaw rl3 hc.1 h1, bd2_s, if_neg hx, if_pos rfl]
    · simp only [f_M_kill, f_M_kill_0, f_M_kill_18, hM v w, bd1_s]
      rw [M_isLaw hm.1.1 h1, bd2_s, if_neg hx, if_pos rfl]
end
