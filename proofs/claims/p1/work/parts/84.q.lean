def sCans (ρ : Rho) (p : Nat) : Nat := orN (fun l => if 0 < sTries ρ p l then 2 ^ l else 0) (ρ 0 0)
def cnt (s : Nat) : Nat := sumN (bit s) 5
def mst (ρ : Rho) : Nat → Nat × Nat
  | 0 => (0, 0)
  | n + 1 => if (mst ρ n).2 < (if bit (ρ 0 4) n = 1 then cnt (sChain ρ n &&& ρ 0 4) else 0) then (n + 1, if bit (ρ 0 4) n = 1 then cnt (sChain ρ n &&& ρ 0 4) else 0) else mst ρ n
theorem and_lt : ∀ a, a < 32 → ∀ b, b < 32 → a &&& b < 32 := by decide +kernel
theorem cnt_le (s : Nat) : cnt s ≤ 5 := by
  have := sumN_c (f := bit s) (c := 1) (n := 5) (fun i _ => by have := bit_lt s i; omega)
  unfold cnt
  omega
theorem mst_le (ρ : Rho) : ∀ n, (mst ρ n).1 ≤ n ∧ (mst ρ n).2 ≤ 5
  | 0 => ⟨Nat.le_refl _, Nat.zero_le _⟩
  | n + 1 => by
    have ih := mst_le ρ n
    have c5 := cnt_le (sChain ρ n &&& ρ 0 4)
    show (if _ then _ else _ : Nat × Nat).1 ≤ n + 1 ∧ (if _ then _ else _ : Nat × Nat).2 ≤ 5
    by_cases h : (mst ρ n).2 < (if bit (ρ 0 4) n = 1 then cnt (sChain ρ n &&& ρ 0 4) else 0)
    · rw [if_pos h]
      refine ⟨Nat.le_refl _, ?_⟩
      show (if bit (ρ 0 4) n = 1 then cnt (sChain ρ n &&& ρ 0 4) else 0) ≤ 5
      split
      · exact c5
      · omega
    · rw [if_neg h]; exact ⟨by omega, ih.2⟩
theorem cI_4 {c : Nat} (h : c < 2 ^ 31) : cI c = -4 ↔ c = 0 := by
  cases c with
  | zero => exact ⟨fun _ => rfl, fun _ => rfl⟩
  | succ m =>
    refine ⟨fun e => ?_, fun e => by omega⟩
    have e2 : nI m = -4 := e
    have := congrArg Int32.toInt e2
    rw [nI_toInt (by omega), show (-4 : Int32).toInt = -4 from rfl] at this
    omega
section
variable {ρ : Rho} {S : Sg} {v : Nat → Nat → Int32} {w : Nat → Nat → Int64} {o : Nat}
theorem sTries_le (hk : ROK ρ) {p l : Nat} (hl : l < ρ 0 0) : sTries ρ p l ≤ 3 := by
  have := sRoom_le hk (p := p) hl
  unfold sTries
  split <;> omega
theorem sCan_iff {p l : Nat} : sCan ρ p l ↔ 0 < sTries ρ p l := by
  unfold sCan sTries
  split <;> omega
theorem C_breakable (ho : rl o) (hr : CR o ρ v) (hk : ROK ρ) {p : Nat} (hp : p < ρ 0 1) : f_Realm_breakable o (nI p) (bh v w) = some (nI (sCans ρ p), bh v w) := by
  have h1 := hk.1.1
  have key : ∀ (k fuel l : Nat), k < fuel → l + k = ρ 0 0 → f_Realm_breakable_4 fuel o (nI p) (nI (orN (fun l => if 0 < sTries ρ p l then 2 ^ l else 0) l)) (nI l) (bh v w) = some (nI (sCans ρ p), bh v w) := by
    intro k
    induction k with
    | zero =>
      intro fuel l hf hl
      obtain ⟨n, rfl⟩ : ∃ n, fuel = n + 1 := ⟨fuel - 1, by omega⟩
      simp only [f_Realm_breakable_4, f_Realm_breakable_4b, hRl ho v w, bd1_s]
      rw [hr.1.1, if_pos (nI_le (by omega) (by omega)), show l = ρ 0 0 by omega]
      rfl
    | succ k ih =>
      intro fuel l hf hl
      obtain ⟨n, rfl⟩ : ∃ n, fuel = n + 1 := ⟨fuel - 1, by omega⟩
      have hl2 : l < ρ 0 0 := by omega
      have ht := sTries_le hk (p := p) hl2
      simp only [f_Realm_breakable_4, f_Realm_breakable_4b, f_Realm_breakable_29, hRl ho v w, bd1_s]
      have e2 : orN (fun l => if 0 < sTries ρ p l then 2 ^ l else 0) (l + 1) = orN (fun l => if 0 < sTries ρ p l then 2 ^ l else 0) l ||| (if 0 < sTries ρ p l then 2 ^ l else 0) := rfl
      have ih2 := ih n (l + 1) (by omega) (by omega)
      rw [hr.1.1, if_neg (nI_ge (by omega) (by omega)), C_ableAlone ho hr hk hp hl2, bd2_s, ite_iff (nI_le0 (by omega))]
      by_cases z : sTries ρ p l = 0
      · rw [if_pos z, nI_1, show (0 : Int32) = nI 0 from rfl, or_I]
        rw [e2, if_neg (by omega)] at ih2
        exact ih2
      · rw [if_neg z, nI_1, shl_I (by omega), or_I]
        rw [e2, if_pos (by omega)] at ih2
        exact ih2
  simp only [f_Realm_breakable, f_Realm_breakable_0]
  exact key (ρ 0 0) FU 0 (by unfold FU; omega) (by omega)
theorem E_one (x y : Int32) (hs : SOK S) (hc : CI S v) (hm : MI S v) : Eqv S v w (f_Q_one 0 x y) (f_M_one 100 x y) := by
  have h1 := hs.1.1.1
  have h2 := hs.1.1.2.1
  by_cases hp : 0 ≤ x.toInt ∧ x.toInt < (S.1 0 1 : Int)
  · obtain ⟨p, hp2, rfl⟩ := ix (by omega) hp
    have cp := hc.1.2.2.1 p hp2
    have mp := hm.1.1.2.2.2 p hp2
    have a6 := hm.1.2.2.2.2.2.1 p hp2
    have a9 := hm.1.2.2.2.2.2.2.1 p hp2
    have a10 := hm.1.2.2.2.2.2.2.2.1 p hp2
    have a11 := hm.1.2.2.2.2.2.2.2.2.1 p hp2
    rw [show 0 + 12 + p = 12 + p by omega] at a6
    rw [show 0 + 15 + p = 15 + p by omega] at a9
    rw [show 0 + 18 + p = 18 + p by omega] at a10
    rw [show 0 + 21 + p = 21 + p by omega] at a11
    refine Eqv.query (r := if y = 0 then nI (S.1 6 p) else if y = 1 then nI (S.1 7 p) else if y = 2 then nI (S.1 8 p) else if y = 3 then nI (S.1 9 p) else if y = 4 then nI (S.1 10 p) else if y = 5 then nI (S.1 11 p) else if y = 6 then nI (sAll S.1 p) else if y = 7 then nI (sCans S.1 p) else -1) hs hc hm ?_ ?_
    · simp only [f_Q_one, f_Q_one_0, q_now, hRl rl3 v w, bd1_s]
      rw [C_hasOne rl3 hc.1 h2, bd2_s, if_pos hp, if_neg (by decide)]
      simp only [q_now, hRl rl3 v w, bd1_s, C_brokenByOne rl3 hc.1 hs.1 hp2, C_breakable rl3 hc.1 hs.1 hp2, bd2_s, rd_nI (show p < 3 by omega) (by decide : 3 < 2 ^ 31), cp.1, cp.2.1, cp.2.2.1, cp.2.2.2.1, cp.2.2.2.2.1, cp.2.2.2.2.2]
      repeat' split
      all_goals rfl
    · have key : ∀ (k fuel l : Nat), k < fuel → l + k = S.1 0 0 → f_M_one_15 fuel 100 (nI p) y (nI (orN (fun l => if 0 < sTries S.1 p l then 2 ^ l else 0) l)) (nI l) (bh v w) = some (if y = 0 then nI (S.1 6 p) else if y = 1 then nI (S.1 7 p) else if y = 2 then nI (S.1 8 p) else if y = 3 then nI (S.1 9 p) else if y = 4 then nI (S.1 10 p) else if y = 5 then nI (S.1 11 p) else if y = 6 then nI (sAll S.1 p) else if y = 7 then nI (sCans S.1 p) else -1, bh v w) := by
        intro k
        induction k with
        | zero =>
          intro fuel l hf hl
          obtain ⟨n, rfl⟩ : ∃ n, fuel = n + 1 := ⟨fuel - 1, by omega⟩
          simp only [f_M_one_15, f_M_one_15b, hM v w, bd1_s]
          rw [hm.1.1.1, if_pos (nI_le (by omega) (by omega)), show l = S.1 0 0 by omega]
          rw [show (12 : Int32) + nI p = nI (12 + p) by rw [show (12 : Int32) = nI 12 from rfl, nI_add], show (15 : Int32) + nI p = nI (15 + p) by rw [show (15 : Int32) = nI 15 from rfl, nI_add], show (18 : Int32) + nI p = nI (18 + p) by rw [show (18 : Int32) = nI 18 from rfl, nI_add], show (21 : Int32) + nI p = nI (21 + p) by rw [show (21 : Int32) = nI 21 from rfl, nI_add]]
          simp only [hM v w, bd1_s, M_allBy hm.1 hs.1 hp2, bd2_s, rd_nI (show p < 3 by omega) (by decide : 3 < 2 ^ 31), rd_nI (show 12 + p < 198 by omega) (by decide : 198 < 2 ^ 31), rd_nI (show 15 + p < 198 by omega) (by decide : 198 < 2 ^ 31), rd_nI (show 18 + p < 198 by omega) (by decide : 198 < 2 ^ 31), rd_nI (show 21 + p < 198 by omega) (by decide : 198 < 2 ^ 31), mp.1, mp.2, a6, a9, a10, a11]
          repeat' split
          all_goals rfl
        | succ k ih =>
          intro fuel l hf hl
          obtain ⟨n, rfl⟩ : ∃ n, fuel = n + 1 := ⟨fuel - 1, by omega⟩
          have hl2 : l < S.1 0 0 := by omega
          have ih2 := ih n (l + 1) (by omega) (by omega)
          have e2 : orN (fun l => if 0 < sTries S.1 p l then 2 ^ l else 0) (l + 1) = orN (fun l => if 0 < sTries S.1 p l then 2 ^ l else 0) l ||| (if 0 < sTries S.1 p l then 2 ^ l else 0) := rfl
          have : Decidable (sCan S.1 p l) := inferInstanceAs (Decidable (0 < sRoom S.1 p l ∧ 0 < sLeft S.1 p))
          simp only [f_M_one_15, f_M_one_15b, hM v w, bd1_s]
          rw [hm.1.1.1, if_neg (nI_ge (by omega) (by omega)), M_canBreak hm.1 hs.1 hp2 hl2, bd2_s]
          by_cases z : sCan S.1 p l
          · rw [if_pos z]
            simp only [f_M_flag, f_M_flag_0]
            rw [if_neg (by decide), bd2_s, shl_I (by omega), or_I, nI_1]
            rw [e2, if_pos (sCan_iff.mp z)] at ih2
            exact ih2
          · rw [if_neg z]
            simp only [f_M_flag, f_M_flag_0]
            rw [if_pos trivial, bd2_s, nI_1]
            have e0 : (0 : Int32) <<< (nI l &&& 31) = nI 0 := by
              have : ∀ n, n < 5 → (0 : Int32) <<< (nI n &&& 31) = nI 0 := by decide +kernel
              exact this l (by omega)
            rw [e0, or_I]
            rw [e2, if_neg (fun q => z (sCan_iff.mpr q))] at ih2
            exact ih2
      simp only [f_M_one, f_M_one_0, hM v w, bd1_s]
      rw [M_isOne hm.1.1 h2, bd2_s, if_pos hp, if_neg (by decide)]
      exact key (S.1 0 0) FU 0 (by unfold FU; omega) (by omega)
  · refine Eqv.query (r := -1) hs hc hm ?_ ?_
    · simp only [f_Q_one, f_Q_one_0, q_now, hRl rl3 v w, bd1_s]
      rw [C_hasOne rl3 hc.1 h2, bd2_s, if_neg hp, if_pos rfl]
    · simp only [f_M_one, f_M_one_0, hM v w, bd1_s]
      rw [M_isOne hm.1.1 h2, bd2_s, if_neg hp, if_pos rfl]
theorem E_most (x : Int32) (hs : SOK S) (hc : CI S v) (hm : MI S v) : Eqv S v w (f_Q_most 0 x) (f_M_most 100 x) := by
  have h1 := hs.1.1.1
  have hst := hs.1.st
  by_cases hx : 0 ≤ x.toInt ∧ x.toInt < ((1 + 1 : Nat) : Int)
  · refine Eqv.query (r := if (mst S.1 (S.1 0 0)).1 = 0 then -4 else if x = 0 then cI (mst S.1 (S.1 0 0)).1 else nI (mst S.1 (S.1 0 0)).2) hs hc hm ?_ ?_
    · have key : ∀ (k fuel l : Nat), k < fuel → l + k = S.1 0 0 → f_Q_most_19 fuel 0 x (cI (mst S.1 l).1) (nI (mst S.1 l).2) (nI l) (bh v w) = some (if (mst S.1 (S.1 0 0)).1 = 0 then -4 else if x = 0 then cI (mst S.1 (S.1 0 0)).1 else nI (mst S.1 (S.1 0 0)).2, bh v w) := by
        intro k
        induction k with
        | zero =>
          intro fuel l hf hl
          obtain ⟨n, rfl⟩ : ∃ n, fuel = n + 1 := ⟨fuel - 1, by omega⟩
          have ml := mst_le S.1 l
          simp only [f_Q_most_19, f_Q_most_19b, f_Q_most_96, q_now, hRl rl3 v w, bd1_s]
          rw [hc.1.1.1, if_pos (nI_le (by omega) (by omega)), show S.1 0 0 = l by omega, ite_iff (cI_4 (show (mst S.1 l).1 < 2 ^ 31 by omega))]
          by_cases e0 : (mst S.1 l).1 = 0
          · rw [if_pos e0, if_pos e0, e0]
            split <;> rfl
          · rw [if_neg e0, if_neg e0]
            split <;> rfl
        | succ k ih =>
          intro fuel l hf hl
          obtain ⟨n, rfl⟩ : ∃ n, fuel = n + 1 := ⟨fuel - 1, by omega⟩
          have hl2 : l < S.1 0 0 := by omega
          have ml := mst_le S.1 l
          have ih2 := ih n (l + 1) (by omega) (by omega)
          have ch := sChain_lt hs.1 hl2
          have cb : sChain S.1 l &&& S.1 0 4 < 32 := and_lt _ ch _ hst
          have c5 := cnt_le (sChain S.1 l &&& S.1 0 4)
          have em : mst S.1 (l + 1) = if (mst S.1 l).2 < (if bit (S.1 0 4) l = 1 then cnt (sChain S.1 l &&& S.1 0 4) else 0) then (l + 1, if bit (S.1 0 4) l = 1 then cnt (sChain S.1 l &&& S.1 0 4) else 0) else mst S.1 l := rfl
          simp only [f_Q_most_19, f_Q_most_19b, f_Q_most_80, q_now, hRl rl3 v w, bd1_s]
          rw [hc.1.1.1, if_neg (nI_ge (by omega) (by omega)), C_chainOf rl3 hc.1 hs.1 hl2, bd2_s]
          simp only [q_now, hRl rl3 v w, bd1_s]
          rw [hc.1.1.2.2.2.2.1, and_I, bitCount_I _ cb, bd2_s]
          simp only [q_now, hRl rl3 v w, bd1_s]
          rw [hc.1.1.2.2.2.2.1, Q_hasBit (by omega) (by omega), bd2_s, nI_1]
          rcases bit_01 (S.1 0 4) l with g | g
          · rw [g, if_pos (show nI 0 = 0 from rfl)]
            rw [em, g, if_neg (show ¬ (0 : Nat) = 1 by decide), if_neg (Nat.not_lt_zero _)] at ih2
            exact ih2
          · rw [g, if_neg (show ¬ nI 1 = 0 by decide)]
            rw [em, g, if_pos (show (1 : Nat) = 1 from rfl)] at ih2
            show (if nI (cnt (sChain S.1 l &&& S.1 0 4)) ≤ nI (mst S.1 l).2 then _ else _) = _
            rw [ite_iff (nI_leI (by omega) (by omega))]
            by_cases z : cnt (sChain S.1 l &&& S.1 0 4) ≤ (mst S.1 l).2
            · rw [if_pos z]
              rw [if_neg (by omega)] at ih2
              exact ih2
            · rw [if_neg z]
              rw [if_pos (by omega)] at ih2
              exact ih2
      simp only [f_Q_most, f_Q_most_0]
      rw [Q_isWithin, bd2_s, show (1 : Int32) = nI 1 from rfl, if_pos ((in_rng (by decide)).mpr hx), if_neg (by decide)]
      exact key (S.1 0 0) FU 0 (by unfold FU; omega) (by omega)
    · have key : ∀ (k fuel l : Nat), k < fuel → l + k = S.1 0 0 → f_M_most_20 fuel 100 x (cI (mst S.1 l).1) (nI (mst S.1 l).2) (nI l) (bh v w) = some (if (mst S.1 (S.1 0 0)).1 = 0 then -4 else if x = 0 then cI (mst S.1 (S.1 0 0)).1 else nI (mst S.1 (S.1 0 0)).2, bh v w) := by
        intro k
        induction k with
        | zero =>
          intro fuel l hf hl
          obtain ⟨n, rfl⟩ : ∃ n, fuel = n + 1 := ⟨fuel - 1, by omega⟩
          have ml := mst_le S.1 l
          simp only [f_M_most_20, f_M_most_20b, hM v w, bd1_s]
          rw [hm.1.1.1, if_pos (nI_le (by omega) (by omega)), show S.1 0 0 = l by omega, ite_iff (cI_4 (show (mst S.1 l).1 < 2 ^ 31 by omega))]
          by_cases e0 : (mst S.1 l).1 = 0
          · rw [if_pos e0, if_pos e0]
          · rw [if_neg e0, if_neg e0]
            split <;> rfl
        | succ k ih =>
          intro fuel l hf hl
          obtain ⟨n, rfl⟩ : ∃ n, fuel = n + 1 := ⟨fuel - 1, by omega⟩
          have hl2 : l < S.1 0 0 := by omega
          have ml := mst_le S.1 l
          have ih2 := ih n (l + 1) (by omega) (by omega)
          have ch := sChain_lt hs.1 hl2
          have cb : sChain S.1 l &&& S.1 0 4 < 32 := and_lt _ ch _ hst
          have c5 := cnt_le (sChain S.1 l &&& S.1 0 4)
          have em : mst S.1 (l + 1) = if (mst S.1 l).2 < (if bit (S.1 0 4) l = 1 then cnt (sChain S.1 l &&& S.1 0 4) else 0) then (l + 1, if bit (S.1 0 4) l = 1 then cnt (sChain S.1 l &&& S.1 0 4) else 0) else mst S.1 l := rfl
          simp only [f_M_most_20, f_M_most_20b, f_M_most_59, f_M_most_73, f_M_most_86, hM v w, bd1_s]
          rw [hm.1.1.1, if_neg (nI_ge (by omega) (by omega)), M_doesStand hm.1.2 (by omega) (by omega), bd2_s, nI_1]
          rcases bit_01 (S.1 0 4) l with g | g
          · rw [g, if_pos (show nI 0 = 0 from rfl), if_pos (nI_pos' (by omega)), if_pos (nI_pos' (by omega))]
            rw [em, g, if_neg (show ¬ (0 : Nat) = 1 by decide), if_neg (Nat.not_lt_zero _)] at ih2
            exact ih2
          · rw [g, if_neg (show ¬ nI 1 = 0 by decide)]
            rw [em, g, if_pos (show (1 : Nat) = 1 from rfl)] at ih2
            simp only [hM v w, bd1_s]
            rw [M_chainOf hm.1 hs.1 hl2, bd2_s]
            simp only [hM v w, bd1_s]
            have e1 : rd (v 101) 198 (10 : Int32) = some (nI (S.1 0 4)) := by rw [← hm.1.2.2.2.1]; rfl
            rw [e1, bd1_s, and_I, M_bitsOf (by omega), bd2_s]
            show (if nI (cnt (sChain S.1 l &&& S.1 0 4)) ≤ nI (mst S.1 l).2 then (if nI (cnt (sChain S.1 l &&& S.1 0 4)) ≤ nI (mst S.1 l).2 then _ else _) else (if nI (cnt (sChain S.1 l &&& S.1 0 4)) ≤ nI (mst S.1 l).2 then _ else _)) = _
            by_cases z : cnt (sChain S.1 l &&& S.1 0 4) ≤ (mst S.1 l).2
            · rw [if_pos (nI_le z (by omega)), if_pos (nI_le z (by omega))]
              rw [if_neg (by omega)] at ih2
              exact ih2
            · rw [if_neg (nI_ge (by omega) (by omega)), if_neg (nI_ge (by omega) (by omega))]
              rw [if_pos (by omega)] at ih2
              exact ih2
      simp only [f_M_most, f_M_most_0]
      rw [M_in, bd2_s, show (1 : Int64) = (nI 1).toInt64 from rfl, if_pos ((in_rngL (by decide)).mpr hx), if_neg (by decide)]
      exact key (S.1 0 0) FU 0 (by unfold FU; omega) (by omega)
  · refine Eqv.query (r := -1) hs hc hm ?_ ?_
    · simp only [f_Q_most, f_Q_most_0]
      rw [Q_isWithin, bd2_s, show (1 : Int32) = nI 1 from rfl, if_neg (fun q => hx ((in_rng (by decide)).mp q)), if_pos rfl]
    · simp only [f_M_most, f_M_most_0]
      rw [M_in, bd2_s, show (1 : Int64) = (nI 1).toInt64 from rfl, if_neg (fun q => hx ((in_rngL (by decide)).mp q)), if_pos rfl]
end
