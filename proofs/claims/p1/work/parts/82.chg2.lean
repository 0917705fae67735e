section
variable {S : Sg} {ρ' : Rho} {v : Nat → Nat → Int32} {w : Nat → Nat → Int64}
theorem E_time (x y : Int32) (hs : SOK S) (hc : CI S v) (hm : MI S v) : Eqv S v w (f_Q_time 0 x y) (f_M_time 100 x y) := by
  have h1 := hs.1.1.1
  have h2 := hs.1.1.2.1
  by_cases hp : 0 ≤ x.toInt ∧ x.toInt < (S.1 0 1 : Int)
  · by_cases hy : 0 ≤ y.toInt ∧ y.toInt < ((5 + 1 : Nat) : Int)
    · obtain ⟨p, hp2, rfl⟩ := ix (by omega) hp
      obtain ⟨z, hz, rfl⟩ := ix (by omega) hy
      refine Eqv.one (r := nI (S.1 6 p)) (ρ' := up2 S.1 6 p z) (q := 3 + 6) (j := p) (x := nI z) (j2 := 12 + p) (x2 := nI z) hs hc hm ?_ (by omega) (by omega) (ROK_time hs.1 (by omega)) (fun σ h => h) (CR_time hp2 hc.1 h1) (fun v1 hm1 => ⟨?_, MF_u hm1.1.1 rfl rfl rfl rfl rfl rfl rfl, MB_time h1 h2 hs.1.1.2.2.2.2.2.2 hp2 hm1.1.2⟩)
      · simp only [f_Q_time, f_Q_time_0, q_now, hRl rl3 v w, bd1_s]
        rw [C_hasOne rl3 hc.1 h2, bd2_s, if_pos hp, if_neg (by decide), Q_isWithin, bd2_s, show (5 : Int32) = nI 5 from rfl, if_pos ((in_rng (by decide)).mpr hy), if_neg (by decide)]
        simp only [q_now, hRl rl3 v w, bd1_s]
        rw [rd_nI (by omega) (by decide), bd1_s, wr_nI (by omega) (by decide), bd1_s, (hc.1.2.2.1 p hp2).1]
      · simp only [f_M_time, f_M_time_0, hM v1 w, bd1_s]
        rw [M_isOne hm1.1.1 h2, bd2_s, if_pos hp, if_neg (by decide), M_in, bd2_s, show (5 : Int64) = (nI 5).toInt64 from rfl, if_pos ((in_rngL (by decide)).mpr hy), if_neg (by decide)]
        simp only [hM v1 w, bd1_s, f_M_becomes, f_M_becomes_0]
        rw [show (12 : Int32) = nI 12 from rfl, nI_add, rd_nI (by omega) (by decide), bd1_s, wr_nI (by omega) (by decide), bd1_s, bd2_s]
        have := hm1.1.2.2.2.2.2.1 p hp2
        rw [show 0 + 12 + p = 12 + p by omega] at this
        rw [this]
    · refine Eqv.query (r := -1) hs hc hm ?_ ?_
      · simp only [f_Q_time, f_Q_time_0, f_Q_time_20, q_now, hRl rl3 v w, bd1_s]
        rw [C_hasOne rl3 hc.1 h2, bd2_s, if_pos hp, if_neg (by decide), Q_isWithin, bd2_s, show (5 : Int32) = nI 5 from rfl, if_neg (fun z => hy ((in_rng (by decide)).mp z)), if_pos rfl]
      · simp only [f_M_time, f_M_time_0, f_M_time_32, hM v w, bd1_s]
        rw [M_isOne hm.1.1 h2, bd2_s, if_pos hp, if_neg (by decide), M_in, bd2_s, show (5 : Int64) = (nI 5).toInt64 from rfl, if_neg (fun z => hy ((in_rngL (by decide)).mp z)), if_pos rfl]
  · refine Eqv.query (r := -1) hs hc hm ?_ ?_
    · simp only [f_Q_time, f_Q_time_0, f_Q_time_20, q_now, hRl rl3 v w, bd1_s]
      rw [C_hasOne rl3 hc.1 h2, bd2_s, if_neg hp, if_pos rfl]
    · simp only [f_M_time, f_M_time_0, f_M_time_32, hM v w, bd1_s]
      rw [M_isOne hm.1.1 h2, bd2_s, if_neg hp, if_pos rfl]
theorem E_fund (x y : Int32) (hs : SOK S) (hc : CI S v) (hm : MI S v) : Eqv S v w (f_Q_fund 0 x y) (f_M_fund 100 x y) := by
  have h1 := hs.1.1.1
  have h2 := hs.1.1.2.1
  by_cases hp : 0 ≤ x.toInt ∧ x.toInt < (S.1 0 1 : Int)
  · by_cases hy : 0 ≤ y.toInt ∧ y.toInt < ((99 + 1 : Nat) : Int)
    · obtain ⟨p, hp2, rfl⟩ := ix (by omega) hp
      obtain ⟨z, hz, rfl⟩ := ix (by omega) hy
      refine Eqv.one (r := nI (S.1 9 p)) (ρ' := up2 S.1 9 p z) (q := 3 + 9) (j := p) (x := nI z) (j2 := 15 + p) (x2 := nI z) hs hc hm ?_ (by omega) (by omega) (ROK_purse hs.1 (by omega)) (fun σ h => h) (CR_purse hp2 hc.1 h1) (fun v1 hm1 => ⟨?_, MF_u hm1.1.1 rfl rfl rfl rfl rfl rfl rfl, MB_purse h1 h2 hs.1.1.2.2.2.2.2.2 hp2 hm1.1.2⟩)
      · simp only [f_Q_fund, f_Q_fund_0, q_now, hRl rl3 v w, bd1_s]
        rw [C_hasOne rl3 hc.1 h2, bd2_s, if_pos hp, if_neg (by decide), Q_isWithin, bd2_s, show (99 : Int32) = nI 99 from rfl, if_pos ((in_rng (by decide)).mpr hy), if_neg (by decide)]
        simp only [q_now, hRl rl3 v w, bd1_s]
        rw [rd_nI (by omega) (by decide), bd1_s, wr_nI (by omega) (by decide), bd1_s, (hc.1.2.2.1 p hp2).2.2.2.1]
      · simp only [f_M_fund, f_M_fund_0, hM v1 w, bd1_s]
        rw [M_isOne hm1.1.1 h2, bd2_s, if_pos hp, if_neg (by decide), M_in, bd2_s, show (99 : Int64) = (nI 99).toInt64 from rfl, if_pos ((in_rngL (by decide)).mpr hy), if_neg (by decide)]
        simp only [hM v1 w, bd1_s, f_M_becomes, f_M_becomes_0]
        rw [show (15 : Int32) = nI 15 from rfl, nI_add, rd_nI (by omega) (by decide), bd1_s, wr_nI (by omega) (by decide), bd1_s, bd2_s]
        have := hm1.1.2.2.2.2.2.2.1 p hp2
        rw [show 0 + 15 + p = 15 + p by omega] at this
        rw [this]
    · refine Eqv.query (r := -1) hs hc hm ?_ ?_
      · simp only [f_Q_fund, f_Q_fund_0, f_Q_fund_21, q_now, hRl rl3 v w, bd1_s]
        rw [C_hasOne rl3 hc.1 h2, bd2_s, if_pos hp, if_neg (by decide), Q_isWithin, bd2_s, show (99 : Int32) = nI 99 from rfl, if_neg (fun z => hy ((in_rng (by decide)).mp z)), if_pos rfl]
      · simp only [f_M_fund, f_M_fund_0, f_M_fund_32, hM v w, bd1_s]
        rw [M_isOne hm.1.1 h2, bd2_s, if_pos hp, if_neg (by decide), M_in, bd2_s, show (99 : Int64) = (nI 99).toInt64 from rfl, if_neg (fun z => hy ((in_rngL (by decide)).mp z)), if_pos rfl]
  · refine Eqv.query (r := -1) hs hc hm ?_ ?_
    · simp only [f_Q_fund, f_Q_fund_0, f_Q_fund_21, q_now, hRl rl3 v w, bd1_s]
      rw [C_hasOne rl3 hc.1 h2, bd2_s, if_neg hp, if_pos rfl]
    · simp only [f_M_fund, f_M_fund_0, f_M_fund_32, hM v w, bd1_s]
      rw [M_isOne hm.1.1 h2, bd2_s, if_neg hp, if_pos rfl]
theorem ROK_carry {ρ : Rho} {l c : Nat} (hk : ROK ρ) (hc : c ≤ ρ 0 0) (hne : c ≠ l + 1) : ROK (up2 ρ 5 l c) := by
  refine ⟨hk.1, fun j hj => ⟨(hk.2.1 j hj).1, (hk.2.1 j hj).2.1, (hk.2.1 j hj).2.2.1, (hk.2.1 j hj).2.2.2.1, (hk.2.1 j hj).2.2.2.2.1, ?_⟩, hk.2.2.1, hk.2.2.2.1, hk.2.2.2.2⟩
  by_cases e : j = l
  · subst e; rw [up2_at]; exact ⟨hc, hne⟩
  · rw [up2_n e]; exact (hk.2.1 j hj).2.2.2.2.2
theorem carry_one {x y : Int32} {l c : Nat} (hx : x = nI l) (hy : y = cI c) (hl2 : l < S.1 0 0) (hcL : c ≤ S.1 0 0) (hne : c ≠ l + 1) (hs : SOK S) (hc : CI S v) (hm : MI S v) (e1 : ∀ v w, CI S v → f_Q_carry 0 x y (bh v w) = f_Q_carry_35 0 x y (bh v w)) (e2 : ∀ v w, MI S v → f_M_carry 100 x y (bh v w) = f_M_carry_27 100 x y (bh v w)) : Eqv S v w (f_Q_carry 0 x y) (f_M_carry 100 x y) := by
  have h1 := hs.1.1.1
  refine Eqv.one (r := cI (S.1 5 l)) (ρ' := up2 S.1 5 l c) (q := 3 + 5) (j := l) (x := cI c) (j2 := 5 + l) (x2 := cI c) hs hc hm ?_ (by omega) (by omega) (ROK_carry hs.1 hcL hne) (fun σ h => h) (CR_carry hl2 hc.1 h1) (fun v1 hm1 => ⟨?_, MF_u hm1.1.1 rfl rfl rfl rfl rfl rfl rfl, MB_carry h1 hs.1.1.2.1 hs.1.1.2.2.2.2.2.2 hl2 hm1.1.2⟩)
  · rw [e1 v w hc, hx, hy]
    simp only [f_Q_carry_35, q_now, hRl rl3 v w, bd1_s]
    rw [rd_nI (by omega) (by decide), bd1_s, wr_nI (by omega) (by decide), bd1_s, (hc.1.2.1 l hl2).2.2.2.2]
  · rw [e2 v1 w hm1, hx, hy]
    simp only [f_M_carry_27, hM v1 w, bd1_s, f_M_becomes, f_M_becomes_0]
    rw [show (5 : Int32) = nI 5 from rfl, nI_add, rd_nI (by omega) (by decide), bd1_s, wr_nI (by omega) (by decide), bd1_s, bd2_s]
    have := hm1.1.2.2.1 l hl2
    rw [show 0 + 5 + l = 5 + l by omega] at this
    rw [this]
theorem E_carry (x y : Int32) (hs : SOK S) (hc : CI S v) (hm : MI S v) : Eqv S v w (f_Q_carry 0 x y) (f_M_carry 100 x y) := by
  have h1 := hs.1.1.1
  by_cases hl : 0 ≤ x.toInt ∧ x.toInt < (S.1 0 0 : Int)
  · obtain ⟨l, hl2, e⟩ := ix (by omega) hl
    by_cases exy : y = x
    · refine Eqv.query (r := -1) hs hc hm ?_ ?_
      · simp only [f_Q_carry, f_Q_carry_0, f_Q_carry_33, q_now, hRl rl3 v w, bd1_s]
        rw [C_hasLaw rl3 hc.1 h1, bd2_s, if_pos hl, if_neg (by decide), if_pos exy]
      · simp only [f_M_carry, f_M_carry_0, f_M_carry_38, hM v w, bd1_s]
        rw [M_isLaw hm.1.1 h1, bd2_s, if_pos hl, if_neg (by decide), if_pos exy]
    · by_cases e4 : y = -4
      · refine carry_one e (c := 0) e4 hl2 (Nat.zero_le _) (by omega) hs hc hm (fun v w hc => ?_) (fun v w hm => ?_)
        · simp only [f_Q_carry, f_Q_carry_0, q_now, hRl rl3 v w, bd1_s]
          rw [C_hasLaw rl3 hc.1 h1, bd2_s, if_pos hl, if_neg (by decide), if_neg exy, if_pos e4]
        · simp only [f_M_carry, f_M_carry_0, hM v w, bd1_s]
          rw [M_isLaw hm.1.1 h1, bd2_s, if_pos hl, if_neg (by decide), if_neg exy, if_pos e4]
      · by_cases hy : 0 ≤ y.toInt ∧ y.toInt < (S.1 0 0 : Int)
        · obtain ⟨m, hm2, ey⟩ := ix (by omega) hy
          refine carry_one e (c := m + 1) ey hl2 (by omega) (fun z => exy (by rw [e, ey, show m = l by omega])) hs hc hm (fun v w hc => ?_) (fun v w hm => ?_)
          · simp only [f_Q_carry, f_Q_carry_0, q_now, hRl rl3 v w, bd1_s]
            rw [C_hasLaw rl3 hc.1 h1, bd2_s, if_pos hl, if_neg (by decide), if_neg exy, if_neg e4]
            simp only [q_now, hRl rl3 v w, bd1_s]
            rw [C_hasLaw rl3 hc.1 h1, bd2_s, if_pos hy, if_neg (by decide)]
          · simp only [f_M_carry, f_M_carry_0, hM v w, bd1_s]
            rw [M_isLaw hm.1.1 h1, bd2_s, if_pos hl, if_neg (by decide), if_neg exy, if_neg e4]
            simp only [hM v w, bd1_s]
            rw [M_isLaw hm.1.1 h1, bd2_s, if_pos hy, if_neg (by decide)]
        · refine Eqv.query (r := -1) hs hc hm ?_ ?_
          · simp only [f_Q_carry, f_Q_carry_0, f_Q_carry_33, q_now, hRl rl3 v w, bd1_s]
            rw [C_hasLaw rl3 hc.1 h1, bd2_s, if_pos hl, if_neg (by decide), if_neg exy, if_neg e4]
            simp only [q_now, hRl rl3 v w, bd1_s]
            rw [C_hasLaw rl3 hc.1 h1, bd2_s, if_neg hy, if_pos rfl]
          · simp only [f_M_carry, f_M_carry_0, f_M_carry_38, hM v w, bd1_s]
            rw [M_isLaw hm.1.1 h1, bd2_s, if_pos hl, if_neg (by decide), if_neg exy, if_neg e4]
            simp only [hM v w, bd1_s]
            rw [M_isLaw hm.1.1 h1, bd2_s, if_neg hy, if_pos rfl]
  · refine Eqv.query (r := -1) hs hc hm ?_ ?_
    · simp only [f_Q_carry, f_Q_carry_0, f_Q_carry_33, q_now, hRl rl3 v w, bd1_s]
      rw [C_hasLaw rl3 hc.1 h1, bd2_s, if_neg hl, if_pos rfl]
    · simp only [f_M_carry, f_M_carry_0, f_M_carry_38, hM v w, bd1_s]
      rw [M_isLaw hm.1.1 h1, bd2_s, if_neg hl, if_pos rfl]
/-- a bit set or taken away -/
def wb (s l : Nat) (z : Int32) : Nat := if z = 0 then s &&& (31 - 2 ^ l) else s ||| 2 ^ l
theorem wb_c : ∀ s, s < 32 → ∀ l, l < 5 → nI s &&& (((1 : Int32) <<< (nI l &&& 31)) ^^^ (-1)) = nI (s &&& (31 - 2 ^ l)) := by decide +kernel
theorem wb_b : ∀ L, L < 6 → ∀ s, s < 32 → ∀ l, l < 5 → ((s < 2 ^ L ∧ l < L) → (s ||| 2 ^ l < 2 ^ L ∧ s &&& (31 - 2 ^ l) < 2 ^ L)) := by decide +kernel
theorem wb_lt {L s l : Nat} (z : Int32) (hL : L ≤ 5) (hs : s < 2 ^ L) (hl : l < L) : wb s l z < 2 ^ L := by
  have := wb_b L (by omega) s (pw_le hL hs) l (by omega) ⟨hs, hl⟩
  unfold wb
  split
  · exact this.2
  · exact this.1
theorem Q_withBit {s l : Nat} (hs : s < 32) (hl : l < 5) (z : Int32) (h : mH) : f_Q_withBit (nI s) (nI l) z h = some (nI (wb s l z), h) := by
  simp only [f_Q_withBit, f_Q_withBit_0]
  unfold wb
  split
  · rw [wb_c s hs l hl]
  · rw [shl_I (by omega), or_I]
theorem Q_bitOf {s l : Nat} (hs : s < 32) (hl : l < 5) (h : mH) : f_Q_bitOf (nI s) (nI l) h = some (nI (bit s l), h) := by
  simp only [f_Q_bitOf, f_Q_bitOf_0]
  rw [bit_I (by omega) (by omega)]
theorem M_becomesBit {k s l : Nat} (hk : k < 198) (hs : s < 32) (hl : l < 5) (z : Int32) (e : v 101 k = nI s) : f_M_becomesBit 100 (nI k) (nI l) z (bh v w) = some (nI (bit s l), bh (u2 v 101 k (nI (wb s l z))) w) := by
  simp only [f_M_becomesBit, f_M_becomesBit_0, f_M_becomesBit_46, hM v w, bd1_s]
  rw [rd_nI hk (by decide), bd1_s, e, bit_I (by omega) (by omega)]
  unfold wb
  split
  · rw [bd1_s, wb_c s hs l hl, wr_nI hk (by decide), bd1_s]
  · rw [bd1_s, shl_I (by omega), or_I, wr_nI hk (by decide), bd1_s]
theorem ROK_watched {ρ : Rho} {x : Nat} (hk : ROK ρ) (hx : x < 2 ^ ρ 0 0) : ROK (up2 ρ 0 5 x) :=
  ⟨⟨hk.1.1, hk.1.2.1, hk.1.2.2.1, hk.1.2.2.2.1, hk.1.2.2.2.2.1, hx, hk.1.2.2.2.2.2.2⟩, hk.2.1, hk.2.2.1, hk.2.2.2.1, hk.2.2.2.2⟩
theorem ROK_refuses {ρ : Rho} {p x : Nat} (hk : ROK ρ) (hx : x < 2 ^ ρ 0 0) : ROK (up2 ρ 10 p x) := by
  refine ⟨hk.1, hk.2.1, fun j hj => ⟨(hk.2.2.1 j hj).1, (hk.2.2.1 j hj).2.1, (hk.2.2.1 j hj).2.2.1, (hk.2.2.1 j hj).2.2.2.1, ?_, (hk.2.2.1 j hj).2.2.2.2.2⟩, hk.2.2.2.1, hk.2.2.2.2⟩
  by_cases e : j = p
  · subst e; rw [up2_at]; exact hx
  · rw [up2_n e]; exact (hk.2.2.1 j hj).2.2.2.2.1
theorem ROK_wants {ρ : Rho} {p x : Nat} (hk : ROK ρ) (hx : x < 2 ^ ρ 0 0) : ROK (up2 ρ 11 p x) := by
  refine ⟨hk.1, hk.2.1, fun j hj => ⟨(hk.2.2.1 j hj).1, (hk.2.2.1 j hj).2.1, (hk.2.2.1 j hj).2.2.1, (hk.2.2.1 j hj).2.2.2.1, (hk.2.2.1 j hj).2.2.2.2.1, ?_, (hk.2.2.1 j hj).2.2.2.2.2.2⟩, hk.2.2.2.1, hk.2.2.2.2⟩
  by_cases e : j = p
  · subst e; rw [up2_at]; exact hx
  · rw [up2_n e]; exact (hk.2.2.1 j hj).2.2.2.2.2.1
theorem E_watch (x z : Int32) (hs : SOK S) (hc : CI S v) (hm : MI S v) : Eqv S v w (f_Q_watch 0 x z) (f_M_watch 100 x z) := by
  have h1 := hs.1.1.1
  have hw := hs.1.1.2.2.2.2.2.1
  have hw32 := pw_le h1 hw
  by_cases hl : 0 ≤ x.toInt ∧ x.toInt < (S.1 0 0 : Int)
  · obtain ⟨l, hl2, rfl⟩ := ix (by omega) hl
    refine Eqv.one (r := nI (bit (S.1 0 5) l)) (ρ' := up2 S.1 0 5 (wb (S.1 0 5) l z)) (q := 3) (j := 5) (x := nI (wb (S.1 0 5) l z)) (j2 := 11) (x2 := nI (wb (S.1 0 5) l z)) hs hc hm ?_ (by omega) (by omega) (ROK_watched hs.1 (wb_lt z h1 hw hl2)) (fun σ h => h) (CR_watched hc.1 h1) (fun v1 hm1 => ⟨?_, MF_u hm1.1.1 rfl rfl rfl rfl rfl rfl rfl, MB_watched h1 hs.1.1.2.1 hs.1.1.2.2.2.2.2.2 hm1.1.2⟩)
    · simp only [f_Q_watch, f_Q_watch_0, q_now, hRl rl3 v w, bd1_s]
      rw [C_hasLaw rl3 hc.1 h1, bd2_s, if_pos hl, if_neg (by decide)]
      simp only [q_now, hRl rl3 v w, bd1_s]
      rw [hc.1.1.2.2.2.2.2.1, Q_bitOf hw32 (by omega), bd2_s]
      simp only [q_now, hRl rl3 v w, bd1_s]
      rw [hc.1.1.2.2.2.2.2.1, Q_withBit hw32 (by omega), bd2_s]
      simp only [q_now, hRl rl3 v w, bd1_s]
    · simp only [f_M_watch, f_M_watch_0, hM v1 w, bd1_s]
      rw [M_isLaw hm1.1.1 h1, bd2_s, if_pos hl, if_neg (by decide)]
      simp only [hM v1 w, bd1_s]
      rw [show (11 : Int32) = nI 11 from rfl, M_becomesBit (by omega) hw32 (by omega) z hm1.1.2.2.2.2.1, bd2_s]
  · refine Eqv.query (r := -1) hs hc hm ?_ ?_
    · simp only [f_Q_watch, f_Q_watch_0, q_now, hRl rl3 v w, bd1_s]
      rw [C_hasLaw rl3 hc.1 h1, bd2_s, if_neg hl, if_pos rfl]
    · simp only [f_M_watch, f_M_watch_0, hM v w, bd1_s]
      rw [M_isLaw hm.1.1 h1, bd2_s, if_neg hl, if_pos rfl]
theorem E_refuse (x y z : Int32) (hs : SOK S) (hc : CI S v) (hm : MI S v) : Eqv S v w (f_Q_refuse 0 x y z) (f_M_refuse 100 x y z) := by
  have h1 := hs.1.1.1
  have h2 := hs.1.1.2.1
  by_cases hp : 0 ≤ x.toInt ∧ x.toInt < (S.1 0 1 : Int)
  · by_cases hl : 0 ≤ y.toInt ∧ y.toInt < (S.1 0 0 : Int)
    · obtain ⟨p, hp2, rfl⟩ := ix (by omega) hp
      obtain ⟨l, hl2, rfl⟩ := ix (by omega) hl
      have hw := (hs.1.2.2.1 p hp2).2.2.2.2.1
      have hw32 := pw_le h1 hw
      refine Eqv.one (r := nI (bit (S.1 10 p) l)) (ρ' := up2 S.1 10 p (wb (S.1 10 p) l z)) (q := 3 + 10) (j := p) (x := nI (wb (S.1 10 p) l z)) (j2 := 18 + p) (x2 := nI (wb (S.1 10 p) l z)) hs hc hm ?_ (by omega) (by omega) (ROK_refuses hs.1 (wb_lt z h1 hw hl2)) (fun σ h => h) (CR_refuses hp2 hc.1 h1) (fun v1 hm1 => ⟨?_, MF_u hm1.1.1 rfl rfl rfl rfl rfl rfl rfl, MB_refuses h1 h2 hs.1.1.2.2.2.2.2.2 hp2 hm1.1.2⟩)
      · simp only [f_Q_refuse, f_Q_refuse_0, f_Realm_hasBoth, f_Realm_hasBoth_0, f_Realm_hasBoth_20, q_now, hRl rl3 v w, bd1_s]
        rw [C_hasOne rl3 hc.1 h2, bd2_s, if_pos hp, if_neg (by decide)]
        simp only [hRl rl3 v w, bd1_s]
        rw [C_hasLaw rl3 hc.1 h1, bd2_s, if_pos hl, if_neg (by decide), bd2_s, if_neg (by decide)]
        simp only [q_now, hRl rl3 v w, bd1_s]
        rw [rd_nI (by omega) (by decide), bd1_s, (hc.1.2.2.1 p hp2).2.2.2.2.1, Q_bitOf hw32 (by omega), bd2_s]
        simp only [q_now, hRl rl3 v w, bd1_s]
        rw [rd_nI (by omega) (by decide), bd1_s, (hc.1.2.2.1 p hp2).2.2.2.2.1, Q_withBit hw32 (by omega), bd2_s]
        simp only [q_now, hRl rl3 v w, bd1_s]
        rw [wr_nI (by omega) (by decide), bd1_s]
      · simp only [f_M_refuse, f_M_refuse_0, hM v1 w, bd1_s]
        rw [M_isOne hm1.1.1 h2, bd2_s, if_pos hp, if_neg (by decide)]
        simp only [hM v1 w, bd1_s]
        rw [M_isLaw hm1.1.1 h1, bd2_s, if_pos hl, if_neg (by decide)]
        simp only [hM v1 w, bd1_s]
        have := hm1.1.2.2.2.2.2.2.2.1 p hp2
        rw [show 0 + 18 + p = 18 + p by omega] at this
        rw [show (18 : Int32) = nI 18 from rfl, nI_add, M_becomesBit (by omega) hw32 (by omega) z this, bd2_s]
    · refine Eqv.query (r := -1) hs hc hm ?_ ?_
      · simp only [f_Q_refuse, f_Q_refuse_0, f_Realm_hasBoth, f_Realm_hasBoth_0, f_Realm_hasBoth_20, q_now, hRl rl3 v w, bd1_s]
        rw [C_hasOne rl3 hc.1 h2, bd2_s, if_pos hp, if_neg (by decide)]
        simp only [hRl rl3 v w, bd1_s]
        rw [C_hasLaw rl3 hc.1 h1, bd2_s, if_neg hl, if_pos rfl, bd2_s, if_pos rfl]
      · simp only [f_M_refuse, f_M_refuse_0, f_M_refuse_29, hM v w, bd1_s]
        rw [M_isOne hm.1.1 h2, bd2_s, if_pos hp, if_neg (by decide)]
        simp only [hM v w, bd1_s]
        rw [M_isLaw hm.1.1 h1, bd2_s, if_neg hl, if_pos rfl]
  · refine Eqv.query (r := -1) hs hc hm ?_ ?_
    · simp only [f_Q_refuse, f_Q_refuse_0, f_Realm_hasBoth, f_Realm_hasBoth_0, f_Realm_hasBoth_20, q_now, hRl rl3 v w, bd1_s]
      rw [C_hasOne rl3 hc.1 h2, bd2_s, if_neg hp, if_pos rfl, bd2_s, if_pos rfl]
    · simp only [f_M_refuse, f_M_refuse_0, f_M_refuse_29, hM v w, bd1_s]
      rw [M_isOne hm.1.1 h2, bd2_s, if_neg hp, if_pos rfl]
theorem E_want (x y z : Int32) (hs : SOK S) (hc : CI S v) (hm : MI S v) : Eqv S v w (f_Q_want 0 x y z) (f_M_want 100 x y z) := by
  have h1 := hs.1.1.1
  have h2 := hs.1.1.2.1
  by_cases hp : 0 ≤ x.toInt ∧ x.toInt < (S.1 0 1 : Int)
  · by_cases hl : 0 ≤ y.toInt ∧ y.toInt < (S.1 0 0 : Int)
    · obtain ⟨p, hp2, rfl⟩ := ix (by omega) hp
      obtain ⟨l, hl2, rfl⟩ := ix (by omega) hl
      have hw := (hs.1.2.2.1 p hp2).2.2.2.2.2.1
      have hw32 := pw_le h1 hw
      refine Eqv.one (r := nI (bit (S.1 11 p) l)) (ρ' := up2 S.1 11 p (wb (S.1 11 p) l z)) (q := 3 + 11) (j := p) (x := nI (wb (S.1 11 p) l z)) (j2 := 21 + p) (x2 := nI (wb (S.1 11 p) l z)) hs hc hm ?_ (by omega) (by omega) (ROK_wants hs.1 (wb_lt z h1 hw hl2)) (fun σ h => h) (CR_wants hp2 hc.1 h1) (fun v1 hm1 => ⟨?_, MF_u hm1.1.1 rfl rfl rfl rfl rfl rfl rfl, MB_wants h1 h2 hs.1.1.2.2.2.2.2.2 hp2 hm1.1.2⟩)
      · simp only [f_Q_want, f_Q_want_0, f_Realm_hasBoth, f_Realm_hasBoth_0, f_Realm_hasBoth_20, q_now, hRl rl3 v w, bd1_s]
        rw [C_hasOne rl3 hc.1 h2, bd2_s, if_pos hp, if_neg (by decide)]
        simp only [hRl rl3 v w, bd1_s]
        rw [C_hasLaw rl3 hc.1 h1, bd2_s, if_pos hl, if_neg (by decide), bd2_s, if_neg (by decide)]
        simp only [q_now, hRl rl3 v w, bd1_s]
        rw [rd_nI (by omega) (by decide), bd1_s, (hc.1.2.2.1 p hp2).2.2.2.2.2, Q_bitOf hw32 (by omega), bd2_s]
        simp only [q_now, hRl rl3 v w, bd1_s]
        rw [rd_nI (by omega) (by decide), bd1_s, (hc.1.2.2.1 p hp2).2.2.2.2.2, Q_withBit hw32 (by omega), bd2_s]
        simp only [q_now, hRl rl3 v w, bd1_s]
        rw [wr_nI (by omega) (by decide), bd1_s]
      · simp only [f_M_want, f_M_want_0, hM v1 w, bd1_s]
        rw [M_isOne hm1.1.1 h2, bd2_s, if_pos hp, if_neg (by decide)]
        simp only [hM v1 w, bd1_s]
        rw [M_isLaw hm1.1.1 h1, bd2_s, if_pos hl, if_neg (by decide)]
        simp only [hM v1 w, bd1_s]
        have := hm1.1.2.2.2.2.2.2.2.2.1 p hp2
        rw [show 0 + 21 + p = 21 + p by omega] at this
        rw [show (21 : Int32) = nI 21 from rfl, nI_add, M_becomesBit (by omega) hw32 (by omega) z this, bd2_s]
    · refine Eqv.query (r := -1) hs hc hm ?_ ?_
      · simp only [f_Q_want, f_Q_want_0, f_Realm_hasBoth, f_Realm_hasBoth_0, f_Realm_hasBoth_20, q_now, hRl rl3 v w, bd1_s]
        rw [C_hasOne rl3 hc.1 h2, bd2_s, if_pos hp, if_neg (by decide)]
        simp only [hRl rl3 v w, bd1_s]
        rw [C_hasLaw rl3 hc.1 h1, bd2_s, if_neg hl, if_pos rfl, bd2_s, if_pos rfl]
      · simp only [f_M_want, f_M_want_0, f_M_want_29, hM v w, bd1_s]
        rw [M_isOne hm.1.1 h2, bd2_s, if_pos hp, if_neg (by decide)]
        simp only [hM v w, bd1_s]
        rw [M_isLaw hm.1.1 h1, bd2_s, if_neg hl, if_pos rfl]
  · refine Eqv.query (r := -1) hs hc hm ?_ ?_
    · simp only [f_Q_want, f_Q_want_0, f_Realm_hasBoth, f_Realm_hasBoth_0, f_Realm_hasBoth_20, q_now, hRl rl3 v w, bd1_s]
      rw [C_hasOne rl3 hc.1 h2, bd2_s, if_neg hp, if_pos rfl, bd2_s, if_pos rfl]
    · simp only [f_M_want, f_M_want_0, f_M_want_29, hM v w, bd1_s]
      rw [M_isOne hm.1.1 h2, bd2_s, if_neg hp, if_pos rfl]
end
