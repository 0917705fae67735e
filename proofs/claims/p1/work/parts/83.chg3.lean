section
variable {S : Sg} {ρ' : Rho} {v : Nat → Nat → Int32} {w : Nat → Nat → Int64}
theorem E_law (x y : Int32) (hs : SOK S) (hc : CI S v) (hm : MI S v) : Eqv S v w (f_Q_law 0 x y) (f_M_law 100 x y) := by
  have h1 := hs.1.1.1
  by_cases hl : 0 ≤ x.toInt ∧ x.toInt < (S.1 0 0 : Int)
  · obtain ⟨l, hl2, rfl⟩ := ix (by omega) hl
    have cl := hc.1.2.1 l hl2
    have ml := hm.1.1.2.2.1 l hl2
    have mq := hm.1.2.1 l hl2
    have mc := hm.1.2.2.1 l hl2
    rw [Nat.zero_add] at mq
    rw [show 0 + 5 + l = 5 + l by omega] at mc
    refine Eqv.query (r := if y = 0 then nI (S.1 1 l) else if y = 1 then nI (S.1 2 l) else if y = 2 then nI (S.1 3 l) else if y = 3 then nI (S.1 4 l) else if y = 4 then cI (S.1 5 l) else if y = 5 then nI (sNeed S.1 l) else if y = 6 then nI (sChain S.1 l) else -1) hs hc hm ?_ ?_
    · simp only [f_Q_law, f_Q_law_0, q_now, hRl rl3 v w, bd1_s]
      rw [C_hasLaw rl3 hc.1 h1, bd2_s, if_pos hl, if_neg (by decide)]
      simp only [q_now, hRl rl3 v w, bd1_s, C_needOf rl3 hc.1 hs.1 hl2, C_chainOf rl3 hc.1 hs.1 hl2, bd2_s, rd_nI (show l < 5 by omega) (by decide : 5 < 2 ^ 31), cl.1, cl.2.1, cl.2.2.1, cl.2.2.2.1, cl.2.2.2.2]
      repeat' split
      all_goals rfl
    · simp only [f_M_law, f_M_law_0, hM v w, bd1_s]
      rw [M_isLaw hm.1.1 h1, bd2_s, if_pos hl, if_neg (by decide)]
      rw [show (5 : Int32) + nI l = nI (5 + l) by rw [show (5 : Int32) = nI 5 from rfl, nI_add], show (0 : Int32) + nI l = nI l by rw [show (0 : Int32) = nI 0 from rfl, nI_add, Nat.zero_add]]
      simp only [hM v w, bd1_s, M_needOf hm.1 hs.1 hl2, M_chainOf hm.1 hs.1 hl2, bd2_s, rd_nI (show l < 5 by omega) (by decide : 5 < 2 ^ 31), rd_nI (show l < 198 by omega) (by decide : 198 < 2 ^ 31), rd_nI (show 5 + l < 198 by omega) (by decide : 198 < 2 ^ 31), ml.1, ml.2.1, ml.2.2, mq, mc]
      repeat' split
      all_goals rfl
  · refine Eqv.query (r := -1) hs hc hm ?_ ?_
    · simp only [f_Q_law, f_Q_law_0, q_now, hRl rl3 v w, bd1_s]
      rw [C_hasLaw rl3 hc.1 h1, bd2_s, if_neg hl, if_pos rfl]
    · simp only [f_M_law, f_M_law_0, hM v w, bd1_s]
      rw [M_isLaw hm.1.1 h1, bd2_s, if_neg hl, if_pos rfl]
def upX (X : Nat → Nat → Int) (f i : Nat) (x : Int) : Nat → Nat → Int := va_up X f (va_up (X f) i x)
theorem upX_at (X : Nat → Nat → Int) (f i : Nat) (x : Int) : upX X f i x f i = x := by unfold upX; rw [up_at, up_at]
theorem upX_n {X : Nat → Nat → Int} {f i j : Nat} {x : Int} (h : j ≠ i) : upX X f i x f j = X f j := by unfold upX; rw [up_at, up_ne h]
theorem upX_f {X : Nat → Nat → Int} {f g i : Nat} {x : Int} (h : g ≠ f) : upX X f i x g = X g := by unfold upX; rw [up_ne h]
/-- the class's tape has changed -/
theorem CI_tape {X' : Nat → Nat → Int} {v' : Nat → Nat → Int32} (h : CI S v) (hv : ∀ p, p ≠ 1 → p ≠ 2 → v' p = v p) (h3 : v' 1 1 = zI (X' 0 0)) (h4 : ∀ j : Nat, (j : Int) < X' 0 0 → v' 2 j = zI (X' 1 j)) (h5 : v' 1 2 = zI (X' 2 0)) (hX : X' 3 = S.2.2 3 ∧ X' 4 = S.2.2 4 ∧ X' 5 = S.2.2 5 ∧ X' 6 = S.2.2 6 ∧ X' 7 = S.2.2 7) : CI (S.1, S.2.1, X') v' := by
  obtain ⟨g1, g2, -, -, -, g6, g7⟩ := h
  obtain ⟨x3, x4, x5, x6, x7⟩ := hX
  unfold CI
  dsimp only
  simp only [x3, x4, x5, x6, x7, hv 38 (by omega) (by omega), hv 0 (by omega) (by omega), hv 43 (by omega) (by omega)]
  refine ⟨g1.frame (fun p _ _ => hv p (by omega) (by omega)), fun k hk => ⟨(g2 k hk).1, fun z => ((g2 k hk).2 z).frame (fun p _ _ => hv p (by omega) (by omega))⟩, h3, h4, h5, fun k hk => ?_, g7⟩
  rw [hv (92 + 2 * k) (by omega) (by omega), hv (93 + 2 * k) (by omega) (by omega)]
  exact g6 k hk
theorem MI_tape {X' : Nat → Nat → Int} {v' : Nat → Nat → Int32} (h : MI S v) (hv : ∀ p, p ≠ 100 → p ≠ 114 → v' p = v p) (hh : v' 100 2 = v 100 2 ∧ v' 100 3 = v 100 3 ∧ v' 100 38 = v 100 38) (h3 : v' 100 20 = zI (X' 0 0)) (h4 : ∀ j : Nat, (j : Int) < X' 0 0 → v' 114 j = zI (X' 1 j)) (h5 : v' 100 25 = zI (X' 2 0)) (hX : X' 3 = S.2.2 3 ∧ X' 4 = S.2.2 4 ∧ X' 5 = S.2.2 5 ∧ X' 6 = S.2.2 6 ∧ X' 8 = S.2.2 8) : MI (S.1, S.2.1, X') v' := by
  obtain ⟨⟨⟨a1, a2, a3, a4⟩, g1b⟩, g2, -, -, -, g6, g7⟩ := h
  obtain ⟨x3, x4, x5, x6, x7⟩ := hX
  unfold MI MR MF
  dsimp only
  simp only [x3, x4, x5, x6, x7, hv 102 (by omega) (by omega), hv 123 (by omega) (by omega), hv 124 (by omega) (by omega), hv 125 (by omega) (by omega), hv 103 (by omega) (by omega), hv 104 (by omega) (by omega), hv 105 (by omega) (by omega), hv 106 (by omega) (by omega), hv 107 (by omega) (by omega), hh.1, hh.2.1, hh.2.2]
  exact ⟨⟨⟨a1, a2, a3, a4⟩, g1b.frame (hv 101 (by omega) (by omega))⟩, fun k hk => ⟨(g2 k hk).1, fun z => ((g2 k hk).2 z).frame (hv 101 (by omega) (by omega))⟩, h3, h4, h5, g6, g7⟩
theorem SOK_tape {X' : Nat → Nat → Int} (h : SOK S) (h1 : 0 ≤ X' 0 0 ∧ X' 0 0 ≤ 160) (h2 : ∀ j : Nat, (j : Int) < X' 0 0 → 0 ≤ X' 1 j ∧ X' 1 j ≤ 127) (h3 : 0 ≤ X' 2 0 ∧ X' 2 0 ≤ 6) (hX : X' 3 = S.2.2 3 ∧ X' 4 = S.2.2 4 ∧ X' 5 = S.2.2 5) : SOK (S.1, S.2.1, X') := by
  obtain ⟨g1, g2, -, -, -, g6⟩ := h
  obtain ⟨x3, x4, x5⟩ := hX
  unfold SOK
  dsimp only
  simp only [x3, x4, x5]
  exact ⟨g1, g2, h1, h2, h3, g6⟩
theorem byte_I : ∀ z, z < 128 → vp_nar .byte (nI z).toInt8.toInt32 = nI z := by decide +kernel
theorem E_feed (x : Int32) (hs : SOK S) (hc : CI S v) (hm : MI S v) : Eqv S v w (f_Q_feed 0 x) (f_M_feed 100 x) := by
  obtain ⟨T, hT⟩ : ∃ T : Nat, S.2.2 0 0 = (T : Int) := ⟨(S.2.2 0 0).toNat, by have := hs.2.2.1.1; omega⟩
  have hT2 : T ≤ 160 := by have := hs.2.2.1.2; omega
  have hc3 : v 1 1 = nI T := by rw [hc.2.2.1, hT, zI_n]
  by_cases hx : 0 ≤ x.toInt ∧ x.toInt < ((127 + 1 : Nat) : Int)
  · obtain ⟨z, hz, rfl⟩ := ix (by omega) hx
    by_cases hf : T = 160
    · refine Eqv.query (r := -3) hs hc hm ?_ ?_
      · simp only [f_Q_feed, f_Q_feed_0]
        rw [Q_isWithin, bd2_s, show (127 : Int32) = nI 127 from rfl, if_pos ((in_rng (by decide)).mpr hx), if_neg (by decide)]
        simp only [hQ v w, bd1_s, f_Reader_append, f_Reader_append_0]
        rw [hc3, hf, if_neg (by decide), bd2_s, if_pos rfl]
      · simp only [f_M_feed, f_M_feed_0]
        rw [M_in, bd2_s, show (127 : Int64) = (nI 127).toInt64 from rfl, if_pos ((in_rngL (by decide)).mpr hx), if_neg (by decide)]
        simp only [hM v w, bd1_s]
        rw [hm.2.2.1, hT, zI_n, hf, if_pos (show nI 160 = 160 from rfl)]
    · have hlt : T < 160 := by omega
      refine Eqv.change (S' := (S.1, S.2.1, upX (upX S.2.2 1 T z) 0 0 (T + 1))) (r := nI (T + 1)) (v1 := u2 (u2 v 2 T (nI z)) 1 1 (nI (T + 1))) (w1 := w) hm ?_ (fun p hp => ?_) ?_ ?_ (fun w1 hm1 => ?_)
      · simp only [f_Q_feed, f_Q_feed_0]
        rw [Q_isWithin, bd2_s, show (127 : Int32) = nI 127 from rfl, if_pos ((in_rng (by decide)).mpr hx), if_neg (by decide)]
        simp only [hQ v w, bd1_s, f_Reader_append, f_Reader_append_0]
        rw [hc3, show (160 : Int32) = nI 160 from rfl, if_pos (nI_lt hlt (by decide)), byte_I z (by omega), wr_nI (by omega) (by decide), bd1_s]
        have e1 : (u2 v 2 T (nI z)) 1 1 = nI T := (congrFun (u2_o (by decide)) 1).trans hc3
        simp only [hQ (u2 v 2 T (nI z)) w, bd1_s]
        rw [e1, nI_1, bd2_s, if_neg (by decide)]
        simp only [hQ (u2 (u2 v 2 T (nI z)) 1 1 (nI (T + 1))) w, bd1_s, u2_at]
      · rw [u2_o (by omega), u2_o (by omega)]
      · refine SOK_tape hs ?_ ?_ ?_ ⟨rfl, rfl, rfl⟩
        · rw [upX_at]; omega
        · intro j hj
          rw [upX_at] at hj
          rw [upX_f (by decide)]
          by_cases e : j = T
          · subst e; rw [upX_at]; omega
          · rw [upX_n e]; exact hs.2.2.2.1 j (by omega)
        · exact hs.2.2.2.2.1
      · refine CI_tape hc (fun p h1 h2 => ?_) ?_ ?_ ?_ ⟨rfl, rfl, rfl, rfl, rfl⟩
        · rw [u2_o h1, u2_o h2]
        · rw [upX_at, u2_at, ← zI_n]; rfl
        · intro j hj
          rw [upX_at] at hj
          rw [upX_f (by decide), u2_o (by decide)]
          by_cases e : j = T
          · subst e; rw [upX_at, u2_at, ← zI_n]
          · rw [upX_n e, u2_n e]; exact hc.2.2.2.1 j (by omega)
        · rw [u2_n (by decide), u2_o (by decide)]; exact hc.2.2.2.2.1
      · generalize u2 (u2 v 2 T (nI z)) 1 1 (nI (T + 1)) = v1 at hm1 ⊢
        have hm3 : v1 100 20 = nI T := by rw [hm1.2.2.1, hT, zI_n]
        refine ⟨u2 (u2 v1 114 T (nI z)) 100 20 (nI (T + 1)), w1, ?_, fun p hp => ?_, ?_⟩
        · simp only [f_M_feed, f_M_feed_0]
          rw [M_in, bd2_s, show (127 : Int64) = (nI 127).toInt64 from rfl, if_pos ((in_rngL (by decide)).mpr hx), if_neg (by decide)]
          simp only [hM v1 w1, bd1_s]
          rw [hm3, if_neg (show ¬ nI T = 160 from fun q => hf ((nI_eq (by omega) (by decide)).mp q)), wr_nI (by omega) (by decide), bd1_s]
          have e1 : (u2 v1 114 T (nI z)) 100 20 = nI T := (congrFun (u2_o (by decide)) 20).trans hm3
          simp only [hM (u2 v1 114 T (nI z)) w1, bd1_s]
          rw [e1, nI_1]
          simp only [hM (u2 (u2 v1 114 T (nI z)) 100 20 (nI (T + 1))) w1, bd1_s, u2_at]
        · rw [u2_o (by omega), u2_o (by omega)]
        · refine MI_tape hm1 (fun p h1 h2 => ?_) ⟨?_, ?_, ?_⟩ ?_ ?_ ?_ ⟨rfl, rfl, rfl, rfl, rfl⟩
          · rw [u2_o h1, u2_o h2]
          · rw [u2_n (by decide), u2_o (by decide)]
          · rw [u2_n (by decide), u2_o (by decide)]
          · rw [u2_n (by decide), u2_o (by decide)]
          · rw [upX_at, u2_at, ← zI_n]; rfl
          · intro j hj
            rw [upX_at] at hj
            rw [upX_f (by decide), u2_o (by decide)]
            by_cases e : j = T
            · subst e; rw [upX_at, u2_at, ← zI_n]
            · rw [upX_n e, u2_n e]; exact hm1.2.2.2.1 j (by omega)
          · rw [u2_n (by decide), u2_o (by decide)]; exact hm1.2.2.2.2.1
  · refine Eqv.query (r := -1) hs hc hm ?_ ?_
    · simp only [f_Q_feed, f_Q_feed_0]
      rw [Q_isWithin, bd2_s, show (127 : Int32) = nI 127 from rfl, if_neg (fun q => hx ((in_rng (by decide)).mp q)), if_pos rfl]
    · simp only [f_M_feed, f_M_feed_0]
      rw [M_in, bd2_s, show (127 : Int64) = (nI 127).toInt64 from rfl, if_neg (fun q => hx ((in_rngL (by decide)).mp q)), if_pos rfl]
theorem E_end (x : Int32) (hs : SOK S) (hc : CI S v) (hm : MI S v) : Eqv S v w (f_Q_end 0 x) (f_M_end 100 x) := by
  obtain ⟨T, hT⟩ : ∃ T : Nat, S.2.2 0 0 = (T : Int) := ⟨(S.2.2 0 0).toNat, by have := hs.2.2.1.1; omega⟩
  have hT2 : T ≤ 160 := by have := hs.2.2.1.2; omega
  have hc3 : v 1 1 = nI T := by rw [hc.2.2.1, hT, zI_n]
  have hm3 : v 100 20 = nI T := by rw [hm.2.2.1, hT, zI_n]
  by_cases hx : 0 ≤ x.toInt ∧ x.toInt < ((T + 1 : Nat) : Int)
  · obtain ⟨z, hz, rfl⟩ := ix (by omega) hx
    refine Eqv.change (S' := (S.1, S.2.1, upX S.2.2 0 0 z)) (r := nI T) (v1 := u2 v 1 1 (nI z)) (w1 := w) hm ?_ (fun p hp => u2_o (by omega)) ?_ ?_ (fun w1 hm1 => ?_)
    · simp only [f_Q_end, f_Q_end_0, hQ v w, bd1_s]
      rw [Q_isWithin, bd2_s, hc3, if_pos ((in_rng (by omega)).mpr hx), if_neg (by decide)]
      simp only [hQ v w, bd1_s]
      rw [hc3]
    · refine SOK_tape hs ?_ (fun j hj => ?_) hs.2.2.2.2.1 ⟨rfl, rfl, rfl⟩
      · rw [upX_at]; omega
      · rw [upX_at] at hj
        rw [upX_f (by decide)]
        exact hs.2.2.2.1 j (by omega)
    · refine CI_tape hc (fun p h1 h2 => u2_o h1) ?_ (fun j hj => ?_) ?_ ⟨rfl, rfl, rfl, rfl, rfl⟩
      · rw [upX_at, u2_at, ← zI_n]
      · rw [upX_at] at hj
        rw [upX_f (by decide), u2_o (by decide)]
        exact hc.2.2.2.1 j (by omega)
      · rw [u2_n (by decide)]; exact hc.2.2.2.2.1
    · generalize u2 v 1 1 (nI z) = v1 at hm1 ⊢
      have hm3 : v1 100 20 = nI T := by rw [hm1.2.2.1, hT, zI_n]
      refine ⟨u2 v1 100 20 (nI z), w1, ?_, fun p hp => u2_o (by omega), ?_⟩
      · simp only [f_M_end, f_M_end_0, hM v1 w1, bd1_s]
        rw [M_in, bd2_s, hm3, if_pos ((in_rngL (by omega)).mpr hx), if_neg (by decide)]
        simp only [hM v1 w1, bd1_s]
        rw [hm3]
      · refine MI_tape hm1 (fun p h1 h2 => u2_o h1) ⟨u2_n (by decide), u2_n (by decide), u2_n (by decide)⟩ ?_ (fun j hj => ?_) ?_ ⟨rfl, rfl, rfl, rfl, rfl⟩
        · rw [upX_at, u2_at, ← zI_n]
        · rw [upX_at] at hj
          rw [upX_f (by decide), u2_o (by decide)]
          exact hm1.2.2.2.1 j (by omega)
        · rw [u2_n (by decide)]; exact hm1.2.2.2.2.1
  · refine Eqv.query (r := -1) hs hc hm ?_ ?_
    · simp only [f_Q_end, f_Q_end_0, hQ v w, bd1_s]
      rw [Q_isWithin, bd2_s, hc3, if_neg (fun q => hx ((in_rng (by omega)).mp q)), if_pos rfl]
    · simp only [f_M_end, f_M_end_0, hM v w, bd1_s]
      rw [M_in, bd2_s, hm3, if_neg (fun q => hx ((in_rngL (by omega)).mp q)), if_pos rfl]
theorem bitCount_I : ∀ s, s < 32 → ∀ h : mH, f_Integer_bitCount (nI s) h = some (nI (sumN (bit s) 5), h) := by
  intro s hs h
  have e : f_Integer_bitCount (nI s) h = some (((f_Integer_bitCount (nI s) h00).map Prod.fst).getD 0, h) := rfl
  rw [e]
  have d : ∀ s, s < 32 → ((f_Integer_bitCount (nI s) h00).map Prod.fst).getD 0 = nI (sumN (bit s) 5) := by decide +kernel
  rw [d s hs]
theorem ROK_stands {ρ : Rho} {x : Nat} (hk : ROK ρ) (hx : x < 2 ^ ρ 0 0) : ROK (up2 ρ 0 4 x) :=
  ⟨⟨hk.1.1, hk.1.2.1, hk.1.2.2.1, hk.1.2.2.2.1, hx, hk.1.2.2.2.2.2⟩, hk.2.1, hk.2.2.1, hk.2.2.2.1, hk.2.2.2.2⟩
theorem E_revive (x : Int32) (hs : SOK S) (hc : CI S v) (hm : MI S v) : Eqv S v w (f_Q_revive 0 x) (f_M_revive 100 x) := by
  have h1 := hs.1.1.1
  have hw := hs.1.1.2.2.2.2.1
  have hw32 := pw_le h1 hw
  by_cases hl : 0 ≤ x.toInt ∧ x.toInt < (S.1 0 0 : Int)
  · obtain ⟨l, hl2, rfl⟩ := ix (by omega) hl
    rcases bit_01 (S.1 0 4) l with g | g
    · have hb := wb_lt 1 h1 hw hl2
      have hb32 := pw_le h1 hb
      refine Eqv.one (r := nI (sumN (bit (wb (S.1 0 4) l 1)) 5)) (ρ' := up2 S.1 0 4 (wb (S.1 0 4) l 1)) (q := 3) (j := 4) (x := nI (wb (S.1 0 4) l 1)) (j2 := 10) (x2 := nI (wb (S.1 0 4) l 1)) hs hc hm ?_ (by omega) (by omega) (ROK_stands hs.1 hb) (fun σ h => h) (CR_stands hc.1 h1) (fun v1 hm1 => ⟨?_, MF_u hm1.1.1 rfl rfl rfl rfl rfl rfl rfl, MB_stands h1 hs.1.1.2.1 hs.1.1.2.2.2.2.2.2 hm1.1.2⟩)
      · simp only [f_Q_revive, f_Q_revive_0, q_now, hRl rl3 v w, bd1_s]
        rw [C_hasLaw rl3 hc.1 h1, bd2_s, if_pos hl, if_neg (by decide)]
        simp only [q_now, hRl rl3 v w, bd1_s]
        rw [hc.1.1.2.2.2.2.1, Q_hasBit (by omega) (by omega), bd2_s, g, if_pos (show nI 0 = 0 from rfl)]
        simp only [q_now, hRl rl3 v w, bd1_s]
        rw [hc.1.1.2.2.2.2.1, Q_withBit hw32 (by omega), bd2_s]
        simp only [q_now, hRl rl3 v w, hRl rl3 (u2 v 3 4 (nI (wb (S.1 0 4) l 1))) w, bd1_s]
        rw [u2_at, bitCount_I _ hb32, bd2_s]
      · simp only [f_M_revive, f_M_revive_0, hM v1 w, bd1_s]
        rw [M_isLaw hm1.1.1 h1, bd2_s, if_pos hl, if_neg (by decide)]
        simp only [hM v1 w, bd1_s]
        rw [M_doesStand hm1.1.2 (by omega) (by omega), bd2_s, g, if_pos (show nI 0 = 0 from rfl)]
        simp only [hM v1 w, bd1_s]
        have e := hm1.1.2.2.2.1
        rw [show 0 + 10 = 10 from rfl] at e
        rw [show (10 : Int32) = nI 10 from rfl, rd_nI (by omega) (by decide), bd1_s, e, shl_I (by omega), or_I, wr_nI (by omega) (by decide), bd1_s]
        simp only [hM (u2 v1 101 10 (nI (S.1 0 4 ||| 2 ^ l))) w, bd1_s]
        rw [rd_nI (by omega) (by decide), bd1_s, u2_at]
        have e3 : S.1 0 4 ||| 2 ^ l = wb (S.1 0 4) l 1 := by unfold wb; rw [if_neg (by decide)]
        rw [e3, M_bitsOf (by omega), bd2_s]
    · refine Eqv.query (r := -2) hs hc hm ?_ ?_
      · simp only [f_Q_revive, f_Q_revive_0, q_now, hRl rl3 v w, bd1_s]
        rw [C_hasLaw rl3 hc.1 h1, bd2_s, if_pos hl, if_neg (by decide)]
        simp only [q_now, hRl rl3 v w, bd1_s]
        rw [hc.1.1.2.2.2.2.1, Q_hasBit (by omega) (by omega), bd2_s, g, if_neg (show ¬ nI 1 = 0 by decide)]
      · simp only [f_M_revive, f_M_revive_0, hM v w, bd1_s]
        rw [M_isLaw hm.1.1 h1, bd2_s, if_pos hl, if_neg (by decide)]
        simp only [hM v w, bd1_s]
        rw [M_doesStand hm.1.2 (by omega) (by omega), bd2_s, g, if_neg (show ¬ nI 1 = 0 by decide)]
  · refine Eqv.query (r := -1) hs hc hm ?_ ?_
    · simp only [f_Q_revive, f_Q_revive_0, q_now, hRl rl3 v w, bd1_s]
      rw [C_hasLaw rl3 hc.1 h1, bd2_s, if_neg hl, if_pos rfl]
    · simp only [f_M_revive, f_M_revive_0, hM v w, bd1_s]
      rw [M_isLaw hm.1.1 h1, bd2_s, if_neg hl, if_pos rfl]
end
