/-! 83.chg3.lean.txt -/
section
section
variable {S : Sg} {ρ' : Rho} {v : Nat → Nat → Int32} {w : Nat → Nat → Int64}
theorem E_law (x y : Int32) (hs : SOK S) (hc : CI S v) (hm : MI S v) : Eqv S v w (f_Q_law 0 x y) (f_M_law 100 x y) := by
  have h1 := hs.1.1.1
  by_cases hl : 0 ≤ x.toInt ∧ x.toInt < (S.1 0 0 : Int)
  · obtain ⟨l, hl2, rfl⟩ := ix (by omega) hl
    have cl := hc.1.2.1 l hl2
    have ml := hm.1.1.2.2.1 l hl2
    have mq := hm.1.2.1 l hl2
    have mc := hm.1.2.2.1 l hl2
    rw [Nat.zero_add] at mq
    rw [show 0 + 5 + l = 5 + l by omega] at mc
    refine Eqv.query (r := if y = 0 then nI (S.1 1 l) else if y = 1 then nI (S.1 2 l) else if y = 2 then nI (S.1 3 l) else if y = 3 then nI (S.1 4 l) else if y = 4 then cI (S.1 5 l) else if y = 5 then nI (sNeed S.1 l) else if y = 6 then nI (sChain S.1 l) else -1) hs hc hm ?_ ?_
    · simp only [f_Q_law, f_Q_law_0, q_now, hRl rl3 v w, bd1_s]
      rw [C_hasLaw rl3 hc.1 h1, bd2_s, if_pos hl, if_neg (by decide)]
      simp only [q_now, hRl rl3 v w, bd1_s, C_needOf rl3 hc.1 hs.1 hl2, C_chainOf rl3 hc.1 hs.1 hl2, bd2_s, rd_nI (show l < 5 by omega) (by decide : 5 < 2 ^ 31), cl.1, cl.2.1, cl.2.2.1, cl.2.2.2.1, cl.2.2.2.2]
      repeat' refine it_sp ?_ ?_
      all_goals first | rfl | (split <;> rfl)
    · simp only [f_M_law, f_M_law_0, hM v w, bd1_s]
      rw [M_isLaw hm.1.1 h1, bd2_s, if_pos hl, if_neg (by decide)]
      rw [show (5 : Int32) + nI l = nI (5 + l) by rw [show (5 : Int32) = nI 5 from rfl, nI_add], show (0 : Int32) + nI l = nI l by rw [show (0 : Int32) = nI 0 from rfl, nI_add, Nat.zero_add]]
      simp only [hM v w, bd1_s, M_needOf hm.1 hs.1 hl2, M_chainOf hm.1 hs.1 hl2, bd2_s, rd_nI (show l < 5 by omega) (by decide : 5 < 2 ^ 31), rd_nI (show l < 198 by omega) (by decide : 198 < 2 ^ 31), rd_nI (show 5 + l < 198 by omega) (by decide : 198 < 2 ^ 31), ml.1, ml.2.1, ml.2.2, mq, mc]
      repeat' refine it_sp ?_ ?_
      all_goals first | rfl | (split <;> rfl)
  · refine Eqv.query (r := -1) hs hc hm ?_ ?_
    · simp only [f_Q_law, f_Q_law_0, q_now, hRl rl3 v w, bd1_s]
      rw [C_hasLaw rl3 hc.1 h1, bd2_s, if_neg hl, if_pos rfl]
    · simp only [f_M_law, f_M_law_0, hM v w, bd1_s]
      rw [M_isLaw hm.1.1 h1, bd2_s, if_neg hl, if_pos rfl]
def upX (X : Nat → Nat → Int) (f i : Nat) (x : Int) : Nat → Nat → Int := va_up X f (va_up (X f) i x)
theorem upX_at (X : Nat → Nat → Int) (f i : Nat) (x : Int) : upX X f i x f i = x := by unfold upX; rw [up_at, up_at]
theorem upX_n {X : Nat → Nat → Int} {f i j : Nat} {x : Int} (h : j ≠ i) : upX X f i x f j = X f j := by unfold upX; rw [up_at, up_ne h]
theorem upX_f {X : Nat → Nat → Int} {f g i : Nat} {x : Int} (h : g ≠ f) : upX X f i x g = X g := by unfold upX; rw [up_ne h]
/-- the class's tape has changed -/
theorem CI_tape {X' : Nat → Nat → Int} {v' : Nat → Nat → Int32} (h : CI S v) (hv : ∀ p, p ≠ 1 → p ≠ 2 → v' p = v p) (h3 : v' 1 1 = zI (X' 0 0)) (h4 : ∀ j : Nat, (j : Int) < X' 0 0 → v' 2 j = zI (X' 1 j)) (h5 : v' 1 2 = zI (X' 2 0)) (hX : X' 3 = S.2.2 3 ∧ X' 4 = S.2.2 4 ∧ X' 5 = S.2.2 5 ∧ X' 6 = S.2.2 6 ∧ X' 7 = S.2.2 7) : CI (S.1, S.2.1, X') v' := by
  obtain ⟨g1, g2, -, -, -, g6, g7⟩ := h
  obtain ⟨x3, x4, x5, x6, x7⟩ := hX
  unfold CI
  dsimp only
  simp only [x3, x4, x5, x6, x7, hv 38 (by omega) (by omega), hv 0 (by omega) (by omega), hv 43 (by omega) (by omega)]
  refine ⟨g1.frame (fun p _ _ => hv p (by omega) (by omega)), fun k hk => ⟨(g2 k hk).1, fun z => ((g2 k hk).2 z).frame (fun p _ _ => hv p (by omega) (by omega))⟩, h3, h4, h5, fun k hk => ?_, g7⟩
  rw [hv (92 + 2 * k) (by omega) (by omega), hv (93 + 2 * k) (by omega) (by omega)]
  exact g6 k hk
theorem MI_tape {X' : Nat → Nat → Int} {v' : Nat → Nat → Int32} (h : MI S v) (hv : ∀ p, p ≠ 100 → p ≠ 114 → v' p = v p) (hh : v' 100 2 = v 100 2 ∧ v' 100 3 = v 100 3 ∧ v' 100 38 = v 100 38) (h3 : v' 100 20 = zI (X' 0 0)) (h4 : ∀ j : Nat, (j : Int) < X' 0 0 → v' 114 j = zI (X' 1 j)) (h5 : v' 100 25 = zI (X' 2 0)) (hX : X' 3 = S.2.2 3 ∧ X' 4 = S.2.2 4 ∧ X' 5 = S.2.2 5 ∧ X' 6 = S.2.2 6 ∧ X' 8 = S.2.2 8) : MI (S.1, S.2.1, X') v' := by
  obtain ⟨⟨⟨a1, a2, a3, a4⟩, g1b⟩, g2, -, -, -, g6, g7⟩ := h
  obtain ⟨x3, x4, x5, x6, x7⟩ := hX
  unfold MI MR MF
  dsimp only
  simp only [x3, x4, x5, x6, x7, hv 102 (by omega) (by omega), hv 123 (by omega) (by omega), hv 124 (by omega) (by omega), hv 125 (by omega) (by omega), hv 103 (by omega) (by omega), hv 104 (by omega) (by omega), hv 105 (by omega) (by omega), hv 106 (by omega) (by omega), hv 107 (by omega) (by omega), hh.1, hh.2.1, hh.2.2]
  exact ⟨⟨⟨a1, a2, a3, a4⟩, g1b.frame (hv 101 (by omega) (by omega))⟩, fun k hk => ⟨(g2 k hk).1, fun z => ((g2 k hk).2 z).frame (hv 101 (by omega) (by omega))⟩, h3, h4, h5, g6, g7⟩
theorem SOK_tape {X' : Nat → Nat → Int} (h : SOK S) (h1 : 0 ≤ X' 0 0 ∧ X' 0 0 ≤ 160) (h2 : ∀ j : Nat, (j : Int) < X' 0 0 → 0 ≤ X' 1 j ∧ X' 1 j ≤ 127) (h3 : 0 ≤ X' 2 0 ∧ X' 2 0 ≤ 6) (hX : X' 3 = S.2.2 3 ∧ X' 4 = S.2.2 4 ∧ X' 5 = S.2.2 5) : SOK (S.1, S.2.1, X') := by
  obtain ⟨g1, g2, -, -, -, g6⟩ := h
  obtain ⟨x3, x4, x5⟩ := hX
  unfold SOK
  dsimp only
  simp only [x3, x4, x5]
  exact ⟨g1, g2, h1, h2, h3, g6⟩
theorem byte_I : ∀ z, z < 128 → vp_nar .byte (nI z).toInt8.toInt32 = nI z := by decide +kernel
theorem E_feed (x : Int32) (hs : SOK S) (hc : CI S v) (hm : MI S v) : Eqv S v w (f_Q_feed 0 x) (f_M_feed 100 x) := by
  obtain ⟨T, hT⟩ : ∃ T : Nat, S.2.2 0 0 = (T : Int) := ⟨(S.2.2 0 0).toNat, by have := hs.2.2.1.1; omega⟩
  have hT2 : T ≤ 160 := by have := hs.2.2.1.2; omega
  have hc3 : v 1 1 = nI T := by rw [hc.2.2.1, hT, zI_n]
  by_cases hx : 0 ≤ x.toInt ∧ x.toInt < ((127 + 1 : Nat) : Int)
  · obtain ⟨z, hz, rfl⟩ := ix (by omega) hx
    by_cases hf : T = 160
    · refine Eqv.query (r := -3) hs hc hm ?_ ?_
      · simp only [f_Q_feed, f_Q_feed_0]
        rw [Q_isWithin, bd2_s, show (127 : Int32) = nI 127 from rfl, if_pos ((in_rng (by decide)).mpr hx), if_neg (by decide)]
        simp only [hQ v w, bd1_s, f_Reader_append, f_Reader_append_0]
        rw [hc3, hf, if_neg (by decide), bd2_s, if_pos rfl]
      · simp only [f_M_feed, f_M_feed_0]
        rw [M_in, bd2_s, show (127 : Int64) = (nI 127).toInt64 from rfl, if_pos ((in_rngL (by decide)).mpr hx), if_neg (by decide)]
        simp only [hM v w, bd1_s]
        rw [hm.2.2.1, hT, zI_n, hf, if_pos (show nI 160 = 160 from rfl)]
    · have hlt : T < 160 := by omega
      refine Eqv.change (S' := (S.1, S.2.1, upX (upX S.2.2 1 T z) 0 0 (T + 1))) (r := nI (T + 1)) (v1 := u2 (u2 v 2 T (nI z)) 1 1 (nI (T + 1))) (w1 := w) hm ?_ (fun p hp => ?_) ?_ ?_ (fun w1 hm1 => ?_)
      · simp only [f_Q_feed, f_Q_feed_0]
        rw [Q_isWithin, bd2_s, show (127 : Int32) = nI 127 from rfl, if_pos ((in_rng (by decide)).mpr hx), if_neg (by decide)]
        simp only [hQ v w, bd1_s, f_Reader_append, f_Reader_append_0]
        rw [hc3, show (160 : Int32) = nI 160 from rfl, if_pos (nI_lt hlt (by decide)), byte_I z (by omega), wr_nI (by omega) (by decide), bd1_s]
        have e1 : (u2 v 2 T (nI z)) 1 1 = nI T := (congrFun (u2_o (by decide)) 1).trans hc3
        simp only [hQ (u2 v 2 T (nI z)) w, bd1_s]
        rw [e1, nI_1, bd2_s, if_neg (by decide)]
        simp only [hQ (u2 (u2 v 2 T (nI z)) 1 1 (nI (T + 1))) w, bd1_s, u2_at]
      · rw [u2_o (by omega), u2_o (by omega)]
      · refine SOK_tape hs ?_ ?_ ?_ ⟨rfl, rfl, rfl⟩
        · rw [upX_at]; omega
        · intro j hj
          rw [upX_at] at hj
          rw [upX_f (by decide)]
          by_cases e : j = T
          · subst e; rw [upX_at]; omega
          · rw [upX_n e]; exact hs.2.2.2.1 j (by omega)
        · exact hs.2.2.2.2.1
      · refine CI_tape hc (fun p h1 h2 => ?_) ?_ ?_ ?_ ⟨rfl, rfl, rfl, rfl, rfl⟩
        · rw [u2_o h1, u2_o h2]
        · rw [upX_at, u2_at, ← zI_n]; rfl
        · intro j hj
          rw [upX_at] at hj
          rw [upX_f (by decide), u2_o (by decide)]
          by_cases e : j = T
          · subst e; rw [upX_at, u2_at, ← zI_n]
          · rw [upX_n e, u2_n e]; exact hc.2.2.2.1 j (by omega)
        · rw [u2_n (by decide), u2_o (by decide)]; exact hc.2.2.2.2.1
      · generalize u2 (u2 v 2 T (nI z)) 1 1 (nI (T + 1)) = v1 at hm1 ⊢
        have hm3 : v1 100 20 = nI T := by rw [hm1.2.2.1, hT, zI_n]
        refine ⟨u2 (u2 v1 114 T (nI z)) 100 20 (nI (T + 1)), w1, ?_, fun p hp => ?_, ?_⟩
        · simp only [f_M_feed, f_M_feed_0]
          rw [M_in, bd2_s, show (127 : Int64) = (nI 127).toInt64 from rfl, if_pos ((in_rngL (by decide)).mpr hx), if_neg (by decide)]
          simp only [hM v1 w1, bd1_s]
          rw [hm3, if_neg (show ¬ nI T = 160 from fun q => hf ((nI_eq (by omega) (by decide)).mp q)), wr_nI (by omega) (by decide), bd1_s]
          have e1 : (u2 v1 114 T (nI z)) 100 20 = nI T := (congrFun (u2_o (by decide)) 20).trans hm3
          simp only [hM (u2 v1 114 T (nI z)) w1, bd1_s]
          rw [e1, nI_1]
          simp only [hM (u2 (u2 v1 114 T (nI z)) 100 20 (nI (T + 1))) w1, bd1_s, u2_at]
        · rw [u2_o (by omega), u2_o (by omega)]
        · refine MI_tape hm1 (fun p h1 h2 => ?_) ⟨?_, ?_, ?_⟩ ?_ ?_ ?_ ⟨rfl, rfl, rfl, rfl, rfl⟩
          · rw [u2_o h1, u2_o h2]
          · rw [u2_n (by decide), u2_o (by decide)]
          · rw [u2_n (by decide), u2_o (by decide)]
          · rw [u2_n (by decide), u2_o (by decide)]
          · rw [upX_at, u2_at, ← zI_n]; rfl
          · intro j hj
            rw [upX_at] at hj
            rw [upX_f (by decide), u2_o (by decide)]
            by_cases e : j = T
            · subst e; rw [upX_at, u2_at, ← zI_n]
            · rw [upX_n e, u2_n e]; exact hm1.2.2.2.1 j (by omega)
          · rw [u2_n (by decide), u2_o (by decide)]; exact hm1.2.2.2.2.1
  · refine Eqv.query (r := -1) hs hc hm ?_ ?_
    · simp only [f_Q_feed, f_Q_feed_0]
      rw [Q_isWithin, bd2_s, show (127 : Int32) = nI 127 from rfl, if_neg (fun q => hx ((in_rng (by decide)).mp q)), if_pos rfl]
    · simp only [f_M_feed, f_M_feed_0]
      rw [M_in, bd2_s, show (127 : Int64) = (nI 127).toInt64 from rfl, if_neg (fun q => hx ((in_rngL (by decide)).mp q)), if_pos rfl]
theorem E_end (x : Int32) (hs : SOK S) (hc : CI S v) (hm : MI S v) : Eqv S v w (f_Q_end 0 x) (f_M_end 100 x) := by
  obtain ⟨T, hT⟩ : ∃ T : Nat, S.2.2 0 0 = (T : Int) := ⟨(S.2.2 0 0).toNat, by have := hs.2.2.1.1; omega⟩
  have hT2 : T ≤ 160 := by have := hs.2.2.1.2; omega
  have hc3 : v 1 1 = nI T := by rw [hc.2.2.1, hT, zI_n]
  have hm3 : v 100 20 = nI T := by rw [hm.2.2.1, hT, zI_n]
  by_cases hx : 0 ≤ x.toInt ∧ x.toInt < ((T + 1 : Nat) : Int)
  · obtain ⟨z, hz, rfl⟩ := ix (by omega) hx
    refine Eqv.change (S' := (S.1, S.2.1, upX S.2.2 0 0 z)) (r := nI T) (v1 := u2 v 1 1 (nI z)) (w1 := w) hm ?_ (fun p hp => u2_o (by omega)) ?_ ?_ (fun w1 hm1 => ?_)
    · simp only [f_Q_end, f_Q_end_0, hQ v w, bd1_s]
      rw [Q_isWithin, bd2_s, hc3, if_pos ((in_rng (by omega)).mpr hx), if_neg (by decide)]
      simp only [hQ v w, bd1_s]
      rw [hc3]
    · refine SOK_tape hs ?_ (fun j hj => ?_) hs.2.2.2.2.1 ⟨rfl, rfl, rfl⟩
      · rw [upX_at]; omega
      · rw [upX_at] at hj
        rw [upX_f (by decide)]
        exact hs.2.2.2.1 j (by omega)
    · refine CI_tape hc (fun p h1 h2 => u2_o h1) ?_ (fun j hj => ?_) ?_ ⟨rfl, rfl, rfl, rfl, rfl⟩
      · rw [upX_at, u2_at, ← zI_n]
      · rw [upX_at] at hj
        rw [upX_f (by decide), u2_o (by decide)]
        exact hc.2.2.2.1 j (by omega)
      · rw [u2_n (by decide)]; exact hc.2.2.2.2.1
    · generalize u2 v 1 1 (nI z) = v1 at hm1 ⊢
      have hm3 : v1 100 20 = nI T := by rw [hm1.2.2.1, hT, zI_n]
      refine ⟨u2 v1 100 20 (nI z), w1, ?_, fun p hp => u2_o (by omega), ?_⟩
      · simp only [f_M_end, f_M_end_0, hM v1 w1, bd1_s]
        rw [M_in, bd2_s, hm3, if_pos ((in_rngL (by omega)).mpr hx), if_neg (by decide)]
        simp only [hM v1 w1, bd1_s]
        rw [hm3]
      · refine MI_tape hm1 (fun p h1 h2 => u2_o h1) ⟨u2_n (by decide), u2_n (by decide), u2_n (by decide)⟩ ?_ (fun j hj => ?_) ?_ ⟨rfl, rfl, rfl, rfl, rfl⟩
        · rw [upX_at, u2_at, ← zI_n]
        · rw [upX_at] at hj
          rw [upX_f (by decide), u2_o (by decide)]
          exact hm1.2.2.2.1 j (by omega)
        · rw [u2_n (by decide)]; exact hm1.2.2.2.2.1
  · refine Eqv.query (r := -1) hs hc hm ?_ ?_
    · simp only [f_Q_end, f_Q_end_0, hQ v w, bd1_s]
      rw [Q_isWithin, bd2_s, hc3, if_neg (fun q => hx ((in_rng (by omega)).mp q)), if_pos rfl]
    · simp only [f_M_end, f_M_end_0, hM v w, bd1_s]
      rw [M_in, bd2_s, hm3, if_neg (fun q => hx ((in_rngL (by omega)).mp q)), if_pos rfl]
theorem bitCount_I : ∀ s, s < 32 → ∀ h : mH, f_Integer_bitCount (nI s) h = some (nI (sumN (bit s) 5), h) := by
  intro s hs h
  have e : f_Integer_bitCount (nI s) h = some (((f_Integer_bitCount (nI s) h00).map Prod.fst).getD 0, h) := rfl
  rw [e]
  have d : ∀ s, s < 32 → ((f_Integer_bitCount (nI s) h00).map Prod.fst).getD 0 = nI (sumN (bit s) 5) := by decide +kernel
  rw [d s hs]
theorem ROK_stands {ρ : Rho} {x : Nat} (hk : ROK ρ) (hx : x < 2 ^ ρ 0 0) : ROK (up2 ρ 0 4 x) :=
  ⟨⟨hk.1.1, hk.1.2.1, hk.1.2.2.1, hk.1.2.2.2.1, hx, hk.1.2.2.2.2.2⟩, hk.2.1, hk.2.2.1, hk.2.2.2.1, hk.2.2.2.2⟩
theorem E_revive (x : Int32) (hs : SOK S) (hc : CI S v) (hm : MI S v) : Eqv S v w (f_Q_revive 0 x) (f_M_revive 100 x) := by
  have h1 := hs.1.1.1
  have hw := hs.1.1.2.2.2.2.1
  have hw32 := pw_le h1 hw
  by_cases hl : 0 ≤ x.toInt ∧ x.toInt < (S.1 0 0 : Int)
  · obtain ⟨l, hl2, rfl⟩ := ix (by omega) hl
    rcases bit_01 (S.1 0 4) l with g | g
    · have hb := wb_lt 1 h1 hw hl2
      have hb32 := pw_le h1 hb
      refine Eqv.one (r := nI (sumN (bit (wb (S.1 0 4) l 1)) 5)) (ρ' := up2 S.1 0 4 (wb (S.1 0 4) l 1)) (q := 3) (j := 4) (x := nI (wb (S.1 0 4) l 1)) (j2 := 10) (x2 := nI (wb (S.1 0 4) l 1)) hs hc hm ?_ (by omega) (by omega) (ROK_stands hs.1 hb) (fun σ h => h) (CR_stands hc.1 h1) (fun v1 hm1 => ⟨?_, MF_u hm1.1.1 rfl rfl rfl rfl rfl rfl rfl, MB_stands h1 hs.1.1.2.1 hs.1.1.2.2.2.2.2.2 hm1.1.2⟩)
      · simp only [f_Q_revive, f_Q_revive_0, q_now, hRl rl3 v w, bd1_s]
        rw [C_hasLaw rl3 hc.1 h1, bd2_s, if_pos hl, if_neg (by decide)]
        simp only [q_now, hRl rl3 v w, bd1_s]
        rw [hc.1.1.2.2.2.2.1, Q_hasBit (by omega) (by omega), bd2_s, g, if_pos (show nI 0 = 0 from rfl)]
        simp only [q_now, hRl rl3 v w, bd1_s]
        rw [hc.1.1.2.2.2.2.1, Q_withBit hw32 (by omega), bd2_s]
        simp only [q_now, hRl rl3 v w, hRl rl3 (u2 v 3 4 (nI (wb (S.1 0 4) l 1))) w, bd1_s]
        rw [u2_at, bitCount_I _ hb32, bd2_s]
      · simp only [f_M_revive, f_M_revive_0, hM v1 w, bd1_s]
        rw [M_isLaw hm1.1.1 h1, bd2_s, if_pos hl, if_neg (by decide)]
        simp only [hM v1 w, bd1_s]
        rw [M_doesStand hm1.1.2 (by omega) (by omega), bd2_s, g, if_pos (show nI 0 = 0 from rfl)]
        simp only [hM v1 w, bd1_s]
        have e := hm1.1.2.2.2.1
        rw [show 0 + 10 = 10 from rfl] at e
        rw [show (10 : Int32) = nI 10 from rfl, rd_nI (by omega) (by decide), bd1_s, e, shl_I (by omega), or_I, wr_nI (by omega) (by decide), bd1_s]
        simp only [hM (u2 v1 101 10 (nI (S.1 0 4 ||| 2 ^ l))) w, bd1_s]
        rw [rd_nI (by omega) (by decide), bd1_s, u2_at]
        have e3 : S.1 0 4 ||| 2 ^ l = wb (S.1 0 4) l 1 := by unfold wb; rw [if_neg (by decide)]
        rw [e3, M_bitsOf (by omega), bd2_s]
    · refine Eqv.query (r := -2) hs hc hm ?_ ?_
      · simp only [f_Q_revive, f_Q_revive_0, q_now, hRl rl3 v w, bd1_s]
        rw [C_hasLaw rl3 hc.1 h1, bd2_s, if_pos hl, if_neg (by decide)]
        simp only [q_now, hRl rl3 v w, bd1_s]
        rw [hc.1.1.2.2.2.2.1, Q_hasBit (by omega) (by omega), bd2_s, g, if_neg (show ¬ nI 1 = 0 by decide)]
      · simp only [f_M_revive, f_M_revive_0, hM v w, bd1_s]
        rw [M_isLaw hm.1.1 h1, bd2_s, if_pos hl, if_neg (by decide)]
        simp only [hM v w, bd1_s]
        rw [M_doesStand hm.1.2 (by omega) (by omega), bd2_s, g, if_neg (show ¬ nI 1 = 0 by decide)]
  · refine Eqv.query (r := -1) hs hc hm ?_ ?_
    · simp only [f_Q_revive, f_Q_revive_0, q_now, hRl rl3 v w, bd1_s]
      rw [C_hasLaw rl3 hc.1 h1, bd2_s, if_neg hl, if_pos rfl]
    · simp only [f_M_revive, f_M_revive_0, hM v w, bd1_s]
      rw [M_isLaw hm.1.1 h1, bd2_s, if_neg hl, if_pos rfl]
end
end
/-! 84.q.lean.txt -/
section
def sCans (ρ : Rho) (p : Nat) : Nat := orN (fun l => if 0 < sTries ρ p l then 2 ^ l else 0) (ρ 0 0)
def cnt (s : Nat) : Nat := sumN (bit s) 5
def mst (ρ : Rho) : Nat → Nat × Nat
  | 0 => (0, 0)
  | n + 1 => if (mst ρ n).2 < (if bit (ρ 0 4) n = 1 then cnt (sChain ρ n &&& ρ 0 4) else 0) then (n + 1, if bit (ρ 0 4) n = 1 then cnt (sChain ρ n &&& ρ 0 4) else 0) else mst ρ n
theorem and_lt : ∀ a, a < 32 → ∀ b, b < 32 → a &&& b < 32 := by decide +kernel
theorem cnt_le (s : Nat) : cnt s ≤ 5 := by
  have := sumN_c (f := bit s) (c := 1) (n := 5) (fun i _ => by have := bit_lt s i; omega)
  unfold cnt
  omega
theorem mst_le (ρ : Rho) : ∀ n, (mst ρ n).1 ≤ n ∧ (mst ρ n).2 ≤ 5
  | 0 => ⟨Nat.le_refl _, Nat.zero_le _⟩
  | n + 1 => by
    have ih := mst_le ρ n
    have c5 := cnt_le (sChain ρ n &&& ρ 0 4)
    show (if _ then _ else _ : Nat × Nat).1 ≤ n + 1 ∧ (if _ then _ else _ : Nat × Nat).2 ≤ 5
    by_cases h : (mst ρ n).2 < (if bit (ρ 0 4) n = 1 then cnt (sChain ρ n &&& ρ 0 4) else 0)
    · rw [if_pos h]
      refine ⟨Nat.le_refl _, ?_⟩
      show (if bit (ρ 0 4) n = 1 then cnt (sChain ρ n &&& ρ 0 4) else 0) ≤ 5
      split
      · exact c5
      · omega
    · rw [if_neg h]; exact ⟨by omega, ih.2⟩
theorem cI_4 {c : Nat} (h : c < 2 ^ 31) : cI c = -4 ↔ c = 0 := by
  cases c with
  | zero => exact ⟨fun _ => rfl, fun _ => rfl⟩
  | succ m =>
    refine ⟨fun e => ?_, fun e => by omega⟩
    have e2 : nI m = -4 := e
    have := congrArg Int32.toInt e2
    rw [nI_toInt (by omega), show (-4 : Int32).toInt = -4 from rfl] at this
    omega
section
variable {ρ : Rho} {S : Sg} {v : Nat → Nat → Int32} {w : Nat → Nat → Int64} {o : Nat}
theorem sTries_le (hk : ROK ρ) {p l : Nat} (hl : l < ρ 0 0) : sTries ρ p l ≤ 3 := by
  have := sRoom_le hk (p := p) hl
  unfold sTries
  split <;> omega
theorem sCan_iff {p l : Nat} : sCan ρ p l ↔ 0 < sTries ρ p l := by
  unfold sCan sTries
  split <;> omega
theorem C_breakable (ho : rl o) (hr : CR o ρ v) (hk : ROK ρ) {p : Nat} (hp : p < ρ 0 1) : f_Realm_breakable o (nI p) (bh v w) = some (nI (sCans ρ p), bh v w) := by
  have h1 := hk.1.1
  have key : ∀ (k fuel l : Nat), k < fuel → l + k = ρ 0 0 → f_Realm_breakable_4 fuel o (nI p) (nI (orN (fun l => if 0 < sTries ρ p l then 2 ^ l else 0) l)) (nI l) (bh v w) = some (nI (sCans ρ p), bh v w) := by
    intro k
    induction k with
    | zero =>
      intro fuel l hf hl
      obtain ⟨n, rfl⟩ : ∃ n, fuel = n + 1 := ⟨fuel - 1, by omega⟩
      simp only [f_Realm_breakable_4, f_Realm_breakable_4b, hRl ho v w, bd1_s]
      rw [hr.1.1, if_pos (nI_le (by omega) (by omega)), show l = ρ 0 0 by omega]
      rfl
    | succ k ih =>
      intro fuel l hf hl
      obtain ⟨n, rfl⟩ : ∃ n, fuel = n + 1 := ⟨fuel - 1, by omega⟩
      have hl2 : l < ρ 0 0 := by omega
      have ht := sTries_le hk (p := p) hl2
      simp only [f_Realm_breakable_4, f_Realm_breakable_4b, f_Realm_breakable_29, hRl ho v w, bd1_s]
      have e2 : orN (fun l => if 0 < sTries ρ p l then 2 ^ l else 0) (l + 1) = orN (fun l => if 0 < sTries ρ p l then 2 ^ l else 0) l ||| (if 0 < sTries ρ p l then 2 ^ l else 0) := rfl
      have ih2 := ih n (l + 1) (by omega) (by omega)
      rw [hr.1.1, if_neg (nI_ge (by omega) (by omega)), C_ableAlone ho hr hk hp hl2, bd2_s, ite_iff (nI_le0 (by omega))]
      by_cases z : sTries ρ p l = 0
      · rw [if_pos z, nI_1, show (0 : Int32) = nI 0 from rfl, or_I]
        rw [e2, if_neg (by omega)] at ih2
        exact ih2
      · rw [if_neg z, nI_1, shl_I (by omega), or_I]
        rw [e2, if_pos (by omega)] at ih2
        exact ih2
  simp only [f_Realm_breakable, f_Realm_breakable_0]
  exact key (ρ 0 0) FU 0 (by unfold FU; omega) (by omega)
theorem E_one (x y : Int32) (hs : SOK S) (hc : CI S v) (hm : MI S v) : Eqv S v w (f_Q_one 0 x y) (f_M_one 100 x y) := by
  have h1 := hs.1.1.1
  have h2 := hs.1.1.2.1
  by_cases hp : 0 ≤ x.toInt ∧ x.toInt < (S.1 0 1 : Int)
  · obtain ⟨p, hp2, rfl⟩ := ix (by omega) hp
    have cp := hc.1.2.2.1 p hp2
    have mp := hm.1.1.2.2.2 p hp2
    have a6 := hm.1.2.2.2.2.2.1 p hp2
    have a9 := hm.1.2.2.2.2.2.2.1 p hp2
    have a10 := hm.1.2.2.2.2.2.2.2.1 p hp2
    have a11 := hm.1.2.2.2.2.2.2.2.2.1 p hp2
    rw [show 0 + 12 + p = 12 + p by omega] at a6
    rw [show 0 + 15 + p = 15 + p by omega] at a9
    rw [show 0 + 18 + p = 18 + p by omega] at a10
    rw [show 0 + 21 + p = 21 + p by omega] at a11
    refine Eqv.query (r := if y = 0 then nI (S.1 6 p) else if y = 1 then nI (S.1 7 p) else if y = 2 then nI (S.1 8 p) else if y = 3 then nI (S.1 9 p) else if y = 4 then nI (S.1 10 p) else if y = 5 then nI (S.1 11 p) else if y = 6 then nI (sAll S.1 p) else if y = 7 then nI (sCans S.1 p) else -1) hs hc hm ?_ ?_
    · simp only [f_Q_one, f_Q_one_0, q_now, hRl rl3 v w, bd1_s]
      rw [C_hasOne rl3 hc.1 h2, bd2_s, if_pos hp, if_neg (by decide)]
      simp only [q_now, hRl rl3 v w, bd1_s, C_brokenByOne rl3 hc.1 hs.1 hp2, C_breakable rl3 hc.1 hs.1 hp2, bd2_s, rd_nI (show p < 3 by omega) (by decide : 3 < 2 ^ 31), cp.1, cp.2.1, cp.2.2.1, cp.2.2.2.1, cp.2.2.2.2.1, cp.2.2.2.2.2]
      repeat' refine it_sp ?_ ?_
      all_goals first | rfl | (split <;> rfl)
    · have key : ∀ (k fuel l : Nat), k < fuel → l + k = S.1 0 0 → f_M_one_15 fuel 100 (nI p) y (nI (orN (fun l => if 0 < sTries S.1 p l then 2 ^ l else 0) l)) (nI l) (bh v w) = some (if y = 0 then nI (S.1 6 p) else if y = 1 then nI (S.1 7 p) else if y = 2 then nI (S.1 8 p) else if y = 3 then nI (S.1 9 p) else if y = 4 then nI (S.1 10 p) else if y = 5 then nI (S.1 11 p) else if y = 6 then nI (sAll S.1 p) else if y = 7 then nI (sCans S.1 p) else -1, bh v w) := by
        intro k
        induction k with
        | zero =>
          intro fuel l hf hl
          obtain ⟨n, rfl⟩ : ∃ n, fuel = n + 1 := ⟨fuel - 1, by omega⟩
          simp only [f_M_one_15, f_M_one_15b, hM v w, bd1_s]
          rw [hm.1.1.1, if_pos (nI_le (by omega) (by omega)), show l = S.1 0 0 by omega]
          rw [show (12 : Int32) + nI p = nI (12 + p) by rw [show (12 : Int32) = nI 12 from rfl, nI_add], show (15 : Int32) + nI p = nI (15 + p) by rw [show (15 : Int32) = nI 15 from rfl, nI_add], show (18 : Int32) + nI p = nI (18 + p) by rw [show (18 : Int32) = nI 18 from rfl, nI_add], show (21 : Int32) + nI p = nI (21 + p) by rw [show (21 : Int32) = nI 21 from rfl, nI_add]]
          simp only [hM v w, bd1_s, M_allBy hm.1 hs.1 hp2, bd2_s, rd_nI (show p < 3 by omega) (by decide : 3 < 2 ^ 31), rd_nI (show 12 + p < 198 by omega) (by decide : 198 < 2 ^ 31), rd_nI (show 15 + p < 198 by omega) (by decide : 198 < 2 ^ 31), rd_nI (show 18 + p < 198 by omega) (by decide : 198 < 2 ^ 31), rd_nI (show 21 + p < 198 by omega) (by decide : 198 < 2 ^ 31), mp.1, mp.2, a6, a9, a10, a11]
          repeat' refine it_sp ?_ ?_
          all_goals first | rfl | (split <;> rfl)
        | succ k ih =>
          intro fuel l hf hl
          obtain ⟨n, rfl⟩ : ∃ n, fuel = n + 1 := ⟨fuel - 1, by omega⟩
          have hl2 : l < S.1 0 0 := by omega
          have ih2 := ih n (l + 1) (by omega) (by omega)
          have e2 : orN (fun l => if 0 < sTries S.1 p l then 2 ^ l else 0) (l + 1) = orN (fun l => if 0 < sTries S.1 p l then 2 ^ l else 0) l ||| (if 0 < sTries S.1 p l then 2 ^ l else 0) := rfl
          have : Decidable (sCan S.1 p l) := inferInstanceAs (Decidable (0 < sRoom S.1 p l ∧ 0 < sLeft S.1 p))
          simp only [f_M_one_15, f_M_one_15b, hM v w, bd1_s]
          rw [hm.1.1.1, if_neg (nI_ge (by omega) (by omega)), M_canBreak hm.1 hs.1 hp2 hl2, bd2_s]
          by_cases z : sCan S.1 p l
          · rw [if_pos z]
            simp only [f_M_flag, f_M_flag_0]
            rw [if_neg (by decide), bd2_s, shl_I (by omega), or_I, nI_1]
            rw [e2, if_pos (sCan_iff.mp z)] at ih2
            exact ih2
          · rw [if_neg z]
            simp only [f_M_flag, f_M_flag_0]
            rw [if_pos trivial, bd2_s, nI_1]
            have e0 : (0 : Int32) <<< (nI l &&& 31) = nI 0 := by
              have : ∀ n, n < 5 → (0 : Int32) <<< (nI n &&& 31) = nI 0 := by decide +kernel
              exact this l (by omega)
            rw [e0, or_I]
            rw [e2, if_neg (fun q => z (sCan_iff.mpr q))] at ih2
            exact ih2
      simp only [f_M_one, f_M_one_0, hM v w, bd1_s]
      rw [M_isOne hm.1.1 h2, bd2_s, if_pos hp, if_neg (by decide)]
      exact key (S.1 0 0) FU 0 (by unfold FU; omega) (by omega)
  · refine Eqv.query (r := -1) hs hc hm ?_ ?_
    · simp only [f_Q_one, f_Q_one_0, q_now, hRl rl3 v w, bd1_s]
      rw [C_hasOne rl3 hc.1 h2, bd2_s, if_neg hp, if_pos rfl]
    · simp only [f_M_one, f_M_one_0, hM v w, bd1_s]
      rw [M_isOne hm.1.1 h2, bd2_s, if_neg hp, if_pos rfl]
theorem E_most (x : Int32) (hs : SOK S) (hc : CI S v) (hm : MI S v) : Eqv S v w (f_Q_most 0 x) (f_M_most 100 x) := by
  have h1 := hs.1.1.1
  have hst := hs.1.st
  by_cases hx : 0 ≤ x.toInt ∧ x.toInt < ((1 + 1 : Nat) : Int)
  · refine Eqv.query (r := if (mst S.1 (S.1 0 0)).1 = 0 then -4 else if x = 0 then cI (mst S.1 (S.1 0 0)).1 else nI (mst S.1 (S.1 0 0)).2) hs hc hm ?_ ?_
    · have key : ∀ (k fuel l : Nat), k < fuel → l + k = S.1 0 0 → f_Q_most_19 fuel 0 x (cI (mst S.1 l).1) (nI (mst S.1 l).2) (nI l) (bh v w) = some (if (mst S.1 (S.1 0 0)).1 = 0 then -4 else if x = 0 then cI (mst S.1 (S.1 0 0)).1 else nI (mst S.1 (S.1 0 0)).2, bh v w) := by
        intro k
        induction k with
        | zero =>
          intro fuel l hf hl
          obtain ⟨n, rfl⟩ : ∃ n, fuel = n + 1 := ⟨fuel - 1, by omega⟩
          have ml := mst_le S.1 l
          simp only [f_Q_most_19, f_Q_most_19b, f_Q_most_96, q_now, hRl rl3 v w, bd1_s]
          rw [hc.1.1.1, if_pos (nI_le (by omega) (by omega)), show S.1 0 0 = l by omega, ite_iff (cI_4 (show (mst S.1 l).1 < 2 ^ 31 by omega))]
          by_cases e0 : (mst S.1 l).1 = 0
          · rw [if_pos e0, if_pos e0, e0]
            split <;> rfl
          · rw [if_neg e0, if_neg e0]
            split <;> rfl
        | succ k ih =>
          intro fuel l hf hl
          obtain ⟨n, rfl⟩ : ∃ n, fuel = n + 1 := ⟨fuel - 1, by omega⟩
          have hl2 : l < S.1 0 0 := by omega
          have ml := mst_le S.1 l
          have ih2 := ih n (l + 1) (by omega) (by omega)
          have ch := sChain_lt hs.1 hl2
          have cb : sChain S.1 l &&& S.1 0 4 < 32 := and_lt _ ch _ hst
          have c5 := cnt_le (sChain S.1 l &&& S.1 0 4)
          have em : mst S.1 (l + 1) = if (mst S.1 l).2 < (if bit (S.1 0 4) l = 1 then cnt (sChain S.1 l &&& S.1 0 4) else 0) then (l + 1, if bit (S.1 0 4) l = 1 then cnt (sChain S.1 l &&& S.1 0 4) else 0) else mst S.1 l := rfl
          simp only [f_Q_most_19, f_Q_most_19b, f_Q_most_80, q_now, hRl rl3 v w, bd1_s]
          rw [hc.1.1.1, if_neg (nI_ge (by omega) (by omega)), C_chainOf rl3 hc.1 hs.1 hl2, bd2_s]
          simp only [q_now, hRl rl3 v w, bd1_s]
          rw [hc.1.1.2.2.2.2.1, and_I, bitCount_I _ cb, bd2_s]
          simp only [q_now, hRl rl3 v w, bd1_s]
          rw [hc.1.1.2.2.2.2.1, Q_hasBit (by omega) (by omega), bd2_s, nI_1]
          rcases bit_01 (S.1 0 4) l with g | g
          · rw [g, if_pos (show nI 0 = 0 from rfl)]
            rw [em, g, if_neg (show ¬ (0 : Nat) = 1 by decide), if_neg (Nat.not_lt_zero _)] at ih2
            exact ih2
          · rw [g, if_neg (show ¬ nI 1 = 0 by decide)]
            rw [em, g, if_pos (show (1 : Nat) = 1 from rfl)] at ih2
            show (if nI (cnt (sChain S.1 l &&& S.1 0 4)) ≤ nI (mst S.1 l).2 then _ else _) = _
            rw [ite_iff (nI_leI (by omega) (by omega))]
            by_cases z : cnt (sChain S.1 l &&& S.1 0 4) ≤ (mst S.1 l).2
            · rw [if_pos z]
              rw [if_neg (by omega)] at ih2
              exact ih2
            · rw [if_neg z]
              rw [if_pos (by omega)] at ih2
              exact ih2
      simp only [f_Q_most, f_Q_most_0]
      rw [Q_isWithin, bd2_s, show (1 : Int32) = nI 1 from rfl, if_pos ((in_rng (by decide)).mpr hx), if_neg (by decide)]
      exact key (S.1 0 0) FU 0 (by unfold FU; omega) (by omega)
    · have key : ∀ (k fuel l : Nat), k < fuel → l + k = S.1 0 0 → f_M_most_20 fuel 100 x (cI (mst S.1 l).1) (nI (mst S.1 l).2) (nI l) (bh v w) = some (if (mst S.1 (S.1 0 0)).1 = 0 then -4 else if x = 0 then cI (mst S.1 (S.1 0 0)).1 else nI (mst S.1 (S.1 0 0)).2, bh v w) := by
        intro k
        induction k with
        | zero =>
          intro fuel l hf hl
          obtain ⟨n, rfl⟩ : ∃ n, fuel = n + 1 := ⟨fuel - 1, by omega⟩
          have ml := mst_le S.1 l
          simp only [f_M_most_20, f_M_most_20b, hM v w, bd1_s]
          rw [hm.1.1.1, if_pos (nI_le (by omega) (by omega)), show S.1 0 0 = l by omega, ite_iff (cI_4 (show (mst S.1 l).1 < 2 ^ 31 by omega))]
          by_cases e0 : (mst S.1 l).1 = 0
          · rw [if_pos e0, if_pos e0]
          · rw [if_neg e0, if_neg e0]
            split <;> rfl
        | succ k ih =>
          intro fuel l hf hl
          obtain ⟨n, rfl⟩ : ∃ n, fuel = n + 1 := ⟨fuel - 1, by omega⟩
          have hl2 : l < S.1 0 0 := by omega
          have ml := mst_le S.1 l
          have ih2 := ih n (l + 1) (by omega) (by omega)
          have ch := sChain_lt hs.1 hl2
          have cb : sChain S.1 l &&& S.1 0 4 < 32 := and_lt _ ch _ hst
          have c5 := cnt_le (sChain S.1 l &&& S.1 0 4)
          have em : mst S.1 (l + 1) = if (mst S.1 l).2 < (if bit (S.1 0 4) l = 1 then cnt (sChain S.1 l &&& S.1 0 4) else 0) then (l + 1, if bit (S.1 0 4) l = 1 then cnt (sChain S.1 l &&& S.1 0 4) else 0) else mst S.1 l := rfl
          simp only [f_M_most_20, f_M_most_20b, f_M_most_59, f_M_most_73, f_M_most_86, hM v w, bd1_s]
          rw [hm.1.1.1, if_neg (nI_ge (by omega) (by omega)), M_doesStand hm.1.2 (by omega) (by omega), bd2_s, nI_1]
          rcases bit_01 (S.1 0 4) l with g | g
          · rw [g, if_pos (show nI 0 = 0 from rfl), if_pos (nI_pos' (by omega)), if_pos (nI_pos' (by omega))]
            rw [em, g, if_neg (show ¬ (0 : Nat) = 1 by decide), if_neg (Nat.not_lt_zero _)] at ih2
            exact ih2
          · rw [g, if_neg (show ¬ nI 1 = 0 by decide)]
            rw [em, g, if_pos (show (1 : Nat) = 1 from rfl)] at ih2
            simp only [hM v w, bd1_s]
            rw [M_chainOf hm.1 hs.1 hl2, bd2_s]
            simp only [hM v w, bd1_s]
            have e1 : rd (v 101) 198 (10 : Int32) = some (nI (S.1 0 4)) := by rw [← hm.1.2.2.2.1]; rfl
            rw [e1, bd1_s, and_I, M_bitsOf (by omega), bd2_s]
            show (if nI (cnt (sChain S.1 l &&& S.1 0 4)) ≤ nI (mst S.1 l).2 then (if nI (cnt (sChain S.1 l &&& S.1 0 4)) ≤ nI (mst S.1 l).2 then _ else _) else (if nI (cnt (sChain S.1 l &&& S.1 0 4)) ≤ nI (mst S.1 l).2 then _ else _)) = _
            by_cases z : cnt (sChain S.1 l &&& S.1 0 4) ≤ (mst S.1 l).2
            · rw [if_pos (nI_le z (by omega)), if_pos (nI_le z (by omega))]
              rw [if_neg (by omega)] at ih2
              exact ih2
            · rw [if_neg (nI_ge (by omega) (by omega)), if_neg (nI_ge (by omega) (by omega))]
              rw [if_pos (by omega)] at ih2
              exact ih2
      simp only [f_M_most, f_M_most_0]
      rw [M_in, bd2_s, show (1 : Int64) = (nI 1).toInt64 from rfl, if_pos ((in_rngL (by decide)).mpr hx), if_neg (by decide)]
      exact key (S.1 0 0) FU 0 (by unfold FU; omega) (by omega)
  · refine Eqv.query (r := -1) hs hc hm ?_ ?_
    · simp only [f_Q_most, f_Q_most_0]
      rw [Q_isWithin, bd2_s, show (1 : Int32) = nI 1 from rfl, if_neg (fun q => hx ((in_rng (by decide)).mp q)), if_pos rfl]
    · simp only [f_M_most, f_M_most_0]
      rw [M_in, bd2_s, show (1 : Int64) = (nI 1).toInt64 from rfl, if_neg (fun q => hx ((in_rngL (by decide)).mp q)), if_pos rfl]
end
end
/-! 85.brk.lean.txt -/
section
/-! a BREAKING -/
def sDue (ρ : Rho) (p l : Nat) : Nat := if bit (ρ 0 5) l = 1 then ρ 4 l else 0
def sHurt (ρ : Rho) (p l : Nat) : Nat := ρ 3 l + ρ 7 p
def sNo (ρ : Rho) (p l : Nat) : Prop := sTries ρ p l = 0 ∨ ρ 9 p < sDue ρ p l
def sBig (ρ : Rho) (p l : Nat) : Prop := 9999 < ρ 0 3 + sHurt ρ p l
def bk (ρ : Rho) (p l : Nat) : Rho := up2 (up2 (up2 ρ 9 p (ρ 9 p - sDue ρ p l)) 12 (5 * p + l) (ρ 12 (5 * p + l) + 1)) 0 3 (ρ 0 3 + sHurt ρ p l)
theorem up2_comm {ρ : Rho} {f g i j x y : Nat} (h : f ≠ g) : up2 (up2 ρ f i x) g j y = up2 (up2 ρ g j y) f i x := by
  funext a b
  unfold up2 va_up
  by_cases h1 : a = g
  · subst h1
    simp [h, Ne.symm h]
  · by_cases h2 : a = f
    · subst h2
      simp [h1]
    · simp [h1, h2]
theorem sumN_up {f : Nat → Nat} {l : Nat} : ∀ {n : Nat}, l < n → sumN (fun i => if i = l then f l + 1 else f i) n = sumN f n + 1
  | 0, h => by omega
  | n + 1, h => by
    show sumN (fun i => if i = l then f l + 1 else f i) n + (if n = l then f l + 1 else f n) = sumN f n + f n + 1
    by_cases e : n = l
    · subst e
      rw [if_pos rfl, sumN_congr (g := f) (fun i hi => if_neg (by omega))]
      omega
    · rw [if_neg e, sumN_up (by omega)]
      omega
theorem ROK_bk {ρ : Rho} {p l : Nat} (hk : ROK ρ) (hp : p < ρ 0 1) (hl : l < ρ 0 0) (h1 : ¬ sNo ρ p l) (h2 : ¬ sBig ρ p l) : ROK (bk ρ p l) := by
  have h5 := hk.1.1
  have ht : ¬ sTries ρ p l = 0 := fun z => h1 (Or.inl z)
  have hc := sCan_iff.mpr (Nat.pos_of_ne_zero ht)
  have hroom : ρ 12 (5 * p + l) < ρ 2 l := by
    have := hc.1
    unfold sRoom at this
    split at this
    · omega
    · omega
  have hleft : sAll ρ p < ρ 6 p := by
    have := hc.2
    unfold sLeft at this
    omega
  have hb : ∀ q j, bk ρ p l 12 (5 * q + j) = if 5 * q + j = 5 * p + l then ρ 12 (5 * p + l) + 1 else ρ 12 (5 * q + j) := by
    intro q j
    show (va_up (ρ 12) (5 * p + l) (ρ 12 (5 * p + l) + 1)) (5 * q + j) = _
    rfl
  refine ⟨⟨hk.1.1, hk.1.2.1, hk.1.2.2.1, ?_, hk.1.2.2.2.2⟩, hk.2.1, fun q hq => ?_, fun q j hq hj => ?_, hk.2.2.2.2⟩
  · show ρ 0 3 + sHurt ρ p l ≤ 9999
    unfold sBig at h2
    omega
  · have hq : q < ρ 0 1 := hq
    have g := hk.2.2.1 q hq
    refine ⟨g.1, g.2.1, g.2.2.1, ?_, g.2.2.2.2.1, g.2.2.2.2.2.1, ?_⟩
    · show va_up (ρ 9) p (ρ 9 p - sDue ρ p l) q ≤ 99
      by_cases e : q = p
      · subst e; rw [up_at]; have := g.2.2.2.1; omega
      · rw [up_ne e]; exact g.2.2.2.1
    · show sumN (fun j => bk ρ p l 12 (5 * q + j)) (ρ 0 0) ≤ 5
      by_cases e : q = p
      · subst e
        have e3 : sumN (fun j => bk ρ q l 12 (5 * q + j)) (ρ 0 0) = sumN (fun j => if j = l then (fun i => ρ 12 (5 * q + i)) l + 1 else (fun i => ρ 12 (5 * q + i)) j) (ρ 0 0) := by
          refine sumN_congr (fun j hj => ?_)
          rw [hb]
          by_cases z : j = l
          · subst z; rw [if_pos rfl, if_pos rfl]
          · rw [if_neg (by omega), if_neg z]
        have e5 : _ = sumN (fun i => ρ 12 (5 * q + i)) (ρ 0 0) + 1 := e3.trans (sumN_up (f := fun i => ρ 12 (5 * q + i)) hl)
        have := g.1
        have e4 : sAll ρ q = sumN (fun i => ρ 12 (5 * q + i)) (ρ 0 0) := rfl
        omega
      · have e3 : sumN (fun j => bk ρ p l 12 (5 * q + j)) (ρ 0 0) = sumN (fun i => ρ 12 (5 * q + i)) (ρ 0 0) := by
          refine sumN_congr (fun j hj => ?_)
          rw [hb, if_neg (by omega)]
        rw [e3]
        exact g.2.2.2.2.2.2
  · have hq : q < ρ 0 1 := hq
    have hj : j < ρ 0 0 := hj
    show bk ρ p l 12 (5 * q + j) ≤ ρ 2 j
    rw [hb]
    split
    · next z => obtain ⟨rfl, rfl⟩ : q = p ∧ j = l := by omega
                omega
    · exact hk.2.2.2.1 q j hq hj
/-- what it answers, and the realm then -/
noncomputable def rbk (ρ : Rho) (p l : Nat) : Int32 := haveI := Classical.propDecidable; if sNo ρ p l then -2 else if sBig ρ p l then -3 else nI (sHurt ρ p l)
noncomputable def sbk (ρ : Rho) (p l : Nat) : Rho := haveI := Classical.propDecidable; if sNo ρ p l then ρ else if sBig ρ p l then ρ else bk ρ p l
theorem ROK_sbk {ρ : Rho} {p l : Nat} (hk : ROK ρ) (hp : p < ρ 0 1) (hl : l < ρ 0 0) : ROK (sbk ρ p l) := by
  unfold sbk
  split
  · exact hk
  · next z => split
              · exact hk
              · next y => exact ROK_bk hk hp hl z y
theorem SAME_sbk {ρ σ : Rho} {p l : Nat} (h : SAME ρ σ) : SAME (sbk ρ p l) σ := by
  unfold sbk
  split
  · exact h
  · split
    · exact h
    · exact h
section
variable {ρ : Rho} {v : Nat → Nat → Int32} {w : Nat → Nat → Int64} {o : Nat}
theorem sHurt_le (hk : ROK ρ) {p l : Nat} (hp : p < ρ 0 1) (hl : l < ρ 0 0) : sHurt ρ p l ≤ 12 := by
  have := (hk.2.1 l hl).2.2.2.1
  have := (hk.2.2.1 p hp).2.1
  unfold sHurt
  omega
theorem sDue_le (hk : ROK ρ) {p l : Nat} (hl : l < ρ 0 0) : sDue ρ p l ≤ 9 := by
  have := (hk.2.1 l hl).2.2.2.2.1
  unfold sDue
  split <;> omega
theorem C_breakOnce (ho : rl o) (hr : CR o ρ v) (hk : ROK ρ) {p l : Nat} (hp : p < ρ 0 1) (hl : l < ρ 0 0) : ∃ v', f_Realm_breakOnce o (nI p) (nI l) (bh v w) = some (rbk ρ p l, bh v' w) ∧ CR o (sbk ρ p l) v' ∧ ∀ q, q < o ∨ o + 17 ≤ q → v' q = v q := by
  have h1 := hk.1.1
  have h2 := hk.1.2.1
  have hw32 := pw_le h1 hk.1.2.2.2.2.2.1
  have hdone := hk.1.2.2.2.1
  have hH := sHurt_le hk hp hl
  have hD := sDue_le hk (p := p) hl
  have hT := sTries_le hk (p := p) hl
  have hpu := (hk.2.2.1 p hp).2.2.2.1
  have hbr := hk.2.2.2.1 p l hp hl
  have hcap := (hk.2.1 l hl).2.2.1
  have inP : 0 ≤ (nI p).toInt ∧ (nI p).toInt < (ρ 0 1 : Int) := by rw [nI_toInt (by omega)]; omega
  have inL : 0 ≤ (nI l).toInt ∧ (nI l).toInt < (ρ 0 0 : Int) := by rw [nI_toInt (by omega)]; omega
  have tail : ∃ v', f_Realm_breakOnce_32 o (nI p) (nI l) (nI (sDue ρ p l)) (bh v w) = some (rbk ρ p l, bh v' w) ∧ CR o (sbk ρ p l) v' ∧ ∀ q, q < o ∨ o + 17 ≤ q → v' q = v q := by
    unfold rbk sbk
    simp only [f_Realm_breakOnce_32, f_Realm_breakOnce_52, hRl ho v w, bd1_s]
    rw [C_ableAlone ho hr hk hp hl, bd2_s, ite_iff (nI_eq0 (by omega))]
    by_cases ht : sTries ρ p l = 0
    · have hno : sNo ρ p l := Or.inl ht
      rw [if_pos ht, if_pos hno, if_pos hno]
      exact ⟨v, rfl, hr, fun _ _ => rfl⟩
    · rw [if_neg ht]
      try simp only [hRl ho v w, bd1_s]
      rw [rd_nI (by omega) (by decide), bd1_s, (hr.2.2.1 p hp).2.2.2.1, ite_iff (nI_leI (by omega) (by omega))]
      by_cases hu : sDue ρ p l ≤ ρ 9 p
      · have hno : ¬ sNo ρ p l := fun z => z.elim (fun q => ht q) (fun q => by omega)
        rw [if_pos hu, if_neg hno, if_neg hno]
        try simp only [hRl ho v w, bd1_s]
        rw [rd_nI (by omega) (by decide), bd1_s]
        try simp only [hRl ho v w, bd1_s]
        rw [rd_nI (by omega) (by decide), bd1_s, hr.1.2.2.2.1, (hr.2.1 l hl).2.2.1, (hr.2.2.1 p hp).2.1, nI_add, nI_add, show (9999 : Int32) = nI 9999 from rfl, ite_iff (nI_leI (by unfold sHurt at hH; omega) (by decide))]
        by_cases hb : sBig ρ p l
        · rw [if_neg (by unfold sBig sHurt at hb; omega), if_pos hb, if_pos hb]
          exact ⟨v, rfl, hr, fun _ _ => rfl⟩
        · rw [if_pos (by unfold sBig sHurt at hb; omega), if_neg hb, if_neg hb]
          try simp only [hRl ho v w, bd1_s]
          rw [pk_sub hu, wr_nI (by omega) (by decide), bd1_s]
          try simp only [hRl ho (u2 v (o + 9) p (nI (ρ 9 p - sDue ρ p l))) w, bd1_s, f_Realm_mark, f_Realm_mark_0]
          have e3 : u2 v (o + 9) p (nI (ρ 9 p - sDue ρ p l)) (o + 3) l = nI (ρ 3 l) := (congrFun (u2_o (by omega)) l).trans (hr.2.1 l hl).2.2.1
          have e7 : u2 v (o + 9) p (nI (ρ 9 p - sDue ρ p l)) (o + 7) p = nI (ρ 7 p) := (congrFun (u2_o (by omega)) p).trans (hr.2.2.1 p hp).2.1
          have e12 : u2 v (o + 9) p (nI (ρ 9 p - sDue ρ p l)) (o + 12) (5 * p + l) = nI (ρ 12 (5 * p + l)) := (congrFun (u2_o (by omega)) _).trans (hr.2.2.2.1 p l hp hl)
          rw [rd_nI (by omega) (by decide), bd1_s, rd_nI (by omega) (by decide), bd1_s, e3, e7, nI_add]
          rw [show (nI p * (5 : Int32)) + nI l = nI (5 * p + l) by rw [show (5 : Int32) = nI 5 from rfl, pk_mul, nI_add, Nat.mul_comm p 5]]
          rw [rd_nI (by omega) (by decide), bd1_s, e12, nI_1, wr_nI (by omega) (by decide), bd1_s]
          try simp only [hRl ho (u2 (u2 v (o + 9) p (nI (ρ 9 p - sDue ρ p l))) (o + 12) (5 * p + l) (nI (ρ 12 (5 * p + l) + 1))) w, bd1_s]
          have e0 : u2 (u2 v (o + 9) p (nI (ρ 9 p - sDue ρ p l))) (o + 12) (5 * p + l) (nI (ρ 12 (5 * p + l) + 1)) o 3 = nI (ρ 0 3) := by
            rw [u2_o (by omega), u2_o (by omega)]; exact hr.1.2.2.2.1
          rw [e0, nI_add, bd2_s]
          refine ⟨_, rfl, ?_, fun q hq => ?_⟩
          · have c1 := CR_purse (x := ρ 9 p - sDue ρ p l) hp hr h1
            have c2 := CR_broke (ρ := up2 ρ 9 p (ρ 9 p - sDue ρ p l)) (x := ρ 12 (5 * p + l) + 1) (i := p) (j := l) hp hl c1 h1
            exact CR_done (x := ρ 0 3 + sHurt ρ p l) c2 h1
          · rw [u2_o (by omega), u2_o (by omega), u2_o (by omega)]
      · have hno : sNo ρ p l := Or.inr (by omega)
        rw [if_neg hu, if_pos hno, if_pos hno]
        exact ⟨v, rfl, hr, fun _ _ => rfl⟩
  simp only [f_Realm_breakOnce, f_Realm_breakOnce_0, f_Realm_hasBoth, f_Realm_hasBoth_0, f_Realm_hasBoth_20, hRl ho v w, bd1_s]
  rw [C_hasOne ho hr h2, bd2_s, if_pos inP, if_neg (by decide)]
  try simp only [hRl ho v w, bd1_s]
  rw [C_hasLaw ho hr h1, bd2_s, if_pos inL, if_neg (by decide), bd2_s, if_neg (by decide)]
  try simp only [hRl ho v w, bd1_s]
  rw [hr.1.2.2.2.2.2.1, Q_hasBit (by omega) (by omega), bd2_s]
  have e5 : sDue ρ p l = if bit (ρ 0 5) l = 1 then ρ 4 l else 0 := rfl
  rcases bit_01 (ρ 0 5) l with g | g
  · rw [g, if_pos (show nI 0 = 0 from rfl)]
    rw [e5, g, if_neg (by decide)] at tail
    exact tail
  · rw [g, if_neg (show ¬ nI 1 = 0 by decide)]
    try simp only [hRl ho v w, bd1_s]
    rw [rd_nI (by omega) (by decide), bd1_s, (hr.2.1 l hl).2.2.2.1]
    rw [e5, g, if_pos rfl] at tail
    exact tail
theorem M_breaks (hr : MR ρ v) (hk : ROK ρ) {p l : Nat} (hp : p < ρ 0 1) (hl : l < ρ 0 0) : ∃ v', f_M_breaks 100 (nI p) (nI l) (bh v w) = some (rbk ρ p l, bh v' w) ∧ MR (sbk ρ p l) v' ∧ (∀ q, q ≠ 101 → v' q = v q) ∧ ∀ j, 66 ≤ j → v' 101 j = v 101 j := by
  have h1 := hk.1.1
  have h2 := hk.1.2.1
  have hS := hk.1.2.2.2.2.2.2
  have hw32 := pw_le h1 hk.1.2.2.2.2.2.1
  have hdone := hk.1.2.2.2.1
  have hH := sHurt_le hk hp hl
  have hD := sDue_le hk (p := p) hl
  have hpu := (hk.2.2.1 p hp).2.2.2.1
  have inP : 0 ≤ (nI p).toInt ∧ (nI p).toInt < (ρ 0 1 : Int) := by rw [nI_toInt (by omega)]; omega
  have inL : 0 ≤ (nI l).toInt ∧ (nI l).toInt < (ρ 0 0 : Int) := by rw [nI_toInt (by omega)]; omega
  have a9 : v 101 (15 + p) = nI (ρ 9 p) := by have := hr.2.2.2.2.2.2.1 p hp; rwa [show 0 + 15 + p = 15 + p by omega] at this
  have a40 : v 101 40 = nI (ρ 0 3) := hr.2.2.2.2.2.2.2.2.2.2.2.1
  have a12 : v 101 (24 + 5 * p + l) = nI (ρ 12 (5 * p + l)) := by have := hr.2.2.2.2.2.2.2.2.2.1 p l hp hl; rwa [show 0 + 24 + 5 * p + l = 24 + 5 * p + l by omega] at this
  have i15 : (15 : Int32) + nI p = nI (15 + p) := by rw [show (15 : Int32) = nI 15 from rfl, nI_add]
  have i24 : ((24 : Int32) + (5 : Int32) * nI p) + nI l = nI (24 + 5 * p + l) := by rw [show (24 : Int32) = nI 24 from rfl, show (5 : Int32) = nI 5 from rfl, pk_mul, nI_add, nI_add]
  have tail : ∃ v', f_M_breaks_43 100 (nI p) (nI l) (nI (sDue ρ p l)) (bh v w) = some (rbk ρ p l, bh v' w) ∧ MR (sbk ρ p l) v' ∧ (∀ q, q ≠ 101 → v' q = v q) ∧ ∀ j, 66 ≤ j → v' 101 j = v 101 j := by
    unfold rbk sbk
    have : Decidable (sCan ρ p l) := inferInstanceAs (Decidable (0 < sRoom ρ p l ∧ 0 < sLeft ρ p))
    simp only [f_M_breaks_43, f_M_breaks_66, hM v w, bd1_s]
    rw [M_canBreak hr hk hp hl, bd2_s]
    by_cases hc : sCan ρ p l
    · have ht : ¬ sTries ρ p l = 0 := by have := sCan_iff.mp hc; omega
      rw [if_pos hc, if_neg (by decide)]
      try simp only [hM v w, bd1_s]
      rw [i15, rd_nI (by omega) (by decide), bd1_s, a9, ite_iff (nI_leI (by omega) (by omega))]
      by_cases hu : sDue ρ p l ≤ ρ 9 p
      · have hno : ¬ sNo ρ p l := fun z => z.elim (fun q => ht q) (fun q => by omega)
        rw [if_pos hu, if_neg hno, if_neg hno]
        try simp only [hM v w, bd1_s]
        rw [rd_nI (by omega) (by decide), bd1_s]
        rw [rd_nI (by omega) (by decide), bd1_s, (hr.1.2.2.1 l hl).2.1, (hr.1.2.2.2 p hp).1, show (40 : Int32) = nI 40 from rfl, rd_nI (by omega) (by decide), bd1_s, a40, nI_add, nI_add, show (9999 : Int32) = nI 9999 from rfl, ite_iff (nI_leI (by unfold sHurt at hH; omega) (by decide))]
        by_cases hb : sBig ρ p l
        · rw [if_neg (by unfold sBig sHurt at hb; omega), if_pos hb, if_pos hb]
          exact ⟨v, rfl, hr, fun _ _ => rfl, fun _ _ => rfl⟩
        · rw [if_pos (by unfold sBig sHurt at hb; omega), if_neg hb, if_neg hb]
          try simp only [hM v w, bd1_s]
          rw [wr_nI (by omega) (by decide), bd1_s, nI_add (a := ρ 0 3)]
          simp only [hM (u2 v 101 40 (nI (ρ 0 3 + (ρ 3 l + ρ 7 p)))) w, bd1_s]
          rw [rd_nI (by omega) (by decide), bd1_s, u2_n (show 15 + p ≠ 40 by omega), a9, pk_sub hu, wr_nI (by omega) (by decide), bd1_s]
          try simp only [hM (u2 (u2 v 101 40 (nI (ρ 0 3 + (ρ 3 l + ρ 7 p)))) 101 (15 + p) (nI (ρ 9 p - sDue ρ p l))) w, bd1_s]
          rw [i24, rd_nI (by omega) (by decide), bd1_s, u2_n (show 24 + 5 * p + l ≠ 15 + p by omega), u2_n (show 24 + 5 * p + l ≠ 40 by omega), a12, nI_1, wr_nI (by omega) (by decide), bd1_s]
          refine ⟨_, rfl, ⟨?_, ?_⟩, fun q hq => ?_, fun j hj => ?_⟩
          · exact MF_u (MF_u (MF_u hr.1 rfl rfl rfl rfl rfl rfl rfl) rfl rfl rfl rfl rfl rfl rfl) rfl rfl rfl rfl rfl rfl rfl
          · have m1 := MB_done (x := ρ 0 3 + sHurt ρ p l) h1 h2 hS hr.2
            have m2 := MB_purse (ρ := up2 ρ 0 3 (ρ 0 3 + sHurt ρ p l)) (x := ρ 9 p - sDue ρ p l) (i := p) h1 h2 hS hp m1
            have m3 := MB_broke (ρ := up2 (up2 ρ 0 3 (ρ 0 3 + sHurt ρ p l)) 9 p (ρ 9 p - sDue ρ p l)) (x := ρ 12 (5 * p + l) + 1) (i := p) (j := l) h1 h2 hS hp hl m2
            rw [up2_comm (show 0 ≠ 9 by decide), up2_comm (show 0 ≠ 12 by decide)] at m3
            exact m3
          · rw [u2_o hq, u2_o hq, u2_o hq]
          · rw [u2_n (by omega), u2_n (by omega), u2_n (by omega)]
      · have hno : sNo ρ p l := Or.inr (by omega)
        rw [if_neg hu, if_pos hno, if_pos hno]
        exact ⟨v, rfl, hr, fun _ _ => rfl, fun _ _ => rfl⟩
    · have hno : sNo ρ p l := Or.inl (Nat.eq_zero_of_not_pos (fun q => hc (sCan_iff.mpr q)))
      rw [if_neg hc, if_pos rfl, if_pos hno, if_pos hno]
      exact ⟨v, rfl, hr, fun _ _ => rfl, fun _ _ => rfl⟩
  simp only [f_M_breaks, f_M_breaks_0, hM v w, bd1_s]
  rw [M_isOne hr.1 h2, bd2_s, if_pos inP, if_neg (by decide)]
  try simp only [hM v w, bd1_s]
  rw [M_isLaw hr.1 h1, bd2_s, if_pos inL, if_neg (by decide)]
  try simp only [hM v w, bd1_s]
  have e1 : rd (v 101) 198 (11 : Int32) = some (nI (ρ 0 5)) := by rw [← hr.2.2.2.2.1]; rfl
  rw [e1, bd1_s, bit_I (by omega) (by omega), ite_iff (nI_eq1 (by have := bit_lt (ρ 0 5) l; omega))]
  have e5 : sDue ρ p l = if bit (ρ 0 5) l = 1 then ρ 4 l else 0 := rfl
  rcases bit_01 (ρ 0 5) l with g | g
  · rw [g, if_neg (by decide)]
    rw [e5, g, if_neg (by decide)] at tail
    exact tail
  · rw [if_pos g, rd_nI (by omega) (by decide), bd1_s, (hr.1.2.2.1 l hl).2.2]
    rw [e5, if_pos g] at tail
    exact tail
end
end
/-! 86.brk2.lean.txt -/
section
section
variable {S : Sg} {ρ' : Rho} {v v1 : Nat → Nat → Int32} {w : Nat → Nat → Int64}
theorem MB.hi {k : Nat} {σ : Rho} (h : MB 101 k σ v) (hk : 66 ≤ k) (hv : ∀ j, 66 ≤ j → v1 101 j = v 101 j) : MB 101 k σ v1 := by
  obtain ⟨h1, h2, h3, h4, h5, h6, h7, h8, h9, h10, h11, h12, h13⟩ := h
  exact ⟨fun l hl => (hv _ (by omega)).trans (h1 l hl), fun l hl => (hv _ (by omega)).trans (h2 l hl), (hv _ (by omega)).trans h3, (hv _ (by omega)).trans h4, fun p hp => (hv _ (by omega)).trans (h5 p hp), fun p hp => (hv _ (by omega)).trans (h6 p hp), fun p hp => (hv _ (by omega)).trans (h7 p hp), fun p hp => (hv _ (by omega)).trans (h8 p hp), fun p l hp hl => (hv _ (by omega)).trans (h9 p l hp hl), (hv _ (by omega)).trans h10, (hv _ (by omega)).trans h11, (hv _ (by omega)).trans h12, fun i hi => ⟨(hv _ (by omega)).trans (h13 i hi).1, (hv _ (by omega)).trans (h13 i hi).2.1, (hv _ (by omega)).trans (h13 i hi).2.2⟩⟩
/-- the reference's realm alone has changed -/
theorem MI_r (h : MI S v) (hR : MR ρ' v1) (hq : ∀ q, q ≠ 101 → v1 q = v q) (hj : ∀ j, 66 ≤ j → v1 101 j = v 101 j) : MI (ρ', S.2) v1 := by
  obtain ⟨-, h2, h3, h4, h5, h6, h7⟩ := h
  refine ⟨hR, fun k hk => ?_, ?_, ?_, ?_, ?_, ?_⟩
  · rw [hq 102 (by omega)]
    exact ⟨(h2 k hk).1, fun z => ((h2 k hk).2 z).hi (by omega) hj⟩
  · rw [hq 100 (by omega)]; exact h3
  · rw [hq 114 (by omega)]; exact h4
  · rw [hq 100 (by omega)]; exact h5
  · rw [hq 123 (by omega), hq 124 (by omega), hq 125 (by omega)]; exact h6
  · rw [hq 100 (by omega)]; exact h7
/-- the class's realm alone has changed -/
theorem CI_r (h : CI S v) (hR : CR 3 ρ' v1) (hq : ∀ q, q < 3 ∨ 3 + 17 ≤ q → v1 q = v q) : CI (ρ', S.2) v1 := by
  obtain ⟨-, h2, h3, h4, h5, h6, h7⟩ := h
  refine ⟨hR, fun k hk => ?_, ?_, ?_, ?_, fun k hk => ?_, ?_⟩
  · rw [hq 38 (by omega)]
    exact ⟨(h2 k hk).1, fun z => ((h2 k hk).2 z).frame (fun p _ _ => hq p (by omega))⟩
  · rw [hq 1 (by omega)]; exact h3
  · rw [hq 2 (by omega)]; exact h4
  · rw [hq 1 (by omega)]; exact h5
  · rw [hq (92 + 2 * k) (by omega), hq (93 + 2 * k) (by omega)]; exact h6 k hk
  · rw [hq 0 (by omega), hq 43 (by omega)]; exact h7
theorem C_breakOnce_bad {o : Nat} {ρ : Rho} (ho : rl o) (hr : CR o ρ v) (hk : ROK ρ) {x y : Int32} (hb : ¬ ((0 ≤ x.toInt ∧ x.toInt < (ρ 0 1 : Int)) ∧ (0 ≤ y.toInt ∧ y.toInt < (ρ 0 0 : Int)))) : f_Realm_breakOnce o x y (bh v w) = some (-1, bh v w) := by
  have h1 := hk.1.1
  have h2 := hk.1.2.1
  simp only [f_Realm_breakOnce, f_Realm_breakOnce_0, f_Realm_hasBoth, f_Realm_hasBoth_0, f_Realm_hasBoth_20, hRl ho v w, bd1_s]
  rw [C_hasOne ho hr h2, bd2_s]
  by_cases hp : 0 ≤ x.toInt ∧ x.toInt < (ρ 0 1 : Int)
  · have hl : ¬ (0 ≤ y.toInt ∧ y.toInt < (ρ 0 0 : Int)) := fun z => hb ⟨hp, z⟩
    rw [if_pos hp, if_neg (by decide)]
    simp only [hRl ho v w, bd1_s]
    rw [C_hasLaw ho hr h1, bd2_s, if_neg hl, if_pos rfl, bd2_s, if_pos rfl]
  · rw [if_neg hp, if_pos rfl, bd2_s, if_pos rfl]
theorem M_breaks_bad {ρ : Rho} (hr : MR ρ v) (hk : ROK ρ) {x y : Int32} (hb : ¬ ((0 ≤ x.toInt ∧ x.toInt < (ρ 0 1 : Int)) ∧ (0 ≤ y.toInt ∧ y.toInt < (ρ 0 0 : Int)))) : f_M_breaks 100 x y (bh v w) = some (-1, bh v w) := by
  have h1 := hk.1.1
  have h2 := hk.1.2.1
  simp only [f_M_breaks, f_M_breaks_0, f_M_breaks_16, hM v w, bd1_s]
  rw [M_isOne hr.1 h2, bd2_s]
  by_cases hp : 0 ≤ x.toInt ∧ x.toInt < (ρ 0 1 : Int)
  · have hl : ¬ (0 ≤ y.toInt ∧ y.toInt < (ρ 0 0 : Int)) := fun z => hb ⟨hp, z⟩
    rw [if_pos hp, if_neg (by decide)]
    simp only [hM v w, bd1_s]
    rw [M_isLaw hr.1 h1, bd2_s, if_neg hl, if_pos rfl]
  · rw [if_neg hp, if_pos rfl]
theorem E_breaks (x y : Int32) (hs : SOK S) (hc : CI S v) (hm : MI S v) : Eqv S v w (f_Q_breaks 0 x y) (f_M_breaks 100 x y) := by
  have h1 := hs.1.1.1
  have h2 := hs.1.1.2.1
  by_cases hb : (0 ≤ x.toInt ∧ x.toInt < (S.1 0 1 : Int)) ∧ (0 ≤ y.toInt ∧ y.toInt < (S.1 0 0 : Int))
  · obtain ⟨p, hp, rfl⟩ := ix (by omega) hb.1
    obtain ⟨l, hl, rfl⟩ := ix (by omega) hb.2
    obtain ⟨v1, e1, c1, f1⟩ := C_breakOnce (w := w) rl3 hc.1 hs.1 hp hl
    refine Eqv.change (r := rbk S.1 p l) (S' := (sbk S.1 p l, S.2)) (v1 := v1) (w1 := w) hm ?_ (fun q hq => f1 q (by omega)) (SOK_u hs (ROK_sbk hs.1 hp hl) (fun σ h => SAME_sbk h)) (CI_r hc c1 f1) (fun w1 hm1 => ?_)
    · simp only [f_Q_breaks, f_Q_breaks_0, q_now, hRl rl3 v w, bd1_s]
      rw [e1, bd2_s]
    · obtain ⟨v2, e2, m2, g1, g2⟩ := M_breaks (w := w1) hm1.1 hs.1 hp hl
      exact ⟨v2, w1, e2, fun q hq => g1 q (by omega), MI_r hm1 m2 g1 g2⟩
  · refine Eqv.query (r := -1) hs hc hm ?_ (M_breaks_bad hm.1 hs.1 hb)
    simp only [f_Q_breaks, f_Q_breaks_0, q_now, hRl rl3 v w, bd1_s]
    rw [C_breakOnce_bad rl3 hc.1 hs.1 hb, bd2_s]
end
end
/-! 87.year.lean.txt -/
section
/-! a year's end -/
def z12 (ρ : Rho) : Rho := va_up ρ 12 (fun _ => 0)
def yr (ρ : Rho) : Rho := up2 (z12 (up2 ρ 0 4 (ρ 0 4 &&& (31 - sFalls ρ)))) 0 2 (ρ 0 2 + 1)
theorem cut_I : ∀ a, a < 32 → ∀ b, b < 32 → nI a &&& (nI b ^^^ (-1 : Int32)) = nI (a &&& (31 - b)) := by decide +kernel
theorem sFalls_lt {ρ : Rho} (hk : ROK ρ) : sFalls ρ < 32 := Nat.lt_of_le_of_lt Nat.and_le_right hk.st
theorem nI_eqI {a b : Nat} (ha : a < 2 ^ 31) (hb : b < 2 ^ 31) : nI a = nI b ↔ a = b := by
  constructor
  · intro h
    have := congrArg Int32.toInt h
    rw [nI_toInt ha, nI_toInt hb] at this
    omega
  · intro h; rw [h]
theorem sumN_0 : ∀ n, sumN (fun _ => 0) n = 0
  | 0 => rfl
  | n + 1 => by show sumN (fun _ => 0) n + 0 = 0; rw [sumN_0 n]
theorem ROK_z12 {ρ : Rho} (hk : ROK ρ) : ROK (z12 ρ) := by
  refine ⟨hk.1, hk.2.1, fun p hp => ?_, fun p l hp hl => Nat.zero_le _, hk.2.2.2.2⟩
  have g := hk.2.2.1 p hp
  refine ⟨g.1, g.2.1, g.2.2.1, g.2.2.2.1, g.2.2.2.2.1, g.2.2.2.2.2.1, ?_⟩
  show sumN (fun _ => 0) _ ≤ 5
  rw [sumN_0]
  omega
theorem ROK_yr {ρ : Rho} (hk : ROK ρ) (hy : ρ 0 2 < 999) : ROK (yr ρ) := by
  have h := ROK_z12 (ROK_stands (x := ρ 0 4 &&& (31 - sFalls ρ)) hk (Nat.lt_of_le_of_lt Nat.and_le_left hk.1.2.2.2.2.1))
  exact ⟨⟨h.1.1, h.1.2.1, (by show ρ 0 2 + 1 ≤ 999; omega), h.1.2.2.2⟩, h.2⟩
section
variable {ρ : Rho} {v v1 : Nat → Nat → Int32} {w : Nat → Nat → Int64} {o : Nat}
theorem CR_z12 (h : CR o ρ v) (hL : ρ 0 0 ≤ 5) (hP : ρ 0 1 ≤ 3) (hq : ∀ q, q ≠ o + 12 → v1 q = v q) (h0 : ∀ j, j < 15 → v1 (o + 12) j = 0) : CR o (z12 ρ) v1 := by
  obtain ⟨h1, h2, h3, -, h5⟩ := h
  refine ⟨?_, ?_, ?_, fun p l hp hl => ?_, ?_⟩
  · rw [hq o (by omega), hq (o + 13) (by omega)]; exact h1
  · rw [hq (o + 1) (by omega), hq (o + 2) (by omega), hq (o + 3) (by omega), hq (o + 4) (by omega), hq (o + 5) (by omega)]; exact h2
  · rw [hq (o + 6) (by omega), hq (o + 7) (by omega), hq (o + 8) (by omega), hq (o + 9) (by omega), hq (o + 10) (by omega), hq (o + 11) (by omega)]; exact h3
  · have hp : p < ρ 0 1 := hp
    have hl : l < ρ 0 0 := hl
    exact h0 _ (by omega)
  · rw [hq (o + 14) (by omega), hq (o + 15) (by omega), hq (o + 16) (by omega)]; exact h5
theorem MB_z12 (h : MB 101 0 ρ v) (hL : ρ 0 0 ≤ 5) (hP : ρ 0 1 ≤ 3) (hq : ∀ j, j < 24 ∨ 39 ≤ j → v1 101 j = v 101 j) (h0 : ∀ j, 24 ≤ j → j < 39 → v1 101 j = 0) : MB 101 0 (z12 ρ) v1 := by
  obtain ⟨h1, h2, h3, h4, h5, h6, h7, h8, h9, h10, h11, h12, h13⟩ := h
  refine ⟨fun l (hl : l < ρ 0 0) => (hq _ (by omega)).trans (h1 l hl), fun l (hl : l < ρ 0 0) => (hq _ (by omega)).trans (h2 l hl), (hq _ (by omega)).trans h3, (hq _ (by omega)).trans h4, fun p (hp : p < ρ 0 1) => (hq _ (by omega)).trans (h5 p hp), fun p (hp : p < ρ 0 1) => (hq _ (by omega)).trans (h6 p hp), fun p (hp : p < ρ 0 1) => (hq _ (by omega)).trans (h7 p hp), fun p (hp : p < ρ 0 1) => (hq _ (by omega)).trans (h8 p hp), fun p l (hp : p < ρ 0 1) (hl : l < ρ 0 0) => h0 _ (by omega) (by omega), (hq _ (by omega)).trans h10, (hq _ (by omega)).trans h11, (hq _ (by omega)).trans h12, fun i hi => ⟨(hq _ (by omega)).trans (h13 i hi).1, (hq _ (by omega)).trans (h13 i hi).2.1, (hq _ (by omega)).trans (h13 i hi).2.2⟩⟩
/-- Arrays.fill of int cells -/
theorem fill_I {q n : Nat} {x : Int32} (hn : n < 600) (eN : ∀ v w, aN (bh v w) 0 q = some (nI n)) (eS : ∀ v w i x, sI (bh v w) 0 q i x = wr v w q n i x) (v : Nat → Nat → Int32) (w : Nat → Nat → Int64) : ∃ v1, f_Arrays_fillI q x (bh v w) = some (bh v1 w) ∧ (∀ p, p ≠ q → v1 p = v p) ∧ (∀ j, j < n → v1 q j = x) ∧ ∀ j, n ≤ j → v1 q j = v q j := by
  have key : ∀ (k fuel i : Nat) (v : Nat → Nat → Int32), k < fuel → i + k = n → ∃ v1, f_Arrays_fillI_5 fuel q x (nI i) (nI n) (bh v w) = some (bh v1 w) ∧ (∀ p, p ≠ q → v1 p = v p) ∧ (∀ j, i ≤ j → j < n → v1 q j = x) ∧ ∀ j, j < i ∨ n ≤ j → v1 q j = v q j := by
    intro k
    induction k with
    | zero =>
      intro fuel i v hf hi
      obtain ⟨m, rfl⟩ : ∃ m, fuel = m + 1 := ⟨fuel - 1, by omega⟩
      simp only [f_Arrays_fillI_5, f_Arrays_fillI_5b]
      rw [if_pos ((nI_leI (by omega) (by omega)).mpr (by omega))]
      exact ⟨v, rfl, fun _ _ => rfl, fun j _ _ => by omega, fun _ _ => rfl⟩
    | succ k ih =>
      intro fuel i v hf hi
      obtain ⟨m, rfl⟩ : ∃ m, fuel = m + 1 := ⟨fuel - 1, by omega⟩
      simp only [f_Arrays_fillI_5, f_Arrays_fillI_5b]
      rw [if_neg (fun z => by have := (nI_leI (by omega) (by omega)).mp z; omega), eS, wr_nI (by omega) (by omega), bd1_s, nI_1]
      obtain ⟨v1, e1, f1, f2, f3⟩ := ih m (i + 1) (u2 v q i x) (by omega) (by omega)
      refine ⟨v1, e1, fun p hp => (f1 p hp).trans (u2_o hp), fun j h1 h2 => ?_, fun j hj => (f3 j (by omega)).trans (u2_n (by omega))⟩
      by_cases e : j = i
      · subst e; exact (f3 j (by omega)).trans (u2_at _ _ _ _)
      · exact f2 j (by omega) h2
  obtain ⟨v1, e1, f1, f2, f3⟩ := key n FU 0 v (by unfold FU; omega) (by omega)
  refine ⟨v1, ?_, f1, fun j hj => f2 j (by omega) hj, fun j hj => f3 j (Or.inr hj)⟩
  simp only [f_Arrays_fillI, f_Arrays_fillI_0]
  rw [eN, bd1_s]
  exact e1
theorem C_endYear (ho : rl o) (hr : CR o ρ v) (hk : ROK ρ) : ∃ v', f_Realm_endYear o (bh v w) = some (nI (sFalls ρ), bh v' w) ∧ CR o (yr ρ) v' ∧ ∀ q, q < o ∨ o + 17 ≤ q → v' q = v q := by
  have h1 := hk.1.1
  have h2 := hk.1.2.1
  simp only [f_Realm_endYear, f_Realm_endYear_0, hRl ho v w, bd1_s]
  rw [C_lapsing ho hr hk, bd2_s]
  simp only [hRl ho v w, bd1_s]
  rw [hr.1.2.2.2.2.1, cut_I _ hk.st _ (sFalls_lt hk)]
  have eN : ∀ v w, aN (bh v w) 0 (o + 12) = some (nI 15) := by rcases ho with rfl | rfl | rfl | rfl <;> exact fun _ _ => rfl
  obtain ⟨v1, e1, f1, f2, f3⟩ := fill_I (x := 0) (by omega) eN (fun v w i x => by simp only [hRl ho v w]) (u2 v o 4 (nI (ρ 0 4 &&& (31 - sFalls ρ)))) w
  simp only [hRl ho (u2 v o 4 (nI (ρ 0 4 &&& (31 - sFalls ρ)))) w, bd1_s]
  rw [e1]
  simp only [hRl ho v1 w, bd1_s]
  have c1 := CR_z12 (CR_stands (x := ρ 0 4 &&& (31 - sFalls ρ)) hr h1) h1 h2 f1 f2
  have ey : v1 o 2 = nI (ρ 0 2) := c1.1.2.2.1
  rw [ey, nI_1]
  refine ⟨_, rfl, CR_year c1 h1, fun q hq => ?_⟩
  rw [u2_o (by omega), f1 q (by omega), u2_o (by omega)]
theorem M_year (hr : MR ρ v) (hk : ROK ρ) (hy : ρ 0 2 < 999) : ∃ v', f_M_year 100 (bh v w) = some (nI (sFalls ρ), bh v' w) ∧ MR (yr ρ) v' ∧ (∀ q, q ≠ 101 → v' q = v q) ∧ ∀ j, 66 ≤ j → v' 101 j = v 101 j := by
  have h1 := hk.1.1
  have h2 := hk.1.2.1
  have hS := hk.1.2.2.2.2.2.2
  have key : ∀ (k fuel i : Nat) (v : Nat → Nat → Int32) (r : Int32), k < fuel → i + k = 15 → ∃ v1, f_M_year_36 fuel 100 r (nI i) (bh v w) = some (r, bh (u2 v1 101 39 (v1 101 39 + 1)) w) ∧ (∀ p, p ≠ 101 → v1 p = v p) ∧ (∀ j, 24 + i ≤ j → j < 39 → v1 101 j = 0) ∧ ∀ j, j < 24 + i ∨ 39 ≤ j → v1 101 j = v 101 j := by
    intro k
    induction k with
    | zero =>
      intro fuel i v r hf hi
      obtain ⟨m, rfl⟩ : ∃ m, fuel = m + 1 := ⟨fuel - 1, by omega⟩
      simp only [f_M_year_36, f_M_year_36b, hM v w, bd1_s]
      rw [show (15 : Int32) = nI 15 from rfl, if_pos ((nI_leI (by omega) (by omega)).mpr (by omega)), show (39 : Int32) = nI 39 from rfl, rd_nI (by omega) (by decide), bd1_s, wr_nI (by omega) (by decide), bd1_s]
      exact ⟨v, rfl, fun _ _ => rfl, fun j _ _ => by omega, fun _ _ => rfl⟩
    | succ k ih =>
      intro fuel i v r hf hi
      obtain ⟨m, rfl⟩ : ∃ m, fuel = m + 1 := ⟨fuel - 1, by omega⟩
      simp only [f_M_year_36, f_M_year_36b, hM v w, bd1_s]
      rw [show (15 : Int32) = nI 15 from rfl, if_neg (fun z => by have := (nI_leI (by omega) (by omega)).mp z; omega), show (24 : Int32) = nI 24 from rfl, nI_add, wr_nI (by omega) (by decide), bd1_s, nI_1]
      obtain ⟨v1, e1, f1, f2, f3⟩ := ih m (i + 1) (u2 v 101 (24 + i) 0) r (by omega) (by omega)
      refine ⟨v1, e1, fun p hp => (f1 p hp).trans (u2_o hp), fun j h1 h2 => ?_, fun j hj => (f3 j (by omega)).trans (u2_n (by omega))⟩
      by_cases e : j = 24 + i
      · subst e; exact (f3 _ (by omega)).trans (u2_at _ _ _ _)
      · exact f2 j (by omega) h2
  obtain ⟨v1, e1, f1, f2, f3⟩ := key 15 FU 0 (u2 v 101 10 (nI (ρ 0 4 &&& (31 - sFalls ρ)))) (nI (sFalls ρ)) (by unfold FU; omega) (by omega)
  have m1 := MB_z12 (MB_stands (x := ρ 0 4 &&& (31 - sFalls ρ)) h1 h2 hS hr.2) h1 h2 f3 f2
  have ey : v1 101 39 = nI (ρ 0 2) := m1.2.2.2.2.2.2.2.2.2.1
  have e39 : rd (v 101) 198 (39 : Int32) = some (nI (ρ 0 2)) := by rw [← hr.2.2.2.2.2.2.2.2.2.2.1]; rfl
  have e10 : rd (v 101) 198 (10 : Int32) = some (nI (ρ 0 4)) := by rw [← hr.2.2.2.1]; rfl
  refine ⟨u2 v1 101 39 (nI (ρ 0 2 + 1)), ?_, ⟨?_, ?_⟩, ?_, ?_⟩
  rotate_left
  · have mf : MF ρ v1 := by
      have := hr.1
      unfold MF at this ⊢
      rw [f1 100 (by omega), f1 103 (by omega), f1 104 (by omega), f1 105 (by omega), f1 106 (by omega), f1 107 (by omega)]
      exact this
    exact MF_u mf rfl rfl rfl rfl rfl rfl rfl
  · exact MB_year h1 h2 hS m1
  · intro q hq
    rw [u2_o hq, f1 q hq, u2_o hq]
  · intro j hj
    rw [u2_n (by omega), f3 j (by omega), u2_n (by omega)]
  · simp only [f_M_year, f_M_year_0, hM v w, bd1_s]
    rw [e39, bd1_s, show (999 : Int32) = nI 999 from rfl, if_neg (fun z => by have := (nI_eqI (by omega) (by omega)).mp z; omega), M_fallsNow hr hk, bd2_s]
    simp only [hM v w, bd1_s]
    rw [e10, bd1_s, cut_I _ hk.st _ (sFalls_lt hk), show (10 : Int32) = nI 10 from rfl, wr_nI (by omega) (by decide), bd1_s]
    rw [ey, nI_1] at e1
    exact e1
end
section
variable {S : Sg} {v : Nat → Nat → Int32} {w : Nat → Nat → Int64}
theorem E_year (hs : SOK S) (hc : CI S v) (hm : MI S v) : Eqv S v w (f_Q_year 0) (f_M_year 100) := by
  have hy9 := hs.1.1.2.2.1
  have ey : v 3 2 = nI (S.1 0 2) := hc.1.1.2.2.1
  by_cases hy : S.1 0 2 < 999
  · obtain ⟨v1, e1, c1, f1⟩ := C_endYear (w := w) rl3 hc.1 hs.1
    refine Eqv.change (r := nI (sFalls S.1)) (S' := (yr S.1, S.2)) (v1 := v1) (w1 := w) hm ?_ (fun q hq => f1 q (by omega)) (SOK_u hs (ROK_yr hs.1 hy) (fun σ h => h)) (CI_r hc c1 f1) (fun w1 hm1 => ?_)
    · simp only [f_Q_year, f_Q_year_0, q_now, hRl rl3 v w, bd1_s]
      rw [ey, show (999 : Int32) = nI 999 from rfl, if_pos ((nI_ltI (by omega) (by omega)).mpr hy), e1, bd2_s]
    · obtain ⟨v2, e2, m2, g1, g2⟩ := M_year (w := w1) hm1.1 hs.1 hy
      exact ⟨v2, w1, e2, fun q hq => g1 q (by omega), MI_r hm1 m2 g1 g2⟩
  · refine Eqv.query (r := -3) hs hc hm ?_ ?_
    · simp only [f_Q_year, f_Q_year_0, q_now, hRl rl3 v w, bd1_s]
      rw [ey, show (999 : Int32) = nI 999 from rfl, if_neg (fun z => hy ((nI_ltI (by omega) (by omega)).mp z))]
    · have e39 : rd (v 101) 198 (39 : Int32) = some (nI (S.1 0 2)) := by rw [← hm.1.2.2.2.2.2.2.2.2.2.2.1]; rfl
      simp only [f_M_year, f_M_year_0, hM v w, bd1_s]
      rw [e39, bd1_s, show (999 : Int32) = nI 999 from rfl, if_pos ((nI_eqI (by omega) (by omega)).mpr (by omega))]
end
end
/-! 88.see.lean.txt -/
section
/-! what was seen -/
def sn (ρ : Rho) (m : Nat) (a b c : Nat → Nat) : Rho := va_up (va_up (va_up (up2 ρ 0 6 m) 13 a) 14 b) 15 c
theorem ROK_sn {ρ : Rho} {m : Nat} {a b c : Nat → Nat} (hk : ROK ρ) (hm : m ≤ 8) (hs : ∀ i, i < m → (a i = 0 ∧ b i < ρ 0 1 ∨ a i = 1 ∧ b i < ρ 0 0) ∧ c i ≤ 20) : ROK (sn ρ m a b c) :=
  ⟨⟨hk.1.1, hk.1.2.1, hk.1.2.2.1, hk.1.2.2.2.1, hk.1.2.2.2.2.1, hk.1.2.2.2.2.2.1, hm⟩, hk.2.1, hk.2.2.1, hk.2.2.2.1, hs⟩
section
variable {ρ : Rho} {v v1 : Nat → Nat → Int32} {w : Nat → Nat → Int64} {o m : Nat} {a b c : Nat → Nat}
theorem CR_sn (h : CR o ρ v) (hq : ∀ q, q < o + 13 → v1 q = v q) (h0 : v1 (o + 13) 0 = nI m) (hs : ∀ i, i < m → v1 (o + 14) i = nI (a i) ∧ v1 (o + 15) i = nI (b i) ∧ v1 (o + 16) i = nI (c i)) : CR o (sn ρ m a b c) v1 := by
  obtain ⟨h1, h2, h3, h4, -⟩ := h
  refine ⟨⟨?_, ?_, ?_, ?_, ?_, ?_, h0⟩, ?_, ?_, ?_, hs⟩
  · rw [hq o (by omega)]; exact h1.1
  · rw [hq o (by omega)]; exact h1.2.1
  · rw [hq o (by omega)]; exact h1.2.2.1
  · rw [hq o (by omega)]; exact h1.2.2.2.1
  · rw [hq o (by omega)]; exact h1.2.2.2.2.1
  · rw [hq o (by omega)]; exact h1.2.2.2.2.2.1
  · rw [hq (o + 1) (by omega), hq (o + 2) (by omega), hq (o + 3) (by omega), hq (o + 4) (by omega), hq (o + 5) (by omega)]; exact h2
  · rw [hq (o + 6) (by omega), hq (o + 7) (by omega), hq (o + 8) (by omega), hq (o + 9) (by omega), hq (o + 10) (by omega), hq (o + 11) (by omega)]; exact h3
  · rw [hq (o + 12) (by omega)]; exact h4
theorem MB_sn (h : MB 101 0 ρ v) (hL : ρ 0 0 ≤ 5) (hP : ρ 0 1 ≤ 3) (hq : ∀ j, j < 41 → v1 101 j = v 101 j) (h0 : v1 101 41 = nI m) (hs : ∀ i, i < m → v1 101 (0 + 42 + 3 * i) = nI (a i) ∧ v1 101 (0 + 42 + 3 * i + 1) = nI (b i) ∧ v1 101 (0 + 42 + 3 * i + 2) = nI (c i)) : MB 101 0 (sn ρ m a b c) v1 := by
  obtain ⟨h1, h2, h3, h4, h5, h6, h7, h8, h9, h10, h11, h12, h13⟩ := h
  exact ⟨fun l (hl : l < ρ 0 0) => (hq _ (by omega)).trans (h1 l hl), fun l (hl : l < ρ 0 0) => (hq _ (by omega)).trans (h2 l hl), (hq _ (by omega)).trans h3, (hq _ (by omega)).trans h4, fun p (hp : p < ρ 0 1) => (hq _ (by omega)).trans (h5 p hp), fun p (hp : p < ρ 0 1) => (hq _ (by omega)).trans (h6 p hp), fun p (hp : p < ρ 0 1) => (hq _ (by omega)).trans (h7 p hp), fun p (hp : p < ρ 0 1) => (hq _ (by omega)).trans (h8 p hp), fun p l (hp : p < ρ 0 1) (hl : l < ρ 0 0) => (hq _ (by omega)).trans (h9 p l hp hl), (hq _ (by omega)).trans h10, (hq _ (by omega)).trans h11, h0, hs⟩
end
section
variable {S : Sg} {v v1 : Nat → Nat → Int32} {w : Nat → Nat → Int64}
theorem MF.frame {ρ ρ' : Rho} (h : MF ρ v) (hv : ∀ q, q ≠ 101 → v1 q = v q) : MF ρ v1 := by
  unfold MF
  rw [hv 100 (by omega), hv 103 (by omega), hv 104 (by omega), hv 105 (by omega), hv 106 (by omega), hv 107 (by omega)]
  exact h
theorem E_forget (x : Int32) (hs : SOK S) (hc : CI S v) (hm : MI S v) : Eqv S v w (f_Q_forget 0 x) (f_M_forget 100 x) := by
  have h1 := hs.1.1.1
  have h2 := hs.1.1.2.1
  have h8 := hs.1.1.2.2.2.2.2.2
  have ec : v 16 0 = nI (S.1 0 6) := hc.1.1.2.2.2.2.2.2
  by_cases hx : 0 ≤ x.toInt ∧ x.toInt < ((S.1 0 6 + 1 : Nat) : Int)
  · obtain ⟨z, hz, rfl⟩ := ix (by omega) hx
    have sg := hs.1.2.2.2.2
    refine Eqv.one (r := nI (S.1 0 6)) (ρ' := sn S.1 z (S.1 13) (S.1 14) (S.1 15)) (q := 16) (j := 0) (x := nI z) (j2 := 41) (x2 := nI z) hs hc hm ?_ (by omega) (by omega) (ROK_sn hs.1 (by omega) (fun i hi => sg i (by omega))) (fun σ h => h) ?_ (fun v1 hm1 => ⟨?_, ?_, ?_⟩)
    · simp only [f_Q_forget, f_Q_forget_0, q_now, hRl rl3 v w, bd1_s]
      rw [ec, Q_isWithin, bd2_s, if_pos ((in_rng (by omega)).mpr hx), if_neg (by decide)]
      simp only [q_now, hRl rl3 v w, bd1_s]
      rw [ec]
    · exact CR_sn hc.1 (fun q hq => u2_o (by omega)) (u2_at _ _ _ _) (fun i hi => by
        have g := hc.1.2.2.2.2 i (by omega)
        exact ⟨(congrFun (u2_o (by omega)) i).trans g.1, (congrFun (u2_o (by omega)) i).trans g.2.1, (congrFun (u2_o (by omega)) i).trans g.2.2⟩)
    · have e41 : rd (v1 101) 198 (41 : Int32) = some (nI (S.1 0 6)) := by rw [← hm1.1.2.2.2.2.2.2.2.2.2.2.2.2.1]; rfl
      simp only [f_M_forget, f_M_forget_0, hM v1 w, bd1_s]
      rw [e41, bd1_s, M_in, bd2_s, if_pos ((in_rngL (by omega)).mpr hx), if_neg (by decide)]
      simp only [hM v1 w, bd1_s, f_M_becomes, f_M_becomes_0]
      rw [e41, bd1_s, show (41 : Int32) = nI 41 from rfl, wr_nI (by omega) (by decide), bd1_s, bd2_s]
    · exact MF_u hm1.1.1 rfl rfl rfl rfl rfl rfl rfl
    · exact MB_sn hm1.1.2 h1 h2 (fun j hj => u2_n (by omega)) (u2_at _ _ _ _) (fun i hi => by
        have g := hm1.1.2.2.2.2.2.2.2.2.2.2.2.2.2 i (by omega)
        exact ⟨(u2_n (by omega)).trans g.1, (u2_n (by omega)).trans g.2.1, (u2_n (by omega)).trans g.2.2⟩)
  · refine Eqv.query (r := -1) hs hc hm ?_ ?_
    · simp only [f_Q_forget, f_Q_forget_0, q_now, hRl rl3 v w, bd1_s]
      rw [ec, Q_isWithin, bd2_s, if_neg (fun z => hx ((in_rng (by omega)).mp z)), if_pos rfl]
    · have e41 : rd (v 101) 198 (41 : Int32) = some (nI (S.1 0 6)) := by rw [← hm.1.2.2.2.2.2.2.2.2.2.2.2.2.1]; rfl
      simp only [f_M_forget, f_M_forget_0, hM v w, bd1_s]
      rw [e41, bd1_s, M_in, bd2_s, if_neg (fun z => hx ((in_rngL (by omega)).mp z)), if_pos rfl]
/-- one more was seen -/
def sw (ρ : Rho) (k a n : Nat) : Rho := sn ρ (ρ 0 6 + 1) (va_up (ρ 13) (ρ 0 6) k) (va_up (ρ 14) (ρ 0 6) a) (va_up (ρ 15) (ρ 0 6) n)
theorem ROK_sw {ρ : Rho} {k a n : Nat} (hk : ROK ρ) (h8 : ρ 0 6 < 8) (h : k = 0 ∧ a < ρ 0 1 ∨ k = 1 ∧ a < ρ 0 0) (hn : n ≤ 20) : ROK (sw ρ k a n) := by
  refine ROK_sn hk (by omega) (fun i hi => ?_)
  by_cases e : i = ρ 0 6
  · subst e; rw [up_at, up_at, up_at]; exact ⟨h, hn⟩
  · rw [up_ne e, up_ne e, up_ne e]; exact hk.2.2.2.2 i (by omega)
theorem C_append {o : Nat} {ρ : Rho} (ho : rl o) (hr : CR o ρ v) (hk : ROK ρ) {k a n : Nat} (h8 : ρ 0 6 < 8) : ∃ v1, f_Sightings_append (o + 13) (nI k) (nI a) (nI n) (bh v w) = some (1, bh v1 w) ∧ CR o (sw ρ k a n) v1 ∧ ∀ q, q < o ∨ o + 17 ≤ q → v1 q = v q := by
  have ec : v (o + 13) 0 = nI (ρ 0 6) := hr.1.2.2.2.2.2.2
  simp only [f_Sightings_append, f_Sightings_append_0, hRl ho v w, bd1_s]
  rw [ec, show (8 : Int32) = nI 8 from rfl, if_pos ((nI_ltI (by omega) (by omega)).mpr h8), wr_nI h8 (by decide), bd1_s]
  have e1 : u2 v (o + 14) (ρ 0 6) (nI k) (o + 13) 0 = nI (ρ 0 6) := (congrFun (u2_o (by omega)) 0).trans ec
  simp only [hRl ho (u2 v (o + 14) (ρ 0 6) (nI k)) w, bd1_s]
  rw [e1, wr_nI h8 (by decide), bd1_s]
  have e2 : u2 (u2 v (o + 14) (ρ 0 6) (nI k)) (o + 15) (ρ 0 6) (nI a) (o + 13) 0 = nI (ρ 0 6) := (congrFun (u2_o (by omega)) 0).trans e1
  simp only [hRl ho (u2 (u2 v (o + 14) (ρ 0 6) (nI k)) (o + 15) (ρ 0 6) (nI a)) w, bd1_s]
  rw [e2, wr_nI h8 (by decide), bd1_s]
  have e3 : u2 (u2 (u2 v (o + 14) (ρ 0 6) (nI k)) (o + 15) (ρ 0 6) (nI a)) (o + 16) (ρ 0 6) (nI n) (o + 13) 0 = nI (ρ 0 6) := (congrFun (u2_o (by omega)) 0).trans e2
  simp only [hRl ho (u2 (u2 (u2 v (o + 14) (ρ 0 6) (nI k)) (o + 15) (ρ 0 6) (nI a)) (o + 16) (ρ 0 6) (nI n)) w, bd1_s]
  rw [e3, nI_1]
  refine ⟨_, rfl, CR_sn hr (fun q hq => ?_) (u2_at _ _ _ _) (fun i hi => ?_), fun q hq => ?_⟩
  · rw [u2_o (by omega), u2_o (by omega), u2_o (by omega), u2_o (by omega)]
  · rw [u2_o (show o + 14 ≠ o + 13 by omega), u2_o (show o + 15 ≠ o + 13 by omega), u2_o (show o + 16 ≠ o + 13 by omega), u2_o (show o + 14 ≠ o + 16 by omega), u2_o (show o + 15 ≠ o + 16 by omega), u2_o (show o + 14 ≠ o + 15 by omega)]
    by_cases e : i = ρ 0 6
    · subst e; rw [up_at, up_at, up_at]; exact ⟨u2_at _ _ _ _, u2_at _ _ _ _, u2_at _ _ _ _⟩
    · rw [up_ne e, up_ne e, up_ne e, u2_n e, u2_n e, u2_n e, u2_o (show o + 15 ≠ o + 14 by omega), u2_o (show o + 16 ≠ o + 15 by omega), u2_o (show o + 16 ≠ o + 14 by omega)]
      exact hr.2.2.2.2 i (by omega)
  · rw [u2_o (by omega), u2_o (by omega), u2_o (by omega), u2_o (by omega)]
end
end
/-! 89.see2.lean.txt -/
section
section
variable {S : Sg} {v v1 : Nat → Nat → Int32} {w : Nat → Nat → Int64}
theorem M_sees {ρ : Rho} (hr : MR ρ v) (hk : ROK ρ) {k a n : Nat} (h8 : ρ 0 6 < 8) (hn : n ≤ 20) : ∃ v1, f_M_see_30 100 (nI k) (nI a) (nI n) 1 (bh v w) = some (nI (ρ 0 6 + 1), bh v1 w) ∧ MR (sw ρ k a n) v1 ∧ (∀ q, q ≠ 101 → v1 q = v q) ∧ ∀ j, 66 ≤ j → v1 101 j = v 101 j := by
  have h1 := hk.1.1
  have h2 := hk.1.2.1
  have ec : v 101 41 = nI (ρ 0 6) := hr.2.2.2.2.2.2.2.2.2.2.2.2.1
  have i0 : (42 : Int32) + (3 : Int32) * nI (ρ 0 6) = nI (42 + 3 * ρ 0 6) := by rw [show (42 : Int32) = nI 42 from rfl, show (3 : Int32) = nI 3 from rfl, pk_mul, nI_add]
  have hx : 0 ≤ (nI n).toInt ∧ (nI n).toInt < ((20 + 1 : Nat) : Int) := by rw [nI_toInt (by omega)]; omega
  simp only [f_M_see_30]
  rw [if_neg (by decide), M_in, bd2_s, show (20 : Int64) = (nI 20).toInt64 from rfl, if_pos ((in_rngL (by decide)).mpr hx), if_neg (by decide)]
  simp only [hM v w, bd1_s]
  rw [show (41 : Int32) = nI 41 from rfl, rd_nI (by omega) (by decide), bd1_s, ec, show (8 : Int32) = nI 8 from rfl, if_neg (fun z => by have := (nI_eqI (by omega) (by omega)).mp z; omega)]
  try simp only [bd1_s]
  rw [i0, wr_nI (by omega) (by decide), bd1_s]
  simp only [hM (u2 v 101 (42 + 3 * ρ 0 6) (nI k)) w, bd1_s]
  rw [nI_1, wr_nI (by omega) (by decide), bd1_s]
  simp only [hM (u2 (u2 v 101 (42 + 3 * ρ 0 6) (nI k)) 101 (42 + 3 * ρ 0 6 + 1) (nI a)) w, bd1_s]
  rw [show (2 : Int32) = nI 2 from rfl, nI_add, wr_nI (by omega) (by decide), bd1_s]
  simp only [hM (u2 (u2 (u2 v 101 (42 + 3 * ρ 0 6) (nI k)) 101 (42 + 3 * ρ 0 6 + 1) (nI a)) 101 (42 + 3 * ρ 0 6 + 2) (nI n)) w, bd1_s]
  rw [rd_nI (by omega) (by decide), bd1_s, u2_n (show 41 ≠ 42 + 3 * ρ 0 6 + 2 by omega), u2_n (show 41 ≠ 42 + 3 * ρ 0 6 + 1 by omega), u2_n (show 41 ≠ 42 + 3 * ρ 0 6 by omega), ec, nI_1, wr_nI (by omega) (by decide), bd1_s]
  simp only [hM (u2 (u2 (u2 (u2 v 101 (42 + 3 * ρ 0 6) (nI k)) 101 (42 + 3 * ρ 0 6 + 1) (nI a)) 101 (42 + 3 * ρ 0 6 + 2) (nI n)) 101 41 (nI (ρ 0 6 + 1))) w, bd1_s]
  rw [rd_nI (by omega) (by decide), bd1_s, u2_at]
  refine ⟨_, rfl, ⟨?_, MB_sn hr.2 h1 h2 (fun j hj => ?_) (u2_at _ _ _ _) (fun i hi => ?_)⟩, fun q hq => ?_, fun j hj => ?_⟩
  · exact MF_u (MF_u (MF_u (MF_u hr.1 rfl rfl rfl rfl rfl rfl rfl) rfl rfl rfl rfl rfl rfl rfl) rfl rfl rfl rfl rfl rfl rfl) rfl rfl rfl rfl rfl rfl rfl
  · rw [u2_n (by omega), u2_n (by omega), u2_n (by omega), u2_n (by omega)]
  · by_cases e : i = ρ 0 6
    · subst e
      rw [up_at, up_at, up_at, show 0 + 42 + 3 * ρ 0 6 = 42 + 3 * ρ 0 6 by omega]
      refine ⟨?_, ?_, ?_⟩
      · rw [u2_n (by omega), u2_n (by omega), u2_n (by omega), u2_at]
      · rw [u2_n (by omega), u2_n (by omega), u2_at]
      · rw [u2_n (by omega), u2_at]
    · rw [up_ne e, up_ne e, up_ne e]
      have g := hr.2.2.2.2.2.2.2.2.2.2.2.2.2 i (by omega)
      refine ⟨?_, ?_, ?_⟩
      · rw [u2_n (by omega), u2_n (by omega), u2_n (by omega), u2_n (by omega)]; exact g.1
      · rw [u2_n (by omega), u2_n (by omega), u2_n (by omega), u2_n (by omega)]; exact g.2.1
      · rw [u2_n (by omega), u2_n (by omega), u2_n (by omega), u2_n (by omega)]; exact g.2.2
  · rw [u2_o hq, u2_o hq, u2_o hq, u2_o hq]
  · rw [u2_n (by omega), u2_n (by omega), u2_n (by omega), u2_n (by omega)]
/-- what is there to be seen -/
def thr (S : Sg) (x y : Int32) : Prop := x = 0 ∧ (0 ≤ y.toInt ∧ y.toInt < (S.1 0 1 : Int)) ∨ x = 1 ∧ (0 ≤ y.toInt ∧ y.toInt < (S.1 0 0 : Int))
theorem Q_see_t (x y z : Int32) (hs : SOK S) (hc : CI S v) (ht : thr S x y) : f_Q_see 0 x y z (bh v w) = f_Q_see_36 0 x y z 1 (bh v w) := by
  have h1 := hs.1.1.1
  have h2 := hs.1.1.2.1
  simp only [f_Q_see, f_Q_see_0, f_Q_see_15, f_Q_see_31, f_Q_see_35, q_now, hRl rl3 v w, bd1_s]
  rw [C_hasOne rl3 hc.1 h2, bd2_s, C_hasLaw rl3 hc.1 h1, bd2_s]
  rcases ht with ⟨rfl, h⟩ | ⟨rfl, h⟩
  · rw [if_pos rfl, if_pos h, if_neg (by decide)]
  · rw [if_neg (by decide), if_pos rfl, if_pos h, if_neg (by decide)]
theorem Q_see_f (x y z : Int32) (hs : SOK S) (hc : CI S v) (ht : ¬ thr S x y) : f_Q_see 0 x y z (bh v w) = some (-1, bh v w) := by
  have h1 := hs.1.1.1
  have h2 := hs.1.1.2.1
  simp only [f_Q_see, f_Q_see_0, f_Q_see_15, f_Q_see_31, f_Q_see_35, f_Q_see_36, f_Q_see_53, q_now, hRl rl3 v w, bd1_s]
  rw [C_hasOne rl3 hc.1 h2, bd2_s, C_hasLaw rl3 hc.1 h1, bd2_s]
  by_cases e0 : x = 0
  · subst e0
    rw [if_pos rfl, if_neg (fun q => ht (Or.inl ⟨rfl, q⟩)), if_pos rfl, if_neg (by decide), if_pos trivial]
  · rw [if_neg e0]
    by_cases e1 : x = 1
    · subst e1
      rw [if_pos rfl, if_neg (fun q => ht (Or.inr ⟨rfl, q⟩)), if_pos rfl, if_pos trivial]
    · rw [if_neg e1, if_pos trivial]
theorem M_see_t (x y z : Int32) (hs : SOK S) (hm : MI S v) (ht : thr S x y) : f_M_see 100 x y z (bh v w) = f_M_see_30 100 x y z 1 (bh v w) := by
  have h1 := hs.1.1.1
  have h2 := hs.1.1.2.1
  simp only [f_M_see, f_M_see_0, f_M_see_29, hM v w, bd1_s]
  rw [M_isOne hm.1.1 h2, bd2_s, M_isLaw hm.1.1 h1, bd2_s]
  rcases ht with ⟨rfl, h⟩ | ⟨rfl, h⟩
  · rw [if_pos rfl, if_pos h]
  · rw [if_neg (by decide), if_pos rfl, if_pos h, if_neg (by decide)]
theorem M_see_f (x y z : Int32) (hs : SOK S) (hm : MI S v) (ht : ¬ thr S x y) : f_M_see 100 x y z (bh v w) = some (-1, bh v w) := by
  have h1 := hs.1.1.1
  have h2 := hs.1.1.2.1
  simp only [f_M_see, f_M_see_0, f_M_see_29, f_M_see_30, f_M_see_49, hM v w, bd1_s]
  rw [M_isOne hm.1.1 h2, bd2_s, M_isLaw hm.1.1 h1, bd2_s]
  by_cases e0 : x = 0
  · subst e0
    rw [if_pos rfl, if_neg (fun q => ht (Or.inl ⟨rfl, q⟩)), if_pos rfl]
  · rw [if_neg e0]
    by_cases e1 : x = 1
    · subst e1
      rw [if_pos rfl, if_neg (fun q => ht (Or.inr ⟨rfl, q⟩)), if_pos rfl, if_pos trivial]
    · rw [if_neg e1, if_pos trivial]
theorem E_see (x y z : Int32) (hs : SOK S) (hc : CI S v) (hm : MI S v) : Eqv S v w (f_Q_see 0 x y z) (f_M_see 100 x y z) := by
  have h1 := hs.1.1.1
  have h2 := hs.1.1.2.1
  have h8 := hs.1.1.2.2.2.2.2.2
  by_cases ht : thr S x y
  · by_cases hz : 0 ≤ z.toInt ∧ z.toInt < ((20 + 1 : Nat) : Int)
    · obtain ⟨n, hn, rfl⟩ := ix (by omega) hz
      obtain ⟨k, a, ek, ea, hka⟩ : ∃ k a : Nat, x = nI k ∧ y = nI a ∧ (k = 0 ∧ a < S.1 0 1 ∨ k = 1 ∧ a < S.1 0 0) := by
        rcases ht with ⟨e, h⟩ | ⟨e, h⟩
        · obtain ⟨a, ha, ea⟩ := ix (by omega) h
          exact ⟨0, a, e, ea, Or.inl ⟨rfl, ha⟩⟩
        · obtain ⟨a, ha, ea⟩ := ix (by omega) h
          exact ⟨1, a, e, ea, Or.inr ⟨rfl, ha⟩⟩
      by_cases hf : S.1 0 6 < 8
      · obtain ⟨v1, e1, c1, f1⟩ := C_append (w := w) rl3 hc.1 hs.1 (k := k) (a := a) (n := n) hf
        refine Eqv.change (r := nI (S.1 0 6 + 1)) (S' := (sw S.1 k a n, S.2)) (v1 := v1) (w1 := w) hm ?_ (fun q hq => f1 q (by omega)) (SOK_u hs (ROK_sw hs.1 hf hka (by omega)) (fun σ h => h)) (CI_r hc c1 f1) (fun w1 hm1 => ?_)
        · rw [Q_see_t x y _ hs hc ht, ek, ea]
          simp only [f_Q_see_36]
          rw [if_neg (by decide), Q_isWithin, bd2_s, show (20 : Int32) = nI 20 from rfl, if_pos ((in_rng (by decide)).mpr hz), if_neg (by decide)]
          simp only [q_now, hRl rl3 v w, bd1_s]
          rw [e1, bd2_s, if_neg (by decide)]
          simp only [q_now, hRl rl3 v1 w, bd1_s]
          rw [show v1 (3 + 13) 0 = nI (S.1 0 6 + 1) from c1.1.2.2.2.2.2.2]
        · obtain ⟨v2, e2, m2, g1, g2⟩ := M_sees (w := w1) hm1.1 hs.1 (k := k) (a := a) (n := n) hf (by omega)
          exact ⟨v2, w1, (M_see_t x y _ hs hm1 ht).trans (by rw [ek, ea]; exact e2), fun q hq => g1 q (by omega), MI_r hm1 m2 g1 g2⟩
      · refine Eqv.query (r := -3) hs hc hm ?_ ?_
        · rw [Q_see_t x y _ hs hc ht]
          simp only [f_Q_see_36]
          rw [if_neg (by decide), Q_isWithin, bd2_s, show (20 : Int32) = nI 20 from rfl, if_pos ((in_rng (by decide)).mpr hz), if_neg (by decide)]
          simp only [q_now, hRl rl3 v w, bd1_s, f_Sightings_append, f_Sightings_append_0]
          rw [show v (3 + 13) 0 = nI (S.1 0 6) from hc.1.1.2.2.2.2.2.2, show (8 : Int32) = nI 8 from rfl, if_neg (fun q => hf ((nI_ltI (by omega) (by omega)).mp q)), bd2_s, if_pos rfl]
        · rw [M_see_t x y _ hs hm ht]
          simp only [f_M_see_30]
          rw [if_neg (by decide), M_in, bd2_s, show (20 : Int64) = (nI 20).toInt64 from rfl, if_pos ((in_rngL (by decide)).mpr hz), if_neg (by decide)]
          simp only [hM v w, bd1_s]
          have e41 : rd (v 101) 198 (41 : Int32) = some (nI (S.1 0 6)) := by rw [← hm.1.2.2.2.2.2.2.2.2.2.2.2.2.1]; rfl
          rw [e41, bd1_s, show (8 : Int32) = nI 8 from rfl, if_pos ((nI_eqI (by omega) (by omega)).mpr (by omega))]
    · refine Eqv.query (r := -1) hs hc hm ?_ ?_
      · rw [Q_see_t x y _ hs hc ht]
        simp only [f_Q_see_36, f_Q_see_53]
        rw [if_neg (by decide), Q_isWithin, bd2_s, show (20 : Int32) = nI 20 from rfl, if_neg (fun q => hz ((in_rng (by decide)).mp q)), if_pos rfl]
      · rw [M_see_t x y _ hs hm ht]
        simp only [f_M_see_30, f_M_see_49]
        rw [if_neg (by decide), M_in, bd2_s, show (20 : Int64) = (nI 20).toInt64 from rfl, if_neg (fun q => hz ((in_rngL (by decide)).mp q)), if_pos rfl]
  · exact Eqv.query (r := -1) hs hc hm (Q_see_f x y z hs hc ht) (M_see_f x y z hs hm ht)
end
end
