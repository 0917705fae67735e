/-! keep, back -/
theorem img_at {k : Nat} (hk : k < 2) (v : Nat → Nat → Int32) (w : Nat → Nat → Int64) : aR (bh v w) 4 37 (nI k) = some (58 + 17 * k) := by
  rcases (show k = 0 ∨ k = 1 by omega) with rfl | rfl <;> rfl
theorem rl_img {k : Nat} (hk : k < 2) : rl (58 + 17 * k) := by
  rcases (show k = 0 ∨ k = 1 by omega) with rfl | rfl
  · exact Or.inr (Or.inr (Or.inl rfl))
  · exact Or.inr (Or.inr (Or.inr rfl))
theorem rl20 : rl 20 := Or.inr (Or.inl rfl)
theorem SAME.rf (ρ : Rho) : SAME ρ ρ := ⟨rfl, rfl, rfl, rfl, rfl, rfl, rfl⟩
section
variable {S : Sg} {v v1 : Nat → Nat → Int32} {w : Nat → Nat → Int64}
theorem kept01 (hs : SOK S) {k : Nat} (hk : k < 2) : ∃ a : Nat, S.2.2 3 k = a ∧ a ≤ 1 := by
  rcases hs.2.1 k hk with z | z
  · exact ⟨0, z, by omega⟩
  · exact ⟨1, z.1, by omega⟩
theorem SOK_keep {k : Nat} (hs : SOK S) : SOK (S.1, va_up S.2.1 k S.1, upX S.2.2 3 k 1) := by
  obtain ⟨h1, h2, h3, h4, h5, h6⟩ := hs
  refine ⟨h1, fun j hj => ?_, h3, h4, h5, h6⟩
  show upX S.2.2 3 k 1 3 j = 0 ∨ upX S.2.2 3 k 1 3 j = 1 ∧ ROK (va_up S.2.1 k S.1 j) ∧ SAME S.1 (va_up S.2.1 k S.1 j)
  by_cases e : j = k
  · subst e
    rw [upX_at, up_at]
    exact Or.inr ⟨rfl, h1, SAME.rf _⟩
  · rw [upX_n e, up_ne e]
    exact h2 j hj
theorem E_keep (x : Int32) (hs : SOK S) (hc : CI S v) (hm : MI S v) : Eqv S v w (f_Q_keep 0 x) (f_M_keep 100 x) := by
  by_cases hx : 0 ≤ x.toInt ∧ x.toInt < ((1 + 1 : Nat) : Int)
  · obtain ⟨k, hk, rfl⟩ := ix (by omega) hx
    have hk : k < 2 := hk
    obtain ⟨a, ha, la⟩ := kept01 hs hk
    have ne : 58 + 17 * k ≠ 3 := by omega
    obtain ⟨v1, e1, c1⟩ := C_copyFrom (rl_img hk) rl3 ne v w
    have ec : v 38 k = nI a := by rw [(hc.2.1 k hk).1, ha]; exact zI_n a
    have em : v 102 k = nI a := by rw [(hm.2.1 k hk).1, ha]; exact zI_n a
    refine Eqv.change (r := nI a) (S' := (S.1, va_up S.2.1 k S.1, upX S.2.2 3 k 1)) (v1 := u2 v1 38 k 1) (w1 := w) hm ?_ (fun q hq => ?_) (SOK_keep hs) ?_ (fun w1 hm1 => ?_)
    · simp only [f_Q_keep, f_Q_keep_0, f_Q_keep_25, Q_isWithin, bd2_s]
      rw [show (1 : Int32).toInt = (nI 1).toInt from rfl, if_pos ((in_rng (by decide)).mpr hx), if_neg (by decide)]
      simp only [hQ v w, bd1_s]
      rw [rd_nI hk (by decide), bd1_s, ec, img_at hk, bd1_s]
      simp only [hRl (rl_img hk) v w, bd1_s]
      rw [e1]
      simp only [hQ v1 w, bd1_s]
      rw [wr_nI hk (by decide), bd1_s]
      rcases (show a = 0 ∨ a = 1 by omega) with rfl | rfl
      · rfl
      · rfl
    · rw [u2_o (by omega)]; exact c1.1 q (by omega)
    · obtain ⟨h1, h2, h3, h4, h5, h6, h7⟩ := hc
      have hq : ∀ q, q ≠ 38 → (q < 58 + 17 * k ∨ 58 + 17 * k + 17 ≤ q) → u2 v1 38 k 1 q = v q := fun q q1 q2 => (u2_o q1).trans (c1.1 q q2)
      refine ⟨h1.frame (fun p _ _ => hq p (by omega) (by omega)), fun j hj => ?_, ?_, ?_, ?_, fun j hj => ?_, ?_⟩
      · show u2 v1 38 k 1 38 j = zI (upX S.2.2 3 k 1 3 j) ∧ (upX S.2.2 3 k 1 3 j = 1 → CR (58 + 17 * j) (va_up S.2.1 k S.1 j) (u2 v1 38 k 1))
        by_cases e : j = k
        · subst e
          rw [u2_at, upX_at, up_at]
          exact ⟨rfl, fun _ => (CR_copy h1 hs.1 c1).frame (fun p _ _ => u2_o (by omega))⟩
        · rw [u2_n e, upX_n e, up_ne e, c1.1 38 (by omega)]
          exact ⟨(h2 j hj).1, fun z => ((h2 j hj).2 z).frame (fun p _ _ => hq p (by omega) (by omega))⟩
      · rw [hq 1 (by omega) (by omega)]; exact h3
      · rw [hq 2 (by omega) (by omega)]; exact h4
      · rw [hq 1 (by omega) (by omega)]; exact h5
      · rw [hq (92 + 2 * j) (by omega) (by omega), hq (93 + 2 * j) (by omega) (by omega)]; exact h6 j hj
      · rw [hq 0 (by omega) (by omega), hq 43 (by omega) (by omega)]; exact h7
    · have em1 : u2 v1 38 k 1 102 k = nI a := by rw [u2_o (by omega), c1.1 102 (by omega)]; exact em
      generalize u2 v1 38 k 1 = v2 at hm1 em1
      obtain ⟨v3, e3, f3, g3⟩ := M_copies (a := 66 * (k + 1)) (b := 0) (by omega) (by omega) (by omega) (u2 v2 102 k 1) w1
      refine ⟨v3, w1, ?_, fun q hq => by rw [f3 q (by omega), u2_o (by omega)], ?_⟩
      · simp only [f_M_keep, f_M_keep_0, M_in, bd2_s]
        rw [show (1 : Int64) = (nI 1).toInt64 from rfl, if_pos ((in_rngL (by decide)).mpr hx), if_neg (by decide)]
        simp only [hM v2 w1, bd1_s]
        rw [rd_nI hk (by decide), bd1_s, em1]
        have fl : f_M_flag (nI a) (bh v2 w1) = some (nI a, bh v2 w1) := by
          simp only [f_M_flag, f_M_flag_0]
          rcases (show a = 0 ∨ a = 1 by omega) with rfl | rfl <;> rfl
        rw [fl, bd2_s]
        simp only [hM v2 w1, bd1_s]
        rw [wr_nI hk (by decide), bd1_s]
        have e4 : (66 : Int32) * (nI k + 1) = nI (66 * (k + 1)) := by rw [nI_1, show (66 : Int32) = nI 66 from rfl, pk_mul]
        rw [show vp_nar .boolean (1 : Int32) = 1 from rfl, e4, show (0 : Int32) = nI 0 from rfl]
        simp only [hM (u2 v2 102 k 1) w1, bd1_s]
        rw [e3]
        rfl
      · obtain ⟨⟨h1, h1b⟩, h2, h3, h4, h5, h6, h7⟩ := hm1
        have hq : ∀ q, q ≠ 101 → q ≠ 102 → v3 q = v2 q := fun q q1 q2 => (f3 q q1).trans (u2_o q2)
        have hj : ∀ j, ¬ (66 * (k + 1) ≤ j ∧ j < 66 * (k + 1) + 66) → v3 101 j = v2 101 j := fun j z => by rw [g3 j, if_neg z, u2_o (by decide)]
        have hi : ∀ j, j < 66 → v3 101 (66 * (k + 1) + j) = v2 101 (0 + j) := fun j z => by rw [g3, if_pos (by omega), u2_o (by decide), show 0 + (66 * (k + 1) + j - 66 * (k + 1)) = 0 + j by omega]
        refine ⟨⟨?_, MB_copy (q := 101) (k := 0) h1b hs.1 (fun j z => by rw [hj (0 + j) (by omega)])⟩, fun j z => ?_, ?_, ?_, ?_, ?_, ?_⟩
        · unfold MF
          rw [hq 100 (by omega) (by omega), hq 103 (by omega) (by omega), hq 104 (by omega) (by omega), hq 105 (by omega) (by omega), hq 106 (by omega) (by omega), hq 107 (by omega) (by omega)]
          exact h1
        · show v3 102 j = zI (upX S.2.2 3 k 1 3 j) ∧ (upX S.2.2 3 k 1 3 j = 1 → MB 101 (66 * (j + 1)) (va_up S.2.1 k S.1 j) v3)
          rw [f3 102 (by decide)]
          by_cases e : j = k
          · subst e
            rw [u2_at, upX_at, up_at]
            exact ⟨rfl, fun _ => MB_copy (q := 101) (k := 0) h1b hs.1 hi⟩
          · rw [u2_n e, upX_n e, up_ne e]
            refine ⟨(h2 j z).1, fun y => ?_⟩
            rcases hs.2.1 j z with q | q
            · omega
            · exact MB_copy ((h2 j z).2 y) q.2.1 (fun i hi => hj _ (by omega))
        · rw [hq 100 (by omega) (by omega)]; exact h3
        · rw [hq 114 (by omega) (by omega)]; exact h4
        · rw [hq 100 (by omega) (by omega)]; exact h5
        · rw [hq 123 (by omega) (by omega), hq 124 (by omega) (by omega), hq 125 (by omega) (by omega)]; exact h6
        · rw [hq 100 (by omega) (by omega)]; exact h7
  · refine Eqv.query (r := -1) hs hc hm ?_ ?_
    · simp only [f_Q_keep, f_Q_keep_0, Q_isWithin, bd2_s]
      rw [show (1 : Int32).toInt = (nI 1).toInt from rfl, if_neg (fun q => hx ((in_rng (by decide)).mp q)), if_pos rfl]
    · simp only [f_M_keep, f_M_keep_0, M_in, bd2_s]
      rw [show (1 : Int64) = (nI 1).toInt64 from rfl, if_neg (fun q => hx ((in_rngL (by decide)).mp q)), if_pos rfl]
theorem SAME.sw {ρ σ : Rho} (h : SAME ρ σ) : SAME σ ρ := ⟨h.1.symm, h.2.1.symm, h.2.2.1.symm, h.2.2.2.1.symm, h.2.2.2.2.1.symm, h.2.2.2.2.2.1.symm, h.2.2.2.2.2.2.symm⟩
theorem SAME.tr {ρ σ τ : Rho} (h : SAME ρ σ) (g : SAME σ τ) : SAME ρ τ := ⟨g.1.trans h.1, g.2.1.trans h.2.1, g.2.2.1.trans h.2.2.1, g.2.2.2.1.trans h.2.2.2.1, g.2.2.2.2.1.trans h.2.2.2.2.1, g.2.2.2.2.2.1.trans h.2.2.2.2.2.1, g.2.2.2.2.2.2.trans h.2.2.2.2.2.2⟩
theorem MF_same {ρ σ : Rho} {v : Nat → Nat → Int32} (h : MF ρ v) (s : SAME ρ σ) : MF σ v := by
  obtain ⟨s0, s1, s2, s3, s4, s7, s8⟩ := s
  unfold MF at h ⊢
  rw [s0, s1, s2, s3, s4, s7, s8]
  exact h
theorem E_back (x : Int32) (hs : SOK S) (hc : CI S v) (hm : MI S v) : Eqv S v w (f_Q_back 0 x) (f_M_back 100 x) := by
  by_cases hx : 0 ≤ x.toInt ∧ x.toInt < ((1 + 1 : Nat) : Int)
  · obtain ⟨k, hk, rfl⟩ := ix (by omega) hx
    have hk : k < 2 := hk
    rcases hs.2.1 k hk with z | ⟨z, rk, sm⟩
    · have ec : v 38 k = 0 := by rw [(hc.2.1 k hk).1, z]; rfl
      have em : v 102 k = 0 := by rw [(hm.2.1 k hk).1, z]; rfl
      refine Eqv.query (r := -2) hs hc hm ?_ ?_
      · simp only [f_Q_back, f_Q_back_0, Q_isWithin, bd2_s]
        rw [show (1 : Int32).toInt = (nI 1).toInt from rfl, if_pos ((in_rng (by decide)).mpr hx), if_neg (by decide)]
        simp only [hQ v w, bd1_s]
        rw [rd_nI hk (by decide), bd1_s, ec, if_pos rfl]
      · simp only [f_M_back, f_M_back_0, M_in, bd2_s]
        rw [show (1 : Int64) = (nI 1).toInt64 from rfl, if_pos ((in_rngL (by decide)).mpr hx), if_neg (by decide)]
        simp only [hM v w, bd1_s]
        rw [rd_nI hk (by decide), bd1_s, em, if_pos rfl]
    · have ec : v 38 k = 1 := by rw [(hc.2.1 k hk).1, z]; rfl
      have em : v 102 k = 1 := by rw [(hm.2.1 k hk).1, z]; rfl
      have ne : 3 ≠ 58 + 17 * k := by omega
      obtain ⟨v1, e1, c1⟩ := C_copyFrom rl3 (rl_img hk) ne v w
      have cr := CR_copy ((hc.2.1 k hk).2 z) rk c1
      refine Eqv.change (r := nI (S.2.1 k 0 2)) (S' := (S.2.1 k, S.2)) (v1 := v1) (w1 := w) hm ?_ (fun q hq => c1.1 q (by omega)) (SOK_u hs rk (fun σ h => (sm.sw).tr h)) (CI_r hc cr c1.1) (fun w1 hm1 => ?_)
      · simp only [f_Q_back, f_Q_back_0, Q_isWithin, bd2_s]
        rw [show (1 : Int32).toInt = (nI 1).toInt from rfl, if_pos ((in_rng (by decide)).mpr hx), if_neg (by decide)]
        simp only [hQ v w, bd1_s]
        rw [rd_nI hk (by decide), bd1_s, ec, if_neg (by decide), img_at hk, bd1_s]
        simp only [hRl rl3 v w, bd1_s]
        rw [e1]
        simp only [hQ v1 w, hRl rl3 v1 w, bd1_s]
        rw [cr.1.2.2.1]
      · have em1 : v1 102 k = 1 := by rw [c1.1 102 (by omega)]; exact em
        obtain ⟨v3, e3, f3, g3⟩ := M_copies (a := 0) (b := 66 * (k + 1)) (by omega) (by omega) (by omega) v1 w1
        have hi : ∀ j, j < 66 → v3 101 (0 + j) = v1 101 (66 * (k + 1) + j) := fun j z => by rw [g3, if_pos (by omega), show 66 * (k + 1) + (0 + j - 0) = 66 * (k + 1) + j by omega]
        have hb : MB 101 0 (S.2.1 k) v3 := MB_copy ((hm1.2.1 k hk).2 z) rk hi
        refine ⟨v3, w1, ?_, fun q hq => f3 q (by omega), MI_r hm1 ⟨?_, hb⟩ f3 (fun j hj => by rw [g3, if_neg (by omega)])⟩
        · simp only [f_M_back, f_M_back_0, M_in, bd2_s]
          rw [show (1 : Int64) = (nI 1).toInt64 from rfl, if_pos ((in_rngL (by decide)).mpr hx), if_neg (by decide)]
          simp only [hM v1 w1, bd1_s]
          have e4 : (66 : Int32) * (nI k + 1) = nI (66 * (k + 1)) := by rw [nI_1, show (66 : Int32) = nI 66 from rfl, pk_mul]
          rw [rd_nI hk (by decide), bd1_s, em1, if_neg (by decide), e4, show (0 : Int32) = nI 0 from rfl, e3]
          simp only [hM v3 w1, bd1_s]
          have e39 : rd (v3 101) 198 (39 : Int32) = some (nI (S.2.1 k 0 2)) := by rw [← hb.2.2.2.2.2.2.2.2.2.1]; rfl
          rw [e39]
          rfl
        · have := MF_same hm1.1.1 sm
          unfold MF at this ⊢
          rw [f3 100 (by decide), f3 103 (by decide), f3 104 (by decide), f3 105 (by decide), f3 106 (by decide), f3 107 (by decide)]
          exact this
  · refine Eqv.query (r := -1) hs hc hm ?_ ?_
    · simp only [f_Q_back, f_Q_back_0, Q_isWithin, bd2_s]
      rw [show (1 : Int32).toInt = (nI 1).toInt from rfl, if_neg (fun q => hx ((in_rng (by decide)).mp q)), if_pos rfl]
    · simp only [f_M_back, f_M_back_0, M_in, bd2_s]
      rw [show (1 : Int64) = (nI 1).toInt64 from rfl, if_neg (fun q => hx ((in_rngL (by decide)).mp q)), if_pos rfl]
end
