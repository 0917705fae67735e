section
variable {S : Sg} {v v1 : Nat → Nat → Int32} {w : Nat → Nat → Int64}
theorem M_sees {ρ : Rho} (hr : MR ρ v) (hk : ROK ρ) {k a n : Nat} (h8 : ρ 0 6 < 8) (hn : n ≤ 20) : ∃ v1, f_M_see_30 100 (nI k) (nI a) (nI n) 1 (bh v w) = some (nI (ρ 0 6 + 1), bh v1 w) ∧ MR (sw ρ k a n) v1 ∧ (∀ q, q ≠ 101 → v1 q = v q) ∧ ∀ j, 66 ≤ j → v1 101 j = v 101 j := by
  have h1 := hk.1.1
  have h2 := hk.1.2.1
  have ec : v 101 41 = nI (ρ 0 6) := hr.2.2.2.2.2.2.2.2.2.2.2.2.1
  have i0 : (42 : Int32) + (3 : Int32) * nI (ρ 0 6) = nI (42 + 3 * ρ 0 6) := by rw [show (42 : Int32) = nI 42 from rfl, show (3 : Int32) = nI 3 from rfl, pk_mul, nI_add]
  have hx : 0 ≤ (nI n).toInt ∧ (nI n).toInt < ((20 + 1 : Nat) : Int) := by rw [nI_toInt (by omega)]; omega
  simp only [f_M_see_30]
  rw [if_neg (by decide), M_in, bd2_s, show (20 : Int64) = (nI 20).toInt64 from rfl, if_pos ((in_rngL (by decide)).mpr hx), if_neg (by decide)]
  simp only [hM v w, bd1_s]
  rw [show (41 : Int32) = nI 41 from rfl, rd_nI (by omega) (by decide), bd1_s, ec, show (8 : Int32) = nI 8 from rfl, if_neg (fun z => by have := (nI_eqI (by omega) (by omega)).mp z; omega)]
  try simp only [bd1_s]
  rw [i0, wr_nI (by omega) (by decide), bd1_s]
  simp only [hM (u2 v 101 (42 + 3 * ρ 0 6) (nI k)) w, bd1_s]
  rw [nI_1, wr_nI (by omega) (by decide), bd1_s]
  simp only [hM (u2 (u2 v 101 (42 + 3 * ρ 0 6) (nI k)) 101 (42 + 3 * ρ 0 6 + 1) (nI a)) w, bd1_s]
  rw [show (2 : Int32) = nI 2 from rfl, nI_add, wr_nI (by omega) (by decide), bd1_s]
  simp only [hM (u2 (u2 (u2 v 101 (42 + 3 * ρ 0 6) (nI k)) 101 (42 + 3 * ρ 0 6 + 1) (nI a)) 101 (42 + 3 * ρ 0 6 + 2) (nI n)) w, bd1_s]
  rw [rd_nI (by omega) (by decide), bd1_s, u2_n (show 41 ≠ 42 + 3 * ρ 0 6 + 2 by omega), u2_n (show 41 ≠ 42 + 3 * ρ 0 6 + 1 by omega), u2_n (show 41 ≠ 42 + 3 * ρ 0 6 by omega), ec, nI_1, wr_nI (by omega) (by decide), bd1_s]
  simp only [hM (u2 (u2 (u2 (u2 v 101 (42 + 3 * ρ 0 6) (nI k)) 101 (42 + 3 * ρ 0 6 + 1) (nI a)) 101 (42 + 3 * ρ 0 6 + 2) (nI n)) 101 41 (nI (ρ 0 6 + 1))) w, bd1_s]
  rw [rd_nI (by omega) (by decide), bd1_s, u2_at]
  refine ⟨_, rfl, ⟨?_, MB_sn hr.2 h1 h2 (fun j hj => ?_) (u2_at _ _ _ _) (fun i hi => ?_)⟩, fun q hq => ?_, fun j hj => ?_⟩
  · exact MF_u (MF_u (MF_u (MF_u hr.1 rfl rfl rfl rfl rfl rfl rfl) rfl rfl rfl rfl rfl rfl rfl) rfl rfl rfl rfl rfl rfl rfl) rfl rfl rfl rfl rfl rfl rfl
  · rw [u2_n (by omega), u2_n (by omega), u2_n (by omega), u2_n (by omega)]
  · by_cases e : i = ρ 0 6
    · subst e
      rw [up_at, up_at, up_at, show 0 + 42 + 3 * ρ 0 6 = 42 + 3 * ρ 0 6 by omega]
      refine ⟨?_, ?_, ?_⟩
      · rw [u2_n (by omega), u2_n (by omega), u2_n (by omega), u2_at]
      · rw [u2_n (by omega), u2_n (by omega), u2_at]
      · rw [u2_n (by omega), u2_at]
    · rw [up_ne e, up_ne e, up_ne e]
      have g := hr.2.2.2.2.2.2.2.2.2.2.2.2.2 i (by omega)
      refine ⟨?_, ?_, ?_⟩
      · rw [u2_n (by omega), u2_n (by omega), u2_n (by omega), u2_n (by omega)]; exact g.1
      · rw [u2_n (by omega), u2_n (by omega), u2_n (by omega), u2_n (by omega)]; exact g.2.1
      · rw [u2_n (by omega), u2_n (by omega), u2_n (by omega), u2_n (by omega)]; exact g.2.2
  · rw [u2_o hq, u2_o hq, u2_o hq, u2_o hq]
  · rw [u2_n (by omega), u2_n (by omega), u2_n (by omega), u2_n (by omega)]
/-- what is there to be seen -/
def thr (S : Sg) (x y : Int32) : Prop := x = 0 ∧ (0 ≤ y.toInt ∧ y.toInt < (S.1 0 1 : Int)) ∨ x = 1 ∧ (0 ≤ y.toInt ∧ y.toInt < (S.1 0 0 : Int))
theorem Q_see_t (x y z : Int32) (hs : SOK S) (hc : CI S v) (ht : thr S x y) : f_Q_see 0 x y z (bh v w) = f_Q_see_36 0 x y z 1 (bh v w) := by
  have h1 := hs.1.1.1
  have h2 := hs.1.1.2.1
  simp only [f_Q_see, f_Q_see_0, f_Q_see_15, f_Q_see_31, f_Q_see_35, q_now, hRl rl3 v w, bd1_s]
  rw [C_hasOne rl3 hc.1 h2, bd2_s, C_hasLaw rl3 hc.1 h1, bd2_s]
  rcases ht with ⟨rfl, h⟩ | ⟨rfl, h⟩
  · rw [if_pos rfl, if_pos h, if_neg (by decide)]
  · rw [if_neg (by decide), if_pos rfl, if_pos h, if_neg (by decide)]
theorem Q_see_f (x y z : Int32) (hs : SOK S) (hc : CI S v) (ht : ¬ thr S x y) : f_Q_see 0 x y z (bh v w) = some (-1, bh v w) := by
  have h1 := hs.1.1.1
  have h2 := hs.1.1.2.1
  simp only [f_Q_see, f_Q_see_0, f_Q_see_15, f_Q_see_31, f_Q_see_35, f_Q_see_36, f_Q_see_53, q_now, hRl rl3 v w, bd1_s]
  rw [C_hasOne rl3 hc.1 h2, bd2_s, C_hasLaw rl3 hc.1 h1, bd2_s]
  by_cases e0 : x = 0
  · subst e0
    rw [if_pos rfl, if_neg (fun q => ht (Or.inl ⟨rfl, q⟩)), if_pos rfl, if_neg (by decide), if_pos trivial]
  · rw [if_neg e0]
    by_cases e1 : x = 1
    · subst e1
      rw [if_pos rfl, if_neg (fun q => ht (Or.inr ⟨rfl, q⟩)), if_pos rfl, if_pos trivial]
    · rw [if_neg e1, if_pos trivial]
theorem M_see_t (x y z : Int32) (hs : SOK S) (hm : MI S v) (ht : thr S x y) : f_M_see 100 x y z (bh v w) = f_M_see_30 100 x y z 1 (bh v w) := by
  have h1 := hs.1.1.1
  have h2 := hs.1.1.2.1
  simp only [f_M_see, f_M_see_0, f_M_see_29, hM v w, bd1_s]
  rw [M_isOne hm.1.1 h2, bd2_s, M_isLaw hm.1.1 h1, bd2_s]
  rcases ht with ⟨rfl, h⟩ | ⟨rfl, h⟩
  · rw [if_pos rfl, if_pos h]
  · rw [if_neg (by decide), if_pos rfl, if_pos h, if_neg (by decide)]
theorem M_see_f (x y z : Int32) (hs : SOK S) (hm : MI S v) (ht : ¬ thr S x y) : f_M_see 100 x y z (bh v w) = some (-1, bh v w) := by
  have h1 := hs.1.1.1
  have h2 := hs.1.1.2.1
  simp only [f_M_see, f_M_see_0, f_M_see_29, f_M_see_30, f_M_see_49, hM v w, bd1_s]
  rw [M_isOne hm.1.1 h2, bd2_s, M_isLaw hm.1.1 h1, bd2_s]
  by_cases e0 : x = 0
  · subst e0
    rw [if_pos rfl, if_neg (fun q => ht (Or.inl ⟨rfl, q⟩)), if_pos rfl]
  · rw [if_neg e0]
    by_cases e1 : x = 1
    · subst e1
      rw [if_pos rfl, if_neg (fun q => ht (Or.inr ⟨rfl, q⟩)), if_pos rfl, if_pos trivial]
    · rw [if_neg e1, if_pos trivial]
theorem E_see (x y z : Int32) (hs : SOK S) (hc : CI S v) (hm : MI S v) : Eqv S v w (f_Q_see 0 x y z) (f_M_see 100 x y z) := by
  have h1 := hs.1.1.1
  have h2 := hs.1.1.2.1
  have h8 := hs.1.1.2.2.2.2.2.2
  by_cases ht : thr S x y
  · by_cases hz : 0 ≤ z.toInt ∧ z.toInt < ((20 + 1 : Nat) : Int)
    · obtain ⟨n, hn, rfl⟩ := ix (by omega) hz
      obtain ⟨k, a, ek, ea, hka⟩ : ∃ k a : Nat, x = nI k ∧ y = nI a ∧ (k = 0 ∧ a < S.1 0 1 ∨ k = 1 ∧ a < S.1 0 0) := by
        rcases ht with ⟨e, h⟩ | ⟨e, h⟩
        · obtain ⟨a, ha, ea⟩ := ix (by omega) h
          exact ⟨0, a, e, ea, Or.inl ⟨rfl, ha⟩⟩
        · obtain ⟨a, ha, ea⟩ := ix (by omega) h
          exact ⟨1, a, e, ea, Or.inr ⟨rfl, ha⟩⟩
      by_cases hf : S.1 0 6 < 8
      · obtain ⟨v1, e1, c1, f1⟩ := C_append (w := w) rl3 hc.1 hs.1 (k := k) (a := a) (n := n) hf
        refine Eqv.change (r := nI (S.1 0 6 + 1)) (S' := (sw S.1 k a n, S.2)) (v1 := v1) (w1 := w) hm ?_ (fun q hq => f1 q (by omega)) (SOK_u hs (ROK_sw hs.1 hf hka (by omega)) (fun σ h => h)) (CI_r hc c1 f1) (fun w1 hm1 => ?_)
        · rw [Q_see_t x y _ hs hc ht, ek, ea]
          simp only [f_Q_see_36]
          rw [if_neg (by decide), Q_isWithin, bd2_s, show (20 : Int32) = nI 20 from rfl, if_pos ((in_rng (by decide)).mpr hz), if_neg (by decide)]
          simp only [q_now, hRl rl3 v w, bd1_s]
          rw [e1, bd2_s, if_neg (by decide)]
          simp only [q_now, hRl rl3 v1 w, bd1_s]
          rw [show v1 (3 + 13) 0 = nI (S.1 0 6 + 1) from c1.1.2.2.2.2.2.2]
        · obtain ⟨v2, e2, m2, g1, g2⟩ := M_sees (w := w1) hm1.1 hs.1 (k := k) (a := a) (n := n) hf (by omega)
          exact ⟨v2, w1, (M_see_t x y _ hs hm1 ht).trans (by rw [ek, ea]; exact e2), fun q hq => g1 q (by omega), MI_r hm1 m2 g1 g2⟩
      · refine Eqv.query (r := -3) hs hc hm ?_ ?_
        · rw [Q_see_t x y _ hs hc ht]
          simp only [f_Q_see_36]
          rw [if_neg (by decide), Q_isWithin, bd2_s, show (20 : Int32) = nI 20 from rfl, if_pos ((in_rng (by decide)).mpr hz), if_neg (by decide)]
          simp only [q_now, hRl rl3 v w, bd1_s, f_Sightings_append, f_Sightings_append_0]
          rw [show v (3 + 13) 0 = nI (S.1 0 6) from hc.1.1.2.2.2.2.2.2, show (8 : Int32) = nI 8 from rfl, if_neg (fun q => hf ((nI_ltI (by omega) (by omega)).mp q)), bd2_s, if_pos rfl]
        · rw [M_see_t x y _ hs hm ht]
          simp only [f_M_see_30]
          rw [if_neg (by decide), M_in, bd2_s, show (20 : Int64) = (nI 20).toInt64 from rfl, if_pos ((in_rngL (by decide)).mpr hz), if_neg (by decide)]
          simp only [hM v w, bd1_s]
          have e41 : rd (v 101) 198 (41 : Int32) = some (nI (S.1 0 6)) := by rw [← hm.1.2.2.2.2.2.2.2.2.2.2.2.2.1]; rfl
          rw [e41, bd1_s, show (8 : Int32) = nI 8 from rfl, if_pos ((nI_eqI (by omega) (by omega)).mpr (by omega))]
    · refine Eqv.query (r := -1) hs hc hm ?_ ?_
      · rw [Q_see_t x y _ hs hc ht]
        simp only [f_Q_see_36, f_Q_see_53]
        rw [if_neg (by decide), Q_isWithin, bd2_s, show (20 : Int32) = nI 20 from rfl, if_neg (fun q => hz ((in_rng (by decide)).mp q)), if_pos rfl]
      · rw [M_see_t x y _ hs hm ht]
        simp only [f_M_see_30, f_M_see_49]
        rw [if_neg (by decide), M_in, bd2_s, show (20 : Int64) = (nI 20).toInt64 from rfl, if_neg (fun q => hz ((in_rngL (by decide)).mp q)), if_pos rfl]
  · exact Eqv.query (r := -1) hs hc hm (Q_see_f x y z hs hc ht) (M_see_f x y z hs hm ht)
end
