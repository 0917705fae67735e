section
variable {S : Sg} {ρ' : Rho} {v v1 : Nat → Nat → Int32} {w : Nat → Nat → Int64}
theorem MB.hi {k : Nat} {σ : Rho} (h : MB 101 k σ v) (hk : 66 ≤ k) (hv : ∀ j, 66 ≤ j → v1 101 j = v 101 j) : MB 101 k σ v1 := by
  obtain ⟨h1, h2, h3, h4, h5, h6, h7, h8, h9, h10, h11, h12, h13⟩ := h
  exact ⟨fun l hl => (hv _ (by omega)).trans (h1 l hl), fun l hl => (hv _ (by omega)).trans (h2 l hl), (hv _ (by omega)).trans h3, (hv _ (by omega)).trans h4, fun p hp => (hv _ (by omega)).trans (h5 p hp), fun p hp => (hv _ (by omega)).trans (h6 p hp), fun p hp => (hv _ (by omega)).trans (h7 p hp), fun p hp => (hv _ (by omega)).trans (h8 p hp), fun p l hp hl => (hv _ (by omega)).trans (h9 p l hp hl), (hv _ (by omega)).trans h10, (hv _ (by omega)).trans h11, (hv _ (by omega)).trans h12, fun i hi => ⟨(hv _ (by omega)).trans (h13 i hi).1, (hv _ (by omega)).trans (h13 i hi).2.1, (hv _ (by omega)).trans (h13 i hi).2.2⟩⟩
/-- the reference's realm alone has changed -/
theorem MI_r (h : MI S v) (hR : MR ρ' v1) (hq : ∀ q, q ≠ 101 → v1 q = v q) (hj : ∀ j, 66 ≤ j → v1 101 j = v 101 j) : MI (ρ', S.2) v1 := by
  obtain ⟨-, h2, h3, h4, h5, h6, h7⟩ := h
  refine ⟨hR, fun k hk => ?_, ?_, ?_, ?_, ?_, ?_⟩
  · rw [hq 102 (by omega)]
    exact ⟨(h2 k hk).1, fun z => ((h2 k hk).2 z).hi (by omega) hj⟩
  · rw [hq 100 (by omega)]; exact h3
  · rw [hq 114 (by omega)]; exact h4
  · rw [hq 100 (by omega)]; exact h5
  · rw [hq 123 (by omega), hq 124 (by omega), hq 125 (by omega)]; exact h6
  · rw [hq 100 (by omega)]; exact h7
/-- the class's realm alone has changed -/
theorem CI_r (h : CI S v) (hR : CR 3 ρ' v1) (hq : ∀ q, q < 3 ∨ 3 + 17 ≤ q → v1 q = v q) : CI (ρ', S.2) v1 := by
  obtain ⟨-, h2, h3, h4, h5, h6, h7⟩ := h
  refine ⟨hR, fun k hk => ?_, ?_, ?_, ?_, fun k hk => ?_, ?_⟩
  · rw [hq 38 (by omega)]
    exact ⟨(h2 k hk).1, fun z => ((h2 k hk).2 z).frame (fun p _ _ => hq p (by omega))⟩
  · rw [hq 1 (by omega)]; exact h3
  · rw [hq 2 (by omega)]; exact h4
  · rw [hq 1 (by omega)]; exact h5
  · rw [hq (92 + 2 * k) (by omega), hq (93 + 2 * k) (by omega)]; exact h6 k hk
  · rw [hq 0 (by omega), hq 43 (by omega)]; exact h7
theorem C_breakOnce_bad {o : Nat} {ρ : Rho} (ho : rl o) (hr : CR o ρ v) (hk : ROK ρ) {x y : Int32} (hb : ¬ ((0 ≤ x.toInt ∧ x.toInt < (ρ 0 1 : Int)) ∧ (0 ≤ y.toInt ∧ y.toInt < (ρ 0 0 : Int)))) : f_Realm_breakOnce o x y (bh v w) = some (-1, bh v w) := by
  have h1 := hk.1.1
  have h2 := hk.1.2.1
  simp only [f_Realm_breakOnce, f_Realm_breakOnce_0, f_Realm_hasBoth, f_Realm_hasBoth_0, f_Realm_hasBoth_20, hRl ho v w, bd1_s]
  rw [C_hasOne ho hr h2, bd2_s]
  by_cases hp : 0 ≤ x.toInt ∧ x.toInt < (ρ 0 1 : Int)
  · have hl : ¬ (0 ≤ y.toInt ∧ y.toInt < (ρ 0 0 : Int)) := fun z => hb ⟨hp, z⟩
    rw [if_pos hp, if_neg (by decide)]
    simp only [hRl ho v w, bd1_s]
    rw [C_hasLaw ho hr h1, bd2_s, if_neg hl, if_pos rfl, bd2_s, if_pos rfl]
  · rw [if_neg hp, if_pos rfl, bd2_s, if_pos rfl]
theorem M_breaks_bad {ρ : Rho} (hr : MR ρ v) (hk : ROK ρ) {x y : Int32} (hb : ¬ ((0 ≤ x.toInt ∧ x.toInt < (ρ 0 1 : Int)) ∧ (0 ≤ y.toInt ∧ y.toInt < (ρ 0 0 : Int)))) : f_M_breaks 100 x y (bh v w) = some (-1, bh v w) := by
  have h1 := hk.1.1
  have h2 := hk.1.2.1
  simp only [f_M_breaks, f_M_breaks_0, f_M_breaks_16, hM v w, bd1_s]
  rw [M_isOne hr.1 h2, bd2_s]
  by_cases hp : 0 ≤ x.toInt ∧ x.toInt < (ρ 0 1 : Int)
  · have hl : ¬ (0 ≤ y.toInt ∧ y.toInt < (ρ 0 0 : Int)) := fun z => hb ⟨hp, z⟩
    rw [if_pos hp, if_neg (by decide)]
    simp only [hM v w, bd1_s]
    rw [M_isLaw hr.1 h1, bd2_s, if_neg hl, if_pos rfl]
  · rw [if_neg hp, if_pos rfl]
theorem E_breaks (x y : Int32) (hs : SOK S) (hc : CI S v) (hm : MI S v) : Eqv S v w (f_Q_breaks 0 x y) (f_M_breaks 100 x y) := by
  have h1 := hs.1.1.1
  have h2 := hs.1.1.2.1
  by_cases hb : (0 ≤ x.toInt ∧ x.toInt < (S.1 0 1 : Int)) ∧ (0 ≤ y.toInt ∧ y.toInt < (S.1 0 0 : Int))
  · obtain ⟨p, hp, rfl⟩ := ix (by omega) hb.1
    obtain ⟨l, hl, rfl⟩ := ix (by omega) hb.2
    obtain ⟨v1, e1, c1, f1⟩ := C_breakOnce (w := w) rl3 hc.1 hs.1 hp hl
    refine Eqv.change (r := rbk S.1 p l) (S' := (sbk S.1 p l, S.2)) (v1 := v1) (w1 := w) hm ?_ (fun q hq => f1 q (by omega)) (SOK_u hs (ROK_sbk hs.1 hp hl) (fun σ h => SAME_sbk h)) (CI_r hc c1 f1) (fun w1 hm1 => ?_)
    · simp only [f_Q_breaks, f_Q_breaks_0, q_now, hRl rl3 v w, bd1_s]
      rw [e1, bd2_s]
    · obtain ⟨v2, e2, m2, g1, g2⟩ := M_breaks (w := w1) hm1.1 hs.1 hp hl
      exact ⟨v2, w1, e2, fun q hq => g1 q (by omega), MI_r hm1 m2 g1 g2⟩
  · refine Eqv.query (r := -1) hs hc hm ?_ (M_breaks_bad hm.1 hs.1 hb)
    simp only [f_Q_breaks, f_Q_breaks_0, q_now, hRl rl3 v w, bd1_s]
    rw [C_breakOnce_bad rl3 hc.1 hs.1 hb, bd2_s]
end
