section
variable {S : Sg} {ρ' : Rho} {v : Nat → Nat → Int32} {w : Nat → Nat → Int64}
theorem MB.bank {k : Nat} {σ : Rho} {j : Nat} {x : Int32} (h : MB 101 k σ v) (hj : j < k) : MB 101 k σ (u2 v 101 j x) := by
  obtain ⟨h1, h2, h3, h4, h5, h6, h7, h8, h9, h10, h11, h12, h13⟩ := h
  exact ⟨fun l hl => (u2_n (by omega)).trans (h1 l hl), fun l hl => (u2_n (by omega)).trans (h2 l hl), (u2_n (by omega)).trans h3, (u2_n (by omega)).trans h4, fun p hp => (u2_n (by omega)).trans (h5 p hp), fun p hp => (u2_n (by omega)).trans (h6 p hp), fun p hp => (u2_n (by omega)).trans (h7 p hp), fun p hp => (u2_n (by omega)).trans (h8 p hp), fun p l hp hl => (u2_n (by omega)).trans (h9 p l hp hl), (u2_n (by omega)).trans h10, (u2_n (by omega)).trans h11, (u2_n (by omega)).trans h12, fun i hi => ⟨(u2_n (by omega)).trans (h13 i hi).1, (u2_n (by omega)).trans (h13 i hi).2.1, (u2_n (by omega)).trans (h13 i hi).2.2⟩⟩
theorem MI_u {j : Nat} {x : Int32} (h : MI S v) (hj : j < 66) (hF : MF ρ' (u2 v 101 j x)) (hB : MB 101 0 ρ' (u2 v 101 j x)) : MI (ρ', S.2) (u2 v 101 j x) := by
  obtain ⟨-, h2, h3, h4, h5, h6, h7⟩ := h
  refine ⟨⟨hF, hB⟩, fun k hk => ⟨(congrFun (u2_o (by omega)) k).trans (h2 k hk).1, fun z => ((h2 k hk).2 z).bank (by omega)⟩, (congrFun (u2_o (by omega)) _).trans h3, fun i hi => (congrFun (u2_o (by omega)) i).trans (h4 i hi), (congrFun (u2_o (by omega)) _).trans h5, fun k hk => ⟨(congrFun (u2_o (by omega)) k).trans (h6 k hk).1, (congrFun (u2_o (by omega)) k).trans (h6 k hk).2.1, fun i hi => (congrFun (u2_o (by omega)) _).trans ((h6 k hk).2.2 i hi)⟩, (congrFun (u2_o (by omega)) _).trans h7⟩
theorem CI_u {q j : Nat} {x : Int32} (h : CI S v) (hq : 3 ≤ q ∧ q < 20) (hR : CR 3 ρ' (u2 v q j x)) : CI (ρ', S.2) (u2 v q j x) := by
  obtain ⟨-, h2, h3, h4, h5, h6, h7⟩ := h
  refine ⟨hR, fun k hk => ⟨(congrFun (u2_o (by omega)) k).trans (h2 k hk).1, fun z => ((h2 k hk).2 z).frame (fun p _ _ => u2_o (by omega))⟩, (congrFun (u2_o (by omega)) _).trans h3, fun i hi => (congrFun (u2_o (by omega)) i).trans (h4 i hi), (congrFun (u2_o (by omega)) _).trans h5, fun k hk => ⟨(congrFun (u2_o (by omega)) _).trans (h6 k hk).1, fun z => (congrFun (u2_o (by omega)) _).trans ((h6 k hk).2.1 z), fun i hi => (congrFun (u2_o (by omega)) i).trans ((h6 k hk).2.2 i hi)⟩, (congrFun (u2_o (by omega)) _).trans h7.1, (congrFun (u2_o (by omega)) _).trans h7.2⟩
theorem SOK_u (h : SOK S) (hk : ROK ρ') (hs : ∀ σ, SAME S.1 σ → SAME ρ' σ) : SOK (ρ', S.2) := by
  obtain ⟨-, h2, h3⟩ := h
  refine ⟨hk, fun k hk2 => ?_, h3⟩
  rcases h2 k hk2 with z | ⟨z1, z2, z3⟩
  · exact Or.inl z
  · exact Or.inr ⟨z1, z2, hs _ z3⟩
theorem u2_hi {q j : Nat} {x : Int32} (hq : q < 100) : ∀ p, 100 ≤ p → u2 v q j x p = v p := fun p hp => u2_o (by omega)
theorem u2_lo {q j : Nat} {x : Int32} (hq : 100 ≤ q) : ∀ p, p < 100 → u2 v q j x p = v p := fun p hp => u2_o (by omega)
/-- one write on each side -/
theorem Eqv.one {fq fm : mH → Option (Int32 × mH)} {r : Int32} {q j j2 : Nat} {x x2 : Int32} (hs : SOK S) (hc : CI S v) (hm : MI S v) (h1 : fq (bh v w) = some (r, bh (u2 v q j x) w)) (hq : 3 ≤ q ∧ q < 20) (hj2 : j2 < 66) (hk : ROK ρ') (hsm : ∀ σ, SAME S.1 σ → SAME ρ' σ) (hR : CR 3 ρ' (u2 v q j x))
    (h2 : ∀ v1, MI S v1 → fm (bh v1 w) = some (r, bh (u2 v1 101 j2 x2) w) ∧ MF ρ' (u2 v1 101 j2 x2) ∧ MB 101 0 ρ' (u2 v1 101 j2 x2)) : Eqv S v w fq fm := by
  have hm1 := hm.frame (v' := u2 v q j x) (u2_hi (by omega))
  obtain ⟨e, hF, hB⟩ := h2 _ hm1
  exact ⟨r, _, w, _, w, (ρ', S.2), h1, e, SOK_u hs hk hsm, (CI_u hc hq hR).frame (u2_lo (by omega)), MI_u hm1 hj2 hF hB⟩
theorem ROK_quota {ρ : Rho} {l x : Nat} (hk : ROK ρ) (hx : x ≤ 9) : ROK (up2 ρ 1 l x) := by
  refine ⟨hk.1, fun j hj => ⟨?_, (hk.2.1 j hj).2⟩, hk.2.2.1, hk.2.2.2.1, hk.2.2.2.2⟩
  by_cases e : j = l
  · subst e; rw [up2_at]; exact hx
  · rw [up2_n e]; exact (hk.2.1 j hj).1
theorem ROK_time {ρ : Rho} {p x : Nat} (hk : ROK ρ) (hx : x ≤ 5) : ROK (up2 ρ 6 p x) := by
  refine ⟨hk.1, hk.2.1, fun j hj => ⟨?_, (hk.2.2.1 j hj).2⟩, hk.2.2.2.1, hk.2.2.2.2⟩
  by_cases e : j = p
  · subst e; rw [up2_at]; exact hx
  · rw [up2_n e]; exact (hk.2.2.1 j hj).1
theorem ROK_purse {ρ : Rho} {p x : Nat} (hk : ROK ρ) (hx : x ≤ 99) : ROK (up2 ρ 9 p x) := by
  refine ⟨hk.1, hk.2.1, fun j hj => ⟨(hk.2.2.1 j hj).1, (hk.2.2.1 j hj).2.1, (hk.2.2.1 j hj).2.2.1, ?_, (hk.2.2.1 j hj).2.2.2.2⟩, hk.2.2.2.1, hk.2.2.2.2⟩
  by_cases e : j = p
  · subst e; rw [up2_at]; exact hx
  · rw [up2_n e]; exact (hk.2.2.1 j hj).2.2.2.1
theorem in_rng {x : Int32} {n : Nat} (hn : n < 2 ^ 31) : (0 : Int32).toInt ≤ x.toInt ∧ x.toInt ≤ (nI n).toInt ↔ 0 ≤ x.toInt ∧ x.toInt < ((n + 1 : Nat) : Int) := by
  rw [nI_toInt hn, show (0 : Int32).toInt = 0 from rfl]; omega
theorem in_rngL {x : Int32} {n : Nat} (hn : n < 2 ^ 31) : (0 : Int64) ≤ x.toInt64 ∧ x.toInt64 ≤ (nI n).toInt64 ↔ 0 ≤ x.toInt ∧ x.toInt < ((n + 1 : Nat) : Int) := by
  rw [show (0 : Int64) = (0 : Int32).toInt64 from rfl, i64_le, i64_le, in_rng hn]
theorem E_quota (x y : Int32) (hs : SOK S) (hc : CI S v) (hm : MI S v) : Eqv S v w (f_Q_quota 0 x y) (f_M_quota 100 x y) := by
  have h1 := hs.1.1.1
  by_cases hl : 0 ≤ x.toInt ∧ x.toInt < (S.1 0 0 : Int)
  · by_cases hy : 0 ≤ y.toInt ∧ y.toInt < ((9 + 1 : Nat) : Int)
    · obtain ⟨l, hl2, rfl⟩ := ix (by omega) hl
      obtain ⟨z, hz, rfl⟩ := ix (by omega) hy
      refine Eqv.one (r := nI (S.1 1 l)) (ρ' := up2 S.1 1 l z) (q := 4) (j := l) (x := nI z) (j2 := l) (x2 := nI z) hs hc hm ?_ (by omega) (by omega) (ROK_quota hs.1 (by omega)) (fun σ h => h) (CR_quota hl2 hc.1 h1) (fun v1 hm1 => ⟨?_, MF_u hm1.1.1 rfl rfl rfl rfl rfl rfl rfl, MB_quota h1 hs.1.1.2.1 hs.1.1.2.2.2.2.2.2 hl2 hm1.1.2⟩)
      · simp only [f_Q_quota, f_Q_quota_0, q_now, hRl rl3 v w, bd1_s]
        rw [C_hasLaw rl3 hc.1 h1, bd2_s, if_pos hl, if_neg (by decide), Q_isWithin, bd2_s, show (9 : Int32) = nI 9 from rfl, if_pos ((in_rng (by decide)).mpr hy), if_neg (by decide)]
        simp only [q_now, hRl rl3 v w, bd1_s]
        rw [rd_nI (by omega) (by decide), bd1_s, wr_nI (by omega) (by decide), bd1_s, (hc.1.2.1 l hl2).1]
      · simp only [f_M_quota, f_M_quota_0, hM v1 w, bd1_s]
        rw [M_isLaw hm1.1.1 h1, bd2_s, if_pos hl, if_neg (by decide), M_in, bd2_s, show (9 : Int64) = (nI 9).toInt64 from rfl, if_pos ((in_rngL (by decide)).mpr hy), if_neg (by decide)]
        simp only [hM v1 w, bd1_s, f_M_becomes, f_M_becomes_0]
        rw [show (0 : Int32) = nI 0 from rfl, nI_add, Nat.zero_add, rd_nI (by omega) (by decide), bd1_s, wr_nI (by omega) (by decide), bd1_s, bd2_s]
        have := hm1.1.2.1 l hl2
        rw [Nat.zero_add] at this
        rw [this]
    · refine Eqv.query (r := -1) hs hc hm ?_ ?_
      · simp only [f_Q_quota, f_Q_quota_0, f_Q_quota_21, q_now, hRl rl3 v w, bd1_s]
        rw [C_hasLaw rl3 hc.1 h1, bd2_s, if_pos hl, if_neg (by decide), Q_isWithin, bd2_s, show (9 : Int32) = nI 9 from rfl, if_neg (fun z => hy ((in_rng (by decide)).mp z)), if_pos rfl]
      · simp only [f_M_quota, f_M_quota_0, f_M_quota_31, hM v w, bd1_s]
        rw [M_isLaw hm.1.1 h1, bd2_s, if_pos hl, if_neg (by decide), M_in, bd2_s, show (9 : Int64) = (nI 9).toInt64 from rfl, if_neg (fun z => hy ((in_rngL (by decide)).mp z)), if_pos rfl]
  · refine Eqv.query (r := -1) hs hc hm ?_ ?_
    · simp only [f_Q_quota, f_Q_quota_0, f_Q_quota_21, q_now, hRl rl3 v w, bd1_s]
      rw [C_hasLaw rl3 hc.1 h1, bd2_s, if_neg hl, if_pos rfl]
    · simp only [f_M_quota, f_M_quota_0, f_M_quota_31, hM v w, bd1_s]
      rw [M_isLaw hm.1.1 h1, bd2_s, if_neg hl, if_pos rfl]
end
