/-! what was seen -/
def sn (ρ : Rho) (m : Nat) (a b c : Nat → Nat) : Rho := va_up (va_up (va_up (up2 ρ 0 6 m) 13 a) 14 b) 15 c
theorem ROK_sn {ρ : Rho} {m : Nat} {a b c : Nat → Nat} (hk : ROK ρ) (hm : m ≤ 8) (hs : ∀ i, i < m → (a i = 0 ∧ b i < ρ 0 1 ∨ a i = 1 ∧ b i < ρ 0 0) ∧ c i ≤ 20) : ROK (sn ρ m a b c) :=
  ⟨⟨hk.1.1, hk.1.2.1, hk.1.2.2.1, hk.1.2.2.2.1, hk.1.2.2.2.2.1, hk.1.2.2.2.2.2.1, hm⟩, hk.2.1, hk.2.2.1, hk.2.2.2.1, hs⟩
section
variable {ρ : Rho} {v v1 : Nat → Nat → Int32} {w : Nat → Nat → Int64} {o m : Nat} {a b c : Nat → Nat}
theorem CR_sn (h : CR o ρ v) (hq : ∀ q, q < o + 13 → v1 q = v q) (h0 : v1 (o + 13) 0 = nI m) (hs : ∀ i, i < m → v1 (o + 14) i = nI (a i) ∧ v1 (o + 15) i = nI (b i) ∧ v1 (o + 16) i = nI (c i)) : CR o (sn ρ m a b c) v1 := by
  obtain ⟨h1, h2, h3, h4, -⟩ := h
  refine ⟨⟨?_, ?_, ?_, ?_, ?_, ?_, h0⟩, ?_, ?_, ?_, hs⟩
  · rw [hq o (by omega)]; exact h1.1
  · rw [hq o (by omega)]; exact h1.2.1
  · rw [hq o (by omega)]; exact h1.2.2.1
  · rw [hq o (by omega)]; exact h1.2.2.2.1
  · rw [hq o (by omega)]; exact h1.2.2.2.2.1
  · rw [hq o (by omega)]; exact h1.2.2.2.2.2.1
  · rw [hq (o + 1) (by omega), hq (o + 2) (by omega), hq (o + 3) (by omega), hq (o + 4) (by omega), hq (o + 5) (by omega)]; exact h2
  · rw [hq (o + 6) (by omega), hq (o + 7) (by omega), hq (o + 8) (by omega), hq (o + 9) (by omega), hq (o + 10) (by omega), hq (o + 11) (by omega)]; exact h3
  · rw [hq (o + 12) (by omega)]; exact h4
theorem MB_sn (h : MB 101 0 ρ v) (hL : ρ 0 0 ≤ 5) (hP : ρ 0 1 ≤ 3) (hq : ∀ j, j < 41 → v1 101 j = v 101 j) (h0 : v1 101 41 = nI m) (hs : ∀ i, i < m → v1 101 (0 + 42 + 3 * i) = nI (a i) ∧ v1 101 (0 + 42 + 3 * i + 1) = nI (b i) ∧ v1 101 (0 + 42 + 3 * i + 2) = nI (c i)) : MB 101 0 (sn ρ m a b c) v1 := by
  obtain ⟨h1, h2, h3, h4, h5, h6, h7, h8, h9, h10, h11, h12, h13⟩ := h
  exact ⟨fun l (hl : l < ρ 0 0) => (hq _ (by omega)).trans (h1 l hl), fun l (hl : l < ρ 0 0) => (hq _ (by omega)).trans (h2 l hl), (hq _ (by omega)).trans h3, (hq _ (by omega)).trans h4, fun p (hp : p < ρ 0 1) => (hq _ (by omega)).trans (h5 p hp), fun p (hp : p < ρ 0 1) => (hq _ (by omega)).trans (h6 p hp), fun p (hp : p < ρ 0 1) => (hq _ (by omega)).trans (h7 p hp), fun p (hp : p < ρ 0 1) => (hq _ (by omega)).trans (h8 p hp), fun p l (hp : p < ρ 0 1) (hl : l < ρ 0 0) => (hq _ (by omega)).trans (h9 p l hp hl), (hq _ (by omega)).trans h10, (hq _ (by omega)).trans h11, h0, hs⟩
end
section
variable {S : Sg} {v v1 : Nat → Nat → Int32} {w : Nat → Nat → Int64}
theorem MF.frame {ρ ρ' : Rho} (h : MF ρ v) (hv : ∀ q, q ≠ 101 → v1 q = v q) : MF ρ v1 := by
  unfold MF
  rw [hv 100 (by omega), hv 103 (by omega), hv 104 (by omega), hv 105 (by omega), hv 106 (by omega), hv 107 (by omega)]
  exact h
theorem E_forget (x : Int32) (hs : SOK S) (hc : CI S v) (hm : MI S v) : Eqv S v w (f_Q_forget 0 x) (f_M_forget 100 x) := by
  have h1 := hs.1.1.1
  have h2 := hs.1.1.2.1
  have h8 := hs.1.1.2.2.2.2.2.2
  have ec : v 16 0 = nI (S.1 0 6) := hc.1.1.2.2.2.2.2.2
  by_cases hx : 0 ≤ x.toInt ∧ x.toInt < ((S.1 0 6 + 1 : Nat) : Int)
  · obtain ⟨z, hz, rfl⟩ := ix (by omega) hx
    have sg := hs.1.2.2.2.2
    refine Eqv.one (r := nI (S.1 0 6)) (ρ' := sn S.1 z (S.1 13) (S.1 14) (S.1 15)) (q := 16) (j := 0) (x := nI z) (j2 := 41) (x2 := nI z) hs hc hm ?_ (by omega) (by omega) (ROK_sn hs.1 (by omega) (fun i hi => sg i (by omega))) (fun σ h => h) ?_ (fun v1 hm1 => ⟨?_, ?_, ?_⟩)
    · simp only [f_Q_forget, f_Q_forget_0, q_now, hRl rl3 v w, bd1_s]
      rw [ec, Q_isWithin, bd2_s, if_pos ((in_rng (by omega)).mpr hx), if_neg (by decide)]
      simp only [q_now, hRl rl3 v w, bd1_s]
      rw [ec]
    · exact CR_sn hc.1 (fun q hq => u2_o (by omega)) (u2_at _ _ _ _) (fun i hi => by
        have g := hc.1.2.2.2.2 i (by omega)
        exact ⟨(congrFun (u2_o (by omega)) i).trans g.1, (congrFun (u2_o (by omega)) i).trans g.2.1, (congrFun (u2_o (by omega)) i).trans g.2.2⟩)
    · have e41 : rd (v1 101) 198 (41 : Int32) = some (nI (S.1 0 6)) := by rw [← hm1.1.2.2.2.2.2.2.2.2.2.2.2.2.1]; rfl
      simp only [f_M_forget, f_M_forget_0, hM v1 w, bd1_s]
      rw [e41, bd1_s, M_in, bd2_s, if_pos ((in_rngL (by omega)).mpr hx), if_neg (by decide)]
      simp only [hM v1 w, bd1_s, f_M_becomes, f_M_becomes_0]
      rw [e41, bd1_s, show (41 : Int32) = nI 41 from rfl, wr_nI (by omega) (by decide), bd1_s, bd2_s]
    · exact MF_u hm1.1.1 rfl rfl rfl rfl rfl rfl rfl
    · exact MB_sn hm1.1.2 h1 h2 (fun j hj => u2_n (by omega)) (u2_at _ _ _ _) (fun i hi => by
        have g := hm1.1.2.2.2.2.2.2.2.2.2.2.2.2.2 i (by omega)
        exact ⟨(u2_n (by omega)).trans g.1, (u2_n (by omega)).trans g.2.1, (u2_n (by omega)).trans g.2.2⟩)
  · refine Eqv.query (r := -1) hs hc hm ?_ ?_
    · simp only [f_Q_forget, f_Q_forget_0, q_now, hRl rl3 v w, bd1_s]
      rw [ec, Q_isWithin, bd2_s, if_neg (fun z => hx ((in_rng (by omega)).mp z)), if_pos rfl]
    · have e41 : rd (v 101) 198 (41 : Int32) = some (nI (S.1 0 6)) := by rw [← hm.1.2.2.2.2.2.2.2.2.2.2.2.2.1]; rfl
      simp only [f_M_forget, f_M_forget_0, hM v w, bd1_s]
      rw [e41, bd1_s, M_in, bd2_s, if_neg (fun z => hx ((in_rngL (by omega)).mp z)), if_pos rfl]
/-- one more was seen -/
def sw (ρ : Rho) (k a n : Nat) : Rho := sn ρ (ρ 0 6 + 1) (va_up (ρ 13) (ρ 0 6) k) (va_up (ρ 14) (ρ 0 6) a) (va_up (ρ 15) (ρ 0 6) n)
theorem ROK_sw {ρ : Rho} {k a n : Nat} (hk : ROK ρ) (h8 : ρ 0 6 < 8) (h : k = 0 ∧ a < ρ 0 1 ∨ k = 1 ∧ a < ρ 0 0) (hn : n ≤ 20) : ROK (sw ρ k a n) := by
  refine ROK_sn hk (by omega) (fun i hi => ?_)
  by_cases e : i = ρ 0 6
  · subst e; rw [up_at, up_at, up_at]; exact ⟨h, hn⟩
  · rw [up_ne e, up_ne e, up_ne e]; exact hk.2.2.2.2 i (by omega)
theorem C_append {o : Nat} {ρ : Rho} (ho : rl o) (hr : CR o ρ v) (hk : ROK ρ) {k a n : Nat} (h8 : ρ 0 6 < 8) : ∃ v1, f_Sightings_append (o + 13) (nI k) (nI a) (nI n) (bh v w) = some (1, bh v1 w) ∧ CR o (sw ρ k a n) v1 ∧ ∀ q, q < o ∨ o + 17 ≤ q → v1 q = v q := by
  have ec : v (o + 13) 0 = nI (ρ 0 6) := hr.1.2.2.2.2.2.2
  simp only [f_Sightings_append, f_Sightings_append_0, hRl ho v w, bd1_s]
  rw [ec, show (8 : Int32) = nI 8 from rfl, if_pos ((nI_ltI (by omega) (by omega)).mpr h8), wr_nI h8 (by decide), bd1_s]
  have e1 : u2 v (o + 14) (ρ 0 6) (nI k) (o + 13) 0 = nI (ρ 0 6) := (congrFun (u2_o (by omega)) 0).trans ec
  simp only [hRl ho (u2 v (o + 14) (ρ 0 6) (nI k)) w, bd1_s]
  rw [e1, wr_nI h8 (by decide), bd1_s]
  have e2 : u2 (u2 v (o + 14) (ρ 0 6) (nI k)) (o + 15) (ρ 0 6) (nI a) (o + 13) 0 = nI (ρ 0 6) := (congrFun (u2_o (by omega)) 0).trans e1
  simp only [hRl ho (u2 (u2 v (o + 14) (ρ 0 6) (nI k)) (o + 15) (ρ 0 6) (nI a)) w, bd1_s]
  rw [e2, wr_nI h8 (by decide), bd1_s]
  have e3 : u2 (u2 (u2 v (o + 14) (ρ 0 6) (nI k)) (o + 15) (ρ 0 6) (nI a)) (o + 16) (ρ 0 6) (nI n) (o + 13) 0 = nI (ρ 0 6) := (congrFun (u2_o (by omega)) 0).trans e2
  simp only [hRl ho (u2 (u2 (u2 v (o + 14) (ρ 0 6) (nI k)) (o + 15) (ρ 0 6) (nI a)) (o + 16) (ρ 0 6) (nI n)) w, bd1_s]
  rw [e3, nI_1]
  refine ⟨_, rfl, CR_sn hr (fun q hq => ?_) (u2_at _ _ _ _) (fun i hi => ?_), fun q hq => ?_⟩
  · rw [u2_o (by omega), u2_o (by omega), u2_o (by omega), u2_o (by omega)]
  · rw [u2_o (show o + 14 ≠ o + 13 by omega), u2_o (show o + 15 ≠ o + 13 by omega), u2_o (show o + 16 ≠ o + 13 by omega), u2_o (show o + 14 ≠ o + 16 by omega), u2_o (show o + 15 ≠ o + 16 by omega), u2_o (show o + 14 ≠ o + 15 by omega)]
    by_cases e : i = ρ 0 6
    · subst e; rw [up_at, up_at, up_at]; exact ⟨u2_at _ _ _ _, u2_at _ _ _ _, u2_at _ _ _ _⟩
    · rw [up_ne e, up_ne e, up_ne e, u2_n e, u2_n e, u2_n e, u2_o (show o + 15 ≠ o + 14 by omega), u2_o (show o + 16 ≠ o + 15 by omega), u2_o (show o + 16 ≠ o + 14 by omega)]
      exact hr.2.2.2.2 i (by omega)
  · rw [u2_o (by omega), u2_o (by omega), u2_o (by omega), u2_o (by omega)]
end
