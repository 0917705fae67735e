theorem sub_done (a d : Nat) : nI (a + d) - nI a = nI d := by
  rw [← zI_n, zI_subn, ← zI_n]
  congr 1
  omega
def sMet (ρ : Rho) : Nat := orN (fun l => if bit (ρ 0 4) l = 1 ∧ sNeed ρ l = 0 then 2 ^ l else 0) (ρ 0 0)
section
variable {ρ : Rho} {v : Nat → Nat → Int32} {w : Nat → Nat → Int64}
theorem M_118 (hr : MR ρ v) (hk : ROK ρ) (x m d : Int32) : ∃ v', f_M_selfish_118 FU 100 x m d 0 0 (bh v w) = some (if x = 0 then nI (sMet ρ) else if x = 1 then m else d, bh v' w) ∧ (∀ q, q ≠ 101 → v' q = v q) ∧ (∀ j, j < 66 → v' 101 j = v 119 j) ∧ ∀ j, 66 ≤ j → v' 101 j = v 101 j := by
  have h1 := hk.1.1
  have hst := hk.st
  obtain ⟨v1, e1, f1, g1, k1⟩ := M_returns v w
  refine ⟨v1, ?_, f1, g1, k1⟩
  have z0 : ∀ l, l < 5 → (0 : Int32) <<< (nI l &&& 31) = nI 0 := by decide
  have fl0 : ∀ h : mH, f_M_flag 0 h = some (0, h) := fun _ => rfl
  have fl1 : ∀ h : mH, f_M_flag 1 h = some (1, h) := fun _ => rfl
  have key : ∀ (k fuel l : Nat), k < fuel → l + k = ρ 0 0 → f_M_selfish_118 fuel 100 x m d (nI (orN (fun l => if bit (ρ 0 4) l = 1 ∧ sNeed ρ l = 0 then 2 ^ l else 0) l)) (nI l) (bh v w) = some (if x = 0 then nI (sMet ρ) else if x = 1 then m else d, bh v1 w) := by
    intro k
    induction k with
    | zero =>
      intro fuel l hf hl
      obtain ⟨n, rfl⟩ : ∃ n, fuel = n + 1 := ⟨fuel - 1, by omega⟩
      simp only [f_M_selfish_118, f_M_selfish_118b, hM v w, bd1_s]
      rw [hr.1.1, if_pos (nI_le (by omega) (by omega)), e1, bd1_s, show l = ρ 0 0 by omega]
      unfold sMet
      split
      · rfl
      · split <;> rfl
    | succ k ih =>
      intro fuel l hf hl
      obtain ⟨n, rfl⟩ : ∃ n, fuel = n + 1 := ⟨fuel - 1, by omega⟩
      have hl2 : l < ρ 0 0 := by omega
      have hn := sNeed_le hk hl2
      have e2 : orN (fun l => if bit (ρ 0 4) l = 1 ∧ sNeed ρ l = 0 then 2 ^ l else 0) (l + 1) = orN (fun l => if bit (ρ 0 4) l = 1 ∧ sNeed ρ l = 0 then 2 ^ l else 0) l ||| (if bit (ρ 0 4) l = 1 ∧ sNeed ρ l = 0 then 2 ^ l else 0) := rfl
      have ih2 := ih n (l + 1) (by omega) (by omega)
      simp only [f_M_selfish_118, f_M_selfish_118b, f_M_selfish_151, f_M_selfish_152, fl0, fl1, bd2_s, hM v w, bd1_s]
      rw [hr.1.1, if_neg (nI_ge (by omega) (by omega)), M_doesStand hr.2 (by omega) (by omega), bd2_s]
      rcases bit_01 (ρ 0 4) l with g | g
      · rw [g, if_pos (show nI 0 = 0 from rfl), z0 l (by omega), or_I, nI_1]
        rw [e2, if_neg (fun q => by omega)] at ih2
        exact ih2
      · rw [g, if_neg (show ¬ nI 1 = 0 by decide)]
        try simp only [hM v w, bd1_s]
        rw [M_needOf hr hk hl2, bd2_s, ite_iff (nI_eq0 (by omega))]
        by_cases z : sNeed ρ l = 0
        · rw [if_pos z, shl_I (by omega), or_I, nI_1]
          rw [e2, if_pos ⟨g, z⟩] at ih2
          exact ih2
        · rw [if_neg z, z0 l (by omega), or_I, nI_1]
          rw [e2, if_neg (fun q => z q.2)] at ih2
          exact ih2
  exact key (ρ 0 0) FU 0 (by unfold FU; omega) (by omega)
end
section
variable {S : Sg} {v : Nat → Nat → Int32} {w : Nat → Nat → Int64}
theorem E_selfish (x : Int32) (hs : SOK S) (hc : CI S v) (hm : MI S v) : Eqv S v w (f_Q_selfish 0 x) (f_M_selfish 100 x) := by
  by_cases hx : 0 ≤ x.toInt ∧ x.toInt < ((2 + 1 : Nat) : Int)
  · have l15 := sLs_le hs.1
    obtain ⟨v1, e1, d1⟩ := C_copyFrom rl20 rl3 (by decide) v w
    have c1 : CRq (S.1, 0, 0).2.2 20 (S.1, 0, 0).1 v1 := CRq_of (CR_copy hc.1 hs.1 d1)
    obtain ⟨v2, e2, c2, f2⟩ := C_slf (w := w) 16 FU 0 (S.1, 0, 0) v1 (show sLs S.1 < 16 by omega) (by decide) (Nat.le_refl _) (show 0 + sLs S.1 ≤ 15 by omega) c1 hs.1
    have rk := slf_ok 16 (S.1, 0, 0) hs.1
    have q2 : ∀ q, q < 20 ∨ 37 ≤ q → v2 q = v q := fun q hq => (f2 q hq).trans (d1.1 q (by omega))
    have hm2 : MI S v2 := hm.frame (fun p hp => q2 p (by omega))
    obtain ⟨v3, e3, f3, s3⟩ := M_saves v2 w
    have hm3 : MI S v3 := hm2.fr (fun p hp => f3 p (by unfold pM at hp; omega)) (by rw [f3 100 (by decide)]; exact ⟨rfl, rfl, rfl, rfl, rfl⟩)
    obtain ⟨v4, e4, m4, f4, k4⟩ := M_slf (w := w) x 16 FU (S.1, 0, 0) v3 (show sLs S.1 < 16 by omega) (by decide) hm3.1 hs.1
    obtain ⟨v5, e5, f5, s5, k5⟩ := M_118 (w := w) m4 rk.1 x (nI (slf 16 (S.1, 0, 0)).2.1) (nI (slf 16 (S.1, 0, 0)).2.2)
    have q5 : ∀ q, q ≠ 119 → v5 q = v2 q := back_same f3 s3 (fun q hq => (f5 q hq).trans (f4 q hq)) (fun j hj => (s5 j hj).trans (by rw [f4 119 (by decide)])) (fun j hj => (k5 j hj).trans (k4 j hj))
    refine EqT.q (r := if x = 0 then nI (sMet (slf 16 (S.1, 0, 0)).1) else if x = 1 then nI (slf 16 (S.1, 0, 0)).2.1 else nI (slf 16 (S.1, 0, 0)).2.2) (v1 := v2) (w1 := w) (v2 := v5) (w2 := w) hs hc hm ?_ (fun p hp => q2 p (by unfold pC at hp; omega)) ?_ (fun p hp => q5 p (by unfold pM at hp; omega))
    · simp only [f_Q_selfish, f_Q_selfish_0, Q_isWithin, bd2_s]
      rw [show (2 : Int32).toInt = (nI 2).toInt from rfl, if_pos ((in_rng (by decide)).mpr hx), if_neg (by decide)]
      simp only [hQ v w, hRl rl20 v w, bd1_s]
      rw [e1]
      simp only [hQ v1 w, hRl rl20 v1 w, bd1_s]
      have e2' : f_Realm_eachForHimself 20 (bh v1 w) = some (nI (slf 16 (S.1, 0, 0)).2.1, bh v2 w) := e2
      rw [e2', bd2_s]
      simp only [hQ v2 w, hRl rl20 v2 w, hRl rl3 v2 w, bd1_s]
      rw [D_met rl20 c2 rk.1, bd2_s, c2.1.2.2.2.1]
      have e33 : v2 3 3 = nI (S.1 0 3) := by rw [q2 3 (by omega)]; exact hc.1.1.2.2.2.1
      have e03 : (slf 16 (S.1, 0, 0)).1 0 3 = S.1 0 3 := rk.2.2.2.1
      have esub : nI ((slf 16 (S.1, 0, 0)).1 0 3 + (slf 16 (S.1, 0, 0)).2.2) - v2 3 3 = nI (slf 16 (S.1, 0, 0)).2.2 := by
        rw [e33, e03, sub_done]
      rw [esub, orN_and]
      unfold sMet
      split
      · rfl
      · split <;> rfl
    · simp only [f_M_selfish, f_M_selfish_0, M_in, bd2_s]
      rw [show (2 : Int64) = (nI 2).toInt64 from rfl, if_pos ((in_rngL (by decide)).mpr hx), if_neg (by decide)]
      simp only [hM v2 w, bd1_s]
      rw [e3, bd1_s]
      exact e4.trans e5
  · refine Eqv.query (r := -1) hs hc hm ?_ ?_
    · simp only [f_Q_selfish, f_Q_selfish_0, Q_isWithin, bd2_s]
      rw [show (2 : Int32).toInt = (nI 2).toInt from rfl, if_neg (fun q => hx ((in_rng (by decide)).mp q)), if_pos rfl]
    · simp only [f_M_selfish, f_M_selfish_0, M_in, bd2_s]
      rw [show (2 : Int64) = (nI 2).toInt64 from rfl, if_neg (fun q => hx ((in_rngL (by decide)).mp q)), if_pos rfl]
end
