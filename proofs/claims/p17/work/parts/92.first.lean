theorem bh_of {h : mH} (n1 : h.1 = 126) (n2 : h.2.1 = 27134) (tl : TL h) (sh : ∀ k, k < 126 → k = 37 ∨ k = 39 ∨ shc (tm k) (h.2.2 k) = true) (s37 : shr 4 2 (h.2.2 37) = true ∧ rOf (h.2.2 37) 0 = some 58 ∧ rOf (h.2.2 37) 1 = some 75) (s39 : shr 5 4 (h.2.2 39) = true ∧ rOf (h.2.2 39) 0 = some 92 ∧ rOf (h.2.2 39) 1 = some 94 ∧ rOf (h.2.2 39) 2 = some 96 ∧ rOf (h.2.2 39) 3 = some 98) (tb : TB h00 h) : h = bh (fun k => vOf (h.2.2 k)) (fun k => wOf (h.2.2 k)) := by
  have e : h.2.2 = (bh (fun k => vOf (h.2.2 k)) (fun k => wOf (h.2.2 k))).2.2 := by
    funext k
    show h.2.2 k = fillc (vOf (h.2.2 k)) (wOf (h.2.2 k)) (tm k)
    by_cases hk : k < 126
    · rcases sh k hk with rfl | rfl | q
      · have e1 := shr_of s37.1
        have r : ∀ j, 2 ≤ j → rOf (h.2.2 37) j = none := TB_RA tb e1
        have e2 : rOf (h.2.2 37) = fun j => ([some 58, some 75] : List (Option Nat)).getD j none := by
          funext j
          rcases (show j = 0 ∨ j = 1 ∨ 2 ≤ j by omega) with rfl | rfl | hj
          · exact s37.2.1
          · exact s37.2.2
          · rw [r j hj, List.getD_eq_getElem?_getD, List.getElem?_eq_none (show ([some 58, some 75] : List (Option Nat)).length ≤ j from hj)]
            rfl
        rw [e2] at e1
        exact e1
      · have e1 := shr_of s39.1
        have r : ∀ j, 4 ≤ j → rOf (h.2.2 39) j = none := TB_RA tb e1
        have e2 : rOf (h.2.2 39) = fun j => ([some 92, some 94, some 96, some 98] : List (Option Nat)).getD j none := by
          funext j
          rcases (show j = 0 ∨ j = 1 ∨ j = 2 ∨ j = 3 ∨ 4 ≤ j by omega) with rfl | rfl | rfl | rfl | hj
          · exact s39.2.1
          · exact s39.2.2.1
          · exact s39.2.2.2.1
          · exact s39.2.2.2.2
          · rw [r j hj, List.getD_eq_getElem?_getD, List.getElem?_eq_none (show ([some 92, some 94, some 96, some 98] : List (Option Nat)).length ≤ j from hj)]
            rfl
        rw [e2] at e1
        exact e1
      · exact (fill_sh q).symm
    · rw [tm_dead (by omega), tl k (by omega)]
      rfl
  exact Prod.ext n1 (Prod.ext n2 e)
theorem law_of {hA hB hC hD : mH} (eA : mkn h00 10 (.inr (0, [.null, .null, .null, .null, .null, .null, .null, .null, .null, .int 0])) = some hA) (nxA : hA.1 = 1) (eB : f_Q_new 0 hA = some hB) (nxB : hB.1 = 100) (eC : mkn hB 39 (.inr (8, [.null, .null, .int 0, .int 0, .null, .null, .null, .null, .null, .null, .int 0, .int 0, .null, .null, .null, .null, .null, .int 0, .int 0, .null, .int 0, .int 0, .int 0, .int 0, .int 0, .int 0, .int 0, .null, .null, .null, .null, .null, .null, .null, .null, .null, .null, .null, .int 0])) = some hC) (nxC : hC.1 = 101) (eD : f_M_new 100 hC = some hD) (nD : hD.1 = 126) (sc : Nat × (Nat → Int32)) : f_QuotaLawsLaw_law sc h00 = f_QuotaLawsLaw_law_18 sc FU 0 100 0 hD := by
  unfold f_QuotaLawsLaw_law f_QuotaLawsLaw_law_0 grd
  rw [eA, bd1_s, nxA, show h00.1 = 0 from rfl, if_pos (show 0 < 1 by decide), eB, bd1_s, nxB, if_pos (show 100 ≤ 1000 by decide), if_pos (show ¬ 0 = 100 by decide), eC, bd1_s, nxC, if_pos (show 0 < 101 ∧ 100 < 101 by decide), eD, bd1_s, nD, if_pos (show 126 ≤ 1000 by decide)]
def ρ0 : Rho := fun _ _ => 0
def X0 : Nat → Nat → Int := fun a _ => if a = 4 then -4 else 0
def S0 : Sg := (ρ0, fun _ => ρ0, X0)
theorem ROK0 : ROK ρ0 := ⟨⟨by decide, by decide, by decide, by decide, by decide, by decide, by decide⟩, fun _ h => absurd h (Nat.not_lt_zero _), fun _ h => absurd h (Nat.not_lt_zero _), fun _ _ h => absurd h (Nat.not_lt_zero _), fun _ h => absurd h (Nat.not_lt_zero _)⟩
theorem SOK0 : SOK S0 := ⟨ROK0, fun _ _ => Or.inl rfl, ⟨by decide, by decide⟩, fun j h => absurd h (show ¬ ((j : Int) < 0) by omega), ⟨by decide, by decide⟩, fun _ _ => ⟨Or.inl rfl, Int.le_refl 0, show (0 : Int) ≤ 40 by decide⟩⟩
theorem CI0 {v : Nat → Nat → Int32} (a : v 3 0 = 0 ∧ v 3 1 = 0 ∧ v 3 2 = 0 ∧ v 3 3 = 0 ∧ v 3 4 = 0 ∧ v 3 5 = 0 ∧ v 16 0 = 0) (b : v 38 0 = 0 ∧ v 38 1 = 0 ∧ v 1 1 = 0 ∧ v 1 2 = 0 ∧ v 0 9 = 0 ∧ v 43 0 = 0) (c : ∀ k, k < 4 → v (92 + 2 * k) 0 = -4 ∧ ∀ i, i < 40 → v (93 + 2 * k) i = 0) : CI S0 v := by
  have no : ∀ {n : Nat} {p : Prop}, n < ρ0 0 0 → p := fun h => absurd h (Nat.not_lt_zero _)
  refine ⟨⟨⟨a.1, a.2.1, a.2.2.1, a.2.2.2.1, a.2.2.2.2.1, a.2.2.2.2.2.1, a.2.2.2.2.2.2⟩, fun _ h => no h, fun _ h => no h, fun _ _ h => no h, fun _ h => no h⟩, fun k hk => ⟨?_, fun z => absurd z (show ¬ ((0 : Int) = 1) by decide)⟩, b.2.2.1, fun j h => absurd h (show ¬ ((j : Int) < 0) by omega), b.2.2.2.1, fun k hk => ⟨(c k hk).1, fun z => absurd rfl z, fun i hi => (c k hk).2 i hi⟩, b.2.2.2.2⟩
  rcases (show k = 0 ∨ k = 1 by omega) with rfl | rfl
  · exact b.1
  · exact b.2.1
theorem MI0 {v : Nat → Nat → Int32} (a : v 100 2 = 0 ∧ v 100 3 = 0 ∧ v 101 10 = 0 ∧ v 101 11 = 0 ∧ v 101 39 = 0 ∧ v 101 40 = 0 ∧ v 101 41 = 0) (b : v 102 0 = 0 ∧ v 102 1 = 0 ∧ v 100 20 = 0 ∧ v 100 25 = 0 ∧ v 100 38 = 0) (c : ∀ k, k < 4 → v 123 k = -4 ∧ v 124 k = 0 ∧ ∀ i, i < 40 → v 125 (40 * k + i) = 0) : MI S0 v := by
  have no : ∀ {n : Nat} {p : Prop}, n < ρ0 0 0 → p := fun h => absurd h (Nat.not_lt_zero _)
  refine ⟨⟨⟨a.1, a.2.1, fun _ h => no h, fun _ h => no h⟩, fun _ h => no h, fun _ h => no h, a.2.2.1, a.2.2.2.1, fun _ h => no h, fun _ h => no h, fun _ h => no h, fun _ h => no h, fun _ _ h => no h, a.2.2.2.2.1, a.2.2.2.2.2.1, a.2.2.2.2.2.2, fun _ h => no h⟩, fun k hk => ⟨?_, fun z => absurd z (show ¬ ((0 : Int) = 1) by decide)⟩, b.2.2.1, fun j h => absurd h (show ¬ ((j : Int) < 0) by omega), b.2.2.2.1, fun k hk => ⟨(c k hk).1, (c k hk).2.1, fun i hi => (c k hk).2.2 i hi⟩, b.2.2.2.2⟩
  rcases (show k = 0 ∨ k = 1 by omega) with rfl | rfl
  · exact b.1
  · exact b.2.1
def v0 (k : Nat) : Nat → Int32 := vOf (hD.2.2 k)
def w0 (k : Nat) : Nat → Int64 := wOf (hD.2.2 k)
theorem nxA : hA.1 = 1 := by decide +kernel
theorem c_a : v0 3 0 = 0 ∧ v0 3 1 = 0 ∧ v0 3 2 = 0 ∧ v0 3 3 = 0 ∧ v0 3 4 = 0 ∧ v0 3 5 = 0 ∧ v0 16 0 = 0 := by decide +kernel
theorem c_b : v0 38 0 = 0 ∧ v0 38 1 = 0 ∧ v0 1 1 = 0 ∧ v0 1 2 = 0 ∧ v0 0 9 = 0 ∧ v0 43 0 = 0 := by decide +kernel
theorem c_c : ∀ k, k < 4 → v0 (92 + 2 * k) 0 = -4 ∧ ∀ i, i < 40 → v0 (93 + 2 * k) i = 0 := by decide +kernel
theorem m_a : v0 100 2 = 0 ∧ v0 100 3 = 0 ∧ v0 101 10 = 0 ∧ v0 101 11 = 0 ∧ v0 101 39 = 0 ∧ v0 101 40 = 0 ∧ v0 101 41 = 0 := by decide +kernel
theorem m_b : v0 102 0 = 0 ∧ v0 102 1 = 0 ∧ v0 100 20 = 0 ∧ v0 100 25 = 0 ∧ v0 100 38 = 0 := by decide +kernel
theorem m_c : ∀ k, k < 4 → v0 123 k = -4 ∧ v0 124 k = 0 ∧ ∀ i, i < 40 → v0 125 (40 * k + i) = 0 := by decide +kernel
theorem first : ∃ (h : mH) (v : Nat → Nat → Int32) (w : Nat → Nat → Int64), h = hD ∧ h = bh v w ∧ (∀ sc, f_QuotaLawsLaw_law sc h00 = f_QuotaLawsLaw_law_18 sc FU 0 100 0 h) ∧ CI S0 v ∧ MI S0 v :=
  ⟨hD, v0, w0, rfl, @bh_of hD nD1 nD2 hD_TL sh_hD sh_37 sh_39 hD_TB, @law_of hA hB hC hD eA nxA eB nxB eC nxC eD nD1, @CI0 v0 c_a c_b c_c, @MI0 v0 m_a m_b m_c⟩

