/-! entry answers alike -/
section
variable {S : Sg} {v : Nat → Nat → Int32} {w : Nat → Nat → Int64}
theorem E_entry (x y z : Int32) (hs : SOK S) (hc : CI S v) (hm : MI S v) : EqT S v w (f_Q_entry 0 x y z) (f_M_entry 100 x y z) := by
  have hk := hs.1
  have h0 := hk.1.1
  have h1 := hk.1.2.1
  have bad : ∀ h : mH, f_Q_entry_21 h = some (-1, h) := fun h => rfl
  have mb : ∀ (v' : Nat → Nat → Int32) (w' : Nat → Nat → Int64), MR S.1 v' → f_M_entry 100 x y z (bh v' w') = if ((0 ≤ x.toInt ∧ x.toInt < (S.1 0 1 : Int)) ∧ (0 ≤ y.toInt ∧ y.toInt < (S.1 0 0 : Int))) ∧ ((0 : Int32).toInt ≤ z.toInt ∧ z.toInt ≤ (1 : Int32).toInt) then f_M_entry_39 FU 100 x y z (-4) (-4) 0 (bh v' w') else some (-1, bh v' w') := by
    intro v' w' hr
    unfold f_M_entry f_M_entry_0 f_M_entry_26
    simp only [hJ0, bd1_q]
    rw [M_isOne hr.1 h1, bd2_s]
    by_cases c1 : 0 ≤ x.toInt ∧ x.toInt < (S.1 0 1 : Int)
    · rw [if_pos c1, if_neg (by decide)]
      simp only [hJ0, bd1_q]
      rw [M_isLaw hr.1 h0, bd2_s]
      by_cases c2 : 0 ≤ y.toInt ∧ y.toInt < (S.1 0 0 : Int)
      · rw [if_pos c2, if_neg (by decide), M_in, bd2_s]
        by_cases c3 : (0 : Int32).toInt ≤ z.toInt ∧ z.toInt ≤ (1 : Int32).toInt
        · have c3' : (0 : Int64) ≤ z.toInt64 ∧ z.toInt64 ≤ (1 : Int64) := by
            rw [Int64.le_iff_toInt_le, Int64.le_iff_toInt_le, Int32.toInt_toInt64]
            exact c3
          rw [if_pos c3', if_neg (by decide), if_pos ⟨⟨c1, c2⟩, c3⟩]
        · have c3' : ¬ ((0 : Int64) ≤ z.toInt64 ∧ z.toInt64 ≤ (1 : Int64)) := by
            rw [Int64.le_iff_toInt_le, Int64.le_iff_toInt_le, Int32.toInt_toInt64]
            exact c3
          rw [if_neg c3', if_pos rfl, if_neg (fun q => c3 q.2)]
      · rw [if_neg c2, if_pos rfl, if_neg (fun q => c2 q.1.2)]
    · rw [if_neg c1, if_pos rfl, if_neg (fun q => c1 q.1.1)]
  have nil : f_Q_entry 0 x y z (bh v w) = some (-1, bh v w) → f_M_entry 100 x y z (bh v w) = some (-1, bh v w) → EqT S v w (f_Q_entry 0 x y z) (f_M_entry 100 x y z) := fun a b => EqT.q hs hc hm a (fun _ _ => rfl) b (fun _ _ => rfl)
  by_cases c1 : 0 ≤ x.toInt ∧ x.toInt < (S.1 0 1 : Int)
  · by_cases c2 : 0 ≤ y.toInt ∧ y.toInt < (S.1 0 0 : Int)
    · by_cases c3 : (0 : Int32).toInt ≤ z.toInt ∧ z.toInt ≤ (1 : Int32).toInt
      · obtain ⟨v1, e1, t1, f1⟩ := T_loadX (w := w) hc.1 hk
        have R1 : MR S.1 v1 := hm.1.fr1 (fun q h => f1 q (by omega))
        have mm := fun w' => mb v1 w' R1
        obtain ⟨p, hp, rfl⟩ := ix (by omega) c1
        obtain ⟨l, hl, rfl⟩ := ix (by omega) c2
        have m3 := mo_le hk (p := p) hl
        have no : ∀ u, mo S.1 p l < u → u < 4 → ¬ eP S.1 p l u := fun u a b => entTot_no hk (by omega) hl a b
        have z01 : z = 0 ∨ z = 1 := by
          have a : (0 : Int32).toInt = 0 := rfl
          have b : (1 : Int32).toInt = 1 := rfl
          rw [a, b] at c3
          by_cases q : z.toInt = 0
          · exact Or.inl (Int32.toInt_inj.mp q)
          · exact Or.inr (Int32.toInt_inj.mp (by rw [b]; omega))
        obtain ⟨r, v2, w2, e2, f2, g2⟩ := T_firstX hk (show p < 3 by omega) hl z t1 w
        obtain ⟨fe, la, w3, e3, gf, gl⟩ := M_entryX (v := v2) (R1.fr1 (fun q h => f2 q (by omega))) hk (show p < 3 by omega) hl z w2
        have er : r = if z = 0 then fe else la := by
          rcases z01 with z0 | z0
          · rw [if_pos z0]
            have ey : ∀ i, yI z (mo S.1 p l) i = i := fun i => by unfold yI; rw [if_pos z0]
            simp only [ey] at g2
            rcases g2 with ⟨i, a1, a2, a3, a4⟩ | ⟨a1, a2⟩
            · rcases gf with ⟨b1, b2⟩ | ⟨u, b1, b2, b3, b4⟩
              · exact (b2 i (by omega) a3).elim
              · rcases Nat.lt_trichotomy i u with k | k | k
                · exact (b4 i k a3).elim
                · rw [a2, b2, k]
                · exact (a4 u k b3).elim
            · rcases gf with ⟨b1, b2⟩ | ⟨u, b1, b2, b3, b4⟩
              · rw [a1, b1]
              · by_cases k : u ≤ mo S.1 p l
                · exact (a2 u k b3).elim
                · exact (no u (by omega) b1 b3).elim
          · have zn : ¬ z = 0 := by rw [z0]; decide
            rw [if_neg zn]
            have ey : ∀ i, yI z (mo S.1 p l) i = mo S.1 p l - i := fun i => by unfold yI; rw [if_neg zn]
            simp only [ey] at g2
            rcases g2 with ⟨i, a1, a2, a3, a4⟩ | ⟨a1, a2⟩
            · rcases gl with ⟨b1, b2⟩ | ⟨u, b1, b2, b3, b4⟩
              · exact (b2 _ (by omega) a3).elim
              · have ku : u ≤ mo S.1 p l := Nat.le_of_not_lt (fun k => no u k b1 b3)
                rcases Nat.lt_trichotomy (mo S.1 p l - i) u with k | k | k
                · have q := a4 (mo S.1 p l - u) (by omega)
                  rw [show mo S.1 p l - (mo S.1 p l - u) = u by omega] at q
                  exact (q b3).elim
                · rw [a2, b2, k]
                · exact (b4 _ k (by omega) a3).elim
            · rcases gl with ⟨b1, b2⟩ | ⟨u, b1, b2, b3, b4⟩
              · rw [a1, b1]
              · have ku : u ≤ mo S.1 p l := Nat.le_of_not_lt (fun k => no u k b1 b3)
                have q := a2 (mo S.1 p l - u) (by omega)
                rw [show mo S.1 p l - (mo S.1 p l - u) = u by omega] at q
                exact (q b3).elim
        rw [← er] at e3
        refine EqT.pl (r := r) (v1 := v2) (v2 := v2) (w1 := w2) (w2 := w3) hs hc hm ?_ (fun q h => (f2 q (by omega)).trans (f1 q (by omega))) (by rw [f2 43 (by omega), f1 43 (by omega)]; exact hc.2.2.2.2.2.2.2) ?_ (fun _ _ => rfl)
        · unfold f_Q_entry f_Q_entry_0 f_Realm_hasBoth f_Realm_hasBoth_0 f_Realm_hasBoth_20 f_Q_entry_50
          simp only [hB0, bd1_q, bad]
          rw [C_hasOne rl3 hc.1 h1, bd2_s, if_pos c1, if_neg (by decide)]
          simp only [hB0, bd1_q]
          rw [C_hasLaw rl3 hc.1 h0, bd2_s, if_pos c2, if_neg (by decide), bd2_s, if_neg (by decide), Q_isWithin, bd2_s, if_pos c3, if_neg (by decide)]
          simp only [hB0, bd1_q]
          rw [e1]
          simp only [hB0, bd1_q]
          rcases z01 with z0 | z0
          · rw [z0] at e2 ⊢
            rw [if_neg (by decide), e2, bd2_s]
          · rw [z0] at e2 ⊢
            rw [if_pos rfl, e2, bd2_s]
        · rw [mb v2 w2 (R1.fr1 (fun q h => f2 q (by omega))), if_pos ⟨⟨c1, c2⟩, c3⟩]
          exact e3
      · refine nil ?_ (by rw [mb v w hm.1, if_neg (fun q => c3 q.2)])
        unfold f_Q_entry f_Q_entry_0 f_Realm_hasBoth f_Realm_hasBoth_0 f_Realm_hasBoth_20 f_Q_entry_50
        simp only [hB0, bd1_q, bad]
        rw [C_hasOne rl3 hc.1 h1, bd2_s, if_pos c1, if_neg (by decide)]
        simp only [hB0, bd1_q]
        rw [C_hasLaw rl3 hc.1 h0, bd2_s, if_pos c2, if_neg (by decide), bd2_s, if_neg (by decide), Q_isWithin, bd2_s, if_neg c3, if_pos rfl]
    · refine nil ?_ (by rw [mb v w hm.1, if_neg (fun q => c2 q.1.2)])
      unfold f_Q_entry f_Q_entry_0 f_Realm_hasBoth f_Realm_hasBoth_0 f_Realm_hasBoth_20 f_Q_entry_50
      simp only [hB0, bd1_q, bad]
      rw [C_hasOne rl3 hc.1 h1, bd2_s, if_pos c1, if_neg (by decide)]
      simp only [hB0, bd1_q]
      rw [C_hasLaw rl3 hc.1 h0, bd2_s, if_neg c2, if_pos rfl, bd2_s, if_pos rfl]
  · refine nil ?_ (by rw [mb v w hm.1, if_neg (fun q => c1 q.1.1)])
    unfold f_Q_entry f_Q_entry_0 f_Realm_hasBoth f_Realm_hasBoth_0 f_Realm_hasBoth_20 f_Q_entry_50
    simp only [hB0, bd1_q, bad]
    rw [C_hasOne rl3 hc.1 h1, bd2_s, if_neg c1, if_pos rfl, bd2_s, if_pos rfl]
end
