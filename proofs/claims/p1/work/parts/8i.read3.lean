section
variable {S : Sg} {v : Nat → Nat → Int32} {w : Nat → Nat → Int64} {k : Nat}
theorem E_read (x y f z : Int32) (hs : SOK S) (hc : CI S v) (hm : MI S v) : Eqv S v w (f_Q_read 0 x y f z) (f_M_read 100 x y f z) := by
  by_cases hx : 0 ≤ x.toInt ∧ x.toInt < ((3 + 1 : Nat) : Int)
  · by_cases hy : 0 ≤ y.toInt ∧ y.toInt < ((2 + 1 : Nat) : Int)
    · by_cases hn : 0 ≤ z.toInt ∧ z.toInt < ((20 + 1 : Nat) : Int)
      · obtain ⟨k, hk, rfl⟩ := ix (by omega) hx
        obtain ⟨a, ha, rfl⟩ := ix (by omega) hy
        obtain ⟨N, hN, rfl⟩ := ix (by omega) hn
        have hk : k < 4 := hk
        have ha : a < 3 := ha
        have hN : N ≤ 20 := by omega
        obtain ⟨v1, e1, d1⟩ := C_copyFrom rl20 rl3 (by decide) v w
        have r1 := CR_copy hc.1 hs.1 d1
        have hc1 : CI S v1 := hc.fr (fun p hp => d1.1 p (by unfold pC at hp; omega))
        have start : f_Q_read 0 (nI k) (nI a) f (nI N) (bh v w) = f_Q_read_64 FU 0 f (nI N) (92 + 2 * k) 0 (if S.2.2 4 k = -4 ∨ zI (S.2.2 4 k) = nI a then 0 else 3) 0 (bh v1 w) := by
          simp only [f_Q_read, f_Q_read_0, Q_isWithin, bd2_s]
          rw [show (3 : Int32).toInt = (nI 3).toInt from rfl, show (2 : Int32).toInt = (nI 2).toInt from rfl, show (20 : Int32).toInt = (nI 20).toInt from rfl, if_pos ((in_rng (by decide)).mpr hx), if_neg (by decide), if_pos ((in_rng (by decide)).mpr hy), if_neg (by decide), if_pos ((in_rng (by decide)).mpr hn), if_neg (by decide)]
          simp only [hQ v w, hSh hk v w, hRl rl20 v w, bd1_s]
          rw [e1]
          simp only [hSh hk v1 w, bd1_s]
          rw [C_as hs hc1 hk ha, bd2_s]
        have startM : ∀ (v2 : Nat → Nat → Int32) (w2 : Nat → Nat → Int64), ∃ v3, f_M_read 100 (nI k) (nI a) f (nI N) (bh v2 w2) = f_M_read_36 FU 100 (nI k) (nI a) f (nI N) 0 0 0 (bh v3 w2) ∧ (∀ q, q ≠ 119 → v3 q = v2 q) ∧ ∀ j, j < 66 → v3 119 j = v2 101 j := by
          intro v2 w2
          obtain ⟨v3, e3, f3, g3⟩ := M_saves v2 w2
          refine ⟨v3, ?_, f3, g3⟩
          simp only [f_M_read, f_M_read_0, M_isSheet, M_in, bd2_s]
          rw [if_pos (And.intro hx hy), if_neg (by decide), show (20 : Int64) = (nI 20).toInt64 from rfl, if_pos ((in_rngL (by decide)).mpr hn), if_neg (by decide)]
          simp only [hM v2 w2, bd1_s]
          rw [e3]
          rfl
        by_cases hl : S.2.2 4 k = -4 ∨ zI (S.2.2 4 k) = nI a
        · rw [if_pos hl] at start
          have Q := Q_rd (w := w) hs hk f hN N 0 FU S.1 v1 (by unfold FU; omega) (by omega) hc1 r1 hs.1
          cases hr : rdl S k f.toInt N 0 S.1 with
          | inl j =>
            obtain ⟨v2, e2, f2⟩ := Q.1 j hr
            have q2 : ∀ q, q < 20 ∨ 37 ≤ q → v2 q = v q := fun q hq => (f2 q hq).trans (d1.1 q (by omega))
            have hc2 : CI S v2 := hc.fr (fun p hp => q2 p (by unfold pC at hp; omega))
            have hm2 : MI S v2 := hm.frame (fun p hp => q2 p (by omega))
            obtain ⟨v3, e3, f3, g3⟩ := startM v2 w
            have hm3 : MI S v3 := hm2.fr (fun p hp => f3 p (by unfold pM at hp; omega)) (by rw [f3 100 (by decide)]; exact ⟨rfl, rfl, rfl, rfl, rfl⟩)
            obtain ⟨v4, e4, f4, g4, h4⟩ := (M_rd (w := w) hs hk f (nI a) hl hN N 0 FU S.1 v3 (by unfold FU; omega) (by omega) (hm3.2.2.2.2.2.1 k hk) hm3.1 hs.1).1 j hr
            have e101 : v4 101 = v2 101 := by
              funext j
              by_cases hj : j < 66
              · rw [g4 j hj, g3 j hj]
              · rw [h4 j (by omega), f3 101 (by decide)]
            have q4 : ∀ q, q ≠ 119 → v4 q = v2 q := by
              intro q hq
              by_cases h : q = 101
              · subst h; exact e101
              · exact (f4 q h).trans (f3 q hq)
            exact ⟨_, v2, w, v4, w, S, start.trans e2, e3.trans e4, hs, hc2.fr (fun p hp => q4 p (by unfold pC at hp; omega)), hm2.fr (fun p hp => q4 p (by unfold pM at hp; omega)) (by rw [q4 100 (by decide)]; exact ⟨rfl, rfl, rfl, rfl, rfl⟩)⟩
          | inr q =>
            obtain ⟨c, ρ', t⟩ := q
            obtain ⟨v2, e2, c2, k2, s2, f2⟩ := Q.2 c ρ' t hr
            obtain ⟨v3, e3, d3⟩ := C_copyFrom rl3 rl20 (by decide) v2 w
            have r3 := CR_copy c2 k2 d3
            have q3 : ∀ q, q < 3 ∨ 37 ≤ q → v3 q = v q := fun q hq => (d3.1 q (by omega)).trans ((f2 q (by omega)).trans (d1.1 q (by omega)))
            have hc3 : CI (ρ', S.2) v3 := CI_rt hc r3 (fun q hq => q3 q (by omega))
            have hc4 := CI_torn (t := t) hc3
            have ea : f_Q_read 0 (nI k) (nI a) f (nI N) (bh v w) = some (nI c, bh (u2 v3 0 9 (zI t)) w) := by
              rw [start]
              refine e2.trans ?_
              simp only [f_Q_read_141, hQ v2 w, hRl rl3 v2 w, bd1_s]
              rw [e3]
              simp only [hQ v3 w, bd1_s]
            have q4 : ∀ q, 100 ≤ q → u2 v3 0 9 (zI t) q = v q := fun q hq => (u2_o (by omega)).trans (q3 q (by omega))
            have hm4 : MI S (u2 v3 0 9 (zI t)) := hm.frame (fun p hp => q4 p (by omega))
            generalize u2 v3 0 9 (zI t) = v4 at hc4 ea hm4 q4
            obtain ⟨v5, e5, f5, g5⟩ := startM v4 w
            have hm5 : MI S v5 := hm4.fr (fun p hp => f5 p (by unfold pM at hp; omega)) (by rw [f5 100 (by decide)]; exact ⟨rfl, rfl, rfl, rfl, rfl⟩)
            obtain ⟨v6, e6, m6, f6, h6⟩ := (M_rd (w := w) hs hk f (nI a) hl hN N 0 FU S.1 v5 (by unfold FU; omega) (by omega) (hm5.2.2.2.2.2.1 k hk) hm5.1 hs.1).2 c ρ' t hr
            have q6 : ∀ q, q ≠ 101 → q ≠ 119 → v6 q = v4 q := fun q a b => (f6 q a).trans (f5 q b)
            have hm6 : MI (ρ', S.2) v6 := MI_rt hm4 m6 (fun q hq => q6 q (by omega) (by omega)) (by rw [q6 100 (by decide) (by decide)]; exact ⟨rfl, rfl, rfl⟩) (fun j hj => by rw [h6 j hj, f5 101 (by decide)])
            refine ⟨_, v4, w, u2 v6 100 38 (zI t), w, (ρ', S.2.1, upX (upX S.2.2 7 0 t) 8 0 t), ea, e5.trans e6, ?_, ?_, ?_⟩
            · exact SOK_torn (S := (ρ', S.2)) (SOK_u hs k2 s2)
            · exact CI_torn8 (S := (ρ', S.2.1, upX S.2.2 7 0 t)) (hc4.frame (fun p hp => (u2_o (by omega)).trans (q6 p (by omega) (by omega))))
            · exact MI_torn (S := (ρ', S.2.1, upX S.2.2 7 0 t)) (MI_torn7 (S := (ρ', S.2)) hm6)
        · rw [if_neg hl] at start
          have h4 : ¬ S.2.2 4 k = -4 := fun q => hl (Or.inl q)
          have hy4 : ¬ zI (S.2.2 4 k) = nI a := fun q => hl (Or.inr q)
          obtain ⟨v3, e3, d3⟩ := C_copyFrom rl3 rl20 (by decide) v1 w
          have r3 := CR_copy r1 hs.1 d3
          have q3 : ∀ q, q < 3 ∨ 37 ≤ q → v3 q = v q := fun q hq => (d3.1 q (by omega)).trans (d1.1 q (by omega))
          have hc3 : CI S v3 := CI_rt hc r3 (fun q hq => q3 q (by omega))
          have hc4 := CI_torn (t := 3) hc3
          have ea : f_Q_read 0 (nI k) (nI a) f (nI N) (bh v w) = some (0, bh (u2 v3 0 9 3) w) := by
            rw [start]
            show f_Q_read_64b (f_Q_read_64 599) 0 f (nI N) (92 + 2 * k) 0 3 0 (bh v1 w) = _
            unfold f_Q_read_64b
            have fin : f_Q_read_141 0 0 3 (bh v1 w) = some (0, bh (u2 v3 0 9 3) w) := by
              simp only [f_Q_read_141, hQ v1 w, hRl rl3 v1 w, bd1_s]
              rw [e3]
              simp only [hQ v3 w, bd1_s]
            rw [if_neg (show ¬ (3 : Int32) = 0 by decide), fin]
            split <;> rfl
          have q4 : ∀ q, 100 ≤ q → u2 v3 0 9 (zI 3) q = v q := fun q hq => (u2_o (by omega)).trans (q3 q (by omega))
          have hm4 : MI S (u2 v3 0 9 (zI 3)) := hm.frame (fun p hp => q4 p (by omega))
          have ea : f_Q_read 0 (nI k) (nI a) f (nI N) (bh v w) = some (0, bh (u2 v3 0 9 (zI 3)) w) := ea
          generalize u2 v3 0 9 (zI 3) = v4 at hc4 ea hm4 q4
          obtain ⟨v5, e5, f5, g5⟩ := startM v4 w
          have hm5 : MI S v5 := hm4.fr (fun p hp => f5 p (by unfold pM at hp; omega)) (by rw [f5 100 (by decide)]; exact ⟨rfl, rfl, rfl, rfl, rfl⟩)
          have em : ∃ t : Int, f_M_read_36 FU 100 (nI k) (nI a) f (nI N) 0 0 0 (bh v5 w) = some (0, bh (u2 v5 100 38 (zI t)) w) := by
            show ∃ t : Int, f_M_read_36b (f_M_read_36 (598 + 1)) 100 (nI k) (nI a) f (nI N) 0 0 (nI 0) (bh v5 w) = _
            unfold f_M_read_36b
            by_cases h0 : nI N ≤ nI 0
            · rw [if_pos h0]
              refine ⟨0, ?_⟩
              simp only [f_M_read_198, hM v5 w, bd1_s]
              rfl
            · rw [if_neg h0, if_pos rfl, M_inn hs hk (hm5.2.2.2.2.2.1 k hk) _ _ _ _ (by omega)]
              have ef : flt S k (nI a) (f.toInt + 2 * ((0 : Nat) : Int)) = 3 := by unfold flt; rw [if_neg h4, if_neg hy4]
              refine ⟨3, ?_⟩
              rw [ef]
              unfold f_M_read_138 f_M_read_192
              rw [if_neg (show ¬ (3 : Int32) = 0 by decide)]
              show f_M_read_36b (f_M_read_36 598) 100 (nI k) (nI a) f (nI N) 3 0 (nI 0 + 1) (bh v5 w) = _
              unfold f_M_read_36b f_M_read_198
              simp only [hM v5 w, bd1_s]
              rw [if_neg (show ¬ (3 : Int32) = 0 by decide)]
              split <;> rfl
          obtain ⟨t, em⟩ := em
          refine ⟨_, v4, w, u2 v5 100 38 (zI t), w, (S.1, S.2.1, upX (upX S.2.2 7 0 3) 8 0 t), ea, e5.trans em, ?_, ?_, ?_⟩
          · exact SOK_torn hs
          · exact CI_torn8 (S := (S.1, S.2.1, upX S.2.2 7 0 3)) (hc4.frame (fun p hp => (u2_o (by omega)).trans (f5 p (by omega))))
          · exact MI_torn (S := (S.1, S.2.1, upX S.2.2 7 0 3)) (MI_torn7 (S := S) hm5)
      · refine Eqv.query (r := -1) hs hc hm ?_ ?_
        · simp only [f_Q_read, f_Q_read_0, f_Q_read_29, Q_isWithin, bd2_s]
          rw [show (3 : Int32).toInt = (nI 3).toInt from rfl, show (2 : Int32).toInt = (nI 2).toInt from rfl, show (20 : Int32).toInt = (nI 20).toInt from rfl, if_pos ((in_rng (by decide)).mpr hx), if_neg (by decide), if_pos ((in_rng (by decide)).mpr hy), if_neg (by decide), if_neg (fun q => hn ((in_rng (by decide)).mp q)), if_pos rfl]
        · simp only [f_M_read, f_M_read_0, f_M_read_21, M_isSheet, M_in, bd2_s]
          rw [if_pos (And.intro hx hy), if_neg (by decide), show (20 : Int64) = (nI 20).toInt64 from rfl, if_neg (fun q => hn ((in_rngL (by decide)).mp q)), if_pos rfl]
    · refine Eqv.query (r := -1) hs hc hm ?_ ?_
      · simp only [f_Q_read, f_Q_read_0, f_Q_read_29, Q_isWithin, bd2_s]
        rw [show (3 : Int32).toInt = (nI 3).toInt from rfl, show (2 : Int32).toInt = (nI 2).toInt from rfl, if_pos ((in_rng (by decide)).mpr hx), if_neg (by decide), if_neg (fun q => hy ((in_rng (by decide)).mp q)), if_pos rfl]
      · simp only [f_M_read, f_M_read_0, f_M_read_21, M_isSheet, bd2_s]
        rw [if_neg (show ¬ ((0 ≤ x.toInt ∧ x.toInt < ((3 + 1 : Nat) : Int)) ∧ (0 ≤ y.toInt ∧ y.toInt < ((2 + 1 : Nat) : Int))) from fun q => hy q.2), if_pos rfl]
  · refine Eqv.query (r := -1) hs hc hm ?_ ?_
    · simp only [f_Q_read, f_Q_read_0, f_Q_read_29, Q_isWithin, bd2_s]
      rw [show (3 : Int32).toInt = (nI 3).toInt from rfl, if_neg (fun q => hx ((in_rng (by decide)).mp q)), if_pos rfl]
    · simp only [f_M_read, f_M_read_0, f_M_read_21, M_isSheet, bd2_s]
      rw [if_neg (show ¬ ((0 ≤ x.toInt ∧ x.toInt < ((3 + 1 : Nat) : Int)) ∧ (0 ≤ y.toInt ∧ y.toInt < ((2 + 1 : Nat) : Int))) from fun q => hx q.1), if_pos rfl]
end
