section
variable {S : Sg} {v v1 : Nat → Nat → Int32} {w : Nat → Nat → Int64} {k : Nat}
theorem lane_I (hs : SOK S) (hk : k < 4) {c : Int} (hc : c = -4 ∨ c = 0 ∨ c = 1) : zI (S.2.2 4 k) = zI c ↔ S.2.2 4 k = c := by
  constructor
  · intro h
    have := congrArg Int32.toInt h
    have b := (hs.2.2.2.2.2 k hk).1
    rw [zI_t (by omega) (by omega), zI_t (by omega) (by omega)] at this
    exact this
  · intro h; rw [h]
theorem size_4 (hs : SOK S) (hk : k < 4) (h : S.2.2 4 k ≠ -4) : ¬ zI (S.2.2 5 k) = -4 := by
  intro z
  have := congrArg Int32.toInt z
  have b := (hs.2.2.2.2.2 k hk).2
  rw [zI_t (by omega) (by omega), show (-4 : Int32).toInt = -4 from rfl] at this
  omega
theorem C_faultAt (hs : SOK S) (hc : CI S v) (hk : k < 4) (t : Int64) : f_Sheet_faultAt (92 + 2 * k) t (bh v w) = some (if S.2.2 4 k = -4 then 1 else if 0 ≤ t.toInt ∧ t.toInt < S.2.2 5 k then 0 else 2, bh v w) := by
  have b := (hs.2.2.2.2.2 k hk).2
  simp only [f_Sheet_faultAt, f_Sheet_faultAt_0, f_Sheet_faultAt_27, hSh hk v w, bd1_s, cmp_lt]
  rw [(hc.2.2.2.2.2.1 k hk).1]
  by_cases h : S.2.2 4 k = -4
  · rw [if_pos h, if_pos h, if_pos (show zI (-4) = -4 from rfl)]
  · rw [if_neg h, if_neg h, if_neg (size_4 hs hk h)]
    by_cases h1 : t < 0
    · rw [if_pos h1, if_neg (fun z => by rw [Int64.lt_iff_toInt_lt] at h1; have : (0 : Int64).toInt = 0 := rfl; omega)]
    · rw [if_neg h1]
      rw [Int64.lt_iff_toInt_lt, show (0 : Int64).toInt = 0 from rfl] at h1
      by_cases h2 : t < (zI (S.2.2 5 k)).toInt64
      · rw [if_pos h2]
        rw [Int64.lt_iff_toInt_lt, Int32.toInt_toInt64, zI_t (by omega) (by omega)] at h2
        rw [if_pos (by omega)]
      · rw [if_neg h2]
        rw [Int64.lt_iff_toInt_lt, Int32.toInt_toInt64, zI_t (by omega) (by omega)] at h2
        rw [if_neg (by omega)]
theorem zI_toInt (x : Int32) : zI x.toInt = x := Int32.ofInt_toInt x
theorem CI_cell {i : Nat} {x : Int} (hc : CI S v) (hk : k < 4) (hi : i < 40) : CI (S.1, S.2.1, upX S.2.2 6 (40 * k + i) x) (u2 v (93 + 2 * k) i (zI x)) := by
  obtain ⟨h1, h2, h3, h4, h5, h6, h7⟩ := hc
  have hq : ∀ q, q ≠ 93 + 2 * k → u2 v (93 + 2 * k) i (zI x) q = v q := fun q hq => u2_o hq
  refine ⟨h1.frame (fun p _ _ => hq p (by omega)), fun j hj => ?_, ?_, ?_, ?_, fun j hj => ?_, ?_⟩
  · rw [hq 38 (by omega)]
    exact ⟨(h2 j hj).1, fun z => ((h2 j hj).2 z).frame (fun p _ _ => hq p (by omega))⟩
  · rw [hq 1 (by omega)]; exact h3
  · rw [hq 2 (by omega)]; exact h4
  · rw [hq 1 (by omega)]; exact h5
  · rw [hq (92 + 2 * j) (by omega)]
    refine ⟨(h6 j hj).1, (h6 j hj).2.1, fun m hm => ?_⟩
    show _ = zI (upX S.2.2 6 (40 * k + i) x 6 (40 * j + m))
    by_cases e : j = k
    · subst e
      by_cases e2 : m = i
      · subst e2; rw [u2_at, upX_at]
      · rw [u2_n e2, upX_n (by omega)]; exact (h6 j hj).2.2 m hm
    · rw [hq (93 + 2 * j) (by omega), upX_n (by omega)]; exact (h6 j hj).2.2 m hm
  · rw [hq 0 (by omega), hq 43 (by omega)]; exact h7
theorem MI_cell {i : Nat} {x : Int} (hm : MI S v) (hk : k < 4) (hi : i < 40) : MI (S.1, S.2.1, upX S.2.2 6 (40 * k + i) x) (u2 v 125 (40 * k + i) (zI x)) := by
  obtain ⟨⟨h1, h1b⟩, h2, h3, h4, h5, h6, h7⟩ := hm
  have hq : ∀ q, q ≠ 125 → u2 v 125 (40 * k + i) (zI x) q = v q := fun q hq => u2_o hq
  refine ⟨⟨?_, h1b.frame (hq 101 (by omega))⟩, fun j hj => ?_, ?_, ?_, ?_, fun j hj => ?_, ?_⟩
  · unfold MF
    rw [hq 100 (by omega), hq 103 (by omega), hq 104 (by omega), hq 105 (by omega), hq 106 (by omega), hq 107 (by omega)]
    exact h1
  · rw [hq 102 (by omega)]
    exact ⟨(h2 j hj).1, fun z => ((h2 j hj).2 z).frame (hq 101 (by omega))⟩
  · rw [hq 100 (by omega)]; exact h3
  · rw [hq 114 (by omega)]; exact h4
  · rw [hq 100 (by omega)]; exact h5
  · rw [hq 123 (by omega), hq 124 (by omega)]
    refine ⟨(h6 j hj).1, (h6 j hj).2.1, fun m hm => ?_⟩
    show _ = zI (upX S.2.2 6 (40 * k + i) x 6 (40 * j + m))
    by_cases e : 40 * j + m = 40 * k + i
    · rw [e, u2_at, upX_at]
    · rw [u2_n e, upX_n e]; exact (h6 j hj).2.2 m hm
  · rw [hq 100 (by omega)]; exact h7
theorem in_lay {y : Int32} {m : Int} (h1 : -1 ≤ m) (h2 : m ≤ 40) : (0 : Int64) ≤ y.toInt64 ∧ y.toInt64 ≤ (zI m).toInt64 ↔ 0 ≤ y.toInt ∧ y.toInt ≤ m := by
  rw [show (0 : Int64) = (0 : Int32).toInt64 from rfl, i64_le, i64_le, zI_t (by omega) (by omega), show (0 : Int32).toInt = 0 from rfl]
def cst (l : Int) (z : Int32) : Int32 := if l = 0 then z.toInt8.toInt32 else if l = 1 then z.toInt16.toInt32 else z
theorem E_lay (x y z : Int32) (hs : SOK S) (hc : CI S v) (hm : MI S v) : Eqv S v w (f_Q_lay 0 x y z) (f_M_lay 100 x y z) := by
  have hy0 : 0 ≤ (0 : Int32).toInt ∧ (0 : Int32).toInt < ((2 + 1 : Nat) : Int) := by decide
  by_cases hx : 0 ≤ x.toInt ∧ x.toInt < ((3 + 1 : Nat) : Int)
  · obtain ⟨k, hk, rfl⟩ := ix (by omega) hx
    have hk : k < 4 := hk
    have b := (hs.2.2.2.2.2 k hk).2
    have l4 : zI (S.2.2 4 k) = (-4 : Int32) ↔ S.2.2 4 k = -4 := lane_I hs hk (c := -4) (Or.inl rfl)
    have l0 : zI (S.2.2 4 k) = (0 : Int32) ↔ S.2.2 4 k = 0 := lane_I hs hk (c := 0) (Or.inr (Or.inl rfl))
    have l1 : zI (S.2.2 4 k) = (1 : Int32) ↔ S.2.2 4 k = 1 := lane_I hs hk (c := 1) (Or.inr (Or.inr rfl))
    have cin : f_Q_isWithin (nI k) 0 3 (bh v w) = some (1, bh v w) := by rw [Q_isWithin, show (3 : Int32) = nI 3 from rfl, if_pos ((in_rng (by decide)).mpr hx)]
    by_cases h4 : S.2.2 4 k = -4
    · refine Eqv.query (r := -11) hs hc hm ?_ ?_
      · simp only [f_Q_lay, f_Q_lay_0]
        rw [cin, bd2_s, if_neg (by decide)]
        simp only [hQ v w, hSh hk v w, bd1_s]
        rw [C_faultAt hs hc hk, bd2_s, if_pos h4, if_neg (by decide)]
        rfl
      · simp only [f_M_lay, f_M_lay_0, M_isSheet, bd2_s]
        rw [if_pos (And.intro hx hy0), if_neg (by decide)]
        simp only [hM v w, bd1_s]
        rw [rd_nI hk (by decide), bd1_s, (hm.2.2.2.2.2.1 k hk).1, if_pos (l4.mpr h4)]
    · have h4b : ¬ zI (S.2.2 4 k) = -4 := fun q => h4 (l4.mp q)
      by_cases hy : 0 ≤ y.toInt ∧ y.toInt < S.2.2 5 k
      · obtain ⟨i, hi, rfl⟩ := ix (n := 40) (x := y) (by omega) (by omega)
        have eI : zI (S.2.2 5 k) - 1 = zI (S.2.2 5 k - 1) := zI_sub _ 1
        refine Eqv.change (r := 1) (S' := (S.1, S.2.1, upX S.2.2 6 (40 * k + i) (cst (S.2.2 4 k) z).toInt)) (v1 := u2 v (93 + 2 * k) i (zI (cst (S.2.2 4 k) z).toInt)) (w1 := w) hm ?_ (fun q hq => u2_o (by omega)) ?_ (CI_cell hc hk hi) (fun w1 hm1 => ?_)
        · simp only [f_Q_lay, f_Q_lay_0]
          rw [cin, bd2_s, if_neg (by decide)]
          simp only [hQ v w, hSh hk v w, bd1_s]
          rw [C_faultAt hs hc hk, bd2_s, if_neg h4, Int32.toInt_toInt64, if_pos hy, if_pos rfl]
          simp only [hQ v w, hSh hk v w, bd1_s, f_Sheet_put, f_Sheet_put_0, f_Sheet_put_31]
          rw [(hc.2.2.2.2.2.1 k hk).2.1 h4, zI_toInt]
          simp only [wr_nI hi (show 40 < 2 ^ 31 by decide), bd1_s]
          unfold cst
          by_cases e0 : S.2.2 4 k = 0
          · rw [if_pos (l0.mpr e0), if_pos e0]; rfl
          · rw [if_neg (fun q => e0 (l0.mp q)), if_neg e0]
            by_cases e1 : S.2.2 4 k = 1
            · rw [if_pos (l1.mpr e1), if_pos e1]; rfl
            · rw [if_neg (fun q => e1 (l1.mp q)), if_neg e1]; rfl
        · exact hs
        · refine ⟨u2 (u2 v (93 + 2 * k) i (zI (cst (S.2.2 4 k) z).toInt)) 125 (40 * k + i) (zI (cst (S.2.2 4 k) z).toInt), w1, ?_, fun q hq => u2_o (by omega), MI_cell hm1 hk hi⟩
          generalize u2 v (93 + 2 * k) i (zI (cst (S.2.2 4 k) z).toInt) = v1 at hm1
          simp only [f_M_lay, f_M_lay_0, f_M_lay_85, M_isSheet, bd2_s]
          rw [if_pos (And.intro hx hy0), if_neg (by decide)]
          simp only [hM v1 w1, bd1_s]
          rw [rd_nI hk (by decide), bd1_s, (hm1.2.2.2.2.2.1 k hk).1, if_neg h4b, rd_nI hk (by decide), bd1_s, (hm1.2.2.2.2.2.1 k hk).2.1, eI, M_in, bd2_s, if_pos ((in_lay (by omega) (by omega)).mpr (by omega)), if_neg (by decide)]
          simp only [hM v1 w1, bd1_s]
          rw [show ((40 : Int32) * nI k) + nI i = nI (40 * k + i) by rw [show (40 : Int32) = nI 40 from rfl, pk_mul, nI_add]]
          rw [rd_nI hk (by decide), bd1_s, (hm1.2.2.2.2.2.1 k hk).1, zI_toInt]
          simp only [wr_nI (show 40 * k + i < 160 by omega) (show 160 < 2 ^ 31 by decide), bd1_s]
          unfold cst
          by_cases e0 : S.2.2 4 k = 0
          · rw [if_pos (l0.mpr e0), if_pos e0]
          · rw [if_neg (fun q => e0 (l0.mp q)), if_neg e0]
            by_cases e1 : S.2.2 4 k = 1
            · rw [if_pos (l1.mpr e1), if_pos e1]
            · rw [if_neg (fun q => e1 (l1.mp q)), if_neg e1]
      · have eI : zI (S.2.2 5 k) - 1 = zI (S.2.2 5 k - 1) := zI_sub _ 1
        have nin : ¬ ((0 : Int64) ≤ y.toInt64 ∧ y.toInt64 ≤ (zI (S.2.2 5 k - 1)).toInt64) := fun q => by have := (in_lay (by omega) (by omega)).mp q; omega
        refine Eqv.query (r := -12) hs hc hm ?_ ?_
        · simp only [f_Q_lay, f_Q_lay_0]
          rw [cin, bd2_s, if_neg (by decide)]
          simp only [hQ v w, hSh hk v w, bd1_s]
          rw [C_faultAt hs hc hk, bd2_s, if_neg h4, Int32.toInt_toInt64, if_neg hy, if_neg (by decide)]
          rfl
        · simp only [f_M_lay, f_M_lay_0, M_isSheet, bd2_s]
          rw [if_pos (And.intro hx hy0), if_neg (by decide)]
          simp only [hM v w, bd1_s]
          rw [rd_nI hk (by decide), bd1_s, (hm.2.2.2.2.2.1 k hk).1, if_neg h4b, rd_nI hk (by decide), bd1_s, (hm.2.2.2.2.2.1 k hk).2.1, eI, M_in, bd2_s, if_neg nin, if_pos rfl]
  · refine Eqv.query (r := -1) hs hc hm ?_ ?_
    · simp only [f_Q_lay, f_Q_lay_0, Q_isWithin, bd2_s]
      rw [show (3 : Int32) = nI 3 from rfl, if_neg (fun q => hx ((in_rng (by decide)).mp q)), if_pos rfl]
    · simp only [f_M_lay, f_M_lay_0, M_isSheet, bd2_s]
      rw [if_neg (show ¬ ((0 ≤ x.toInt ∧ x.toInt < ((3 + 1 : Nat) : Int)) ∧ (0 ≤ (0 : Int32).toInt ∧ (0 : Int32).toInt < ((2 + 1 : Nat) : Int))) from fun q => hx q.1), if_pos rfl]
end
