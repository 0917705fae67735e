/-! sheets -/
theorem hSh {k : Nat} (hk : k < 4) (v : Nat → Nat → Int32) (w : Nat → Nat → Int64) : kC (bh v w) (92 + 2 * k) 5 = some () ∧ gI (bh v w) (92 + 2 * k) 5 0 = some (v (92 + 2 * k) 0) ∧ (∀ x, pV (bh v w) (92 + 2 * k) 5 0 (.int x) = some (bh (u2 v (92 + 2 * k) 0 x) w)) ∧ gI (bh v w) (92 + 2 * k) 5 1 = some (v (92 + 2 * k) 1) ∧ (∀ x, pV (bh v w) (92 + 2 * k) 5 1 (.int x) = some (bh (u2 v (92 + 2 * k) 1 x) w)) ∧ gR (bh v w) (92 + 2 * k) 5 2 = some (93 + 2 * k) ∧ aN (bh v w) 0 (93 + 2 * k) = some (nI 40) ∧ (∀ i, aI (bh v w) 0 (93 + 2 * k) i = rd (v (93 + 2 * k)) 40 i) ∧ (∀ i x, sI (bh v w) 0 (93 + 2 * k) i x = wr v w (93 + 2 * k) 40 i x) ∧ aR (bh v w) 5 39 (nI k) = some (92 + 2 * k) := by
  rcases (show k = 0 ∨ k = 1 ∨ k = 2 ∨ k = 3 by omega) with rfl | rfl | rfl | rfl <;> exact ⟨rfl, rfl, (fun _ => pV_bh rfl rfl), rfl, (fun _ => pV_bh rfl rfl), rfl, rfl, aI_bh rfl, sI_bh rfl, rfl⟩
theorem M_isSheet (x y : Int32) (h : mH) : f_M_isSheet x y h = some (if (0 ≤ x.toInt ∧ x.toInt < ((3 + 1 : Nat) : Int)) ∧ (0 ≤ y.toInt ∧ y.toInt < ((2 + 1 : Nat) : Int)) then 1 else 0, h) := by
  simp only [f_M_isSheet, f_M_isSheet_0, f_M_isSheet_28, M_in, bd2_s]
  rw [show (3 : Int64) = (nI 3).toInt64 from rfl, show (2 : Int64) = (nI 2).toInt64 from rfl]
  by_cases hx : 0 ≤ x.toInt ∧ x.toInt < ((3 + 1 : Nat) : Int)
  · rw [if_pos ((in_rngL (by decide)).mpr hx), if_neg (by decide)]
    by_cases hy : 0 ≤ y.toInt ∧ y.toInt < ((2 + 1 : Nat) : Int)
    · rw [if_pos ((in_rngL (by decide)).mpr hy), if_neg (by decide), if_pos ⟨hx, hy⟩]
    · rw [if_neg (fun z => hy ((in_rngL (by decide)).mp z)), if_pos rfl, if_neg (fun z => hy z.2)]
  · rw [if_neg (fun z => hx ((in_rngL (by decide)).mp z)), if_pos rfl, if_neg (fun z => hx z.1)]
/-- the rest with a new sheet k -/
def xsh (X : Nat → Nat → Int) (k : Nat) (lane n : Int) : Nat → Nat → Int := va_up (upX (upX X 4 k lane) 5 k n) 6 (fun i => if 40 * k ≤ i ∧ i < 40 * k + 40 then 0 else X 6 i)
section
variable {S : Sg} {v v1 : Nat → Nat → Int32} {w : Nat → Nat → Int64} {k : Nat}
theorem SOK_sh {a n : Nat} (hs : SOK S) (ha : a ≤ 2) (hn : n ≤ 40) : SOK (S.1, S.2.1, xsh S.2.2 k a n) := by
  obtain ⟨h1, h2, h3, h4, h5, h6⟩ := hs
  refine ⟨h1, h2, h3, h4, h5, fun j hj => ?_⟩
  show (va_up (S.2.2 4) k (a : Int) j = -4 ∨ 0 ≤ va_up (S.2.2 4) k (a : Int) j ∧ va_up (S.2.2 4) k (a : Int) j ≤ 2) ∧ 0 ≤ va_up (S.2.2 5) k (n : Int) j ∧ va_up (S.2.2 5) k (n : Int) j ≤ 40
  by_cases e : j = k
  · subst e; rw [up_at, up_at]; omega
  · rw [up_ne e, up_ne e]; exact h6 j hj
theorem CI_sh {a n : Nat} (hc : CI S v) (hk : k < 4) (hq : ∀ q, q ≠ 92 + 2 * k → q ≠ 93 + 2 * k → v1 q = v q) (hn : v1 (92 + 2 * k) 0 = nI n) (ha : v1 (92 + 2 * k) 1 = nI a) (hz : ∀ i, i < 40 → v1 (93 + 2 * k) i = 0) : CI (S.1, S.2.1, xsh S.2.2 k a n) v1 := by
  obtain ⟨h1, h2, h3, h4, h5, h6, h7⟩ := hc
  refine ⟨h1.frame (fun p _ _ => hq p (by omega) (by omega)), fun j hj => ?_, ?_, ?_, ?_, fun j hj => ?_, ?_⟩
  · rw [hq 38 (by omega) (by omega)]
    exact ⟨(h2 j hj).1, fun z => ((h2 j hj).2 z).frame (fun p _ _ => hq p (by omega) (by omega))⟩
  · rw [hq 1 (by omega) (by omega)]; exact h3
  · rw [hq 2 (by omega) (by omega)]; exact h4
  · rw [hq 1 (by omega) (by omega)]; exact h5
  · show v1 (92 + 2 * j) 0 = zI (if va_up (S.2.2 4) k (a : Int) j = -4 then -4 else va_up (S.2.2 5) k (n : Int) j) ∧ (va_up (S.2.2 4) k (a : Int) j ≠ -4 → v1 (92 + 2 * j) 1 = zI (va_up (S.2.2 4) k (a : Int) j)) ∧ ∀ i, i < 40 → v1 (93 + 2 * j) i = zI (if 40 * k ≤ 40 * j + i ∧ 40 * j + i < 40 * k + 40 then 0 else S.2.2 6 (40 * j + i))
    by_cases e : j = k
    · subst e
      rw [up_at, up_at, if_neg (by omega), zI_n, zI_n]
      exact ⟨hn, fun _ => ha, fun i hi => by rw [if_pos (by omega)]; exact hz i hi⟩
    · rw [up_ne e, up_ne e, hq (92 + 2 * j) (by omega) (by omega), hq (93 + 2 * j) (by omega) (by omega)]
      exact ⟨(h6 j hj).1, (h6 j hj).2.1, fun i hi => by rw [if_neg (by omega)]; exact (h6 j hj).2.2 i hi⟩
  · rw [hq 0 (by omega) (by omega), hq 43 (by omega) (by omega)]; exact h7
theorem MI_sh {a n : Nat} (hm : MI S v) (hk : k < 4) (hq : ∀ q, q ≠ 123 → q ≠ 124 → q ≠ 125 → v1 q = v q) (ha : ∀ j, v1 123 j = if j = k then nI a else v 123 j) (hn : ∀ j, v1 124 j = if j = k then nI n else v 124 j) (hz : ∀ i, v1 125 i = if 40 * k ≤ i ∧ i < 40 * k + 40 then 0 else v 125 i) : MI (S.1, S.2.1, xsh S.2.2 k a n) v1 := by
  obtain ⟨⟨h1, h1b⟩, h2, h3, h4, h5, h6, h7⟩ := hm
  refine ⟨⟨?_, h1b.frame (hq 101 (by omega) (by omega) (by omega))⟩, fun j hj => ?_, ?_, ?_, ?_, fun j hj => ?_, ?_⟩
  · unfold MF
    rw [hq 100 (by omega) (by omega) (by omega), hq 103 (by omega) (by omega) (by omega), hq 104 (by omega) (by omega) (by omega), hq 105 (by omega) (by omega) (by omega), hq 106 (by omega) (by omega) (by omega), hq 107 (by omega) (by omega) (by omega)]
    exact h1
  · rw [hq 102 (by omega) (by omega) (by omega)]
    exact ⟨(h2 j hj).1, fun z => ((h2 j hj).2 z).frame (hq 101 (by omega) (by omega) (by omega))⟩
  · rw [hq 100 (by omega) (by omega) (by omega)]; exact h3
  · rw [hq 114 (by omega) (by omega) (by omega)]; exact h4
  · rw [hq 100 (by omega) (by omega) (by omega)]; exact h5
  · show v1 123 j = zI (va_up (S.2.2 4) k (a : Int) j) ∧ v1 124 j = zI (va_up (S.2.2 5) k (n : Int) j) ∧ ∀ i, i < 40 → v1 125 (40 * j + i) = zI (if 40 * k ≤ 40 * j + i ∧ 40 * j + i < 40 * k + 40 then 0 else S.2.2 6 (40 * j + i))
    rw [ha, hn]
    by_cases e : j = k
    · subst e
      rw [up_at, up_at, if_pos rfl, if_pos rfl, zI_n, zI_n]
      exact ⟨rfl, rfl, fun i hi => by rw [hz, if_pos (by omega), if_pos (by omega)]; rfl⟩
    · rw [up_ne e, up_ne e, if_neg e, if_neg e]
      exact ⟨(h6 j hj).1, (h6 j hj).2.1, fun i hi => by rw [hz, if_neg (by omega), if_neg (by omega)]; exact (h6 j hj).2.2 i hi⟩
  · rw [hq 100 (by omega) (by omega) (by omega)]; exact h7
theorem M_sheet_z (hk : k < 4) (v : Nat → Nat → Int32) (w : Nat → Nat → Int64) : ∃ v1, f_M_sheet_40 FU 100 (nI k) 0 (bh v w) = some (1, bh v1 w) ∧ (∀ q, q ≠ 125 → v1 q = v q) ∧ ∀ i, v1 125 i = if 40 * k ≤ i ∧ i < 40 * k + 40 then 0 else v 125 i := by
  have key : ∀ (m fuel j : Nat) (v : Nat → Nat → Int32), m < fuel → j + m = 40 → ∃ v1, f_M_sheet_40 fuel 100 (nI k) (nI j) (bh v w) = some (1, bh v1 w) ∧ (∀ q, q ≠ 125 → v1 q = v q) ∧ ∀ i, v1 125 i = if 40 * k + j ≤ i ∧ i < 40 * k + 40 then 0 else v 125 i := by
    intro m
    induction m with
    | zero =>
      intro fuel j v hf hj
      obtain ⟨n, rfl⟩ : ∃ n, fuel = n + 1 := ⟨fuel - 1, by omega⟩
      simp only [f_M_sheet_40, f_M_sheet_40b]
      rw [show (40 : Int32) = nI 40 from rfl, if_pos ((nI_leI (by omega) (by omega)).mpr (by omega))]
      exact ⟨v, rfl, fun _ _ => rfl, fun i => by rw [if_neg (by omega)]⟩
    | succ m ih =>
      intro fuel j v hf hj
      obtain ⟨n, rfl⟩ : ∃ n, fuel = n + 1 := ⟨fuel - 1, by omega⟩
      simp only [f_M_sheet_40, f_M_sheet_40b, hM v w, bd1_s]
      rw [show (40 : Int32) = nI 40 from rfl, if_neg (fun z => by have := (nI_leI (by omega) (by omega)).mp z; omega), pk_mul, nI_add, wr_nI (by omega) (by decide), bd1_s, nI_1]
      obtain ⟨v1, e1, f1, f2⟩ := ih n (j + 1) (u2 v 125 (40 * k + j) 0) (by omega) (by omega)
      refine ⟨v1, e1, fun q hq => (f1 q hq).trans (u2_o hq), fun i => ?_⟩
      rw [f2]
      by_cases e : i = 40 * k + j
      · subst e; rw [if_neg (by omega), if_pos (by omega), u2_at]
      · by_cases z : 40 * k + j ≤ i ∧ i < 40 * k + 40
        · rw [if_pos (by omega), if_pos z]
        · rw [if_neg (by omega), if_neg z, u2_n e]
  exact key 40 FU 0 v (by unfold FU; omega) (by omega)
theorem E_sheet (x y z : Int32) (hs : SOK S) (hc : CI S v) (hm : MI S v) : Eqv S v w (f_Q_sheet 0 x y z) (f_M_sheet 100 x y z) := by
  have i40 : ∀ z : Int32, z ≤ 40 ↔ z.toInt ≤ 40 := fun z => by rw [Int32.le_iff_toInt_le]; rfl
  have i0 : ∀ z : Int32, 0 ≤ z ↔ 0 ≤ z.toInt := fun z => by rw [Int32.le_iff_toInt_le]; rfl
  by_cases hx : 0 ≤ x.toInt ∧ x.toInt < ((3 + 1 : Nat) : Int)
  · by_cases hy : 0 ≤ y.toInt ∧ y.toInt < ((2 + 1 : Nat) : Int)
    · by_cases h40 : z ≤ 40
      · by_cases h0 : 0 ≤ z
        · obtain ⟨k, hk, rfl⟩ := ix (by omega) hx
          obtain ⟨a, ha, rfl⟩ := ix (by omega) hy
          obtain ⟨n, hn, rfl⟩ := ix (n := 41) (x := z) (by omega) (by have := (i40 z).mp h40; have := (i0 z).mp h0; omega)
          obtain ⟨v1, e1, f1, f2, f3⟩ := fill_I (q := 93 + 2 * k) (n := 40) (x := 0) (by omega) (fun v w => (hSh hk v w).2.2.2.2.2.2.1) (fun v w => (hSh hk v w).2.2.2.2.2.2.2.2.1) (u2 (u2 v (92 + 2 * k) 1 (nI a)) (92 + 2 * k) 0 (nI n)) w
          refine Eqv.change (r := 1) (S' := (S.1, S.2.1, xsh S.2.2 k a n)) (v1 := v1) (w1 := w) hm ?_ (fun q hq => ?_) (SOK_sh hs (by omega) (by omega)) (CI_sh hc hk (fun q h1 h2 => ?_) ?_ ?_ f2) (fun w1 hm1 => ?_)
          · simp only [f_Q_sheet, f_Q_sheet_0, Q_isWithin, bd2_s]
            rw [show (3 : Int32) = nI 3 from rfl, if_pos ((in_rng (by decide)).mpr hx), if_neg (by decide), show (2 : Int32) = nI 2 from rfl, if_pos ((in_rng (by decide)).mpr hy), if_neg (by decide), if_pos h40, if_pos h0]
            simp only [hQ v w, hSh hk v w, bd1_s, f_Sheet_renew, f_Sheet_renew_0]
            simp only [hSh hk (u2 v (92 + 2 * k) 1 (nI a)) w, bd1_s]
            simp only [hSh hk (u2 (u2 v (92 + 2 * k) 1 (nI a)) (92 + 2 * k) 0 (nI n)) w, bd1_s]
            rw [e1]
            rfl
          · rw [f1 q (by omega), u2_o (by omega), u2_o (by omega)]
          · rw [f1 q h2, u2_o h1, u2_o h1]
          · rw [f1 _ (by omega), u2_at]
          · rw [f1 _ (by omega), u2_n (by decide), u2_at]
          · obtain ⟨v2, e2, g1, g2⟩ := M_sheet_z hk (u2 (u2 v1 123 k (nI a)) 124 k (nI n)) w1
            refine ⟨v2, w1, ?_, fun q hq => ?_, MI_sh hm1 hk (fun q h1 h2 h3 => ?_) (fun j => ?_) (fun j => ?_) (fun i => ?_)⟩
            · simp only [f_M_sheet, f_M_sheet_0, M_isSheet, bd2_s]
              rw [if_pos (And.intro hx hy), if_neg (by decide), if_pos h40, if_pos h0]
              simp only [hM v1 w1, bd1_s]
              rw [wr_nI (by omega) (by decide), bd1_s]
              simp only [hM (u2 v1 123 k (nI a)) w1, bd1_s]
              rw [wr_nI (by omega) (by decide), bd1_s]
              exact e2
            · rw [g1 q (by omega), u2_o (by omega), u2_o (by omega)]
            · rw [g1 q h3, u2_o h2, u2_o h1]
            · rw [g1 123 (by omega), u2_o (by omega)]
              by_cases e : j = k
              · subst e; rw [if_pos rfl, u2_at]
              · rw [if_neg e, u2_n e]
            · rw [g1 124 (by omega)]
              by_cases e : j = k
              · subst e; rw [if_pos rfl, u2_at]
              · rw [if_neg e, u2_n e, u2_o (by omega)]
            · rw [g2, u2_o (by omega), u2_o (by omega)]
        · refine Eqv.query (r := -14) hs hc hm ?_ ?_
          · simp only [f_Q_sheet, f_Q_sheet_0, Q_isWithin, bd2_s]
            rw [show (3 : Int32) = nI 3 from rfl, if_pos ((in_rng (by decide)).mpr hx), if_neg (by decide), show (2 : Int32) = nI 2 from rfl, if_pos ((in_rng (by decide)).mpr hy), if_neg (by decide), if_pos h40, if_neg h0]
          · simp only [f_M_sheet, f_M_sheet_0, M_isSheet, bd2_s]
            rw [if_pos (And.intro hx hy), if_neg (by decide), if_pos h40, if_neg h0]
      · refine Eqv.query (r := -1) hs hc hm ?_ ?_
        · simp only [f_Q_sheet, f_Q_sheet_0, f_Q_sheet_24, Q_isWithin, bd2_s]
          rw [show (3 : Int32) = nI 3 from rfl, if_pos ((in_rng (by decide)).mpr hx), if_neg (by decide), show (2 : Int32) = nI 2 from rfl, if_pos ((in_rng (by decide)).mpr hy), if_neg (by decide), if_neg h40]
        · simp only [f_M_sheet, f_M_sheet_0, f_M_sheet_14, M_isSheet, bd2_s]
          rw [if_pos (And.intro hx hy), if_neg (by decide), if_neg h40]
    · refine Eqv.query (r := -1) hs hc hm ?_ ?_
      · simp only [f_Q_sheet, f_Q_sheet_0, f_Q_sheet_24, Q_isWithin, bd2_s]
        rw [show (3 : Int32) = nI 3 from rfl, if_pos ((in_rng (by decide)).mpr hx), if_neg (by decide), show (2 : Int32) = nI 2 from rfl, if_neg (fun q => hy ((in_rng (by decide)).mp q)), if_pos rfl]
      · simp only [f_M_sheet, f_M_sheet_0, f_M_sheet_14, M_isSheet, bd2_s]
        rw [if_neg (show ¬ ((0 ≤ x.toInt ∧ x.toInt < ((3 + 1 : Nat) : Int)) ∧ (0 ≤ y.toInt ∧ y.toInt < ((2 + 1 : Nat) : Int))) from fun q => hy q.2), if_pos rfl]
  · refine Eqv.query (r := -1) hs hc hm ?_ ?_
    · simp only [f_Q_sheet, f_Q_sheet_0, f_Q_sheet_24, Q_isWithin, bd2_s]
      rw [show (3 : Int32) = nI 3 from rfl, if_neg (fun q => hx ((in_rng (by decide)).mp q)), if_pos rfl]
    · simp only [f_M_sheet, f_M_sheet_0, f_M_sheet_14, M_isSheet, bd2_s]
      rw [if_neg (show ¬ ((0 ≤ x.toInt ∧ x.toInt < ((3 + 1 : Nat) : Int)) ∧ (0 ≤ y.toInt ∧ y.toInt < ((2 + 1 : Nat) : Int))) from fun q => hx q.1), if_pos rfl]
end
