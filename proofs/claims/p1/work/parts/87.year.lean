/-! a year's end -/
def z12 (ρ : Rho) : Rho := va_up ρ 12 (fun _ => 0)
def yr (ρ : Rho) : Rho := up2 (z12 (up2 ρ 0 4 (ρ 0 4 &&& (31 - sFalls ρ)))) 0 2 (ρ 0 2 + 1)
theorem cut_I : ∀ a, a < 32 → ∀ b, b < 32 → nI a &&& (nI b ^^^ (-1 : Int32)) = nI (a &&& (31 - b)) := by decide +kernel
theorem sFalls_lt {ρ : Rho} (hk : ROK ρ) : sFalls ρ < 32 := Nat.lt_of_le_of_lt Nat.and_le_right hk.st
theorem nI_eqI {a b : Nat} (ha : a < 2 ^ 31) (hb : b < 2 ^ 31) : nI a = nI b ↔ a = b := by
  constructor
  · intro h
    have := congrArg Int32.toInt h
    rw [nI_toInt ha, nI_toInt hb] at this
    omega
  · intro h; rw [h]
theorem sumN_0 : ∀ n, sumN (fun _ => 0) n = 0
  | 0 => rfl
  | n + 1 => by show sumN (fun _ => 0) n + 0 = 0; rw [sumN_0 n]
theorem ROK_z12 {ρ : Rho} (hk : ROK ρ) : ROK (z12 ρ) := by
  refine ⟨hk.1, hk.2.1, fun p hp => ?_, fun p l hp hl => Nat.zero_le _, hk.2.2.2.2⟩
  have g := hk.2.2.1 p hp
  refine ⟨g.1, g.2.1, g.2.2.1, g.2.2.2.1, g.2.2.2.2.1, g.2.2.2.2.2.1, ?_⟩
  show sumN (fun _ => 0) _ ≤ 5
  rw [sumN_0]
  omega
theorem ROK_yr {ρ : Rho} (hk : ROK ρ) (hy : ρ 0 2 < 999) : ROK (yr ρ) := by
  have h := ROK_z12 (ROK_stands (x := ρ 0 4 &&& (31 - sFalls ρ)) hk (Nat.lt_of_le_of_lt Nat.and_le_left hk.1.2.2.2.2.1))
  exact ⟨⟨h.1.1, h.1.2.1, (by show ρ 0 2 + 1 ≤ 999; omega), h.1.2.2.2⟩, h.2⟩
section
variable {ρ : Rho} {v v1 : Nat → Nat → Int32} {w : Nat → Nat → Int64} {o : Nat}
theorem CR_z12 (h : CR o ρ v) (hL : ρ 0 0 ≤ 5) (hP : ρ 0 1 ≤ 3) (hq : ∀ q, q ≠ o + 12 → v1 q = v q) (h0 : ∀ j, j < 15 → v1 (o + 12) j = 0) : CR o (z12 ρ) v1 := by
  obtain ⟨h1, h2, h3, -, h5⟩ := h
  refine ⟨?_, ?_, ?_, fun p l hp hl => ?_, ?_⟩
  · rw [hq o (by omega), hq (o + 13) (by omega)]; exact h1
  · rw [hq (o + 1) (by omega), hq (o + 2) (by omega), hq (o + 3) (by omega), hq (o + 4) (by omega), hq (o + 5) (by omega)]; exact h2
  · rw [hq (o + 6) (by omega), hq (o + 7) (by omega), hq (o + 8) (by omega), hq (o + 9) (by omega), hq (o + 10) (by omega), hq (o + 11) (by omega)]; exact h3
  · have hp : p < ρ 0 1 := hp
    have hl : l < ρ 0 0 := hl
    exact h0 _ (by omega)
  · rw [hq (o + 14) (by omega), hq (o + 15) (by omega), hq (o + 16) (by omega)]; exact h5
theorem MB_z12 (h : MB 101 0 ρ v) (hL : ρ 0 0 ≤ 5) (hP : ρ 0 1 ≤ 3) (hq : ∀ j, j < 24 ∨ 39 ≤ j → v1 101 j = v 101 j) (h0 : ∀ j, 24 ≤ j → j < 39 → v1 101 j = 0) : MB 101 0 (z12 ρ) v1 := by
  obtain ⟨h1, h2, h3, h4, h5, h6, h7, h8, h9, h10, h11, h12, h13⟩ := h
  refine ⟨fun l (hl : l < ρ 0 0) => (hq _ (by omega)).trans (h1 l hl), fun l (hl : l < ρ 0 0) => (hq _ (by omega)).trans (h2 l hl), (hq _ (by omega)).trans h3, (hq _ (by omega)).trans h4, fun p (hp : p < ρ 0 1) => (hq _ (by omega)).trans (h5 p hp), fun p (hp : p < ρ 0 1) => (hq _ (by omega)).trans (h6 p hp), fun p (hp : p < ρ 0 1) => (hq _ (by omega)).trans (h7 p hp), fun p (hp : p < ρ 0 1) => (hq _ (by omega)).trans (h8 p hp), fun p l (hp : p < ρ 0 1) (hl : l < ρ 0 0) => h0 _ (by omega) (by omega), (hq _ (by omega)).trans h10, (hq _ (by omega)).trans h11, (hq _ (by omega)).trans h12, fun i hi => ⟨(hq _ (by omega)).trans (h13 i hi).1, (hq _ (by omega)).trans (h13 i hi).2.1, (hq _ (by omega)).trans (h13 i hi).2.2⟩⟩
/-- Arrays.fill of int cells -/
theorem fill_I {q n : Nat} {x : Int32} (hn : n < 600) (eN : ∀ v w, aN (bh v w) 0 q = some (nI n)) (eS : ∀ v w i x, sI (bh v w) 0 q i x = wr v w q n i x) (v : Nat → Nat → Int32) (w : Nat → Nat → Int64) : ∃ v1, f_Arrays_fillI q x (bh v w) = some (bh v1 w) ∧ (∀ p, p ≠ q → v1 p = v p) ∧ (∀ j, j < n → v1 q j = x) ∧ ∀ j, n ≤ j → v1 q j = v q j := by
  have key : ∀ (k fuel i : Nat) (v : Nat → Nat → Int32), k < fuel → i + k = n → ∃ v1, f_Arrays_fillI_5 fuel q x (nI i) (nI n) (bh v w) = some (bh v1 w) ∧ (∀ p, p ≠ q → v1 p = v p) ∧ (∀ j, i ≤ j → j < n → v1 q j = x) ∧ ∀ j, j < i ∨ n ≤ j → v1 q j = v q j := by
    intro k
    induction k with
    | zero =>
      intro fuel i v hf hi
      obtain ⟨m, rfl⟩ : ∃ m, fuel = m + 1 := ⟨fuel - 1, by omega⟩
      simp only [f_Arrays_fillI_5, f_Arrays_fillI_5b]
      rw [if_pos ((nI_leI (by omega) (by omega)).mpr (by omega))]
      exact ⟨v, rfl, fun _ _ => rfl, fun j _ _ => by omega, fun _ _ => rfl⟩
    | succ k ih =>
      intro fuel i v hf hi
      obtain ⟨m, rfl⟩ : ∃ m, fuel = m + 1 := ⟨fuel - 1, by omega⟩
      simp only [f_Arrays_fillI_5, f_Arrays_fillI_5b]
      rw [if_neg (fun z => by have := (nI_leI (by omega) (by omega)).mp z; omega), eS, wr_nI (by omega) (by omega), bd1_s, nI_1]
      obtain ⟨v1, e1, f1, f2, f3⟩ := ih m (i + 1) (u2 v q i x) (by omega) (by omega)
      refine ⟨v1, e1, fun p hp => (f1 p hp).trans (u2_o hp), fun j h1 h2 => ?_, fun j hj => (f3 j (by omega)).trans (u2_n (by omega))⟩
      by_cases e : j = i
      · subst e; exact (f3 j (by omega)).trans (u2_at _ _ _ _)
      · exact f2 j (by omega) h2
  obtain ⟨v1, e1, f1, f2, f3⟩ := key n FU 0 v (by unfold FU; omega) (by omega)
  refine ⟨v1, ?_, f1, fun j hj => f2 j (by omega) hj, fun j hj => f3 j (Or.inr hj)⟩
  simp only [f_Arrays_fillI, f_Arrays_fillI_0]
  rw [eN, bd1_s]
  exact e1
theorem C_endYear (ho : rl o) (hr : CR o ρ v) (hk : ROK ρ) : ∃ v', f_Realm_endYear o (bh v w) = some (nI (sFalls ρ), bh v' w) ∧ CR o (yr ρ) v' ∧ ∀ q, q < o ∨ o + 17 ≤ q → v' q = v q := by
  have h1 := hk.1.1
  have h2 := hk.1.2.1
  simp only [f_Realm_endYear, f_Realm_endYear_0, hRl ho v w, bd1_s]
  rw [C_lapsing ho hr hk, bd2_s]
  simp only [hRl ho v w, bd1_s]
  rw [hr.1.2.2.2.2.1, cut_I _ hk.st _ (sFalls_lt hk)]
  have eN : ∀ v w, aN (bh v w) 0 (o + 12) = some (nI 15) := by rcases ho with rfl | rfl | rfl | rfl <;> exact fun _ _ => rfl
  obtain ⟨v1, e1, f1, f2, f3⟩ := fill_I (x := 0) (by omega) eN (fun v w i x => by simp only [hRl ho v w]) (u2 v o 4 (nI (ρ 0 4 &&& (31 - sFalls ρ)))) w
  simp only [hRl ho (u2 v o 4 (nI (ρ 0 4 &&& (31 - sFalls ρ)))) w, bd1_s]
  rw [e1]
  simp only [hRl ho v1 w, bd1_s]
  have c1 := CR_z12 (CR_stands (x := ρ 0 4 &&& (31 - sFalls ρ)) hr h1) h1 h2 f1 f2
  have ey : v1 o 2 = nI (ρ 0 2) := c1.1.2.2.1
  rw [ey, nI_1]
  refine ⟨_, rfl, CR_year c1 h1, fun q hq => ?_⟩
  rw [u2_o (by omega), f1 q (by omega), u2_o (by omega)]
theorem M_year (hr : MR ρ v) (hk : ROK ρ) (hy : ρ 0 2 < 999) : ∃ v', f_M_year 100 (bh v w) = some (nI (sFalls ρ), bh v' w) ∧ MR (yr ρ) v' ∧ (∀ q, q ≠ 101 → v' q = v q) ∧ ∀ j, 66 ≤ j → v' 101 j = v 101 j := by
  have h1 := hk.1.1
  have h2 := hk.1.2.1
  have hS := hk.1.2.2.2.2.2.2
  have key : ∀ (k fuel i : Nat) (v : Nat → Nat → Int32) (r : Int32), k < fuel → i + k = 15 → ∃ v1, f_M_year_36 fuel 100 r (nI i) (bh v w) = some (r, bh (u2 v1 101 39 (v1 101 39 + 1)) w) ∧ (∀ p, p ≠ 101 → v1 p = v p) ∧ (∀ j, 24 + i ≤ j → j < 39 → v1 101 j = 0) ∧ ∀ j, j < 24 + i ∨ 39 ≤ j → v1 101 j = v 101 j := by
    intro k
    induction k with
    | zero =>
      intro fuel i v r hf hi
      obtain ⟨m, rfl⟩ : ∃ m, fuel = m + 1 := ⟨fuel - 1, by omega⟩
      simp only [f_M_year_36, f_M_year_36b, hM v w, bd1_s]
      rw [show (15 : Int32) = nI 15 from rfl, if_pos ((nI_leI (by omega) (by omega)).mpr (by omega)), show (39 : Int32) = nI 39 from rfl, rd_nI (by omega) (by decide), bd1_s, wr_nI (by omega) (by decide), bd1_s]
      exact ⟨v, rfl, fun _ _ => rfl, fun j _ _ => by omega, fun _ _ => rfl⟩
    | succ k ih =>
      intro fuel i v r hf hi
      obtain ⟨m, rfl⟩ : ∃ m, fuel = m + 1 := ⟨fuel - 1, by omega⟩
      simp only [f_M_year_36, f_M_year_36b, hM v w, bd1_s]
      rw [show (15 : Int32) = nI 15 from rfl, if_neg (fun z => by have := (nI_leI (by omega) (by omega)).mp z; omega), show (24 : Int32) = nI 24 from rfl, nI_add, wr_nI (by omega) (by decide), bd1_s, nI_1]
      obtain ⟨v1, e1, f1, f2, f3⟩ := ih m (i + 1) (u2 v 101 (24 + i) 0) r (by omega) (by omega)
      refine ⟨v1, e1, fun p hp => (f1 p hp).trans (u2_o hp), fun j h1 h2 => ?_, fun j hj => (f3 j (by omega)).trans (u2_n (by omega))⟩
      by_cases e : j = 24 + i
      · subst e; exact (f3 _ (by omega)).trans (u2_at _ _ _ _)
      · exact f2 j (by omega) h2
  obtain ⟨v1, e1, f1, f2, f3⟩ := key 15 FU 0 (u2 v 101 10 (nI (ρ 0 4 &&& (31 - sFalls ρ)))) (nI (sFalls ρ)) (by unfold FU; omega) (by omega)
  have m1 := MB_z12 (MB_stands (x := ρ 0 4 &&& (31 - sFalls ρ)) h1 h2 hS hr.2) h1 h2 f3 f2
  have ey : v1 101 39 = nI (ρ 0 2) := m1.2.2.2.2.2.2.2.2.2.1
  have e39 : rd (v 101) 198 (39 : Int32) = some (nI (ρ 0 2)) := by rw [← hr.2.2.2.2.2.2.2.2.2.2.1]; rfl
  have e10 : rd (v 101) 198 (10 : Int32) = some (nI (ρ 0 4)) := by rw [← hr.2.2.2.1]; rfl
  refine ⟨u2 v1 101 39 (nI (ρ 0 2 + 1)), ?_, ⟨?_, ?_⟩, ?_, ?_⟩
  rotate_left
  · have mf : MF ρ v1 := by
      have := hr.1
      unfold MF at this ⊢
      rw [f1 100 (by omega), f1 103 (by omega), f1 104 (by omega), f1 105 (by omega), f1 106 (by omega), f1 107 (by omega)]
      exact this
    exact MF_u mf rfl rfl rfl rfl rfl rfl rfl
  · exact MB_year h1 h2 hS m1
  · intro q hq
    rw [u2_o hq, f1 q hq, u2_o hq]
  · intro j hj
    rw [u2_n (by omega), f3 j (by omega), u2_n (by omega)]
  · simp only [f_M_year, f_M_year_0, hM v w, bd1_s]
    rw [e39, bd1_s, show (999 : Int32) = nI 999 from rfl, if_neg (fun z => by have := (nI_eqI (by omega) (by omega)).mp z; omega), M_fallsNow hr hk, bd2_s]
    simp only [hM v w, bd1_s]
    rw [e10, bd1_s, cut_I _ hk.st _ (sFalls_lt hk), show (10 : Int32) = nI 10 from rfl, wr_nI (by omega) (by decide), bd1_s]
    rw [ey, nI_1] at e1
    exact e1
end
section
variable {S : Sg} {v : Nat → Nat → Int32} {w : Nat → Nat → Int64}
theorem E_year (hs : SOK S) (hc : CI S v) (hm : MI S v) : Eqv S v w (f_Q_year 0) (f_M_year 100) := by
  have hy9 := hs.1.1.2.2.1
  have ey : v 3 2 = nI (S.1 0 2) := hc.1.1.2.2.1
  by_cases hy : S.1 0 2 < 999
  · obtain ⟨v1, e1, c1, f1⟩ := C_endYear (w := w) rl3 hc.1 hs.1
    refine Eqv.change (r := nI (sFalls S.1)) (S' := (yr S.1, S.2)) (v1 := v1) (w1 := w) hm ?_ (fun q hq => f1 q (by omega)) (SOK_u hs (ROK_yr hs.1 hy) (fun σ h => h)) (CI_r hc c1 f1) (fun w1 hm1 => ?_)
    · simp only [f_Q_year, f_Q_year_0, q_now, hRl rl3 v w, bd1_s]
      rw [ey, show (999 : Int32) = nI 999 from rfl, if_pos ((nI_ltI (by omega) (by omega)).mpr hy), e1, bd2_s]
    · obtain ⟨v2, e2, m2, g1, g2⟩ := M_year (w := w1) hm1.1 hs.1 hy
      exact ⟨v2, w1, e2, fun q hq => g1 q (by omega), MI_r hm1 m2 g1 g2⟩
  · refine Eqv.query (r := -3) hs hc hm ?_ ?_
    · simp only [f_Q_year, f_Q_year_0, q_now, hRl rl3 v w, bd1_s]
      rw [ey, show (999 : Int32) = nI 999 from rfl, if_neg (fun z => hy ((nI_ltI (by omega) (by omega)).mp z))]
    · have e39 : rd (v 101) 198 (39 : Int32) = some (nI (S.1 0 2)) := by rw [← hm.1.2.2.2.2.2.2.2.2.2.2.1]; rfl
      simp only [f_M_year, f_M_year_0, hM v w, bd1_s]
      rw [e39, bd1_s, show (999 : Int32) = nI 999 from rfl, if_pos ((nI_eqI (by omega) (by omega)).mpr (by omega))]
end
