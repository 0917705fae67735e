/-! what was seen: both sides exactly -/
theorem if01 : (if false = true then (1 : Int32) else 0) = 0 := rfl
/-- 0: nothing seen; n + 1: n times; 100: never -/
def du (ρ : Rho) (kd who : Nat) : Nat → Nat
  | 0 => 0
  | k + 1 => if ρ 13 k = kd ∧ ρ 14 k = who then (if du ρ kd who k = 0 ∨ du ρ kd who k = ρ 15 k + 1 then ρ 15 k + 1 else 100) else du ρ kd who k
def dI (d : Nat) : Int32 := if d = 0 then -1 else nI (d - 1)
def bSo (ρ : Rho) (kd who n : Nat) : Nat → Bool
  | 0 => true
  | k + 1 => bSo ρ kd who n k && (decide (¬ ρ 13 k = kd) || decide (¬ ρ 14 k = who) || decide (ρ 15 k = n))
theorem dI_free : ∀ d, d ≤ 100 → (dI d = -1 ↔ d = 0) := by decide +kernel
theorem dI_eq : ∀ d, d ≤ 100 → ∀ n, n ≤ 20 → (dI d = nI n ↔ d = n + 1) := by decide +kernel
theorem dI_s (n : Nat) : dI (n + 1) = nI n := by
  unfold dI
  rw [if_neg (Nat.succ_ne_zero n)]
  rfl
section
variable {ρ : Rho} {v : Nat → Nat → Int32} {w : Nat → Nat → Int64}
theorem du_le {kd who : Nat} : ∀ k, (∀ j, j < k → ρ 15 j ≤ 20) → du ρ kd who k ≤ 100
  | 0, _ => Nat.zero_le _
  | k + 1, h => by
    have ih := du_le (kd := kd) (who := who) k (fun j hj => h j (by omega))
    have := h k (by omega)
    unfold du
    split
    · split <;> omega
    · exact ih
theorem so_du {kd who n : Nat} (hn : n ≤ 20) : ∀ k, (bSo ρ kd who n k = true ↔ du ρ kd who k = 0 ∨ du ρ kd who k = n + 1)
  | 0 => ⟨fun _ => Or.inl rfl, fun _ => rfl⟩
  | k + 1 => by
    have ih := so_du (kd := kd) (who := who) hn k
    unfold bSo du
    rw [Bool.and_eq_true, Bool.or_eq_true, Bool.or_eq_true, decide_eq_true_iff, decide_eq_true_iff, decide_eq_true_iff, ih]
    by_cases c : ρ 13 k = kd ∧ ρ 14 k = who
    · rw [if_pos c]
      by_cases d : du ρ kd who k = 0 ∨ du ρ kd who k = ρ 15 k + 1
      · rw [if_pos d]
        omega
      · rw [if_neg d]
        omega
    · rw [if_neg c]
      omega
theorem T_sumDueX (hr : CR 3 ρ v) (hk : ROK ρ) {kd who : Nat} (h1 : kd < 10) (h2 : who < 10) : f_Sightings_sumDue 16 (nI kd) (nI who) (bh v w) = some (dI (du ρ kd who (ρ 0 6)), bh v w) := by
  have h6 := hk.1.2.2.2.2.2.2
  have e0 : v 16 0 = nI (ρ 0 6) := hr.1.2.2.2.2.2.2
  have key : ∀ (n fuel k : Nat), n < fuel → k + n = ρ 0 6 → f_Sightings_sumDue_5 fuel 16 (nI kd) (nI who) (dI (du ρ kd who k)) (nI k) (bh v w) = some (dI (du ρ kd who (ρ 0 6)), bh v w) := by
    intro n
    induction n with
    | zero =>
      intro fuel k hf hk2
      obtain ⟨m, rfl⟩ : ∃ m, fuel = m + 1 := ⟨fuel - 1, by omega⟩
      show f_Sightings_sumDue_5b (f_Sightings_sumDue_5 m) 16 (nI kd) (nI who) _ (nI k) (bh v w) = _
      unfold f_Sightings_sumDue_5b
      simp only [hS0, bd1_q]
      rw [e0, if_pos ((nI_leI (by omega) (by omega)).mpr (by omega)), show k = ρ 0 6 by omega]
    | succ n ih =>
      intro fuel k hf hk2
      obtain ⟨m, rfl⟩ : ∃ m, fuel = m + 1 := ⟨fuel - 1, by omega⟩
      have nx := ih m (k + 1) (by omega) (by omega)
      have e : du ρ kd who (k + 1) = if ρ 13 k = kd ∧ ρ 14 k = who then (if du ρ kd who k = 0 ∨ du ρ kd who k = ρ 15 k + 1 then ρ 15 k + 1 else 100) else du ρ kd who k := rfl
      rw [e] at nx
      have q := hk.2.2.2.2 k (by omega)
      have c17 : v 17 k = nI (ρ 13 k) := (hr.2.2.2.2 k (by omega)).1
      have c18 : v 18 k = nI (ρ 14 k) := (hr.2.2.2.2 k (by omega)).2.1
      have c19 : v 19 k = nI (ρ 15 k) := (hr.2.2.2.2 k (by omega)).2.2
      have dl := du_le (ρ := ρ) (kd := kd) (who := who) k (fun j hj => (hk.2.2.2.2 j (by omega)).2)
      have q1 : ρ 13 k < 2 ^ 31 := by omega
      have q2 : ρ 14 k < 2 ^ 31 := by have := hk.1.1; have := hk.1.2.1; omega
      show f_Sightings_sumDue_5b (f_Sightings_sumDue_5 m) 16 (nI kd) (nI who) _ (nI k) (bh v w) = _
      unfold f_Sightings_sumDue_5b f_Sightings_sumDue_52 f_Sightings_sumDue_64 f_Sightings_sumDue_65
      simp only [hS0, bd1_q]
      rw [e0, if_neg (fun z => by have := (nI_leI (by omega) (by omega)).mp z; omega), rd_nI (by omega) (by decide), bd1_s, rd_nI (by omega) (by decide), bd1_s, rd_nI (by omega) (by decide), bd1_s, bd1_s, nI_1, c17, c18, c19, ite_iff (nI_eqI q1 (by omega)), ite_iff (nI_eqI q2 (by omega)), ite_iff (dI_free _ dl), ite_iff (dI_eq _ dl _ q.2)]
      by_cases g1 : ρ 13 k = kd
      · rw [if_pos g1]
        by_cases g2 : ρ 14 k = who
        · rw [if_pos g2]
          rw [if_pos ⟨g1, g2⟩] at nx
          by_cases g3 : du ρ kd who k = 0
          · rw [if_pos g3]
            rw [if_pos (Or.inl g3), dI_s] at nx
            exact nx
          · rw [if_neg g3]
            by_cases g4 : du ρ kd who k = ρ 15 k + 1
            · rw [if_pos g4]
              rw [if_pos (Or.inr g4), dI_s] at nx
              exact nx
            · rw [if_neg g4]
              rw [if_neg (fun z => z.elim g3 g4)] at nx
              exact nx
        · rw [if_neg g2]
          rw [if_neg (fun z => g2 z.2)] at nx
          exact nx
      · rw [if_neg g1]
        rw [if_neg (fun z => g1 z.1)] at nx
        exact nx
  unfold f_Sightings_sumDue f_Sightings_sumDue_0
  rw [show (0 : Int32) = nI 0 from rfl]
  exact key (ρ 0 6) FU 0 (by unfold FU; omega) (by omega)
theorem M_isSoX (hr : MR ρ v) (hk : ROK ρ) {kd who t : Nat} (h1 : kd < 10) (h2 : who < 10) (h3 : t ≤ 20) : f_M_isSo 100 (nI kd) (nI who) (nI t) (bh v w) = some (if bSo ρ kd who t (ρ 0 6) = true then 1 else 0, bh v w) := by
  have h6 := hk.1.2.2.2.2.2.2
  have e41 : v 101 41 = nI (ρ 0 6) := hr.2.2.2.2.2.2.2.2.2.2.2.2.1
  have key : ∀ (n fuel k : Nat), n < fuel → k + n = ρ 0 6 → f_M_isSo_6 fuel 100 (nI kd) (nI who) (nI t) (if bSo ρ kd who t k = true then 1 else 0) (nI k) (bh v w) = some (if bSo ρ kd who t (ρ 0 6) = true then 1 else 0, bh v w) := by
    intro n
    induction n with
    | zero =>
      intro fuel k hf hk2
      obtain ⟨m, rfl⟩ : ∃ m, fuel = m + 1 := ⟨fuel - 1, by omega⟩
      show f_M_isSo_6b (f_M_isSo_6 m) 100 (nI kd) (nI who) (nI t) _ (nI k) (bh v w) = _
      unfold f_M_isSo_6b
      simp only [hJ0, bd1_q]
      rw [show (41 : Int32) = nI 41 from rfl, rd_nI (by decide) (by decide), bd1_s, e41, if_pos ((nI_leI (by omega) (by omega)).mpr (by omega)), if_pos (by split; exact Or.inr rfl; exact Or.inl rfl), show k = ρ 0 6 by omega]
    | succ n ih =>
      intro fuel k hf hk2
      obtain ⟨m, rfl⟩ : ∃ m, fuel = m + 1 := ⟨fuel - 1, by omega⟩
      have nx := ih m (k + 1) (by omega) (by omega)
      have e : bSo ρ kd who t (k + 1) = (bSo ρ kd who t k && (decide (¬ ρ 13 k = kd) || decide (¬ ρ 14 k = who) || decide (ρ 15 k = t))) := rfl
      rw [e] at nx
      have q := hk.2.2.2.2 k (by omega)
      have a := hr.2.2.2.2.2.2.2.2.2.2.2.2.2 k (by omega)
      rw [show 0 + 42 + 3 * k = 42 + 3 * k by omega] at a
      have q1 : ρ 13 k < 2 ^ 31 := by omega
      have q2 : ρ 14 k < 2 ^ 31 := by have := hk.1.1; have := hk.1.2.1; omega
      have q3 : ρ 15 k < 2 ^ 31 := by omega
      show f_M_isSo_6b (f_M_isSo_6 m) 100 (nI kd) (nI who) (nI t) _ (nI k) (bh v w) = _
      unfold f_M_isSo_6b f_M_isSo_73 f_M_isSo_69 f_M_isSo_74
      simp only [hJ0, bd1_q]
      rw [show (41 : Int32) = nI 41 from rfl, rd_nI (by decide) (by decide), bd1_s, e41, if_neg (fun z => by have := (nI_leI (by omega) (by omega)).mp z; omega), nI_1, show (42 : Int32) = nI 42 from rfl, show (3 : Int32) = nI 3 from rfl, pk_mul, nI_add, rd_nI (by omega) (by decide), bd1_s, nI_1, rd_nI (by omega) (by decide), bd1_s, show nI (42 + 3 * k) + (2 : Int32) = nI (42 + 3 * k + 2) from nI_add _ 2, rd_nI (by omega) (by decide), bd1_s, a.1, a.2.1, a.2.2, ite_iff (nI_eqI q1 (by omega)), ite_iff (nI_eqI q2 (by omega)), ite_iff (nI_eqI q3 (by omega))]
      cases g0 : bSo ρ kd who t k
      · rw [g0] at nx
        rw [if_pos (show (if false = true then (1 : Int32) else 0) = 0 from rfl)]
        rw [Bool.false_and, if_neg (by decide)] at nx
        exact nx
      · rw [g0] at nx
        rw [if_pos rfl, if_neg (by decide)]
        rw [Bool.true_and] at nx
        by_cases g1 : ρ 13 k = kd
        · rw [if_pos g1]
          by_cases g2 : ρ 14 k = who
          · rw [if_pos g2]
            by_cases g3 : ρ 15 k = t
            · rw [if_pos g3]
              rw [if_pos (by simp [g3])] at nx
              exact nx
            · rw [if_neg g3]
              rw [if_neg (by simp [g1, g2, g3])] at nx
              exact nx
          · rw [if_neg g2]
            rw [if_pos (by simp [g2])] at nx
            exact nx
        · rw [if_neg g1]
          rw [if_pos (by simp [g1])] at nx
          exact nx
  unfold f_M_isSo f_M_isSo_0
  exact key (ρ 0 6) FU 0 (by unfold FU; omega) (by omega)
/-- n is a time that p can have spent -/
def bTm (ρ : Rho) (p n : Nat) : Bool := if p < ρ 0 1 then decide (n ≤ ρ 6 p) && bSo ρ 0 p n (ρ 0 6) else decide (n = 0)
theorem M_isTimeX (hr : MR ρ v) (hk : ROK ρ) {p n : Nat} (hp : p < 3) (hn : n ≤ 20) : f_M_isTime 100 (nI p) (nI n) (bh v w) = some (if bTm ρ p n = true then 1 else 0, bh v w) := by
  have h1 := hk.1.2.1
  have e : f_M_isSo 100 (0 : Int32) (nI p) (nI n) (bh v w) = some (if bSo ρ 0 p n (ρ 0 6) = true then 1 else 0, bh v w) := M_isSoX (w := w) (kd := 0) hr hk (by decide) (by omega) hn
  unfold f_M_isTime f_M_isTime_0 f_M_isTime_47 bTm
  simp only [hJ0, bd1_q]
  rw [hr.1.2.1, ite_iff (nI_ltI (by omega) (by omega))]
  by_cases c : p < ρ 0 1
  · have t5 : ρ 6 p ≤ 5 := (hk.2.2.1 p c).1
    have a12 : v 101 (12 + p) = nI (ρ 6 p) := by have := hr.2.2.2.2.2.1 p c; rwa [show 0 + 12 + p = 12 + p by omega] at this
    rw [if_pos c, if_pos c, show (12 : Int32) = nI 12 from rfl, nI_add, rd_nI (by omega) (by decide), bd1_s, a12, ite_iff (nI_ltI (by omega) (by omega))]
    by_cases d : ρ 6 p < n
    · rw [if_pos d, if_neg (by simp; omega)]
    · rw [if_neg d, e, bd2_s]
      cases g : bSo ρ 0 p n (ρ 0 6)
      · rw [if_pos if01, Bool.and_false, if_neg (by decide)]
      · rw [if_pos rfl, if_neg (by decide), Bool.and_true, if_pos (by simp; omega)]
  · rw [if_neg c, if_neg c, ite_iff (nI_eq0 (by omega))]
    by_cases d : n = 0
    · rw [if_pos d, if_pos (by simp [d])]
    · rw [if_neg d, if_neg (by simp [d])]
theorem T_isDueX {p n d : Nat} (hp : p < 3) (hn : n ≤ 20) (hd : d ≤ 100) (e : v 52 p = dI d) : f_Tables_isDueOf 48 (nI p) (nI n) (bh v w) = some (if d = 0 ∨ d = n + 1 then 1 else 0, bh v w) := by
  unfold f_Tables_isDueOf f_Tables_isDueOf_0 f_Tables_isDueOf_20
  simp only [hB0, bd1_q]
  rw [rd_nI hp (by decide), bd1_s, bd1_s, e, ite_iff (dI_free d hd), ite_iff (dI_eq d hd n hn)]
  by_cases g : d = 0
  · rw [if_pos g, if_pos (Or.inl g)]
  · rw [if_neg g]
    by_cases f : d = n + 1
    · rw [if_pos f, if_pos (Or.inr f)]
    · rw [if_neg f, if_neg (fun z => z.elim g f)]
end
