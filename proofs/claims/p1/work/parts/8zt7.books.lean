/-! books and entry: both count the same tables -/
def dLr (ρ : Rho) (l : Nat) : Nat := du ρ 1 l (ρ 0 6)
def dPr (ρ : Rho) (p : Nat) : Nat := if p < ρ 0 1 then du ρ 0 p (ρ 0 6) else 0
def tmr (ρ : Rho) (p : Nat) : Nat := if p < ρ 0 1 then ρ 6 p else 0
section
variable {ρ : Rho} {v : Nat → Nat → Int32} {w : Nat → Nat → Int64}
theorem duL_le (hk : ROK ρ) (l : Nat) : dLr ρ l ≤ 100 := du_le (ρ 0 6) (fun j hj => (hk.2.2.2.2 j hj).2)
theorem duP_le (hk : ROK ρ) (p : Nat) : dPr ρ p ≤ 100 := by
  unfold dPr
  split
  · exact du_le (ρ 0 6) (fun j hj => (hk.2.2.2.2 j hj).2)
  · omega
theorem tmr_le (hk : ROK ρ) (p : Nat) : tmr ρ p ≤ 5 := by
  unfold tmr
  split
  · next h => exact (hk.2.2.1 p h).1
  · omega
theorem T_ld114X (hk : ROK ρ) (rec57 : Nat → Nat → Int32 → mH → Option mH) {p : Nat} (hp : p < 3) : ∀ (k fuel l : Nat) (v : Nat → Nat → Int32), k < fuel → l + k = ρ 0 0 → CR 3 ρ v → v 48 0 = nI (ρ 0 0) → (∀ j, j < l → v 50 (5 * p + j) = nI (mo ρ p j)) → ∃ v', f_Tables_load_114 rec57 fuel 48 3 (nI p) (if p < ρ 0 1 then 1 else 0) (nI l) (bh v w) = rec57 48 3 (nI (p + 1)) (bh v' w) ∧ (∀ q, q ≠ 50 → v' q = v q) ∧ (∀ j, j < ρ 0 0 → v' 50 (5 * p + j) = nI (mo ρ p j)) ∧ ∀ i, i < 5 * p → v' 50 i = v 50 i := by
  have h0 := hk.1.1
  have h1 := hk.1.2.1
  intro k
  induction k with
  | zero =>
    intro fuel l v hf hl hr h48 hj
    obtain ⟨m, rfl⟩ : ∃ m, fuel = m + 1 := ⟨fuel - 1, by omega⟩
    refine ⟨v, ?_, fun _ _ => rfl, fun j h => hj j (by omega), fun _ _ => rfl⟩
    show f_Tables_load_114b rec57 (f_Tables_load_114 rec57 m) 48 3 (nI p) _ (nI l) (bh v w) = _
    unfold f_Tables_load_114b
    simp only [hB0, bd1_q]
    rw [h48, if_pos ((nI_leI (by omega) (by omega)).mpr (by omega)), nI_1]
  | succ k ih =>
    intro fuel l v hf hl hr h48 hj
    obtain ⟨m, rfl⟩ : ∃ m, fuel = m + 1 := ⟨fuel - 1, by omega⟩
    have c5 : v 5 l = nI (ρ 2 l) := (hr.2.1 l (by omega)).2.1
    have nx : ∀ x : Nat, x = mo ρ p l → ∃ v', f_Tables_load_114 rec57 m 48 3 (nI p) (if p < ρ 0 1 then 1 else 0) (nI (l + 1)) (bh (u2 v 50 (5 * p + l) (nI x)) w) = rec57 48 3 (nI (p + 1)) (bh v' w) ∧ (∀ q, q ≠ 50 → v' q = v q) ∧ (∀ j, j < ρ 0 0 → v' 50 (5 * p + j) = nI (mo ρ p j)) ∧ ∀ i, i < 5 * p → v' 50 i = v 50 i := by
      intro x hx
      obtain ⟨v', e1, e2, e3, e4⟩ := ih m (l + 1) (u2 v 50 (5 * p + l) (nI x)) (by omega) (by omega) (hr.frame (fun q _ _ => u2_o (by omega))) (by rw [u2_o (by decide)]; exact h48) (fun j h => by
        by_cases z : j = l
        · rw [z, u2_at, hx]
        · rw [u2_n (by omega)]; exact hj j (by omega))
      exact ⟨v', e1, fun q hq => (e2 q hq).trans (u2_o hq), e3, fun i hi => (e4 i hi).trans (u2_n (by omega))⟩
    obtain ⟨r, er⟩ := hasBit_any (v 13 p) (nI l)
    show ∃ v', f_Tables_load_114b rec57 (f_Tables_load_114 rec57 m) 48 3 (nI p) _ (nI l) (bh v w) = _ ∧ _
    unfold f_Tables_load_114b f_Tables_load_145 f_Tables_load_146 f_Tables_load_174
    simp only [hB0, hS0, bd1_q]
    rw [h48, if_neg (fun q => by have := (nI_leI (by omega) (by omega)).mp q; omega), show (5 : Int32) = nI 5 from rfl, pk_mul, nI_add, Nat.mul_comm p 5, rd_nI (by omega) (by decide), bd1_s, wr_nI (by omega) (by decide), bd1_s, nI_1, rd_nI hp (by decide), bd1_s, er, bd2_s, c5]
    by_cases z : p < ρ 0 1
    · have h10 : ρ 10 p < 32 := pw_le h0 (hk.2.2.1 p z).2.2.2.2.1
      have c13 : v 13 p = nI (ρ 10 p) := (hr.2.2.1 p z).2.2.2.2.1
      have eb : r = nI (bit (ρ 10 p) l) := by
        have a := er (bh v w)
        rw [c13, Q_hasBit (by omega) (by omega)] at a
        exact (congrArg (fun o : Option (Int32 × mH) => match o with | some q => q.1 | none => r) a).symm
      rw [if_pos z, if_neg (by decide), eb, ite_iff (nI_eq0 (by have := bit_lt (ρ 10 p) l; omega))]
      by_cases y : bit (ρ 10 p) l = 0
      · rw [if_pos y]
        simp only [hB0, hS0, bd1_q]
        rw [if_neg (by decide), rd_nI (by omega) (by decide), bd1_s, c5, wr_nI (by omega) (by decide), bd1_s]
        have nc := nx (ρ 2 l) (by unfold mo; rw [if_pos ⟨z, y⟩])
        rw [if_pos z] at nc
        exact nc
      · rw [if_neg y]
        simp only [hB0, hS0, bd1_q]
        rw [if_pos trivial, wr_nI (by omega) (by decide), bd1_s]
        have nc := nx 0 (by unfold mo; rw [if_neg (fun q => y q.2)])
        rw [if_pos z] at nc
        exact nc
    · rw [if_neg z, if_pos rfl, if_pos trivial]
      have nc := nx 0 (by unfold mo; rw [if_neg (fun q => z q.1)])
      rw [if_neg z] at nc
      exact nc
def hiM (ρ : Rho) (p l y : Nat) : Nat → Nat → Nat := fun q j => if q = p ∧ j = l then y else mo ρ q j
def loM (p l y : Nat) : Nat → Nat → Nat := fun q j => if q = p ∧ j = l then y else 0
theorem T_loadX (hr : CR 3 ρ v) (hk : ROK ρ) : ∃ v', f_Tables_load 48 3 (bh v w) = some (bh v' w) ∧ tX (ρ 0 0) (fun _ _ => 0) (mo ρ) (dLr ρ) (dPr ρ) (tmr ρ) v' ∧ tFr v v' := by
  have h0 := hk.1.1
  have h1 := hk.1.2.1
  have k57 : ∀ (k fuel p : Nat) (v : Nat → Nat → Int32), k < fuel → p + k = 3 → CR 3 ρ v → v 48 0 = nI (ρ 0 0) → (∀ i, i < 15 → v 49 i = nI 0) → (∀ l, l < ρ 0 0 → v 51 l = dI (dLr ρ l)) → (∀ q, q < p → v 52 q = dI (dPr ρ q)) → (∀ q, q < p → v 53 q = nI (tmr ρ q)) → (∀ q j, q < p → j < ρ 0 0 → v 50 (5 * q + j) = nI (mo ρ q j)) → ∃ v', f_Tables_load_57 fuel 48 3 (nI p) (bh v w) = some (bh v' w) ∧ tX (ρ 0 0) (fun _ _ => 0) (mo ρ) (dLr ρ) (dPr ρ) (tmr ρ) v' ∧ tFr v v' := by
    intro k
    induction k with
    | zero =>
      intro fuel p v hf hp hr h48 h49 h51 h52 h53 h50
      obtain ⟨m, rfl⟩ : ∃ m, fuel = m + 1 := ⟨fuel - 1, by omega⟩
      refine ⟨v, ?_, ⟨h0, h48, fun q j hq hj => ⟨h49 _ (by omega), Nat.zero_le 3⟩, fun q j hq hj => ⟨h50 q j (by omega) hj, mo_le hk hj⟩, fun l hl => ⟨h51 l hl, duL_le hk l⟩, fun q hq => ⟨h52 q (by omega), duP_le hk q⟩, fun q hq => ⟨h53 q (by omega), tmr_le hk q⟩⟩, fun _ _ => rfl⟩
      show f_Tables_load_57b (f_Tables_load_57 m) 48 3 (nI p) (bh v w) = _
      unfold f_Tables_load_57b
      rw [show (3 : Int32) = nI 3 from rfl, if_pos ((nI_leI (by omega) (by omega)).mpr (by omega))]
    | succ k ih =>
      intro fuel p v hf hp hr h48 h49 h51 h52 h53 h50
      obtain ⟨m, rfl⟩ : ∃ m, fuel = m + 1 := ⟨fuel - 1, by omega⟩
      have er : f_Sightings_sumDue 16 (0 : Int32) (nI p) (bh v w) = some (dI (du ρ 0 p (ρ 0 6)), bh v w) := T_sumDueX (w := w) (kd := 0) hr hk (by decide) (by omega)
      have nx : ∀ (x b3 : Int32) (t : Nat), x = dI (dPr ρ p) → t = tmr ρ p → b3 = (if p < ρ 0 1 then 1 else 0) → ∃ v', f_Tables_load_114 (f_Tables_load_57 m) FU 48 3 (nI p) b3 0 (bh (u2 (u2 v 52 p x) 53 p (nI t)) w) = some (bh v' w) ∧ tX (ρ 0 0) (fun _ _ => 0) (mo ρ) (dLr ρ) (dPr ρ) (tmr ρ) v' ∧ tFr v v' := by
        intro x b3 t ex et eb
        obtain ⟨v1, e1, g1, g2, g3⟩ := T_ld114X (w := w) hk (f_Tables_load_57 m) (show p < 3 by omega) (ρ 0 0) FU 0 (u2 (u2 v 52 p x) 53 p (nI t)) (by unfold FU; omega) (by omega) (hr.frame (fun q _ _ => (u2_o (by omega)).trans (u2_o (by omega)))) (by rw [u2_o (by decide), u2_o (by decide)]; exact h48) (fun j h => by omega)
        rw [← eb] at e1
        have e1 : f_Tables_load_114 (f_Tables_load_57 m) FU 48 3 (nI p) b3 0 (bh (u2 (u2 v 52 p x) 53 p (nI t)) w) = f_Tables_load_57 m 48 3 (nI (p + 1)) (bh v1 w) := e1
        have fr : ∀ q, q ≠ 50 → q ≠ 52 → q ≠ 53 → v1 q = v q := fun q a b c => (g1 q a).trans ((u2_o c).trans (u2_o b))
        obtain ⟨v2, e2, t2, f2⟩ := ih m (p + 1) v1 (by omega) (by omega) (hr.frame (fun q _ _ => fr q (by omega) (by omega) (by omega))) (by rw [fr 48 (by decide) (by decide) (by decide)]; exact h48) (fun i hi => by rw [fr 49 (by decide) (by decide) (by decide)]; exact h49 i hi) (fun l hl => by rw [fr 51 (by decide) (by decide) (by decide)]; exact h51 l hl) (fun q hq => by
          rw [g1 52 (by decide), u2_o (by decide)]
          by_cases z : q = p
          · rw [z, u2_at]; exact ex
          · rw [u2_n z]; exact h52 q (by omega)) (fun q hq => by
          rw [g1 53 (by decide)]
          by_cases z : q = p
          · rw [z, u2_at, et]
          · rw [u2_n z, u2_o (by decide)]; exact h53 q (by omega)) (fun q j hq hj => by
          by_cases z : q = p
          · rw [z]; exact g2 j hj
          · rw [g3 _ (by omega), u2_o (by decide), u2_o (by decide)]; exact h50 q j (by omega) hj)
        exact ⟨v2, e1.trans e2, t2, fun q hq => (f2 q hq).trans (fr q (by omega) (by omega) (by omega))⟩
      show ∃ v', f_Tables_load_57b (f_Tables_load_57 m) 48 3 (nI p) (bh v w) = _ ∧ _
      unfold f_Tables_load_57b f_Tables_load_90 f_Tables_load_110
      rw [show (3 : Int32) = nI 3 from rfl, if_neg (fun q => by have := (nI_leI (by omega) (by omega)).mp q; omega)]
      simp only [hB0, hS0, bd1_q]
      rw [C_hasOne rl3 hr h1, bd2_s]
      by_cases c : 0 ≤ (nI p).toInt ∧ (nI p).toInt < (ρ 0 1 : Int)
      · have hpp : p < ρ 0 1 := by rw [nI_toInt (by omega)] at c; omega
        have c9 : u2 v 52 p (dI (du ρ 0 p (ρ 0 6))) 9 p = nI (ρ 6 p) := (congrFun (u2_o (by decide)) p).trans (hr.2.2.1 p hpp).1
        rw [if_pos c]
        simp only [hB0, hS0, bd1_q]
        rw [if_neg (by decide), er, bd2_s]
        simp only [hB0, hS0, bd1_q]
        rw [wr_nI (by omega) (by decide), bd1_s]
        simp only [hB0, hS0, bd1_q]
        rw [if_neg (by decide), rd_nI (by omega) (by decide), bd1_s, c9, wr_nI (by omega) (by decide), bd1_s]
        exact nx _ 1 (ρ 6 p) (by unfold dPr; rw [if_pos hpp]) (by unfold tmr; rw [if_pos hpp]) (if_pos hpp).symm
      · have hpp : ¬ p < ρ 0 1 := by rw [nI_toInt (by omega)] at c; omega
        rw [if_neg c]
        simp only [hB0, hS0, bd1_q]
        rw [if_pos trivial, wr_nI (by omega) (by decide), bd1_s]
        simp only [hB0, hS0, bd1_q]
        rw [if_pos trivial, wr_nI (by omega) (by decide), bd1_s]
        exact nx (-1) 0 0 (by unfold dPr; rw [if_neg hpp]; rfl) (by unfold tmr; rw [if_neg hpp]) (if_neg hpp).symm
  have k26 : ∀ (k fuel l : Nat) (v : Nat → Nat → Int32), k < fuel → l + k = ρ 0 0 → CR 3 ρ v → v 48 0 = nI (ρ 0 0) → (∀ i, i < 15 → v 49 i = nI 0) → (∀ j, j < l → v 51 j = dI (dLr ρ j)) → ∃ v', f_Tables_load_26 fuel 48 3 (nI l) (bh v w) = some (bh v' w) ∧ tX (ρ 0 0) (fun _ _ => 0) (mo ρ) (dLr ρ) (dPr ρ) (tmr ρ) v' ∧ tFr v v' := by
    intro k
    induction k with
    | zero =>
      intro fuel l v hf hl hr h48 h49 h51
      obtain ⟨m, rfl⟩ : ∃ m, fuel = m + 1 := ⟨fuel - 1, by omega⟩
      obtain ⟨v', e1, e2⟩ := k57 3 FU 0 v (by decide) (by decide) hr h48 h49 (fun j hj => h51 j (by omega)) (fun j hj => by omega) (fun j hj => by omega) (fun q j hq => by omega)
      have e1 : f_Tables_load_57 FU 48 3 0 (bh v w) = some (bh v' w) := e1
      refine ⟨v', ?_, e2⟩
      show f_Tables_load_26b (f_Tables_load_26 m) 48 3 (nI l) (bh v w) = _
      unfold f_Tables_load_26b
      simp only [hB0, bd1_q]
      rw [h48, if_pos ((nI_leI (by omega) (by omega)).mpr (by omega))]
      exact e1
    | succ k ih =>
      intro fuel l v hf hl hr h48 h49 h51
      obtain ⟨m, rfl⟩ : ∃ m, fuel = m + 1 := ⟨fuel - 1, by omega⟩
      have er : f_Sightings_sumDue 16 (1 : Int32) (nI l) (bh v w) = some (dI (dLr ρ l), bh v w) := T_sumDueX (w := w) (kd := 1) hr hk (by decide) (by omega)
      obtain ⟨v', e1, e2, e3⟩ := ih m (l + 1) (u2 v 51 l (dI (dLr ρ l))) (by omega) (by omega) (hr.frame (fun q _ _ => u2_o (by omega))) (by rw [u2_o (by decide)]; exact h48) (fun i hi => by rw [u2_o (by decide)]; exact h49 i hi) (fun j hj => by
        by_cases z : j = l
        · rw [z, u2_at]
        · rw [u2_n z]; exact h51 j (by omega))
      refine ⟨v', ?_, e2, fun q hq => (e3 q hq).trans (u2_o (by omega))⟩
      show f_Tables_load_26b (f_Tables_load_26 m) 48 3 (nI l) (bh v w) = _
      unfold f_Tables_load_26b
      simp only [hB0, hS0, bd1_q]
      rw [h48, if_neg (fun q => by have := (nI_leI (by omega) (by omega)).mp q; omega), er, bd2_s]
      simp only [hB0, hS0, bd1_q]
      rw [wr_nI (by omega) (by decide), bd1_s, nI_1]
      exact e1
  unfold f_Tables_load f_Tables_load_0
  simp only [hB0, hS0, bd1_q]
  obtain ⟨v1, e1, g1, h1', -⟩ := fill_I (q := 49) (n := 15) (x := 0) (by omega) (fun _ _ => rfl) (fun v w i x => sI_bh rfl i x) (u2 v 48 0 (v 3 0)) w
  rw [e1]
  simp only [hB0, hS0, bd1_q]
  obtain ⟨v2, e2, g2, h2', -⟩ := fill_I (q := 50) (n := 15) (x := 0) (by omega) (fun _ _ => rfl) (fun v w i x => sI_bh rfl i x) v1 w
  rw [e2, bd1_s]
  have fr : ∀ q, q ≠ 48 → q ≠ 49 → q ≠ 50 → v2 q = v q := fun q a b c => (g2 q c).trans ((g1 q b).trans (u2_o a))
  obtain ⟨v3, e3, t3, f3⟩ := k26 (ρ 0 0) FU 0 v2 (by unfold FU; omega) (by omega) (hr.frame (fun p _ _ => fr p (by omega) (by omega) (by omega))) (by rw [g2 48 (by decide), g1 48 (by decide), u2_at]; exact hr.1.1) (fun i hi => by rw [g2 49 (by decide)]; exact h1' i hi) (fun j hj => by omega)
  have e3 : f_Tables_load_26 FU 48 3 0 (bh v2 w) = some (bh v3 w) := e3
  exact ⟨v3, e3, t3, fun q hq => (f3 q hq).trans (fr q (by omega) (by omega) (by omega))⟩
/-! the same number -/
theorem cv_congrK {K K' : Nat → Nat → Nat → Bool} {W : Nat → Nat → Nat → Nat} (h : ∀ x y z, x < 4 → y < 4 → z < 4 → K x y z = K' x y z) : cvo K W = cvo K' W := by
  funext a b c
  refine S3_congr (fun x y z hx hy hz => ?_)
  rw [h x y z hx hy hz]
theorem cvs_congrK {K K' : Nat → Nat → Nat → Nat → Bool} {W : Nat → Nat → Nat → Nat} : ∀ n, (∀ l, l < n → ∀ x y z, x < 4 → y < 4 → z < 4 → K l x y z = K' l x y z) → cvs K W n = cvs K' W n
  | 0, _ => rfl
  | n + 1, h => by
    unfold cvs
    rw [cvs_congrK n (fun l hl => h l (by omega)), cv_congrK (h n (by omega))]
theorem bTm_le {p n : Nat} (h : bTm ρ p n = true) : n ≤ tmr ρ p := by
  unfold bTm at h
  unfold tmr
  by_cases c : p < ρ 0 1
  · rw [if_pos c, Bool.and_eq_true, decide_eq_true_iff] at h
    rw [if_pos c]
    exact h.1
  · rw [if_neg c, decide_eq_true_iff] at h
    omega
theorem bTm_iff {p n : Nat} (hn : n ≤ 20) (ht : n ≤ tmr ρ p) : bTm ρ p n = true ↔ dPr ρ p = 0 ∨ dPr ρ p = n + 1 := by
  unfold bTm dPr
  unfold tmr at ht
  by_cases c : p < ρ 0 1
  · rw [if_pos c] at ht
    rw [if_pos c, if_pos c, Bool.and_eq_true, decide_eq_true_iff, so_du hn]
    exact ⟨fun q => q.2, fun q => ⟨ht, q⟩⟩
  · rw [if_neg c] at ht
    rw [if_neg c, if_neg c, decide_eq_true_iff]
    omega
theorem tot_eq (hk : ROK ρ) (b2 b3 b4 : Int32) {lo hi : Nat → Nat → Nat} (hK : ∀ l, l < ρ 0 0 → ∀ x y z, x < 4 → y < 4 → z < 4 → mK ρ b2 b3 b4 l x y z = cK lo hi (dLr ρ) l x y z) : mTot ρ b2 b3 b4 = cAll (ρ 0 0) lo hi (dLr ρ) (dPr ρ) (tmr ρ) := by
  have eW : cvs (mK ρ b2 b3 b4) (pr3 e0 e0 e0) (ρ 0 0) = cvB (bF (dLr ρ)) (cK lo hi (dLr ρ)) (pr3 (aF lo hi (dLr ρ) 0 (ρ 0 0)) (aF lo hi (dLr ρ) 1 (ρ 0 0)) (aF lo hi (dLr ρ) 2 (ρ 0 0))) (ρ 0 0) := by
    rw [cvs_congrK (ρ 0 0) hK]
    refine cvs_two (bF (dLr ρ)) (cK lo hi (dLr ρ)) (kB lo hi) (fun _ => e0) (fun n hn x y z => ?_) (ρ 0 0)
    have d0 : dLr ρ n = 0 := Classical.byContradiction (fun q => by
      unfold bF at hn
      rw [decide_eq_true q] at hn
      cases hn)
    unfold cK
    rw [d0, decide_eq_true (rfl : (0 : Nat) = 0), Bool.true_or, Bool.and_true]
  have t0 := tmr_le hk 0
  have t1 := tmr_le hk 1
  have t2 := tmr_le hk 2
  unfold cAll mTot cTot
  rw [← eW]
  have grid : sumN (fun k => mW ρ b2 b3 b4 (k / 36) (k / 6 % 6) (k % 6)) 216 = S3 6 (fun a b c => mW ρ b2 b3 b4 a b c) := by
    have e1 := sumN_grid (fun a r => mW ρ b2 b3 b4 a (r / 6) (r % 6)) (m := 36) (by decide) 6
    have e2 : ∀ a, sumN (fun r => mW ρ b2 b3 b4 a (r / 6) (r % 6)) 36 = sumN (fun b => sumN (fun c => mW ρ b2 b3 b4 a b c) 6) 6 := fun a => sumN_grid (fun b c => mW ρ b2 b3 b4 a b c) (m := 6) (by decide) 6
    refine Eq.trans (sumN_congr (fun k _ => ?_)) (e1.trans (sumN_congr (fun a _ => e2 a)))
    show mW ρ b2 b3 b4 (k / 36) (k / 6 % 6) (k % 6) = mW ρ b2 b3 b4 (k / 36) (k % 36 / 6) (k % 36 % 6)
    rw [show k % 36 / 6 = k / 6 % 6 by omega, show k % 36 % 6 = k % 6 by omega]
  rw [grid]
  refine S3_box (by omega) (by omega) (by omega) (fun a b c ha hb hc => ?_) (fun a b c h => ?_)
  · unfold mW uW
    rw [ite_iff (show (bTm ρ 0 a && bTm ρ 1 b && bTm ρ 2 c) = true ↔ (dPr ρ 0 = 0 ∨ dPr ρ 0 = a + 1) ∧ (dPr ρ 1 = 0 ∨ dPr ρ 1 = b + 1) ∧ (dPr ρ 2 = 0 ∨ dPr ρ 2 = c + 1) by rw [Bool.and_eq_true, Bool.and_eq_true, bTm_iff (by omega) ha, bTm_iff (by omega) hb, bTm_iff (by omega) hc, and_assoc])]
  · refine if_neg (fun q => h ?_)
    rw [Bool.and_eq_true, Bool.and_eq_true] at q
    exact ⟨bTm_le q.1.1, bTm_le q.1.2, bTm_le q.2⟩
theorem mK_iff {b2 b3 b4 : Int32} {l x y z : Nat} (hx : x < 4) (hy : y < 4) (hz : z < 4) : mK ρ b2 b3 b4 l x y z = true ↔ ((x ≤ mo ρ 0 l ∧ bAs b2 b3 b4 0 l x = true) ∧ (y ≤ mo ρ 1 l ∧ bAs b2 b3 b4 1 l y = true) ∧ (z ≤ mo ρ 2 l ∧ bAs b2 b3 b4 2 l z = true)) ∧ (dLr ρ l = 0 ∨ dLr ρ l = x + y + z + 1) := by
  unfold mK kk dLr
  rw [Bool.and_eq_true, decide_eq_true_iff, Bool.and_eq_true, Bool.and_eq_true, Bool.and_eq_true, so_du (show x + y + z ≤ 20 by omega)]
  constructor
  · rintro ⟨⟨a, b, c⟩, ⟨⟨d, e⟩, f⟩, g⟩
    exact ⟨⟨⟨a, e⟩, ⟨b, f⟩, ⟨c, g⟩⟩, d⟩
  · rintro ⟨⟨⟨a, e⟩, ⟨b, f⟩, ⟨c, g⟩⟩, d⟩
    exact ⟨⟨a, b, c⟩, ⟨⟨d, e⟩, f⟩, g⟩
theorem books_eq (hk : ROK ρ) : mTot ρ (-4) (-4) 0 = cAll (ρ 0 0) (fun _ _ => 0) (mo ρ) (dLr ρ) (dPr ρ) (tmr ρ) := by
  refine tot_eq hk _ _ _ (fun l _ x y z hx hy hz => ?_)
  have as : ∀ p x, p < 3 → bAs (-4) (-4) 0 p l x = true := fun p x hp => by
    unfold bAs
    rw [decide_eq_true (nI_n4 (show p < 2 ^ 31 by omega)), Bool.true_or, Bool.true_or]
  rw [Bool.eq_iff_iff, mK_iff hx hy hz, cK_iff, as 0 x (by decide), as 1 y (by decide), as 2 z (by decide)]
  constructor
  · rintro ⟨⟨a, b, c⟩, d⟩
    exact ⟨⟨⟨Nat.zero_le _, a.1⟩, ⟨Nat.zero_le _, b.1⟩, ⟨Nat.zero_le _, c.1⟩⟩, d⟩
  · rintro ⟨⟨a, b, c⟩, d⟩
    exact ⟨⟨⟨a.2, rfl⟩, ⟨b.2, rfl⟩, ⟨c.2, rfl⟩⟩, d⟩
end
section
variable {S : Sg} {v : Nat → Nat → Int32} {w : Nat → Nat → Int64}
theorem E_books (hs : SOK S) (hc : CI S v) (hm : MI S v) : EqT S v w (f_Q_books 0) (f_M_books 100) := by
  have hk := hs.1
  obtain ⟨v1, e1, t1, f1⟩ := T_loadX (w := w) hc.1 hk
  obtain ⟨w1, e2⟩ := T_fittingX t1 w
  obtain ⟨w2, e3⟩ := M_tablesByX (hm.1.fr1 (fun q h => f1 q (by omega))) hk (-4) (-4) 0 w1
  rw [books_eq hk] at e3
  refine EqT.pl (r := nL (cAll (S.1 0 0) (fun _ _ => 0) (mo S.1) (dLr S.1) (dPr S.1) (tmr S.1))) (v1 := v1) (v2 := v1) (w1 := w1) (w2 := w2) hs hc hm ?_ (fun q h => f1 q (by omega)) (by rw [f1 43 (by omega)]; exact hc.2.2.2.2.2.2.2) ?_ (fun _ _ => rfl)
  · unfold f_Q_books f_Q_books_0
    simp only [hB0, bd1_q]
    rw [e1]
    simp only [hB0, bd1_q]
    rw [e2, bd2_s]
  · unfold f_M_books f_M_books_0
    simp only [hJ0, bd1_q]
    rw [e3, bd2_s]
end
