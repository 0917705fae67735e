section
variable {ρ : Rho} {v : Nat → Nat → Int32} {w : Nat → Nat → Int64}
def tFr (v v' : Nat → Nat → Int32) : Prop := ∀ q, q < 48 ∨ 54 ≤ q → v' q = v q
def tI (ρ : Rho) (v : Nat → Nat → Int32) : Prop := CR 3 ρ v ∧ v 48 0 = nI (ρ 0 0) ∧ (∀ i, i < 15 → ∃ a, a ≤ 3 ∧ v 49 i = nI a) ∧ ∀ i, i < 15 → ∃ b, b ≤ 3 ∧ v 50 i = nI b
theorem tI.put {o k : Nat} {x : Int32} (h : tI ρ v) (ho : 51 ≤ o ∧ o ≤ 53) : tI ρ (u2 v o k x) := by
  obtain ⟨a, b, c, d⟩ := h
  refine ⟨a.frame (fun p _ _ => u2_o (by omega)), ?_, ?_, ?_⟩
  · rw [u2_o (by omega)]; exact b
  · rw [u2_o (by omega)]; exact c
  · rw [u2_o (by omega)]; exact d
theorem tI.w50 {k x : Nat} (h : tI ρ v) (hx : x ≤ 3) : tI ρ (u2 v 50 k (nI x)) := by
  obtain ⟨a, b, c, d⟩ := h
  refine ⟨a.frame (fun p _ _ => u2_o (by omega)), ?_, ?_, fun i hi => ?_⟩
  · rw [u2_o (by omega)]; exact b
  · rw [u2_o (by omega)]; exact c
  · by_cases z : i = k
    · rw [z, u2_at]; exact ⟨x, hx, rfl⟩
    · rw [u2_n z]; exact d i hi
theorem hasBit_any (x y : Int32) : ∃ r, ∀ h : mH, f_Q_hasBit x y h = some (r, h) := by
  unfold f_Q_hasBit f_Q_hasBit_0
  by_cases c : ((x >>> (y &&& 31)) &&& (1 : Int32)) = 0
  · exact ⟨0, fun h => by rw [if_pos c]⟩
  · exact ⟨1, fun h => by rw [if_neg c]⟩
theorem T_ld114 (hk : ROK ρ) (rec57 : Nat → Nat → Int32 → mH → Option mH) {p : Nat} (hp : p < 3) (b3 : Int32) : ∀ (k fuel l : Nat) (v : Nat → Nat → Int32), k < fuel → l + k = ρ 0 0 → tI ρ v → ∃ v', f_Tables_load_114 rec57 fuel 48 3 (nI p) b3 (nI l) (bh v w) = rec57 48 3 (nI (p + 1)) (bh v' w) ∧ tI ρ v' ∧ ∀ q, q ≠ 50 → v' q = v q := by
  have h0 := hk.1.1
  intro k
  induction k with
  | zero =>
    intro fuel l v hf hl hi
    obtain ⟨m, rfl⟩ : ∃ m, fuel = m + 1 := ⟨fuel - 1, by omega⟩
    refine ⟨v, ?_, hi, fun _ _ => rfl⟩
    show f_Tables_load_114b rec57 (f_Tables_load_114 rec57 m) 48 3 (nI p) b3 (nI l) (bh v w) = _
    unfold f_Tables_load_114b
    simp only [hB0, bd1_q]
    rw [hi.2.1, if_pos ((nI_leI (by omega) (by omega)).mpr (by omega)), nI_1]
  | succ k ih =>
    intro fuel l v hf hl hi
    obtain ⟨m, rfl⟩ : ∃ m, fuel = m + 1 := ⟨fuel - 1, by omega⟩
    have c5 : v 5 l = nI (ρ 2 l) := (hi.1.2.1 l (by omega)).2.1
    have c3 : ρ 2 l ≤ 3 := (hk.2.1 l (by omega)).2.2.1
    have nx : ∀ x : Nat, x ≤ 3 → ∃ v', f_Tables_load_114 rec57 m 48 3 (nI p) b3 (nI (l + 1)) (bh (u2 v 50 (5 * p + l) (nI x)) w) = rec57 48 3 (nI (p + 1)) (bh v' w) ∧ tI ρ v' ∧ ∀ q, q ≠ 50 → v' q = v q := by
      intro x hx
      obtain ⟨v', e1, e2, e3⟩ := ih m (l + 1) _ (by omega) (by omega) (hi.w50 (k := 5 * p + l) hx)
      exact ⟨v', e1, e2, fun q hq => (e3 q hq).trans (u2_o hq)⟩
    have n0 := nx 0 (by decide)
    obtain ⟨r, er⟩ := hasBit_any (v 13 p) (nI l)
    show ∃ v', f_Tables_load_114b rec57 (f_Tables_load_114 rec57 m) 48 3 (nI p) b3 (nI l) (bh v w) = _ ∧ _
    unfold f_Tables_load_114b f_Tables_load_145 f_Tables_load_146 f_Tables_load_174
    simp only [hB0, hS0, bd1_q]
    rw [hi.2.1, if_neg (fun q => by have := (nI_leI (by omega) (by omega)).mp q; omega), show (5 : Int32) = nI 5 from rfl, pk_mul, nI_add, Nat.mul_comm p 5, rd_nI (by omega) (by decide), bd1_s, wr_nI (by omega) (by decide), bd1_s, nI_1, rd_nI hp (by decide), bd1_s, er, bd2_s, c5]
    have nc := nx (ρ 2 l) c3
    by_cases z : b3 = 0
    · rw [if_pos z, if_pos trivial]; exact n0
    · rw [if_neg z]
      by_cases y : r = 0
      · rw [if_pos y]
        simp only [hB0, hS0, bd1_q]
        rw [if_neg (by decide), rd_nI (by omega) (by decide), bd1_s, c5, wr_nI (by omega) (by decide), bd1_s]
        exact nc
      · rw [if_neg y]
        simp only [hB0, hS0, bd1_q]
        rw [if_pos trivial, wr_nI (by omega) (by decide), bd1_s]
        exact n0
theorem T_load (hr : CR 3 ρ v) (hk : ROK ρ) : ∃ v', f_Tables_load 48 3 (bh v w) = some (bh v' w) ∧ tH (ρ 0 0) v' ∧ tFr v v' := by
  have h0 := hk.1.1
  have h1 := hk.1.2.1
  have k57 : ∀ (k fuel p : Nat) (v : Nat → Nat → Int32), k < fuel → p + k = 3 → tI ρ v → (∀ j, j < p → ∃ t, t ≤ 5 ∧ v 53 j = nI t) → ∃ v', f_Tables_load_57 fuel 48 3 (nI p) (bh v w) = some (bh v' w) ∧ tH (ρ 0 0) v' ∧ tFr v v' := by
    intro k
    induction k with
    | zero =>
      intro fuel p v hf hp hi ht
      obtain ⟨m, rfl⟩ : ∃ m, fuel = m + 1 := ⟨fuel - 1, by omega⟩
      refine ⟨v, ?_, ⟨h0, hi.2.1, fun j hj => ht j (by omega), hi.2.2.1, hi.2.2.2⟩, fun _ _ => rfl⟩
      show f_Tables_load_57b (f_Tables_load_57 m) 48 3 (nI p) (bh v w) = _
      unfold f_Tables_load_57b
      rw [show (3 : Int32) = nI 3 from rfl, if_pos ((nI_leI (by omega) (by omega)).mpr (by omega))]
    | succ k ih =>
      intro fuel p v hf hp hi ht
      obtain ⟨m, rfl⟩ : ∃ m, fuel = m + 1 := ⟨fuel - 1, by omega⟩
      obtain ⟨r, er⟩ := T_sumDue (w := w) hi.1 hk 0 (nI p)
      have nx : ∀ (x b3 : Int32) (t : Nat), t ≤ 5 → ∃ v', f_Tables_load_114 (f_Tables_load_57 m) FU 48 3 (nI p) b3 0 (bh (u2 (u2 v 52 p x) 53 p (nI t)) w) = some (bh v' w) ∧ tH (ρ 0 0) v' ∧ tFr v v' := by
        intro x b3 t h5
        obtain ⟨v1, e1, i1, f1⟩ := T_ld114 (w := w) hk (f_Tables_load_57 m) (show p < 3 by omega) b3 (ρ 0 0) FU 0 (u2 (u2 v 52 p x) 53 p (nI t)) (by unfold FU; omega) (by omega) ((hi.put (by decide)).put (by decide))
        have e1 : f_Tables_load_114 (f_Tables_load_57 m) FU 48 3 (nI p) b3 0 (bh (u2 (u2 v 52 p x) 53 p (nI t)) w) = f_Tables_load_57 m 48 3 (nI (p + 1)) (bh v1 w) := e1
        obtain ⟨v2, e2, t2, f2⟩ := ih m (p + 1) v1 (by omega) (by omega) i1 (fun j hj => by
          rw [f1 53 (by decide)]
          by_cases z : j = p
          · rw [z, u2_at]; exact ⟨t, h5, rfl⟩
          · rw [u2_n z, u2_o (by decide)]; exact ht j (by omega))
        exact ⟨v2, e1.trans e2, t2, fun q hq => (f2 q hq).trans ((f1 q (by omega)).trans ((u2_o (by omega)).trans (u2_o (by omega))))⟩
      show ∃ v', f_Tables_load_57b (f_Tables_load_57 m) 48 3 (nI p) (bh v w) = _ ∧ _
      unfold f_Tables_load_57b f_Tables_load_90 f_Tables_load_110
      rw [show (3 : Int32) = nI 3 from rfl, if_neg (fun q => by have := (nI_leI (by omega) (by omega)).mp q; omega)]
      simp only [hB0, hS0, bd1_q]
      rw [C_hasOne rl3 hi.1 h1, bd2_s]
      by_cases c : 0 ≤ (nI p).toInt ∧ (nI p).toInt < (ρ 0 1 : Int)
      · have hpp : p < ρ 0 1 := by rw [nI_toInt (by omega)] at c; omega
        have c9 : u2 v 52 p r 9 p = nI (ρ 6 p) := (congrFun (u2_o (by decide)) p).trans (hi.1.2.2.1 p hpp).1
        rw [if_pos c]
        simp only [hB0, hS0, bd1_q]
        rw [if_neg (by decide), er, bd2_s]
        simp only [hB0, hS0, bd1_q]
        rw [wr_nI (by omega) (by decide), bd1_s]
        simp only [hB0, hS0, bd1_q]
        rw [if_neg (by decide), rd_nI (by omega) (by decide), bd1_s, c9, wr_nI (by omega) (by decide), bd1_s]
        exact nx r 1 (ρ 6 p) (hk.2.2.1 p hpp).1
      · rw [if_neg c]
        simp only [hB0, hS0, bd1_q]
        rw [if_pos trivial, wr_nI (by omega) (by decide), bd1_s]
        simp only [hB0, hS0, bd1_q]
        rw [if_pos trivial, wr_nI (by omega) (by decide), bd1_s]
        exact nx (-1) 0 0 (by decide)
  have k26 : ∀ (k fuel l : Nat) (v : Nat → Nat → Int32), k < fuel → l + k = ρ 0 0 → tI ρ v → ∃ v', f_Tables_load_26 fuel 48 3 (nI l) (bh v w) = some (bh v' w) ∧ tH (ρ 0 0) v' ∧ tFr v v' := by
    intro k
    induction k with
    | zero =>
      intro fuel l v hf hl hi
      obtain ⟨m, rfl⟩ : ∃ m, fuel = m + 1 := ⟨fuel - 1, by omega⟩
      obtain ⟨v', e1, e2⟩ := k57 3 FU 0 v (by decide) (by decide) hi (fun j hj => by omega)
      have e1 : f_Tables_load_57 FU 48 3 0 (bh v w) = some (bh v' w) := e1
      refine ⟨v', ?_, e2⟩
      show f_Tables_load_26b (f_Tables_load_26 m) 48 3 (nI l) (bh v w) = _
      unfold f_Tables_load_26b
      simp only [hB0, bd1_q]
      rw [hi.2.1, if_pos ((nI_leI (by omega) (by omega)).mpr (by omega))]
      exact e1
    | succ k ih =>
      intro fuel l v hf hl hi
      obtain ⟨m, rfl⟩ : ∃ m, fuel = m + 1 := ⟨fuel - 1, by omega⟩
      obtain ⟨r, er⟩ := T_sumDue (w := w) hi.1 hk 1 (nI l)
      obtain ⟨v', e1, e2, e3⟩ := ih m (l + 1) (u2 v 51 l r) (by omega) (by omega) (hi.put (by decide))
      refine ⟨v', ?_, e2, fun q hq => (e3 q hq).trans (u2_o (by omega))⟩
      show f_Tables_load_26b (f_Tables_load_26 m) 48 3 (nI l) (bh v w) = _
      unfold f_Tables_load_26b
      simp only [hB0, hS0, bd1_q]
      rw [hi.2.1, if_neg (fun q => by have := (nI_leI (by omega) (by omega)).mp q; omega), er, bd2_s]
      simp only [hB0, hS0, bd1_q]
      rw [wr_nI (by omega) (by decide), bd1_s, nI_1]
      exact e1
  unfold f_Tables_load f_Tables_load_0
  simp only [hB0, hS0, bd1_q]
  obtain ⟨v1, e1, g1, h1', -⟩ := fill_I (q := 49) (n := 15) (x := 0) (by omega) (fun _ _ => rfl) (fun v w i x => sI_bh rfl i x) (u2 v 48 0 (v 3 0)) w
  rw [e1]
  simp only [hB0, hS0, bd1_q]
  obtain ⟨v2, e2, g2, h2', -⟩ := fill_I (q := 50) (n := 15) (x := 0) (by omega) (fun _ _ => rfl) (fun v w i x => sI_bh rfl i x) v1 w
  rw [e2, bd1_s]
  have fr : ∀ q, q ≠ 48 → q ≠ 49 → q ≠ 50 → v2 q = v q := fun q a b c => (g2 q c).trans ((g1 q b).trans (u2_o a))
  have i2 : tI ρ v2 := ⟨hr.frame (fun p _ _ => fr p (by omega) (by omega) (by omega)), by rw [g2 48 (by decide), g1 48 (by decide), u2_at]; exact hr.1.1, fun i hi => ⟨0, by decide, by rw [g2 49 (by decide)]; exact h1' i hi⟩, fun i hi => ⟨0, by decide, h2' i hi⟩⟩
  obtain ⟨v3, e3, t3, f3⟩ := k26 (ρ 0 0) FU 0 v2 (by unfold FU; omega) (by omega) i2
  have e3 : f_Tables_load_26 FU 48 3 0 (bh v2 w) = some (bh v3 w) := e3
  exact ⟨v3, e3, t3, fun q hq => (f3 q hq).trans (fr q (by omega) (by omega) (by omega))⟩
theorem T_books (hr : CR 3 ρ v) (hk : ROK ρ) : ∃ r v' w', f_Q_books 0 (bh v w) = some (r, bh v' w') ∧ tFr v v' := by
  obtain ⟨v1, e1, t1, f1⟩ := T_load (w := w) hr hk
  obtain ⟨r, w2, e2⟩ := T_fitting t1 w
  unfold f_Q_books f_Q_books_0
  simp only [hB0, bd1_q]
  rw [e1]
  simp only [hB0, bd1_q]
  rw [e2, bd2_s]
  exact ⟨r, v1, w2, rfl, f1⟩
theorem T_first {L : Nat} (h : tH L v) {p l : Nat} (hp : p < 3) (hl : l < L) (x : Int32) (w : Nat → Nat → Int64) : ∃ r v' w', f_Tables_firstThatFits 48 (nI p) (nI l) x (bh v w) = some (r, bh v' w') ∧ tFr v v' := by
  have h5 := h.1
  obtain ⟨T, hT, eT⟩ := h.2.2.2.2 (5 * p + l) (by omega)
  have key : ∀ (k fuel i : Nat) (v : Nat → Nat → Int32) (w : Nat → Nat → Int64), k < fuel → i + k = T + 1 → tH L v → ∃ r v' w', f_Tables_firstThatFits_19 fuel 48 x (nI (5 * p + l)) (nI T) (nI i) (bh v w) = some (r, bh v' w') ∧ tFr v v' := by
    intro k
    induction k with
    | zero =>
      intro fuel i v w hf hi ht
      obtain ⟨m, rfl⟩ : ∃ m, fuel = m + 1 := ⟨fuel - 1, by omega⟩
      show ∃ r v' w', f_Tables_firstThatFits_19b (f_Tables_firstThatFits_19 m) 48 x (nI (5 * p + l)) (nI T) (nI i) (bh v w) = some (r, bh v' w') ∧ _
      unfold f_Tables_firstThatFits_19b
      rw [if_pos (nI_lt (by omega) (by omega))]
      exact ⟨_, v, w, rfl, fun _ _ => rfl⟩
    | succ k ih =>
      intro fuel i v w hf hi ht
      obtain ⟨m, rfl⟩ : ∃ m, fuel = m + 1 := ⟨fuel - 1, by omega⟩
      have go : ∀ y : Nat, y ≤ 3 → ∃ r v' w', f_Tables_firstThatFits_40 (f_Tables_firstThatFits_19 m) 48 x (nI (5 * p + l)) (nI T) (nI i) (nI y) (bh v w) = some (r, bh v' w') ∧ tFr v v' := by
        intro y hy
        have t1 : tH L (u2 (u2 v 49 (5 * p + l) (nI y)) 50 (5 * p + l) (nI y)) := by
          obtain ⟨a1, a2, a3, a4, a5⟩ := ht
          refine ⟨a1, ?_, ?_, fun j hj => ?_, fun j hj => ?_⟩
          · rw [u2_o (by decide), u2_o (by decide)]; exact a2
          · rw [u2_o (by decide), u2_o (by decide)]; exact a3
          · rw [u2_o (by decide)]
            by_cases z : j = 5 * p + l
            · rw [z, u2_at]; exact ⟨y, hy, rfl⟩
            · rw [u2_n z]; exact a4 j hj
          · by_cases z : j = 5 * p + l
            · rw [z, u2_at]; exact ⟨y, hy, rfl⟩
            · rw [u2_n z, u2_o (by decide)]; exact a5 j hj
        obtain ⟨r, w2, e2⟩ := T_fitting t1 w
        obtain ⟨r3, v3, w3, e3, f3⟩ := ih m (i + 1) _ w2 (by omega) (by omega) t1
        unfold f_Tables_firstThatFits_40
        simp only [hB0, bd1_q]
        rw [wr_nI (by omega) (by decide), bd1_s]
        simp only [hB0, bd1_q]
        rw [wr_nI (by omega) (by decide), bd1_s]
        simp only [hB0, bd1_q]
        rw [e2, bd2_s, nI_1]
        have ff : tFr v (u2 (u2 v 49 (5 * p + l) (nI y)) 50 (5 * p + l) (nI y)) := fun q hq => (u2_o (by omega)).trans (u2_o (by omega))
        split
        · exact ⟨r3, v3, w3, e3, fun q hq => (f3 q hq).trans (ff q hq)⟩
        · exact ⟨_, _, w2, rfl, ff⟩
      show ∃ r v' w', f_Tables_firstThatFits_19b (f_Tables_firstThatFits_19 m) 48 x (nI (5 * p + l)) (nI T) (nI i) (bh v w) = some (r, bh v' w') ∧ _
      unfold f_Tables_firstThatFits_19b
      rw [if_neg (nI_nlt (by omega) (by omega)), pk_sub (by omega)]
      split
      · exact go i (by omega)
      · exact go (T - i) (by omega)
  unfold f_Tables_firstThatFits f_Tables_firstThatFits_0
  simp only [hB0, bd1_q]
  rw [show (5 : Int32) = nI 5 from rfl, pk_mul, nI_add, Nat.mul_comm p 5, rd_nI (by omega) (by decide), bd1_s, eT, show (0 : Int32) = nI 0 from rfl]
  exact key (T + 1) FU 0 v w (by unfold FU; omega) (by omega) h
theorem T_entry (hr : CR 3 ρ v) (hk : ROK ρ) (a b c : Int32) : ∃ r v' w', f_Q_entry 0 a b c (bh v w) = some (r, bh v' w') ∧ tFr v v' := by
  have h0 := hk.1.1
  have h1 := hk.1.2.1
  have bad : ∀ h : mH, f_Q_entry_21 h = some (-1, h) := fun h => rfl
  unfold f_Q_entry f_Q_entry_0 f_Realm_hasBoth f_Realm_hasBoth_0 f_Realm_hasBoth_20 f_Q_entry_50
  simp only [hB0, bd1_q, bad]
  rw [C_hasOne rl3 hr h1, bd2_s]
  by_cases c1 : 0 ≤ a.toInt ∧ a.toInt < (ρ 0 1 : Int)
  · rw [if_pos c1, if_neg (by decide)]
    simp only [hB0, bd1_q]
    rw [C_hasLaw rl3 hr h0, bd2_s]
    by_cases c2 : 0 ≤ b.toInt ∧ b.toInt < (ρ 0 0 : Int)
    · rw [if_pos c2, if_neg (by decide), bd2_s, if_neg (by decide), Q_isWithin, bd2_s]
      by_cases c3 : (0 : Int32).toInt ≤ c.toInt ∧ c.toInt ≤ (1 : Int32).toInt
      · rw [if_pos c3, if_neg (by decide)]
        obtain ⟨p, hp, rfl⟩ := ix (by omega) c1
        obtain ⟨l, hl, rfl⟩ := ix (by omega) c2
        obtain ⟨v1, e1, t1, f1⟩ := T_load (w := w) hr hk
        simp only [hB0, bd1_q]
        rw [e1]
        simp only [hB0, bd1_q]
        split
        · obtain ⟨r, v2, w2, e2, f2⟩ := T_first t1 (show p < 3 by omega) hl 1 w
          rw [e2, bd2_s]
          exact ⟨r, v2, w2, rfl, fun q hq => (f2 q hq).trans (f1 q hq)⟩
        · obtain ⟨r, v2, w2, e2, f2⟩ := T_first t1 (show p < 3 by omega) hl 0 w
          rw [e2, bd2_s]
          exact ⟨r, v2, w2, rfl, fun q hq => (f2 q hq).trans (f1 q hq)⟩
      · rw [if_neg c3, if_pos rfl]
        exact ⟨_, v, w, rfl, fun _ _ => rfl⟩
    · rw [if_neg c2, if_pos rfl, bd2_s, if_pos rfl]
      exact ⟨_, v, w, rfl, fun _ _ => rfl⟩
  · rw [if_neg c1, if_pos rfl, bd2_s, if_pos rfl]
    exact ⟨_, v, w, rfl, fun _ _ => rfl⟩
end
section
variable {S : Sg} {v : Nat → Nat → Int32} {w : Nat → Nat → Int64}
theorem Fi_books (hs : SOK S) (hc : CI S v) (hm : MI S v) : FiT S v w (f_Q_books 0) (f_M_books 100) := by
  obtain ⟨r, v1, w1, e1, f1⟩ := T_books (w := w) hc.1 hs.1
  obtain ⟨r', w2, e2⟩ := M_books (w := w1) (hm.1.fr1 (fun q h => f1 q (by omega))) hs.1
  exact FiT.pl hs hc hm e1 (Or.inr (fun q h => f1 q (by omega))) (by rw [f1 43 (by omega)]; exact hc.2.2.2.2.2.2.2) e2 (fun _ _ => rfl)
theorem Fi_entry (x y z : Int32) (hs : SOK S) (hc : CI S v) (hm : MI S v) : FiT S v w (f_Q_entry 0 x y z) (f_M_entry 100 x y z) := by
  obtain ⟨r, v1, w1, e1, f1⟩ := T_entry (w := w) hc.1 hs.1 x y z
  obtain ⟨r', w2, e2⟩ := M_entry (w := w1) (hm.1.fr1 (fun q h => f1 q (by omega))) hs.1 x y z
  exact FiT.pl hs hc hm e1 (Or.inr (fun q h => f1 q (by omega))) (by rw [f1 43 (by omega)]; exact hc.2.2.2.2.2.2.2) e2 (fun _ _ => rfl)
end
