/-! questions of a realm whose DONE is more by c: printed by wip/gen/gen_d.py -/
def CRq (c o : Nat) (ρ : Rho) (v : Nat → Nat → Int32) : Prop :=
  (v o 0 = nI (ρ 0 0) ∧ v o 1 = nI (ρ 0 1) ∧ v o 2 = nI (ρ 0 2) ∧ v o 3 = nI (ρ 0 3 + c) ∧ v o 4 = nI (ρ 0 4) ∧ v o 5 = nI (ρ 0 5) ∧ v (o + 13) 0 = nI (ρ 0 6)) ∧
  (∀ l, l < ρ 0 0 → v (o + 1) l = nI (ρ 1 l) ∧ v (o + 2) l = nI (ρ 2 l) ∧ v (o + 3) l = nI (ρ 3 l) ∧ v (o + 4) l = nI (ρ 4 l) ∧ v (o + 5) l = cI (ρ 5 l)) ∧
  (∀ p, p < ρ 0 1 → v (o + 6) p = nI (ρ 6 p) ∧ v (o + 7) p = nI (ρ 7 p) ∧ v (o + 8) p = nI (ρ 8 p) ∧ v (o + 9) p = nI (ρ 9 p) ∧ v (o + 10) p = nI (ρ 10 p) ∧ v (o + 11) p = nI (ρ 11 p)) ∧
  (∀ p l, p < ρ 0 1 → l < ρ 0 0 → v (o + 12) (5 * p + l) = nI (ρ 12 (5 * p + l))) ∧
  (∀ i, i < ρ 0 6 → v (o + 14) i = nI (ρ 13 i) ∧ v (o + 15) i = nI (ρ 14 i) ∧ v (o + 16) i = nI (ρ 15 i))
section
variable {ρ : Rho} {v : Nat → Nat → Int32} {w : Nat → Nat → Int64} {o c : Nat}
theorem CRq_of (h : CR o ρ v) : CRq 0 o ρ v := h
theorem D_hasLaw (ho : rl o) (hr : CRq c o ρ v) (hk : ρ 0 0 ≤ 5) (x : Int32) : f_Realm_hasLaw o x (bh v w) = some (if 0 ≤ x.toInt ∧ x.toInt < ρ 0 0 then 1 else 0, bh v w) := by
  simp only [f_Realm_hasLaw, f_Realm_hasLaw_0, f_Realm_hasLaw_16, hRl ho v w, bd1_s, hr.1.1, Int32.lt_iff_toInt_lt, Int32.le_iff_toInt_le, nI_toInt (show ρ 0 0 < 2 ^ 31 by omega)]
  have e : (0 : Int32).toInt = 0 := rfl
  rw [e]
  by_cases h1 : x.toInt < 0
  · rw [if_pos h1, if_neg (by omega)]
  · rw [if_neg h1]
    by_cases h2 : (ρ 0 0 : Int) ≤ x.toInt
    · rw [if_pos h2, if_neg (by omega)]
    · rw [if_neg h2, if_pos (by omega)]
theorem D_hasOne (ho : rl o) (hr : CRq c o ρ v) (hk : ρ 0 1 ≤ 3) (x : Int32) : f_Realm_hasOne o x (bh v w) = some (if 0 ≤ x.toInt ∧ x.toInt < ρ 0 1 then 1 else 0, bh v w) := by
  simp only [f_Realm_hasOne, f_Realm_hasOne_0, f_Realm_hasOne_16, hRl ho v w, bd1_s, hr.1.2.1, Int32.lt_iff_toInt_lt, Int32.le_iff_toInt_le, nI_toInt (show ρ 0 1 < 2 ^ 31 by omega)]
  have e : (0 : Int32).toInt = 0 := rfl
  rw [e]
  by_cases h1 : x.toInt < 0
  · rw [if_pos h1, if_neg (by omega)]
  · rw [if_neg h1]
    by_cases h2 : (ρ 0 1 : Int) ≤ x.toInt
    · rw [if_pos h2, if_neg (by omega)]
    · rw [if_neg h2, if_pos (by omega)]
theorem D_brokenBy (ho : rl o) (hr : CRq c o ρ v) (hk : ROK ρ) {p l : Nat} (hp : p < ρ 0 1) (hl : l < ρ 0 0) : f_Realm_brokenBy o (nI p) (nI l) (bh v w) = some (nI (ρ 12 (5 * p + l)), bh v w) := by
  have h1 := hk.1.1
  have h2 := hk.1.2.1
  simp only [f_Realm_brokenBy, f_Realm_brokenBy_0, hRl ho v w, bd1_s]
  rw [show (5 : Int32) = nI 5 from rfl, pk_mul, nI_add, rd_nI (by omega) (by decide), bd1_s, Nat.mul_comm p 5, hr.2.2.2.1 p l hp hl]
theorem D_brokenByOne (ho : rl o) (hr : CRq c o ρ v) (hk : ROK ρ) {p : Nat} (hp : p < ρ 0 1) : f_Realm_brokenByOne o (nI p) (bh v w) = some (nI (sAll ρ p), bh v w) := by
  have h1 := hk.1.1
  have h2 := hk.1.2.1
  have key : ∀ (k fuel l : Nat), k < fuel → l + k = ρ 0 0 → f_Realm_brokenByOne_4 fuel o (nI p) (nI (sumN (fun l => ρ 12 (5 * p + l)) l)) (nI l) (bh v w) = some (nI (sAll ρ p), bh v w) := by
    intro k
    induction k with
    | zero =>
      intro fuel l hf hl
      obtain ⟨n, rfl⟩ : ∃ n, fuel = n + 1 := ⟨fuel - 1, by omega⟩
      simp only [f_Realm_brokenByOne_4, f_Realm_brokenByOne_4b, hRl ho v w, bd1_s]
      rw [hr.1.1, if_pos (nI_le (by omega) (by omega)), show l = ρ 0 0 by omega]
      rfl
    | succ k ih =>
      intro fuel l hf hl
      obtain ⟨n, rfl⟩ : ∃ n, fuel = n + 1 := ⟨fuel - 1, by omega⟩
      simp only [f_Realm_brokenByOne_4, f_Realm_brokenByOne_4b, hRl ho v w, bd1_s]
      rw [hr.1.1, if_neg (nI_ge (by omega) (by omega)), show (5 : Int32) = nI 5 from rfl, pk_mul, nI_add, rd_nI (by omega) (by decide), bd1_s, Nat.mul_comm p 5, hr.2.2.2.1 p l hp (by omega), nI_add, nI_1]
      exact ih n (l + 1) (by omega) (by omega)
  simp only [f_Realm_brokenByOne, f_Realm_brokenByOne_0]
  exact key (ρ 0 0) FU 0 (by unfold FU; omega) (by omega)
theorem D_needOf (ho : rl o) (hr : CRq c o ρ v) (hk : ROK ρ) {l : Nat} (hl : l < ρ 0 0) : f_Realm_needOf o (nI l) (bh v w) = some (nI (sNeed ρ l), bh v w) := by
  have h1 := hk.1.1
  have h2 := hk.1.2.1
  have hst := hk.st
  have hq : ρ 1 l ≤ 9 := (hk.2.1 l hl).1
  have hB : ∀ p, p < ρ 0 1 → ρ 12 (5 * p + l) ≤ 3 := fun p hp => Nat.le_trans (hk.2.2.2.1 p l hp hl) (hk.2.1 l hl).2.2.1
  have key : ∀ (k fuel p : Nat), k < fuel → p + k = ρ 0 1 → f_Realm_needOf_22 fuel o (nI l) (zI ((ρ 1 l : Int) - sumN (fun p => ρ 12 (5 * p + l)) p)) (nI p) (bh v w) = some (nI (ρ 1 l - sumN (fun p => ρ 12 (5 * p + l)) (ρ 0 1)), bh v w) := by
    intro k
    induction k with
    | zero =>
      intro fuel p hf hp
      obtain ⟨n, rfl⟩ : ∃ n, fuel = n + 1 := ⟨fuel - 1, by omega⟩
      have hs : sumN (fun p => ρ 12 (5 * p + l)) p ≤ 3 * p := sumN_c (fun i hi => hB i (by omega))
      simp only [f_Realm_needOf_22, f_Realm_needOf_22b, hRl ho v w, bd1_s]
      rw [hr.1.2.1, if_pos (nI_le (by omega) (by omega)), show ρ 0 1 = p by omega, max0 (by omega) (by omega)]
      congr 3
      omega
    | succ k ih =>
      intro fuel p hf hp
      obtain ⟨n, rfl⟩ : ∃ n, fuel = n + 1 := ⟨fuel - 1, by omega⟩
      simp only [f_Realm_needOf_22, f_Realm_needOf_22b, hRl ho v w, bd1_s]
      rw [hr.1.2.1, if_neg (nI_ge (by omega) (by omega)), D_brokenBy ho hr hk (by omega) hl, bd2_s, zI_subn, nI_1]
      have := ih n (p + 1) (by omega) (by omega)
      rw [show ((ρ 1 l : Int) - (sumN (fun p => ρ 12 (5 * p + l)) p : Nat)) - (ρ 12 (5 * p + l) : Nat) = (ρ 1 l : Int) - (sumN (fun p => ρ 12 (5 * p + l)) (p + 1) : Nat) by show _ = (ρ 1 l : Int) - ((sumN (fun p => ρ 12 (5 * p + l)) p + ρ 12 (5 * p + l) : Nat) : Int); omega]
      exact this
  simp only [f_Realm_needOf, f_Realm_needOf_0, hRl ho v w, bd1_s]
  rw [hr.1.2.2.2.2.1, Q_hasBit (by omega) (by omega), bd2_s]
  unfold sNeed
  rcases bit_01 (ρ 0 4) l with h | h
  · rw [h, if_pos (show nI 0 = 0 from rfl), if_neg (by decide)]
    rfl
  · rw [h, if_neg (show ¬ nI 1 = 0 by decide), if_pos rfl]
    simp only [hRl ho v w, bd1_s]
    rw [rd_nI (by omega) (by decide), bd1_s, (hr.2.1 l hl).1]
    have := key (ρ 0 1) FU 0 (by unfold FU; omega) (by omega)
    rw [show ((ρ 1 l : Nat) : Int) - (sumN (fun p => ρ 12 (5 * p + l)) 0 : Nat) = ((ρ 1 l : Nat) : Int) by show ((ρ 1 l : Nat) : Int) - ((0 : Nat) : Int) = _; omega, zI_n] at this
    exact this
theorem D_roomOf (ho : rl o) (hr : CRq c o ρ v) (hk : ROK ρ) {p l : Nat} (hp : p < ρ 0 1) (hl : l < ρ 0 0) : f_Realm_roomOf o (nI p) (nI l) (bh v w) = some (nI (sRoom ρ p l), bh v w) := by
  have h1 := hk.1.1
  have h2 := hk.1.2.1
  have hst := hk.st
  have hrf : ρ 10 p < 32 := pw_le h1 (hk.2.2.1 p hp).2.2.2.2.1
  have hB : ρ 12 (5 * p + l) ≤ ρ 2 l := hk.2.2.2.1 p l hp hl
  have hc : ρ 2 l ≤ 3 := (hk.2.1 l hl).2.2.1
  simp only [f_Realm_roomOf, f_Realm_roomOf_0, f_Realm_roomOf_28, f_Realm_roomOf_29, hRl ho v w, bd1_s]
  rw [hr.1.2.2.2.2.1, Q_hasBit (by omega) (by omega), bd2_s]
  unfold sRoom
  rcases bit_01 (ρ 0 4) l with h | h
  · rw [h, if_pos (show nI 0 = 0 from rfl), if_pos trivial, if_neg (fun z => by have := z.1; omega)]
    rfl
  · rw [h, if_neg (show ¬ nI 1 = 0 by decide)]
    simp only [hRl ho v w, bd1_s]
    rw [rd_nI (by omega) (by decide), bd1_s, (hr.2.2.1 p hp).2.2.2.2.1, Q_hasBit (by omega) (by omega), bd2_s]
    rcases bit_01 (ρ 10 p) l with g | g
    · rw [g, if_pos (show nI 0 = 0 from rfl), if_neg (by decide)]
      simp only [hRl ho v w, bd1_s]
      rw [rd_nI (by omega) (by decide), bd1_s, (hr.2.1 l hl).2.1, D_brokenBy ho hr hk hp hl, bd2_s, ← zI_n, zI_subn, max0 (by omega) (by omega)]
      simp only [true_and, if_true]
      congr 3
      omega
    · rw [g, if_neg (show ¬ nI 1 = 0 by decide), if_pos trivial, if_neg (fun z => by have := z.2; omega)]
      rfl
theorem D_timeLeft (ho : rl o) (hr : CRq c o ρ v) (hk : ROK ρ) {p : Nat} (hp : p < ρ 0 1) : f_Realm_timeLeft o (nI p) (bh v w) = some (nI (sLeft ρ p), bh v w) := by
  have h1 := hk.1.1
  have h2 := hk.1.2.1
  have ht := (hk.2.2.1 p hp).1
  have hs : sAll ρ p ≤ 5 := (hk.2.2.1 p hp).2.2.2.2.2.2
  simp only [f_Realm_timeLeft, f_Realm_timeLeft_0, hRl ho v w, bd1_s]
  rw [rd_nI (by omega) (by decide), bd1_s, D_brokenByOne ho hr hk hp, bd2_s, (hr.2.2.1 p hp).1, ← zI_n, zI_subn, max0 (by omega) (by omega)]
  unfold sLeft
  congr 3
  omega
theorem D_ableAlone (ho : rl o) (hr : CRq c o ρ v) (hk : ROK ρ) {p l : Nat} (hp : p < ρ 0 1) (hl : l < ρ 0 0) : f_Realm_ableAlone o (nI p) (nI l) (bh v w) = some (nI (sTries ρ p l), bh v w) := by
  have a1 := sRoom_le hk (p := p) hl
  have a2 := sLeft_le hk hp
  simp only [f_Realm_ableAlone, f_Realm_ableAlone_0, hRl ho v w, bd1_s]
  rw [D_roomOf ho hr hk hp hl, bd2_s]
  simp only [hRl ho v w, bd1_s]
  rw [D_timeLeft ho hr hk hp, bd2_s, ite_iff (nI_ltI (by omega) (by omega))]
  unfold sTries
  by_cases h : sLeft ρ p < sRoom ρ p l
  · rw [if_pos h, if_pos (by omega)]
  · rw [if_neg h]
    by_cases g : sLeft ρ p ≤ sRoom ρ p l
    · rw [if_pos g, show sLeft ρ p = sRoom ρ p l by omega]
    · rw [if_neg g]
theorem D_breakable (ho : rl o) (hr : CRq c o ρ v) (hk : ROK ρ) {p : Nat} (hp : p < ρ 0 1) : f_Realm_breakable o (nI p) (bh v w) = some (nI (sCans ρ p), bh v w) := by
  have h1 := hk.1.1
  have key : ∀ (k fuel l : Nat), k < fuel → l + k = ρ 0 0 → f_Realm_breakable_4 fuel o (nI p) (nI (orN (fun l => if 0 < sTries ρ p l then 2 ^ l else 0) l)) (nI l) (bh v w) = some (nI (sCans ρ p), bh v w) := by
    intro k
    induction k with
    | zero =>
      intro fuel l hf hl
      obtain ⟨n, rfl⟩ : ∃ n, fuel = n + 1 := ⟨fuel - 1, by omega⟩
      simp only [f_Realm_breakable_4, f_Realm_breakable_4b, hRl ho v w, bd1_s]
      rw [hr.1.1, if_pos (nI_le (by omega) (by omega)), show l = ρ 0 0 by omega]
      rfl
    | succ k ih =>
      intro fuel l hf hl
      obtain ⟨n, rfl⟩ : ∃ n, fuel = n + 1 := ⟨fuel - 1, by omega⟩
      have hl2 : l < ρ 0 0 := by omega
      have ht := sTries_le hk (p := p) hl2
      simp only [f_Realm_breakable_4, f_Realm_breakable_4b, f_Realm_breakable_29, hRl ho v w, bd1_s]
      have e2 : orN (fun l => if 0 < sTries ρ p l then 2 ^ l else 0) (l + 1) = orN (fun l => if 0 < sTries ρ p l then 2 ^ l else 0) l ||| (if 0 < sTries ρ p l then 2 ^ l else 0) := rfl
      have ih2 := ih n (l + 1) (by omega) (by omega)
      rw [hr.1.1, if_neg (nI_ge (by omega) (by omega)), D_ableAlone ho hr hk hp hl2, bd2_s, ite_iff (nI_le0 (by omega))]
      by_cases z : sTries ρ p l = 0
      · rw [if_pos z, nI_1, show (0 : Int32) = nI 0 from rfl, or_I]
        rw [e2, if_neg (by omega)] at ih2
        exact ih2
      · rw [if_neg z, nI_1, shl_I (by omega), or_I]
        rw [e2, if_pos (by omega)] at ih2
        exact ih2
  simp only [f_Realm_breakable, f_Realm_breakable_0]
  exact key (ρ 0 0) FU 0 (by unfold FU; omega) (by omega)
end
theorem CRq_broke {o c : Nat} {ρ : Rho} {v : Nat → Nat → Int32} {i j : Nat} {x : Nat} (hi : i < ρ 0 1) (hj : j < ρ 0 0) (h : CRq c o ρ v) (hL : ρ 0 0 ≤ 5) : CRq c o (up2 ρ 12 (5 * i + j) x) (u2 v (o + 12) (5 * i + j) (nI x)) := by
  refine ⟨⟨(congrFun (u2_o (by omega)) 0).trans h.1.1, (congrFun (u2_o (by omega)) 1).trans h.1.2.1, (congrFun (u2_o (by omega)) 2).trans h.1.2.2.1, (congrFun (u2_o (by omega)) 3).trans h.1.2.2.2.1, (congrFun (u2_o (by omega)) 4).trans h.1.2.2.2.2.1, (congrFun (u2_o (by omega)) 5).trans h.1.2.2.2.2.2.1, (congrFun (u2_o (by omega)) 0).trans h.1.2.2.2.2.2.2⟩, fun l hl => ?_, fun p hp => ?_, fun p l hp hl => ?_, fun s hs => ?_⟩
  · have hl : l < ρ 0 0 := hl
    refine ⟨(congrFun (u2_o (by omega)) l).trans (h.2.1 l hl).1, (congrFun (u2_o (by omega)) l).trans (h.2.1 l hl).2.1, (congrFun (u2_o (by omega)) l).trans (h.2.1 l hl).2.2.1, (congrFun (u2_o (by omega)) l).trans (h.2.1 l hl).2.2.2.1, (congrFun (u2_o (by omega)) l).trans (h.2.1 l hl).2.2.2.2⟩
  · have hp : p < ρ 0 1 := hp
    refine ⟨(congrFun (u2_o (by omega)) p).trans (h.2.2.1 p hp).1, (congrFun (u2_o (by omega)) p).trans (h.2.2.1 p hp).2.1, (congrFun (u2_o (by omega)) p).trans (h.2.2.1 p hp).2.2.1, (congrFun (u2_o (by omega)) p).trans (h.2.2.1 p hp).2.2.2.1, (congrFun (u2_o (by omega)) p).trans (h.2.2.1 p hp).2.2.2.2.1, (congrFun (u2_o (by omega)) p).trans (h.2.2.1 p hp).2.2.2.2.2⟩
  · have hp : p < ρ 0 1 := hp; have hl : l < ρ 0 0 := hl
    by_cases e : p = i ∧ l = j
    · obtain ⟨rfl, rfl⟩ := e; rw [up2_at]; exact u2_at _ _ _ _
    · rw [up2_n (by omega)]; exact (u2_n (by omega)).trans (h.2.2.2.1 p l hp hl)
  · have hs : s < ρ 0 6 := hs
    exact ⟨(congrFun (u2_o (by omega)) s).trans (h.2.2.2.2 s hs).1, (congrFun (u2_o (by omega)) s).trans (h.2.2.2.2 s hs).2.1, (congrFun (u2_o (by omega)) s).trans (h.2.2.2.2 s hs).2.2⟩
