section
variable {ρ : Rho} {v : Nat → Nat → Int32} {w : Nat → Nat → Int64} {o : Nat}
theorem C_roomOf (ho : rl o) (hr : CR o ρ v) (hk : ROK ρ) {p l : Nat} (hp : p < ρ 0 1) (hl : l < ρ 0 0) : f_Realm_roomOf o (nI p) (nI l) (bh v w) = some (nI (sRoom ρ p l), bh v w) := by
  have h1 := hk.1.1
  have h2 := hk.1.2.1
  have hst := hk.st
  have hrf : ρ 10 p < 32 := pw_le h1 (hk.2.2.1 p hp).2.2.2.2.1
  have hB : ρ 12 (5 * p + l) ≤ ρ 2 l := hk.2.2.2.1 p l hp hl
  have hc : ρ 2 l ≤ 3 := (hk.2.1 l hl).2.2.1
  simp only [f_Realm_roomOf, f_Realm_roomOf_0, f_Realm_roomOf_28, f_Realm_roomOf_29, hRl ho v w, bd1_s]
  rw [hr.1.2.2.2.2.1, Q_hasBit (by omega) (by omega), bd2_s]
  unfold sRoom
  rcases bit_01 (ρ 0 4) l with h | h
  · rw [h, if_pos (show nI 0 = 0 from rfl), if_pos trivial, if_neg (fun z => by have := z.1; omega)]
    rfl
  · rw [h, if_neg (show ¬ nI 1 = 0 by decide)]
    simp only [hRl ho v w, bd1_s]
    rw [rd_nI (by omega) (by decide), bd1_s, (hr.2.2.1 p hp).2.2.2.2.1, Q_hasBit (by omega) (by omega), bd2_s]
    rcases bit_01 (ρ 10 p) l with g | g
    · rw [g, if_pos (show nI 0 = 0 from rfl), if_neg (by decide)]
      simp only [hRl ho v w, bd1_s]
      rw [rd_nI (by omega) (by decide), bd1_s, (hr.2.1 l hl).2.1, C_brokenBy ho hr hk hp hl, bd2_s, ← zI_n, zI_subn, max0 (by omega) (by omega)]
      simp only [true_and, if_true]
      congr 3
      omega
    · rw [g, if_neg (show ¬ nI 1 = 0 by decide), if_pos trivial, if_neg (fun z => by have := z.2; omega)]
      rfl
theorem C_timeLeft (ho : rl o) (hr : CR o ρ v) (hk : ROK ρ) {p : Nat} (hp : p < ρ 0 1) : f_Realm_timeLeft o (nI p) (bh v w) = some (nI (sLeft ρ p), bh v w) := by
  have h1 := hk.1.1
  have h2 := hk.1.2.1
  have ht := (hk.2.2.1 p hp).1
  have hs : sAll ρ p ≤ 5 := (hk.2.2.1 p hp).2.2.2.2.2.2
  simp only [f_Realm_timeLeft, f_Realm_timeLeft_0, hRl ho v w, bd1_s]
  rw [rd_nI (by omega) (by decide), bd1_s, C_brokenByOne ho hr hk hp, bd2_s, (hr.2.2.1 p hp).1, ← zI_n, zI_subn, max0 (by omega) (by omega)]
  unfold sLeft
  congr 3
  omega
theorem C_ableAlone (ho : rl o) (hr : CR o ρ v) (hk : ROK ρ) {p l : Nat} (hp : p < ρ 0 1) (hl : l < ρ 0 0) : f_Realm_ableAlone o (nI p) (nI l) (bh v w) = some (nI (sTries ρ p l), bh v w) := by
  have a1 := sRoom_le hk (p := p) hl
  have a2 := sLeft_le hk hp
  simp only [f_Realm_ableAlone, f_Realm_ableAlone_0, hRl ho v w, bd1_s]
  rw [C_roomOf ho hr hk hp hl, bd2_s]
  simp only [hRl ho v w, bd1_s]
  rw [C_timeLeft ho hr hk hp, bd2_s, ite_iff (nI_ltI (by omega) (by omega))]
  unfold sTries
  by_cases h : sLeft ρ p < sRoom ρ p l
  · rw [if_pos h, if_pos (by omega)]
  · rw [if_neg h]
    by_cases g : sLeft ρ p ≤ sRoom ρ p l
    · rw [if_pos g, show sLeft ρ p = sRoom ρ p l by omega]
    · rw [if_neg g]
theorem C_lapsing (ho : rl o) (hr : CR o ρ v) (hk : ROK ρ) : f_Realm_lapsing o (bh v w) = some (nI (sFalls ρ), bh v w) := by
  have h1 := hk.1.1
  have key : ∀ (k fuel l : Nat), k < fuel → l + k = ρ 0 0 → f_Realm_lapsing_4 fuel o (nI (orN (fun l => if 0 < sNeed ρ l then sChain ρ l else 0) l)) (nI l) (bh v w) = some (nI (sFalls ρ), bh v w) := by
    intro k
    induction k with
    | zero =>
      intro fuel l hf hl
      obtain ⟨n, rfl⟩ : ∃ n, fuel = n + 1 := ⟨fuel - 1, by omega⟩
      simp only [f_Realm_lapsing_4, f_Realm_lapsing_4b, hRl ho v w, bd1_s]
      rw [hr.1.1, if_pos (nI_le (by omega) (by omega)), hr.1.2.2.2.2.1, and_I, show l = ρ 0 0 by omega]
      rfl
    | succ k ih =>
      intro fuel l hf hl
      obtain ⟨n, rfl⟩ : ∃ n, fuel = n + 1 := ⟨fuel - 1, by omega⟩
      have hl2 : l < ρ 0 0 := by omega
      have hn := sNeed_le hk hl2
      simp only [f_Realm_lapsing_4, f_Realm_lapsing_4b, f_Realm_lapsing_30, hRl ho v w, bd1_s]
      have e2 : orN (fun l => if 0 < sNeed ρ l then sChain ρ l else 0) (l + 1) = orN (fun l => if 0 < sNeed ρ l then sChain ρ l else 0) l ||| (if 0 < sNeed ρ l then sChain ρ l else 0) := rfl
      have ih2 := ih n (l + 1) (by omega) (by omega)
      rw [hr.1.1, if_neg (nI_ge (by omega) (by omega)), C_needOf ho hr hk hl2, bd2_s, ite_iff (nI_le0 (by omega))]
      by_cases z : sNeed ρ l = 0
      · rw [if_pos z, nI_1, show (0 : Int32) = nI 0 from rfl, or_I]
        rw [e2, if_neg (by omega)] at ih2
        exact ih2
      · rw [if_neg z]
        simp only [hRl ho v w, bd1_s]
        rw [C_chainOf ho hr hk hl2, bd2_s, nI_1, or_I]
        rw [e2, if_pos (by omega)] at ih2
        exact ih2
  simp only [f_Realm_lapsing, f_Realm_lapsing_0]
  exact key (ρ 0 0) FU 0 (by unfold FU; omega) (by omega)
end
