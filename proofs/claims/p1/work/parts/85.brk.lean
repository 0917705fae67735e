/-! a BREAKING -/
def sDue (ρ : Rho) (p l : Nat) : Nat := if bit (ρ 0 5) l = 1 then ρ 4 l else 0
def sHurt (ρ : Rho) (p l : Nat) : Nat := ρ 3 l + ρ 7 p
def sNo (ρ : Rho) (p l : Nat) : Prop := sTries ρ p l = 0 ∨ ρ 9 p < sDue ρ p l
def sBig (ρ : Rho) (p l : Nat) : Prop := 9999 < ρ 0 3 + sHurt ρ p l
def bk (ρ : Rho) (p l : Nat) : Rho := up2 (up2 (up2 ρ 9 p (ρ 9 p - sDue ρ p l)) 12 (5 * p + l) (ρ 12 (5 * p + l) + 1)) 0 3 (ρ 0 3 + sHurt ρ p l)
theorem up2_comm {ρ : Rho} {f g i j x y : Nat} (h : f ≠ g) : up2 (up2 ρ f i x) g j y = up2 (up2 ρ g j y) f i x := by
  funext a b
  unfold up2 va_up
  by_cases h1 : a = g
  · subst h1
    simp [h, Ne.symm h]
  · by_cases h2 : a = f
    · subst h2
      simp [h1]
    · simp [h1, h2]
theorem sumN_up {f : Nat → Nat} {l : Nat} : ∀ {n : Nat}, l < n → sumN (fun i => if i = l then f l + 1 else f i) n = sumN f n + 1
  | 0, h => by omega
  | n + 1, h => by
    show sumN (fun i => if i = l then f l + 1 else f i) n + (if n = l then f l + 1 else f n) = sumN f n + f n + 1
    by_cases e : n = l
    · subst e
      rw [if_pos rfl, sumN_congr (g := f) (fun i hi => if_neg (by omega))]
      omega
    · rw [if_neg e, sumN_up (by omega)]
      omega
theorem ROK_bk {ρ : Rho} {p l : Nat} (hk : ROK ρ) (hp : p < ρ 0 1) (hl : l < ρ 0 0) (h1 : ¬ sNo ρ p l) (h2 : ¬ sBig ρ p l) : ROK (bk ρ p l) := by
  have h5 := hk.1.1
  have ht : ¬ sTries ρ p l = 0 := fun z => h1 (Or.inl z)
  have hc := sCan_iff.mpr (Nat.pos_of_ne_zero ht)
  have hroom : ρ 12 (5 * p + l) < ρ 2 l := by
    have := hc.1
    unfold sRoom at this
    split at this
    · omega
    · omega
  have hleft : sAll ρ p < ρ 6 p := by
    have := hc.2
    unfold sLeft at this
    omega
  have hb : ∀ q j, bk ρ p l 12 (5 * q + j) = if 5 * q + j = 5 * p + l then ρ 12 (5 * p + l) + 1 else ρ 12 (5 * q + j) := by
    intro q j
    show (va_up (ρ 12) (5 * p + l) (ρ 12 (5 * p + l) + 1)) (5 * q + j) = _
    rfl
  refine ⟨⟨hk.1.1, hk.1.2.1, hk.1.2.2.1, ?_, hk.1.2.2.2.2⟩, hk.2.1, fun q hq => ?_, fun q j hq hj => ?_, hk.2.2.2.2⟩
  · show ρ 0 3 + sHurt ρ p l ≤ 9999
    unfold sBig at h2
    omega
  · have hq : q < ρ 0 1 := hq
    have g := hk.2.2.1 q hq
    refine ⟨g.1, g.2.1, g.2.2.1, ?_, g.2.2.2.2.1, g.2.2.2.2.2.1, ?_⟩
    · show va_up (ρ 9) p (ρ 9 p - sDue ρ p l) q ≤ 99
      by_cases e : q = p
      · subst e; rw [up_at]; have := g.2.2.2.1; omega
      · rw [up_ne e]; exact g.2.2.2.1
    · show sumN (fun j => bk ρ p l 12 (5 * q + j)) (ρ 0 0) ≤ 5
      by_cases e : q = p
      · subst e
        have e3 : sumN (fun j => bk ρ q l 12 (5 * q + j)) (ρ 0 0) = sumN (fun j => if j = l then (fun i => ρ 12 (5 * q + i)) l + 1 else (fun i => ρ 12 (5 * q + i)) j) (ρ 0 0) := by
          refine sumN_congr (fun j hj => ?_)
          rw [hb]
          by_cases z : j = l
          · subst z; rw [if_pos rfl, if_pos rfl]
          · rw [if_neg (by omega), if_neg z]
        have e5 : _ = sumN (fun i => ρ 12 (5 * q + i)) (ρ 0 0) + 1 := e3.trans (sumN_up (f := fun i => ρ 12 (5 * q + i)) hl)
        have := g.1
        have e4 : sAll ρ q = sumN (fun i => ρ 12 (5 * q + i)) (ρ 0 0) := rfl
        omega
      · have e3 : sumN (fun j => bk ρ p l 12 (5 * q + j)) (ρ 0 0) = sumN (fun i => ρ 12 (5 * q + i)) (ρ 0 0) := by
          refine sumN_congr (fun j hj => ?_)
          rw [hb, if_neg (by omega)]
        rw [e3]
        exact g.2.2.2.2.2.2
  · have hq : q < ρ 0 1 := hq
    have hj : j < ρ 0 0 := hj
    show bk ρ p l 12 (5 * q + j) ≤ ρ 2 j
    rw [hb]
    split
    · next z => obtain ⟨rfl, rfl⟩ : q = p ∧ j = l := by omega
                omega
    · exact hk.2.2.2.1 q j hq hj
/-- what it answers, and the realm then -/
noncomputable def rbk (ρ : Rho) (p l : Nat) : Int32 := haveI := Classical.propDecidable; if sNo ρ p l then -2 else if sBig ρ p l then -3 else nI (sHurt ρ p l)
noncomputable def sbk (ρ : Rho) (p l : Nat) : Rho := haveI := Classical.propDecidable; if sNo ρ p l then ρ else if sBig ρ p l then ρ else bk ρ p l
theorem ROK_sbk {ρ : Rho} {p l : Nat} (hk : ROK ρ) (hp : p < ρ 0 1) (hl : l < ρ 0 0) : ROK (sbk ρ p l) := by
  unfold sbk
  split
  · exact hk
  · next z => split
              · exact hk
              · next y => exact ROK_bk hk hp hl z y
theorem SAME_sbk {ρ σ : Rho} {p l : Nat} (h : SAME ρ σ) : SAME (sbk ρ p l) σ := by
  unfold sbk
  split
  · exact h
  · split
    · exact h
    · exact h
section
variable {ρ : Rho} {v : Nat → Nat → Int32} {w : Nat → Nat → Int64} {o : Nat}
theorem sHurt_le (hk : ROK ρ) {p l : Nat} (hp : p < ρ 0 1) (hl : l < ρ 0 0) : sHurt ρ p l ≤ 12 := by
  have := (hk.2.1 l hl).2.2.2.1
  have := (hk.2.2.1 p hp).2.1
  unfold sHurt
  omega
theorem sDue_le (hk : ROK ρ) {p l : Nat} (hl : l < ρ 0 0) : sDue ρ p l ≤ 9 := by
  have := (hk.2.1 l hl).2.2.2.2.1
  unfold sDue
  split <;> omega
theorem C_breakOnce (ho : rl o) (hr : CR o ρ v) (hk : ROK ρ) {p l : Nat} (hp : p < ρ 0 1) (hl : l < ρ 0 0) : ∃ v', f_Realm_breakOnce o (nI p) (nI l) (bh v w) = some (rbk ρ p l, bh v' w) ∧ CR o (sbk ρ p l) v' ∧ ∀ q, q < o ∨ o + 17 ≤ q → v' q = v q := by
  have h1 := hk.1.1
  have h2 := hk.1.2.1
  have hw32 := pw_le h1 hk.1.2.2.2.2.2.1
  have hdone := hk.1.2.2.2.1
  have hH := sHurt_le hk hp hl
  have hD := sDue_le hk (p := p) hl
  have hT := sTries_le hk (p := p) hl
  have hpu := (hk.2.2.1 p hp).2.2.2.1
  have hbr := hk.2.2.2.1 p l hp hl
  have hcap := (hk.2.1 l hl).2.2.1
  have inP : 0 ≤ (nI p).toInt ∧ (nI p).toInt < (ρ 0 1 : Int) := by rw [nI_toInt (by omega)]; omega
  have inL : 0 ≤ (nI l).toInt ∧ (nI l).toInt < (ρ 0 0 : Int) := by rw [nI_toInt (by omega)]; omega
  have tail : ∃ v', f_Realm_breakOnce_32 o (nI p) (nI l) (nI (sDue ρ p l)) (bh v w) = some (rbk ρ p l, bh v' w) ∧ CR o (sbk ρ p l) v' ∧ ∀ q, q < o ∨ o + 17 ≤ q → v' q = v q := by
    unfold rbk sbk
    simp only [f_Realm_breakOnce_32, f_Realm_breakOnce_52, hRl ho v w, bd1_s]
    rw [C_ableAlone ho hr hk hp hl, bd2_s, ite_iff (nI_eq0 (by omega))]
    by_cases ht : sTries ρ p l = 0
    · have hno : sNo ρ p l := Or.inl ht
      rw [if_pos ht, if_pos hno, if_pos hno]
      exact ⟨v, rfl, hr, fun _ _ => rfl⟩
    · rw [if_neg ht]
      try simp only [hRl ho v w, bd1_s]
      rw [rd_nI (by omega) (by decide), bd1_s, (hr.2.2.1 p hp).2.2.2.1, ite_iff (nI_leI (by omega) (by omega))]
      by_cases hu : sDue ρ p l ≤ ρ 9 p
      · have hno : ¬ sNo ρ p l := fun z => z.elim (fun q => ht q) (fun q => by omega)
        rw [if_pos hu, if_neg hno, if_neg hno]
        try simp only [hRl ho v w, bd1_s]
        rw [rd_nI (by omega) (by decide), bd1_s]
        try simp only [hRl ho v w, bd1_s]
        rw [rd_nI (by omega) (by decide), bd1_s, hr.1.2.2.2.1, (hr.2.1 l hl).2.2.1, (hr.2.2.1 p hp).2.1, nI_add, nI_add, show (9999 : Int32) = nI 9999 from rfl, ite_iff (nI_leI (by unfold sHurt at hH; omega) (by decide))]
        by_cases hb : sBig ρ p l
        · rw [if_neg (by unfold sBig sHurt at hb; omega), if_pos hb, if_pos hb]
          exact ⟨v, rfl, hr, fun _ _ => rfl⟩
        · rw [if_pos (by unfold sBig sHurt at hb; omega), if_neg hb, if_neg hb]
          try simp only [hRl ho v w, bd1_s]
          rw [pk_sub hu, wr_nI (by omega) (by decide), bd1_s]
          try simp only [hRl ho (u2 v (o + 9) p (nI (ρ 9 p - sDue ρ p l))) w, bd1_s, f_Realm_mark, f_Realm_mark_0]
          have e3 : u2 v (o + 9) p (nI (ρ 9 p - sDue ρ p l)) (o + 3) l = nI (ρ 3 l) := (congrFun (u2_o (by omega)) l).trans (hr.2.1 l hl).2.2.1
          have e7 : u2 v (o + 9) p (nI (ρ 9 p - sDue ρ p l)) (o + 7) p = nI (ρ 7 p) := (congrFun (u2_o (by omega)) p).trans (hr.2.2.1 p hp).2.1
          have e12 : u2 v (o + 9) p (nI (ρ 9 p - sDue ρ p l)) (o + 12) (5 * p + l) = nI (ρ 12 (5 * p + l)) := (congrFun (u2_o (by omega)) _).trans (hr.2.2.2.1 p l hp hl)
          rw [rd_nI (by omega) (by decide), bd1_s, rd_nI (by omega) (by decide), bd1_s, e3, e7, nI_add]
          rw [show (nI p * (5 : Int32)) + nI l = nI (5 * p + l) by rw [show (5 : Int32) = nI 5 from rfl, pk_mul, nI_add, Nat.mul_comm p 5]]
          rw [rd_nI (by omega) (by decide), bd1_s, e12, nI_1, wr_nI (by omega) (by decide), bd1_s]
          try simp only [hRl ho (u2 (u2 v (o + 9) p (nI (ρ 9 p - sDue ρ p l))) (o + 12) (5 * p + l) (nI (ρ 12 (5 * p + l) + 1))) w, bd1_s]
          have e0 : u2 (u2 v (o + 9) p (nI (ρ 9 p - sDue ρ p l))) (o + 12) (5 * p + l) (nI (ρ 12 (5 * p + l) + 1)) o 3 = nI (ρ 0 3) := by
            rw [u2_o (by omega), u2_o (by omega)]; exact hr.1.2.2.2.1
          rw [e0, nI_add, bd2_s]
          refine ⟨_, rfl, ?_, fun q hq => ?_⟩
          · have c1 := CR_purse (x := ρ 9 p - sDue ρ p l) hp hr h1
            have c2 := CR_broke (ρ := up2 ρ 9 p (ρ 9 p - sDue ρ p l)) (x := ρ 12 (5 * p + l) + 1) (i := p) (j := l) hp hl c1 h1
            exact CR_done (x := ρ 0 3 + sHurt ρ p l) c2 h1
          · rw [u2_o (by omega), u2_o (by omega), u2_o (by omega)]
      · have hno : sNo ρ p l := Or.inr (by omega)
        rw [if_neg hu, if_pos hno, if_pos hno]
        exact ⟨v, rfl, hr, fun _ _ => rfl⟩
  simp only [f_Realm_breakOnce, f_Realm_breakOnce_0, f_Realm_hasBoth, f_Realm_hasBoth_0, f_Realm_hasBoth_20, hRl ho v w, bd1_s]
  rw [C_hasOne ho hr h2, bd2_s, if_pos inP, if_neg (by decide)]
  try simp only [hRl ho v w, bd1_s]
  rw [C_hasLaw ho hr h1, bd2_s, if_pos inL, if_neg (by decide), bd2_s, if_neg (by decide)]
  try simp only [hRl ho v w, bd1_s]
  rw [hr.1.2.2.2.2.2.1, Q_hasBit (by omega) (by omega), bd2_s]
  have e5 : sDue ρ p l = if bit (ρ 0 5) l = 1 then ρ 4 l else 0 := rfl
  rcases bit_01 (ρ 0 5) l with g | g
  · rw [g, if_pos (show nI 0 = 0 from rfl)]
    rw [e5, g, if_neg (by decide)] at tail
    exact tail
  · rw [g, if_neg (show ¬ nI 1 = 0 by decide)]
    try simp only [hRl ho v w, bd1_s]
    rw [rd_nI (by omega) (by decide), bd1_s, (hr.2.1 l hl).2.2.2.1]
    rw [e5, g, if_pos rfl] at tail
    exact tail
theorem M_breaks (hr : MR ρ v) (hk : ROK ρ) {p l : Nat} (hp : p < ρ 0 1) (hl : l < ρ 0 0) : ∃ v', f_M_breaks 100 (nI p) (nI l) (bh v w) = some (rbk ρ p l, bh v' w) ∧ MR (sbk ρ p l) v' ∧ (∀ q, q ≠ 101 → v' q = v q) ∧ ∀ j, 66 ≤ j → v' 101 j = v 101 j := by
  have h1 := hk.1.1
  have h2 := hk.1.2.1
  have hS := hk.1.2.2.2.2.2.2
  have hw32 := pw_le h1 hk.1.2.2.2.2.2.1
  have hdone := hk.1.2.2.2.1
  have hH := sHurt_le hk hp hl
  have hD := sDue_le hk (p := p) hl
  have hpu := (hk.2.2.1 p hp).2.2.2.1
  have inP : 0 ≤ (nI p).toInt ∧ (nI p).toInt < (ρ 0 1 : Int) := by rw [nI_toInt (by omega)]; omega
  have inL : 0 ≤ (nI l).toInt ∧ (nI l).toInt < (ρ 0 0 : Int) := by rw [nI_toInt (by omega)]; omega
  have a9 : v 101 (15 + p) = nI (ρ 9 p) := by have := hr.2.2.2.2.2.2.1 p hp; rwa [show 0 + 15 + p = 15 + p by omega] at this
  have a40 : v 101 40 = nI (ρ 0 3) := hr.2.2.2.2.2.2.2.2.2.2.2.1
  have a12 : v 101 (24 + 5 * p + l) = nI (ρ 12 (5 * p + l)) := by have := hr.2.2.2.2.2.2.2.2.2.1 p l hp hl; rwa [show 0 + 24 + 5 * p + l = 24 + 5 * p + l by omega] at this
  have i15 : (15 : Int32) + nI p = nI (15 + p) := by rw [show (15 : Int32) = nI 15 from rfl, nI_add]
  have i24 : ((24 : Int32) + (5 : Int32) * nI p) + nI l = nI (24 + 5 * p + l) := by rw [show (24 : Int32) = nI 24 from rfl, show (5 : Int32) = nI 5 from rfl, pk_mul, nI_add, nI_add]
  have tail : ∃ v', f_M_breaks_43 100 (nI p) (nI l) (nI (sDue ρ p l)) (bh v w) = some (rbk ρ p l, bh v' w) ∧ MR (sbk ρ p l) v' ∧ (∀ q, q ≠ 101 → v' q = v q) ∧ ∀ j, 66 ≤ j → v' 101 j = v 101 j := by
    unfold rbk sbk
    have : Decidable (sCan ρ p l) := inferInstanceAs (Decidable (0 < sRoom ρ p l ∧ 0 < sLeft ρ p))
    simp only [f_M_breaks_43, f_M_breaks_66, hM v w, bd1_s]
    rw [M_canBreak hr hk hp hl, bd2_s]
    by_cases hc : sCan ρ p l
    · have ht : ¬ sTries ρ p l = 0 := by have := sCan_iff.mp hc; omega
      rw [if_pos hc, if_neg (by decide)]
      try simp only [hM v w, bd1_s]
      rw [i15, rd_nI (by omega) (by decide), bd1_s, a9, ite_iff (nI_leI (by omega) (by omega))]
      by_cases hu : sDue ρ p l ≤ ρ 9 p
      · have hno : ¬ sNo ρ p l := fun z => z.elim (fun q => ht q) (fun q => by omega)
        rw [if_pos hu, if_neg hno, if_neg hno]
        try simp only [hM v w, bd1_s]
        rw [rd_nI (by omega) (by decide), bd1_s]
        rw [rd_nI (by omega) (by decide), bd1_s, (hr.1.2.2.1 l hl).2.1, (hr.1.2.2.2 p hp).1, show (40 : Int32) = nI 40 from rfl, rd_nI (by omega) (by decide), bd1_s, a40, nI_add, nI_add, show (9999 : Int32) = nI 9999 from rfl, ite_iff (nI_leI (by unfold sHurt at hH; omega) (by decide))]
        by_cases hb : sBig ρ p l
        · rw [if_neg (by unfold sBig sHurt at hb; omega), if_pos hb, if_pos hb]
          exact ⟨v, rfl, hr, fun _ _ => rfl, fun _ _ => rfl⟩
        · rw [if_pos (by unfold sBig sHurt at hb; omega), if_neg hb, if_neg hb]
          try simp only [hM v w, bd1_s]
          rw [wr_nI (by omega) (by decide), bd1_s, nI_add (a := ρ 0 3)]
          simp only [hM (u2 v 101 40 (nI (ρ 0 3 + (ρ 3 l + ρ 7 p)))) w, bd1_s]
          rw [rd_nI (by omega) (by decide), bd1_s, u2_n (show 15 + p ≠ 40 by omega), a9, pk_sub hu, wr_nI (by omega) (by decide), bd1_s]
          try simp only [hM (u2 (u2 v 101 40 (nI (ρ 0 3 + (ρ 3 l + ρ 7 p)))) 101 (15 + p) (nI (ρ 9 p - sDue ρ p l))) w, bd1_s]
          rw [i24, rd_nI (by omega) (by decide), bd1_s, u2_n (show 24 + 5 * p + l ≠ 15 + p by omega), u2_n (show 24 + 5 * p + l ≠ 40 by omega), a12, nI_1, wr_nI (by omega) (by decide), bd1_s]
          refine ⟨_, rfl, ⟨?_, ?_⟩, fun q hq => ?_, fun j hj => ?_⟩
          · exact MF_u (MF_u (MF_u hr.1 rfl rfl rfl rfl rfl rfl rfl) rfl rfl rfl rfl rfl rfl rfl) rfl rfl rfl rfl rfl rfl rfl
          · have m1 := MB_done (x := ρ 0 3 + sHurt ρ p l) h1 h2 hS hr.2
            have m2 := MB_purse (ρ := up2 ρ 0 3 (ρ 0 3 + sHurt ρ p l)) (x := ρ 9 p - sDue ρ p l) (i := p) h1 h2 hS hp m1
            have m3 := MB_broke (ρ := up2 (up2 ρ 0 3 (ρ 0 3 + sHurt ρ p l)) 9 p (ρ 9 p - sDue ρ p l)) (x := ρ 12 (5 * p + l) + 1) (i := p) (j := l) h1 h2 hS hp hl m2
            rw [up2_comm (show 0 ≠ 9 by decide), up2_comm (show 0 ≠ 12 by decide)] at m3
            exact m3
          · rw [u2_o hq, u2_o hq, u2_o hq]
          · rw [u2_n (by omega), u2_n (by omega), u2_n (by omega)]
      · have hno : sNo ρ p l := Or.inr (by omega)
        rw [if_neg hu, if_pos hno, if_pos hno]
        exact ⟨v, rfl, hr, fun _ _ => rfl, fun _ _ => rfl⟩
    · have hno : sNo ρ p l := Or.inl (Nat.eq_zero_of_not_pos (fun q => hc (sCan_iff.mpr q)))
      rw [if_neg hc, if_pos rfl, if_pos hno, if_pos hno]
      exact ⟨v, rfl, hr, fun _ _ => rfl, fun _ _ => rfl⟩
  simp only [f_M_breaks, f_M_breaks_0, hM v w, bd1_s]
  rw [M_isOne hr.1 h2, bd2_s, if_pos inP, if_neg (by decide)]
  try simp only [hM v w, bd1_s]
  rw [M_isLaw hr.1 h1, bd2_s, if_pos inL, if_neg (by decide)]
  try simp only [hM v w, bd1_s]
  have e1 : rd (v 101) 198 (11 : Int32) = some (nI (ρ 0 5)) := by rw [← hr.2.2.2.2.1]; rfl
  rw [e1, bd1_s, bit_I (by omega) (by omega), ite_iff (nI_eq1 (by have := bit_lt (ρ 0 5) l; omega))]
  have e5 : sDue ρ p l = if bit (ρ 0 5) l = 1 then ρ 4 l else 0 := rfl
  rcases bit_01 (ρ 0 5) l with g | g
  · rw [g, if_neg (by decide)]
    rw [e5, g, if_neg (by decide)] at tail
    exact tail
  · rw [if_pos g, rd_nI (by omega) (by decide), bd1_s, (hr.1.2.2.1 l hl).2.2]
    rw [e5, if_pos g] at tail
    exact tail
end
