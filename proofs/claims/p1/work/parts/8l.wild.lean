/-! wild years -/
def sd (a : Int32) : Int32 := (a * (1103515245 : Int32)) + (12345 : Int32)
def dr (a : Int32) : Int32 := (a >>> ((16 : Int32) &&& 31)) &&& (32767 : Int32)
theorem dr_bv (b : BitVec 32) : (b >>> (16 : Nat)) &&& 32767#32 = (b.sshiftRight 16) &&& 32767#32 := by
  apply BitVec.eq_of_getLsbD_eq
  intro i hi
  rw [BitVec.getLsbD_and, BitVec.getLsbD_and, BitVec.getLsbD_ushiftRight, BitVec.getLsbD_sshiftRight]
  by_cases h : i < 15
  · have h1 : ¬ 32 ≤ i := by omega
    have h2 : 16 + i < 32 := by omega
    simp [h1, h2]
  · have : ∀ j, j < 32 → 15 ≤ j → (32767#32).getLsbD j = false := by decide
    rw [this i hi (by omega)]
    simp
theorem C_next (a : Int32) (h : mH) : f_Realm_nextSeed a h = some (sd a, h) := by
  unfold f_Realm_nextSeed f_Realm_nextSeed_0 sd
  exact Eq.refl _
theorem C_drawn (a : Int32) (h : mH) : f_Realm_drawn a h = some (dr a, h) := by
  unfold f_Realm_drawn f_Realm_drawn_0 dr
  refine congrArg (fun z => some (z, h)) ?_
  apply Int32.toBitVec_inj.mp
  exact dr_bv a.toBitVec
def wx (g d : Int32 → Int32) (ρ : Rho) (a : Int32) : Int32 := d (g a) - d (g a) / nI (ρ 0 1) * nI (ρ 0 1)
def wy (g d : Int32 → Int32) (ρ : Rho) (a : Int32) : Int32 := d (g (g a)) - d (g (g a)) / nI (ρ 0 0) * nI (ρ 0 0)
theorem M_wild_54b_eq (rec54 : Nat → Int32 → Int32 → Int32 → Int32 → Int32 → mH → Option (Int32 × mH)) (b0 : Nat) (b2 : Int32) (b3 : Int32) (b4 : Int32) (b5 : Int32) (b6 : Int32) (h : mH) : f_M_wild_54b rec54 b0 b2 b3 b4 b5 b6 h =
  if b2 ≤ b6 then
    bd1 (kC h b0 8) fun _ =>
    bd2 (f_M_fallsNow b0 h) fun x23 h21 =>
    bd1 (kC h21 b0 8) fun _ =>
    bd1 (f_M_returns b0 h21) fun h26 =>
    if b3 = 0 then
      some (b5, h26)
    else
      some (x23, h26)
  else
    bd1 (gI h b0 8 3) fun x29 =>
    if x29 = 0 then none else
    bd1 (gI h b0 8 2) fun x32 =>
    if x32 = 0 then none else
    bd1 (kC h b0 8) fun _ =>
    bd2 (f_M_breaks b0 ((dr (sd b4)) - (dr (sd b4)) / x29 * x29) ((dr (sd (sd b4))) - (dr (sd (sd b4))) / x32 * x32) h) fun x39 h37 =>
    if x39 < 0 then
      f_M_wild_130 rec54 b0 b2 b3 (sd (sd b4)) b6 b5 (0 : Int32) h37
    else
      f_M_wild_130 rec54 b0 b2 b3 (sd (sd b4)) b6 b5 (1 : Int32) h37 := by
  unfold f_M_wild_54b sd dr
  exact Eq.refl _
noncomputable def wlr (g d : Int32 → Int32) : Nat → Int32 → Nat → Rho → Nat × Rho
  | 0, _, c, ρ => (c, ρ)
  | n + 1, a, c, ρ => haveI := Classical.propDecidable; wlr g d n (g (g a)) (if gbk ρ (wx g d ρ a) (wy g d ρ a) < 0 then c else c + 1) (gst ρ (wx g d ρ a) (wy g d ρ a))
theorem wlr_le (g d : Int32 → Int32) : ∀ (n : Nat) (a : Int32) (c : Nat) (ρ : Rho), (wlr g d n a c ρ).1 ≤ c + n
  | 0, _, _, _ => Nat.le_refl _
  | n + 1, a, c, ρ => by
    unfold wlr
    have := wlr_le g d n (g (g a)) (@ite _ (gbk ρ (wx g d ρ a) (wy g d ρ a) < 0) (Classical.propDecidable _) c (c + 1)) (gst ρ (wx g d ρ a) (wy g d ρ a))
    refine Nat.le_trans this ?_
    split <;> omega
theorem gst_LP (ρ : Rho) (x y : Int32) : gst ρ x y 0 0 = ρ 0 0 ∧ gst ρ x y 0 1 = ρ 0 1 := by
  have := SAME_gst (SAME.rf ρ) x y
  exact ⟨this.1.symm, this.2.1.symm⟩
section
variable {v : Nat → Nat → Int32} {w : Nat → Nat → Int64}
theorem C_seed {g d : Int32 → Int32} (hn : ∀ a h, f_Realm_nextSeed a h = some (g a, h)) (hd : ∀ a h, f_Realm_drawn a h = some (d a, h)) {N : Nat} (hN : N ≤ 60) : ∀ (n i fuel c : Nat) (a : Int32) (ρ : Rho) (v : Nat → Nat → Int32), n < fuel → i + n = N → CR 20 ρ v → ROK ρ → 0 < ρ 0 1 → 0 < ρ 0 0 → ∃ v', f_Realm_breakBySeed_24 fuel 20 (nI N) (nI c) a (nI i) (bh v w) = some (nI (wlr g d n a c ρ).1, bh v' w) ∧ CR 20 (wlr g d n a c ρ).2 v' ∧ ROK (wlr g d n a c ρ).2 ∧ ∀ q, q < 20 ∨ 37 ≤ q → v' q = v q := by
  intro n
  induction n with
  | zero =>
    intro i fuel c a ρ v hf hi hr hk hP hL
    obtain ⟨m, rfl⟩ : ∃ m, fuel = m + 1 := ⟨fuel - 1, by omega⟩
    simp only [f_Realm_breakBySeed_24, f_Realm_breakBySeed_24b]
    rw [if_pos ((nI_leI (by omega) (by omega)).mpr (by omega))]
    exact ⟨v, rfl, hr, hk, fun _ _ => rfl⟩
  | succ n ih =>
    intro i fuel c a ρ v hf hi hr hk hP hL
    obtain ⟨m, rfl⟩ : ∃ m, fuel = m + 1 := ⟨fuel - 1, by omega⟩
    have h1 := hk.1.1
    have h2 := hk.1.2.1
    obtain ⟨v1, e1, c1, f1⟩ := C_bk (w := w) rl20 hr hk (wx g d ρ a) (wy g d ρ a)
    have gp := gst_LP ρ (wx g d ρ a) (wy g d ρ a)
    simp only [f_Realm_breakBySeed_24, f_Realm_breakBySeed_24b, f_Realm_breakBySeed_85, hn, hd, bd2_s, hRl rl20 v w, bd1_s]
    rw [if_neg (fun z => by have := (nI_leI (by omega) (by omega)).mp z; omega), hr.1.2.1, hr.1.1, if_neg (fun z => by have := (nI_eqI (a := ρ 0 1) (b := 0) (by omega) (by omega)).mp z; omega), if_neg (fun z => by have := (nI_eqI (a := ρ 0 0) (b := 0) (by omega) (by omega)).mp z; omega)]
    have ex : d (g a) - d (g a) / nI (ρ 0 1) * nI (ρ 0 1) = wx g d ρ a := rfl
    have ey : d (g (g a)) - d (g (g a)) / nI (ρ 0 0) * nI (ρ 0 0) = wy g d ρ a := rfl
    rw [ex, ey, e1, bd2_s]
    unfold wlr
    by_cases hg : gbk ρ (wx g d ρ a) (wy g d ρ a) < 0
    · rw [if_pos hg, if_pos hg, show (0 : Int32) = nI 0 from rfl, nI_add, nI_1, Nat.add_zero]
      obtain ⟨v', a1, a2, a3, a4⟩ := ih (i + 1) m c (g (g a)) (gst ρ (wx g d ρ a) (wy g d ρ a)) v1 (by omega) (by omega) c1 (ROK_gst hk _ _) (by rw [gp.2]; exact hP) (by rw [gp.1]; exact hL)
      exact ⟨v', a1, a2, a3, fun q hq => (a4 q hq).trans (f1 q (by omega))⟩
    · rw [if_neg hg, if_neg hg, nI_1, nI_1]
      obtain ⟨v', a1, a2, a3, a4⟩ := ih (i + 1) m (c + 1) (g (g a)) (gst ρ (wx g d ρ a) (wy g d ρ a)) v1 (by omega) (by omega) c1 (ROK_gst hk _ _) (by rw [gp.2]; exact hP) (by rw [gp.1]; exact hL)
      exact ⟨v', a1, a2, a3, fun q hq => (a4 q hq).trans (f1 q (by omega))⟩
theorem M_seed {g d : Int32 → Int32} (hb : ∀ (rec54 : Nat → Int32 → Int32 → Int32 → Int32 → Int32 → mH → Option (Int32 × mH)) (b0 : Nat) (b2 : Int32) (b3 : Int32) (b4 : Int32) (b5 : Int32) (b6 : Int32) (h : mH), f_M_wild_54b rec54 b0 b2 b3 b4 b5 b6 h =
  if b2 ≤ b6 then
    bd1 (kC h b0 8) fun _ =>
    bd2 (f_M_fallsNow b0 h) fun x23 h21 =>
    bd1 (kC h21 b0 8) fun _ =>
    bd1 (f_M_returns b0 h21) fun h26 =>
    if b3 = 0 then
      some (b5, h26)
    else
      some (x23, h26)
  else
    bd1 (gI h b0 8 3) fun x29 =>
    if x29 = 0 then none else
    bd1 (gI h b0 8 2) fun x32 =>
    if x32 = 0 then none else
    bd1 (kC h b0 8) fun _ =>
    bd2 (f_M_breaks b0 ((d (g b4)) - (d (g b4)) / x29 * x29) ((d (g (g b4))) - (d (g (g b4))) / x32 * x32) h) fun x39 h37 =>
    if x39 < 0 then
      f_M_wild_130 rec54 b0 b2 b3 (g (g b4)) b6 b5 (0 : Int32) h37
    else
      f_M_wild_130 rec54 b0 b2 b3 (g (g b4)) b6 b5 (1 : Int32) h37) {N : Nat} (hN : N ≤ 60) (z : Int32) : ∀ (n i fuel c : Nat) (a : Int32) (ρ : Rho) (v : Nat → Nat → Int32), n < fuel → i + n = N → MR ρ v → ROK ρ → 0 < ρ 0 1 → 0 < ρ 0 0 → ∃ v', f_M_wild_54 fuel 100 (nI N) z a (nI c) (nI i) (bh v w) = some (if z = 0 then nI (wlr g d n a c ρ).1 else nI (sFalls (wlr g d n a c ρ).2), bh v' w) ∧ (∀ q, q ≠ 101 → v' q = v q) ∧ (∀ j, j < 66 → v' 101 j = v 119 j) ∧ ∀ j, 66 ≤ j → v' 101 j = v 101 j := by
  intro n
  induction n with
  | zero =>
    intro i fuel c a ρ v hf hi hr hk hP hL
    obtain ⟨m, rfl⟩ : ∃ m, fuel = m + 1 := ⟨fuel - 1, by omega⟩
    obtain ⟨v1, e1, f1, g1, k1⟩ := M_returns v w
    show ∃ v', f_M_wild_54b (f_M_wild_54 m) 100 (nI N) z a (nI c) (nI i) (bh v w) = _ ∧ _
    rw [hb]
    simp only [hM v w, bd1_s]
    rw [if_pos ((nI_leI (by omega) (by omega)).mpr (by omega)), M_fallsNow hr hk, bd2_s]
    simp only [hM v w, bd1_s]
    rw [e1, bd1_s]
    refine ⟨v1, ?_, f1, g1, k1⟩
    split <;> rfl
  | succ n ih =>
    intro i fuel c a ρ v hf hi hr hk hP hL
    obtain ⟨m, rfl⟩ : ∃ m, fuel = m + 1 := ⟨fuel - 1, by omega⟩
    have h1 := hk.1.1
    have h2 := hk.1.2.1
    obtain ⟨v1, e1, c1, f1, k1⟩ := M_bk (w := w) hr hk (wx g d ρ a) (wy g d ρ a)
    have gp := gst_LP ρ (wx g d ρ a) (wy g d ρ a)
    have fl0 : ∀ h : mH, f_M_flag 0 h = some (0, h) := fun _ => rfl
    have fl1 : ∀ h : mH, f_M_flag 1 h = some (1, h) := fun _ => rfl
    show ∃ v', f_M_wild_54b (f_M_wild_54 m) 100 (nI N) z a (nI c) (nI i) (bh v w) = _ ∧ _
    rw [hb]
    simp only [f_M_wild_130, hM v w, bd1_s, fl0, fl1, bd2_s]
    rw [if_neg (fun z => by have := (nI_leI (by omega) (by omega)).mp z; omega), hr.1.2.1, hr.1.1, if_neg (fun z => by have := (nI_eqI (a := ρ 0 1) (b := 0) (by omega) (by omega)).mp z; omega), if_neg (fun z => by have := (nI_eqI (a := ρ 0 0) (b := 0) (by omega) (by omega)).mp z; omega)]
    have ex : d (g a) - d (g a) / nI (ρ 0 1) * nI (ρ 0 1) = wx g d ρ a := rfl
    have ey : d (g (g a)) - d (g (g a)) / nI (ρ 0 0) * nI (ρ 0 0) = wy g d ρ a := rfl
    rw [ex, ey, e1, bd2_s]
    unfold wlr
    by_cases hg : gbk ρ (wx g d ρ a) (wy g d ρ a) < 0
    · rw [if_pos hg, if_pos hg, show nI c + 0 = nI (c + 0) by rw [show (0 : Int32) = nI 0 from rfl, nI_add], nI_1, Nat.add_zero]
      obtain ⟨v', a1, a2, a3, a4⟩ := ih (i + 1) m c (g (g a)) (gst ρ (wx g d ρ a) (wy g d ρ a)) v1 (by omega) (by omega) c1 (ROK_gst hk _ _) (by rw [gp.2]; exact hP) (by rw [gp.1]; exact hL)
      exact ⟨v', a1, fun q hq => (a2 q hq).trans (f1 q hq), fun j hj => (a3 j hj).trans (by rw [f1 119 (by decide)]), fun j hj => (a4 j hj).trans (k1 j hj)⟩
    · rw [if_neg hg, if_neg hg, nI_1, nI_1]
      obtain ⟨v', a1, a2, a3, a4⟩ := ih (i + 1) m (c + 1) (g (g a)) (gst ρ (wx g d ρ a) (wy g d ρ a)) v1 (by omega) (by omega) c1 (ROK_gst hk _ _) (by rw [gp.2]; exact hP) (by rw [gp.1]; exact hL)
      exact ⟨v', a1, fun q hq => (a2 q hq).trans (f1 q hq), fun j hj => (a3 j hj).trans (by rw [f1 119 (by decide)]), fun j hj => (a4 j hj).trans (k1 j hj)⟩
end
section
variable {S : Sg} {v : Nat → Nat → Int32} {w : Nat → Nat → Int64}
/-- the reference's numbers saved, changed and brought back -/
theorem back_same {v1 v2 v3 : Nat → Nat → Int32} (f1 : ∀ q, q ≠ 119 → v2 q = v1 q) (g1 : ∀ j, j < 66 → v2 119 j = v1 101 j) (f2 : ∀ q, q ≠ 101 → v3 q = v2 q) (g2 : ∀ j, j < 66 → v3 101 j = v2 119 j) (k2 : ∀ j, 66 ≤ j → v3 101 j = v2 101 j) : ∀ q, q ≠ 119 → v3 q = v1 q := by
  intro q hq
  by_cases h : q = 101
  · subst h
    funext j
    by_cases hj : j < 66
    · rw [g2 j hj, g1 j hj]
    · rw [k2 j (by omega), f1 101 (by decide)]
  · exact (f2 q h).trans (f1 q hq)
theorem E_wild_of {g d : Int32 → Int32} (hn : ∀ a h, f_Realm_nextSeed a h = some (g a, h)) (hd : ∀ a h, f_Realm_drawn a h = some (d a, h)) (hb : ∀ (rec54 : Nat → Int32 → Int32 → Int32 → Int32 → Int32 → mH → Option (Int32 × mH)) (b0 : Nat) (b2 : Int32) (b3 : Int32) (b4 : Int32) (b5 : Int32) (b6 : Int32) (h : mH), f_M_wild_54b rec54 b0 b2 b3 b4 b5 b6 h =
  if b2 ≤ b6 then
    bd1 (kC h b0 8) fun _ =>
    bd2 (f_M_fallsNow b0 h) fun x23 h21 =>
    bd1 (kC h21 b0 8) fun _ =>
    bd1 (f_M_returns b0 h21) fun h26 =>
    if b3 = 0 then
      some (b5, h26)
    else
      some (x23, h26)
  else
    bd1 (gI h b0 8 3) fun x29 =>
    if x29 = 0 then none else
    bd1 (gI h b0 8 2) fun x32 =>
    if x32 = 0 then none else
    bd1 (kC h b0 8) fun _ =>
    bd2 (f_M_breaks b0 ((d (g b4)) - (d (g b4)) / x29 * x29) ((d (g (g b4))) - (d (g (g b4))) / x32 * x32) h) fun x39 h37 =>
    if x39 < 0 then
      f_M_wild_130 rec54 b0 b2 b3 (g (g b4)) b6 b5 (0 : Int32) h37
    else
      f_M_wild_130 rec54 b0 b2 b3 (g (g b4)) b6 b5 (1 : Int32) h37) (x y z : Int32) (hs : SOK S) (hc : CI S v) (hm : MI S v) : Eqv S v w (f_Q_wild 0 x y z) (f_M_wild 100 x y z) := by
  have h1 := hs.1.1.1
  have h2 := hs.1.1.2.1
  have w1 : (1 : Int64) ≤ y.toInt64 ∧ y.toInt64 ≤ 60 ↔ (1 : Int32).toInt ≤ y.toInt ∧ y.toInt ≤ (60 : Int32).toInt := by
    rw [show (1 : Int64) = (1 : Int32).toInt64 from rfl, show (60 : Int64) = (60 : Int32).toInt64 from rfl, i64_le, i64_le]
  have w2 : (0 : Int64) ≤ z.toInt64 ∧ z.toInt64 ≤ 1 ↔ (0 : Int32).toInt ≤ z.toInt ∧ z.toInt ≤ (1 : Int32).toInt := by
    rw [show (0 : Int64) = (0 : Int32).toInt64 from rfl, show (1 : Int64) = (1 : Int32).toInt64 from rfl, i64_le, i64_le]
  by_cases g1 : (1 : Int32).toInt ≤ y.toInt ∧ y.toInt ≤ (60 : Int32).toInt
  · by_cases g2 : (0 : Int32).toInt ≤ z.toInt ∧ z.toInt ≤ (1 : Int32).toInt
    · by_cases g3 : 0 < S.1 0 1 ∧ 0 < S.1 0 0
      · have e60 : (60 : Int32).toInt = 60 := rfl
        have e01 : (1 : Int32).toInt = 1 := rfl
        obtain ⟨N, hN, rfl⟩ := ix (n := 61) (x := y) (by omega) (by omega)
        obtain ⟨v1, e1, d1⟩ := C_copyFrom rl20 rl3 (by decide) v w
        obtain ⟨v2, e2, c2, k2, f2⟩ := C_seed (w := w) hn hd (show N ≤ 60 by omega) N 0 FU 0 x S.1 v1 (by unfold FU; omega) (by omega) (CR_copy hc.1 hs.1 d1) hs.1 g3.1 g3.2
        have q2 : ∀ q, q < 20 ∨ 37 ≤ q → v2 q = v q := fun q hq => (f2 q hq).trans (d1.1 q (by omega))
        have hm2 : MI S v2 := hm.frame (fun p hp => q2 p (by omega))
        obtain ⟨v3, e3, f3, s3⟩ := M_saves v2 w
        have hm3 : MI S v3 := hm2.fr (fun p hp => f3 p (by unfold pM at hp; omega)) (by rw [f3 100 (by decide)]; exact ⟨rfl, rfl, rfl, rfl, rfl⟩)
        obtain ⟨v4, e4, f4, s4, t4⟩ := M_seed (w := w) hb (show N ≤ 60 by omega) z N 0 FU 0 x S.1 v3 (by unfold FU; omega) (by omega) hm3.1 hs.1 g3.1 g3.2
        have q4 := back_same f3 s3 f4 s4 t4
        refine EqT.q (r := if z = 0 then nI (wlr g d N x 0 S.1).1 else nI (sFalls (wlr g d N x 0 S.1).2)) (v1 := v2) (w1 := w) (v2 := v4) (w2 := w) hs hc hm ?_ (fun p hp => q2 p (by unfold pC at hp; omega)) ?_ (fun p hp => q4 p (by unfold pM at hp; omega))
        · simp only [f_Q_wild, f_Q_wild_0, Q_isWithin, bd2_s]
          rw [if_pos g1, if_neg (by decide), if_pos g2, if_neg (by decide)]
          simp only [q_now, hQ v w, hRl rl3 v w, hRl rl20 v w, bd1_s]
          rw [hc.1.1.2.1, hc.1.1.1, if_neg (fun q => by have := (nI_leI (a := S.1 0 1) (b := 0) (by omega) (by omega)).mp q; omega), if_pos (show (0 : Int32) < nI (S.1 0 0) from (nI_ltI (a := 0) (by omega) (by omega)).mpr g3.2), e1]
          simp only [hQ v1 w, hRl rl20 v1 w, bd1_s, f_Realm_breakBySeed, f_Realm_breakBySeed_0]
          have cr1 := CR_copy hc.1 hs.1 d1
          rw [cr1.1.2.1, cr1.1.1, if_neg (fun q => by have := (nI_leI (a := S.1 0 1) (b := 0) (by omega) (by omega)).mp q; omega), if_pos (show (0 : Int32) < nI (S.1 0 0) from (nI_ltI (a := 0) (by omega) (by omega)).mpr g3.2)]
          have e2' : f_Realm_breakBySeed_24 FU 20 (nI N) 0 x 0 (bh v1 w) = some (nI (wlr g d N x 0 S.1).1, bh v2 w) := e2
          rw [e2', bd2_s]
          simp only [hQ v2 w, hRl rl20 v2 w, bd1_s]
          rw [C_lapsing rl20 c2 k2, bd2_s]
          split <;> rfl
        · simp only [f_M_wild, f_M_wild_0, M_in, bd2_s]
          rw [if_pos (w1.mpr g1), if_neg (by decide), if_pos (w2.mpr g2), if_neg (by decide)]
          simp only [hM v2 w, bd1_s]
          rw [hm2.1.1.2.1, hm2.1.1.1, if_neg (fun q => by have := (nI_eqI (a := S.1 0 1) (b := 0) (by omega) (by omega)).mp q; omega), if_neg (fun q => by have := (nI_eqI (a := S.1 0 0) (b := 0) (by omega) (by omega)).mp q; omega), e3, bd1_s]
          exact e4
      · refine Eqv.query (r := -2) hs hc hm ?_ ?_
        · simp only [f_Q_wild, f_Q_wild_0, f_Q_wild_41, Q_isWithin, bd2_s]
          rw [if_pos g1, if_neg (by decide), if_pos g2, if_neg (by decide)]
          simp only [q_now, hRl rl3 v w, bd1_s]
          rw [hc.1.1.2.1, hc.1.1.1]
          by_cases hP : S.1 0 1 = 0
          · rw [if_pos (by rw [hP]; decide)]
          · rw [if_neg (fun q => by have := (nI_leI (a := S.1 0 1) (b := 0) (by omega) (by omega)).mp q; omega), if_neg (fun q => by have := (nI_ltI (a := 0) (b := S.1 0 0) (by omega) (by omega)).mp q; omega)]
        · simp only [f_M_wild, f_M_wild_0, f_M_wild_38, M_in, bd2_s]
          rw [if_pos (w1.mpr g1), if_neg (by decide), if_pos (w2.mpr g2), if_neg (by decide)]
          simp only [hM v w, bd1_s]
          rw [hm.1.1.2.1, hm.1.1.1]
          by_cases hP : S.1 0 1 = 0
          · rw [if_pos (by rw [hP]; rfl)]
          · rw [if_neg (fun q => by have := (nI_eqI (a := S.1 0 1) (b := 0) (by omega) (by omega)).mp q; omega), if_pos (by rw [show S.1 0 0 = 0 by omega]; rfl)]
    · refine Eqv.query (r := -1) hs hc hm ?_ ?_
      · simp only [f_Q_wild, f_Q_wild_0, f_Q_wild_19, Q_isWithin, bd2_s]
        rw [if_pos g1, if_neg (by decide), if_neg g2, if_pos rfl]
      · simp only [f_M_wild, f_M_wild_0, f_M_wild_22, M_in, bd2_s]
        rw [if_pos (w1.mpr g1), if_neg (by decide), if_neg (fun q => g2 (w2.mp q)), if_pos rfl]
  · refine Eqv.query (r := -1) hs hc hm ?_ ?_
    · simp only [f_Q_wild, f_Q_wild_0, f_Q_wild_19, Q_isWithin, bd2_s]
      rw [if_neg g1, if_pos rfl]
    · simp only [f_M_wild, f_M_wild_0, f_M_wild_22, M_in, bd2_s]
      rw [if_neg (fun q => g1 (w1.mp q)), if_pos rfl]
theorem E_wild (x y z : Int32) (hs : SOK S) (hc : CI S v) (hm : MI S v) : Eqv S v w (f_Q_wild 0 x y z) (f_M_wild 100 x y z) := E_wild_of C_next C_drawn M_wild_54b_eq x y z hs hc hm
end
