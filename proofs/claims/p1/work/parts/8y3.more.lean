/-! more -/
def mLst (P : Nat → Prop) (r : Int32) : Prop := (∃ e, e ≤ 9 ∧ r = nI e ∧ P e ∧ ∀ e', e' < e → ¬ P e') ∨ (r = -4 ∧ ∀ e, e ≤ 9 → ¬ P e)
def lfe (ρ : Rho) (p e : Nat) : Nat → Nat := fun q => if q = p then ρ 6 p + e - sAll ρ p else rL ρ (ρ 6) q
def Tme (ρ : Rho) (p e : Nat) : Nat → Nat := fun q => if q = p then ρ 6 p + e else ρ 6 q
section
variable {ρ : Rho} {v : Nat → Nat → Int32} {w : Nat → Nat → Int64}
theorem rL_le (hk : ROK ρ) {T : Nat → Nat} {m : Nat} (hT : ∀ p, p < ρ 0 1 → T p ≤ m) (p : Nat) : rL ρ T p ≤ m := by
  unfold rL
  split
  · next h => have := hT p h; omega
  · omega
theorem pI_pH (hk : ROK ρ) (h : pI ρ (ρ 0 0) 0 v) : pH (ρ 0 0) (sNeed ρ) (rR ρ) (rL ρ (ρ 6)) v := by
  obtain ⟨i1, i2, i3, i4, i5, i6⟩ := h
  refine ⟨hk.1.1, i1, fun l hl => ⟨i3 l hl (Or.inl hl), sNeed_le hk hl⟩, fun p l hp hl => ⟨?_, rR_le hk hl⟩, fun p hp => ⟨i2 p hp, Nat.le_trans (rL_le hk (fun p hp => (hk.2.2.1 p hp).1) p) (by decide)⟩⟩
  rw [i5 p l hp hl, if_pos (Or.inl hl)]
theorem C_moreL (hk : ROK ρ) {p : Nat} (hp : p < ρ 0 1) : ∀ (n fuel e : Nat) (lf : Nat → Nat) (v : Nat → Nat → Int32), n < fuel → e + n = 10 → CR 3 ρ v → pH (ρ 0 0) (sNeed ρ) (rR ρ) lf v → (∀ q, q ≠ p → lf q = rL ρ (ρ 6) q) → (∀ e', e' < e → ¬ cM (ρ 0 0) (sNeed ρ) (rR ρ) (lfe ρ p e') (ρ 0 4)) → ∃ r v', f_Q_more_26 fuel 0 (nI p) (nI e) (bh v w) = some (r, bh v' w) ∧ (∀ q, q ≠ 41 → v' q = v q) ∧ mLst (fun e => cM (ρ 0 0) (sNeed ρ) (rR ρ) (lfe ρ p e) (ρ 0 4)) r := by
  have h2 := hk.1.2.1
  have hst := hk.st
  have hs5 : sAll ρ p ≤ 5 := (hk.2.2.1 p hp).2.2.2.2.2.2
  have ht5 : ρ 6 p ≤ 5 := (hk.2.2.1 p hp).1
  intro n
  induction n with
  | zero =>
    intro fuel e lf v hf he hr hH hl hn
    obtain ⟨m, rfl⟩ : ∃ m, fuel = m + 1 := ⟨fuel - 1, by omega⟩
    show ∃ r v', f_Q_more_26b (f_Q_more_26 m) 0 (nI p) (nI e) (bh v w) = some (r, bh v' w) ∧ _
    unfold f_Q_more_26b
    rw [show (9 : Int32) = nI 9 from rfl, if_pos ((nI_ltI (by omega) (by omega)).mpr (by omega))]
    exact ⟨-4, v, rfl, fun _ _ => rfl, Or.inr ⟨rfl, fun e' h => hn e' (by omega)⟩⟩
  | succ n ih =>
    intro fuel e lf v hf he hr hH hl hn
    obtain ⟨m, rfl⟩ : ∃ m, fuel = m + 1 := ⟨fuel - 1, by omega⟩
    have c9 : v 9 p = nI (ρ 6 p) := (hr.2.2.1 p hp).1
    have cz : nI (ρ 6 p) + nI e - nI (sAll ρ p) = zI ((ρ 6 p : Int) + e - sAll ρ p) := by rw [nI_add, ← zI_n, zI_subn]; rfl
    have cn : ((ρ 6 p : Int) + e - sAll ρ p).toNat = ρ 6 p + e - sAll ρ p := by omega
    have H1 : pH (ρ 0 0) (sNeed ρ) (rR ρ) (lfe ρ p e) (u2 v 41 p (nI (ρ 6 p + e - sAll ρ p))) := by
      obtain ⟨a1, a2, a3, a4, a5⟩ := hH
      refine ⟨a1, (congrFun (u2_o (by decide)) 0).trans a2, fun l h => ⟨(congrFun (u2_o (by decide)) l).trans (a3 l h).1, (a3 l h).2⟩, fun q l h h' => ⟨(congrFun (u2_o (by decide)) _).trans (a4 q l h h').1, (a4 q l h h').2⟩, fun q h => ?_⟩
      unfold lfe
      by_cases z : q = p
      · rw [if_pos z, z, u2_at]
        exact ⟨rfl, by omega⟩
      · rw [if_neg z, u2_n z, (a5 q h).1, hl q z]
        exact ⟨rfl, by rw [← hl q z]; exact (a5 q h).2⟩
    have R1 : CR 3 ρ (u2 v 41 p (nI (ρ 6 p + e - sAll ρ p))) := hr.frame (fun q h1 h2 => u2_o (by omega))
    obtain ⟨r, er, hrr⟩ := C_canMeet (w := w) (s := ρ 0 4) H1 hst
    have go : f_Q_more_26 (m + 1) 0 (nI p) (nI e) (bh v w) = if r = 0 then f_Q_more_26 m 0 (nI p) (nI (e + 1)) (bh (u2 v 41 p (nI (ρ 6 p + e - sAll ρ p))) w) else some (nI e, bh (u2 v 41 p (nI (ρ 6 p + e - sAll ρ p))) w) := by
      show f_Q_more_26b (f_Q_more_26 m) 0 (nI p) (nI e) (bh v w) = _
      unfold f_Q_more_26b f_Planner_grant f_Planner_grant_0
      rw [show (9 : Int32) = nI 9 from rfl, if_neg (fun z => by have := (nI_ltI (by omega) (by omega)).mp z; omega)]
      simp only [hP0, bd1_q]
      rw [rd_nI (by omega) (by decide), bd1_s, c9, C_brokenByOne rl3 hr hk hp, bd2_s]
      simp only [hP0, bd1_q]
      rw [cz, max0 (by omega) (by omega), cn, wr_nI (by omega) (by decide), bd1_s, bd1_s]
      simp only [hP0, bd1_q]
      rw [R1.1.2.2.2.2.1, er, bd2_s, nI_1]
    rw [go]
    rcases hrr with ⟨a, b⟩ | ⟨a, b⟩
    · rw [a, if_neg (by decide)]
      exact ⟨nI e, _, rfl, fun q hq => u2_o hq, Or.inl ⟨e, by omega, rfl, b, hn⟩⟩
    · rw [a, if_pos rfl]
      obtain ⟨r', v', e1, e2, e3⟩ := ih m (e + 1) (lfe ρ p e) _ (by omega) (by omega) R1 H1 (fun q hq => by unfold lfe; rw [if_neg hq]) (fun e' h => by
        by_cases z : e' = e
        · rw [z]; exact b
        · exact hn e' (by omega))
      exact ⟨r', v', e1, fun q hq => (e2 q hq).trans (u2_o hq), e3⟩
theorem C_more (hr : CR 3 ρ v) (hk : ROK ρ) (h43 : v 43 0 = 0) {p : Nat} (hp : p < ρ 0 1) : ∃ r v', f_Q_more 0 (nI p) (bh v w) = some (r, bh v' w) ∧ pFr v v' ∧ v' 43 0 = 0 ∧ mLst (fun e => cM (ρ 0 0) (sNeed ρ) (rR ρ) (lfe ρ p e) (ρ 0 4)) r := by
  have h2 := hk.1.2.1
  obtain ⟨v1, e1, i1, f1⟩ := C_load (w := w) hr hk h43
  obtain ⟨r, v2, e2, f2, m2⟩ := C_moreL (w := w) hk hp 10 FU 0 _ v1 (by decide) (by decide) (hr.fp f1) (pI_pH hk i1) (fun q _ => rfl) (fun e' h => by omega)
  have e2 : f_Q_more_26 FU 0 (nI p) 0 (bh v1 w) = some (r, bh v2 w) := e2
  refine ⟨r, v2, ?_, fun q hq => (f2 q (by omega)).trans (f1 q hq), ?_, m2⟩
  · unfold f_Q_more f_Q_more_0
    simp only [hP0, bd1_q]
    rw [C_hasOne rl3 hr h2, bd2_s, if_pos (show 0 ≤ (nI p).toInt ∧ (nI p).toInt < (ρ 0 1 : Int) by rw [nI_toInt (by omega)]; omega), if_neg (by decide)]
    simp only [hP0, bd1_q]
    rw [e1, bd1_s]
    exact e2
  · rw [f2 43 (by decide)]
    exact i1.2.2.2.1 0 (Nat.zero_le _) (Or.inl (Nat.zero_le _))
/-! the reference's more -/
theorem hV0 (v : Nat → Nat → Int32) (w : Nat → Nat → Int64) : (∀ i, aI (bh v w) 0 101 i = rd (v 101) 198 i) ∧ (∀ i x, sI (bh v w) 0 101 i x = wr v w 101 198 i x) := ⟨aI_bh rfl, sI_bh rfl⟩
theorem MRt_time {T : Nat → Nat} {p x : Nat} (h : MRt T ρ v) (hk : ROK ρ) (hp : p < ρ 0 1) : MRt (fun q => if q = p then x else T q) ρ (u2 v 101 (12 + p) (nI x)) := by
  have h0 := hk.1.1
  have h2 := hk.1.2.1
  obtain ⟨hf, b1, b2, b3, b4, b5, b6, b7, b8, b9, b10, b11, b12, b13⟩ := h
  refine ⟨?_, fun l hl => ?_, fun l hl => ?_, ?_, ?_, fun q hq => ?_, fun q hq => ?_, fun q hq => ?_, fun q hq => ?_, fun q l hq hl => ?_, ?_, ?_, ?_, fun i hi => ?_⟩
  · unfold MF at hf ⊢
    rw [u2_o (by decide), u2_o (by decide), u2_o (by decide), u2_o (by decide), u2_o (by decide), u2_o (by decide)]
    exact hf
  · rw [u2_n (by omega)]; exact b1 l hl
  · rw [u2_n (by omega)]; exact b2 l hl
  · rw [u2_n (by omega)]; exact b3
  · rw [u2_n (by omega)]; exact b4
  · show _ = nI (if q = p then x else T q)
    by_cases z : q = p
    · rw [if_pos z, z, show 0 + 12 + p = 12 + p by omega, u2_at]
    · rw [if_neg z, u2_n (by omega)]; exact b5 q hq
  · rw [u2_n (by omega)]; exact b6 q hq
  · rw [u2_n (by omega)]; exact b7 q hq
  · rw [u2_n (by omega)]; exact b8 q hq
  · rw [u2_n (by omega)]; exact b9 q l hq hl
  · rw [u2_n (by omega)]; exact b10
  · rw [u2_n (by omega)]; exact b11
  · rw [u2_n (by omega)]; exact b12
  · have := hk.1.2.2.2.2.2.2
    rw [u2_n (by omega), u2_n (by omega), u2_n (by omega)]; exact b13 i hi
theorem FAR_ne {x : Nat} (h : x ≤ FAR) : (nI x = (1000000 : Int32)) ↔ x = FAR := by
  have : FAR = 1000000 := rfl
  exact nI_eqI (a := x) (b := 1000000) (by omega) (by omega)
theorem rBst_le (ρ : Rho) (s : Nat) : ∀ k a b c, rBst ρ s k a b c ≤ FAR
  | 0, _, _, _ => Nat.zero_le _
  | k + 1, a, b, c => rMin_le _ 16
def moM (ρ : Rho) (p e : Nat) : Prop := rBst ρ (ρ 0 4) (ρ 0 0) (rL ρ (Tme ρ p e) 0) (rL ρ (Tme ρ p e) 1) (rL ρ (Tme ρ p e) 2) ≠ FAR
theorem M_more86 {p : Nat} (hp : p < 3) {x y : Int32} : f_M_more_86 100 (nI p) x y (bh v w) = some (y, bh (u2 v 101 (12 + p) x) w) := by
  unfold f_M_more_86
  simp only [hN0, hV0, bd1_q]
  rw [show (12 : Int32) = nI 12 from rfl, nI_add, wr_nI (by omega) (by decide), bd1_s]
theorem M_moreF {p : Nat} (hp : p < 3) {x y : Int32} (hy : y ≠ -4) (m : Nat) (e : Int32) : f_M_more_26 (m + 1) 100 (nI p) x y e (bh v w) = some (y, bh (u2 v 101 (12 + p) x) w) := by
  show f_M_more_26b (f_M_more_26 m) 100 (nI p) x y e (bh v w) = _
  unfold f_M_more_26b
  by_cases c : (9 : Int32) < e
  · rw [if_pos c, M_more86 hp]
  · rw [if_neg c, if_neg hy, M_more86 hp]
theorem M_moreL (hk : ROK ρ) {p : Nat} (hp : p < ρ 0 1) : ∀ (n fuel e : Nat) (T : Nat → Nat) (v : Nat → Nat → Int32), n + 1 < fuel → e + n = 10 → MRt T ρ v → (∀ q, q ≠ p → T q = ρ 6 q) → (∀ e', e' < e → ¬ moM ρ p e') → ∃ r v', f_M_more_26 fuel 100 (nI p) (nI (ρ 6 p)) (-4) (nI e) (bh v w) = some (r, bh v' w) ∧ (∀ q, q ≠ 101 → q < 115 ∨ 117 < q → v' q = v q) ∧ (∀ j, j ≠ 12 + p → v' 101 j = v 101 j) ∧ v' 101 (12 + p) = nI (ρ 6 p) ∧ mLst (moM ρ p) r := by
  have h2 := hk.1.2.1
  have hst := hk.st
  have ht5 : ∀ q, q < ρ 0 1 → ρ 6 q ≤ 5 := fun q hq => (hk.2.2.1 q hq).1
  intro n
  induction n with
  | zero =>
    intro fuel e T v hf he hr hT hn
    obtain ⟨m, rfl⟩ : ∃ m, fuel = m + 1 := ⟨fuel - 1, by omega⟩
    show ∃ r v', f_M_more_26b (f_M_more_26 m) 100 (nI p) (nI (ρ 6 p)) (-4) (nI e) (bh v w) = some (r, bh v' w) ∧ _
    unfold f_M_more_26b
    rw [show (9 : Int32) = nI 9 from rfl, if_pos ((nI_ltI (by omega) (by omega)).mpr (by omega)), M_more86 (by omega)]
    exact ⟨-4, _, rfl, fun q a _ => u2_o a, fun j a => u2_n a, u2_at _ _ _ _, Or.inr ⟨rfl, fun e' h => hn e' (by omega)⟩⟩
  | succ n ih =>
    intro fuel e T v hf he hr hT hn
    obtain ⟨m, rfl⟩ : ∃ m, fuel = m + 1 + 1 := ⟨fuel - 2, by omega⟩
    have R1 : MRt (fun q => if q = p then ρ 6 p + e else T q) ρ (u2 v 101 (12 + p) (nI (ρ 6 p + e))) := MRt_time hr hk hp
    have eT : (fun q => if q = p then ρ 6 p + e else T q) = Tme ρ p e := by
      funext q
      unfold Tme
      by_cases z : q = p
      · rw [if_pos z, if_pos z]
      · rw [if_neg z, if_neg z, hT q z]
    rw [eT] at R1
    have hTe : ∀ q, q < ρ 0 1 → Tme ρ p e q ≤ 14 := by
      intro q hq
      have a := ht5 q hq
      have b := ht5 p hp
      unfold Tme
      split <;> omega
    obtain ⟨v2, e2, B2, f2⟩ := M_startsRota (w := w) R1 hk (fun q hq => Nat.le_trans (hTe q hq) (by decide)) hst
    obtain ⟨v3, e3, -, f3⟩ := M_findRota (w := w) hk (Nat.lt_of_le_of_lt (rL_le hk hTe 0) (by decide)) (Nat.lt_of_le_of_lt (rL_le hk hTe 1) (by decide)) (Nat.lt_of_le_of_lt (rL_le hk hTe 2) (by decide)) B2
    have fr : ∀ q, q ≠ 101 → q < 115 ∨ 117 < q → v3 q = v q := fun q a b => (f3 q (by omega)).trans ((f2 q (by omega) (by omega)).trans (u2_o a))
    have fj : ∀ j, j ≠ 12 + p → v3 101 j = v 101 j := fun j a => (congrFun ((f3 101 (by decide)).trans (f2 101 (by decide) (by decide))) j).trans (u2_n a)
    have R3 : MRt (Tme ρ p e) ρ v3 := B2.1.frame (fun q h => f3 q (by omega))
    have a10 : u2 v 101 (12 + p) (nI (ρ 6 p + e)) 101 10 = nI (ρ 0 4) := (u2_n (by omega)).trans hr.2.2.2.1
    have go : f_M_more_26 (m + 1 + 1) 100 (nI p) (nI (ρ 6 p)) (-4) (nI e) (bh v w) = if nI (rBst ρ (ρ 0 4) (ρ 0 0) (rL ρ (Tme ρ p e) 0) (rL ρ (Tme ρ p e) 1) (rL ρ (Tme ρ p e) 2)) = (1000000 : Int32) then f_M_more_26 (m + 1) 100 (nI p) (nI (ρ 6 p)) (-4) (nI (e + 1)) (bh v3 w) else f_M_more_26 (m + 1) 100 (nI p) (nI (ρ 6 p)) (nI e) (nI (e + 1)) (bh v3 w) := by
      show f_M_more_26b (f_M_more_26 (m + 1)) 100 (nI p) (nI (ρ 6 p)) (-4) (nI e) (bh v w) = _
      unfold f_M_more_26b f_M_more_79
      rw [show (9 : Int32) = nI 9 from rfl, if_neg (fun z => by have := (nI_ltI (by omega) (by omega)).mp z; omega), if_pos rfl]
      simp only [hN0, hV0, bd1_q]
      rw [show (12 : Int32) = nI 12 from rfl, nI_add, nI_add, wr_nI (by omega) (by decide), bd1_s]
      simp only [hN0, hV0, bd1_q]
      rw [show (10 : Int32) = nI 10 from rfl, rd_nI (by decide) (by decide), bd1_s, a10, e2]
      simp only [hN0, hV0, bd1_q]
      rw [e3, bd2_s, nI_1]
    rw [go, ite_iff (FAR_ne (rBst_le ρ _ _ _ _ _))]
    by_cases c : rBst ρ (ρ 0 4) (ρ 0 0) (rL ρ (Tme ρ p e) 0) (rL ρ (Tme ρ p e) 1) (rL ρ (Tme ρ p e) 2) = FAR
    · rw [if_pos c]
      obtain ⟨r', v', e1, g1, g2, g3, g4⟩ := ih (m + 1) (e + 1) (Tme ρ p e) v3 (by omega) (by omega) R3 (fun q hq => by unfold Tme; rw [if_neg hq]) (fun e' h => by
        by_cases z : e' = e
        · rw [z]; exact fun q => q c
        · exact hn e' (by omega))
      exact ⟨r', v', e1, fun q a b => (g1 q a b).trans (fr q a b), fun j a => (g2 j a).trans (fj j a), g3, g4⟩
    · have ne4 : nI e ≠ -4 := fun z => by
        have := congrArg Int32.toInt z
        rw [nI_toInt (by omega), show (-4 : Int32).toInt = -4 by decide] at this
        omega
      rw [if_neg c, M_moreF (by omega) ne4]
      exact ⟨nI e, _, rfl, fun q a b => (u2_o a).trans (fr q a b), fun j a => (u2_n a).trans (fj j a), u2_at _ _ _ _, Or.inl ⟨e, by omega, rfl, c, hn⟩⟩
theorem M_more (hr : MR ρ v) (hk : ROK ρ) {p : Nat} (hp : p < ρ 0 1) : ∃ r v', f_M_more 100 (nI p) (bh v w) = some (r, bh v' w) ∧ (∀ q, q < 115 ∨ 117 < q → v' q = v q) ∧ mLst (moM ρ p) r := by
  have h2 := hk.1.2.1
  have a12 : v 101 (12 + p) = nI (ρ 6 p) := by have := hr.2.2.2.2.2.1 p hp; rwa [show 0 + 12 + p = 12 + p by omega] at this
  obtain ⟨r, v1, e1, g1, g2, g3, g4⟩ := M_moreL (w := w) hk hp 10 FU 0 (ρ 6) v (by decide) (by decide) (MRt_of hr) (fun _ _ => rfl) (fun e' h => by omega)
  have e1 : f_M_more_26 FU 100 (nI p) (nI (ρ 6 p)) (-4) 0 (bh v w) = some (r, bh v1 w) := e1
  refine ⟨r, v1, ?_, fun q hq => ?_, g4⟩
  · unfold f_M_more f_M_more_0
    simp only [hN0, bd1_q]
    rw [M_isOne hr.1 h2, bd2_s, if_pos (show 0 ≤ (nI p).toInt ∧ (nI p).toInt < (ρ 0 1 : Int) by rw [nI_toInt (by omega)]; omega), if_neg (by decide)]
    simp only [hN0, hV0, bd1_q]
    rw [show (12 : Int32) = nI 12 from rfl, nI_add, rd_nI (by omega) (by decide), bd1_s, a12]
    exact e1
  · by_cases z : q = 101
    · subst z
      funext j
      by_cases y : j = 12 + p
      · rw [y, g3, a12]
      · exact g2 j y
    · exact g1 q z hq
end
