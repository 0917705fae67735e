section
variable {K : Tp} {v : Nat → Nat → Int32} {w : Nat → Nat → Int64} {P : Nat}
theorem MTk.of {v1 : Nat → Nat → Int32} (h : MTk K P v) (e : ∀ j, 21 ≤ j ∧ j ≤ 24 → v1 100 j = v 100 j) : MTk K P v1 := by
  obtain ⟨a, b, c, d, f⟩ := h
  exact ⟨a, (e 21 (by omega)).trans b, (e 22 (by omega)).trans c, (e 23 (by omega)).trans d, fun z => (e 24 (by omega)).trans (f z)⟩
theorem M_nextX (rec8 : Nat → mH → Option mH) (hT : MT K v) (h25 : v 100 25 = 0) (h21 : v 100 21 = nI (sT K P)) (hP : P ≤ K.1) (hn : ¬ (sT K P < K.1 ∧ K.2 (sT K P) = 32)) : ∃ v', f_M_next_8b rec8 100 (bh v w) = some (bh v' w) ∧ FrN v v' ∧ MX (tokX K P) (fun _ v' => MTk K P v') v' := by
  have hL := hT.2.1
  have hs := sT_b hP
  have he := eN_b hP
  have hkc := kc_s (K := K) (s := sT K P)
  have ek : kD K P = kc K (sT K P) := rfl
  have T1 : MT K (u2 v 100 22 (nI (sT K P))) := hT.fr (u2_n (by decide)) (u2_o (by decide))
  unfold f_M_next_8b
  simp only [hN0, bd1_q]
  rw [h21, M_look hT (by omega), bd2_s, if_neg (show ¬ (if sT K P < K.1 then nI (K.2 (sT K P)) else -1) = (32 : Int32) from fun z => by
    by_cases c : sT K P < K.1
    · rw [if_pos c] at z
      have := (hT.2.2 _ c).2
      exact hn ⟨c, (nI_eqI (a := K.2 (sT K P)) (b := 32) (by omega) (by omega)).mp z⟩
    · rw [if_neg c] at z
      exact absurd z (by decide))]
  simp only [hN0, bd1_q]
  rw [h21, u2_n (show 21 ≠ 22 by decide), h21, M_look T1 (by omega), bd2_s]
  by_cases c : sT K P < K.1
  · obtain ⟨t1, t2⟩ := hT.2.2 _ c
    rw [if_pos c, if_pos (nI_pos' (by omega)), show (97 : Int64) = (nI 97).toInt64 from rfl, show (122 : Int64) = (nI 122).toInt64 from rfl, nin_I (by omega) (by omega) (by omega), bd2_s]
    by_cases c1 : 97 ≤ K.2 (sT K P) ∧ K.2 (sT K P) ≤ 122
    · have hk : kD K P = 1 := by rw [ek]; unfold kc; rw [if_pos c, if_neg (by omega), if_pos c1]
      rw [if_pos c1, if_neg (by decide)]
      simp only [hN0, bd1_q]
      obtain ⟨v2, e2, b21, gq, gj⟩ := M_run82 (w := w) (K.1 - sT K P) FU (sT K P) (u2 (u2 v 100 22 (nI (sT K P))) 100 23 1) (by unfold FU; omega) (by omega) (T1.fr (u2_n (by decide)) (u2_o (by decide))) (by simp [u2_ap, h21])
      refine ⟨v2, e2, ⟨fun q hq => (gq q hq).trans ((u2_o hq).trans (u2_o hq)), fun j hj => by rw [gj j (by omega), u2_n (by omega), u2_n (by omega)]⟩, ?_⟩
      unfold tokX
      rw [if_neg (by omega)]
      refine ⟨by rw [gj 25 (by decide)]; simp [u2_ap, h25], hP, ?_, ?_, ?_, fun z => by omega⟩
      · rw [b21]; unfold eN rn; rw [if_pos hk]
      · rw [gj 22 (by decide)]; simp [u2_ap]
      · rw [gj 23 (by decide), hk]; simp [u2_ap]; rfl
    · rw [if_neg c1, if_pos rfl, show (48 : Int64) = (nI 48).toInt64 from rfl, show (57 : Int64) = (nI 57).toInt64 from rfl, nin_I (by omega) (by omega) (by omega), bd2_s]
      by_cases c2 : 48 ≤ K.2 (sT K P) ∧ K.2 (sT K P) ≤ 57
      · have hk : kD K P = 2 := by rw [ek]; unfold kc; rw [if_pos c, if_neg (by omega), if_neg c1, if_pos c2]
        have ee : eN K P = ru K.2 48 57 (K.1 - sT K P) (sT K P) := by unfold eN rn; rw [if_neg (by omega), if_pos hk]
        rw [if_pos c2, if_neg (by decide)]
        simp only [hN0, bd1_q]
        have T3 : MT K (u2 (u2 (u2 v 100 22 (nI (sT K P))) 100 23 2) 100 24 0) := (T1.fr (u2_n (by decide)) (u2_o (by decide))).fr (u2_n (by decide)) (u2_o (by decide))
        obtain ⟨v2, e2, f2, b23, g1, g2⟩ := M_run140 (w := w) (s := sT K P) (K.1 - sT K P) FU (sT K P) (u2 (u2 (u2 v 100 22 (nI (sT K P))) 100 23 2) 100 24 0) (by unfold FU; omega) (by omega) (Nat.le_refl _) (fun j q1 q2 => by omega) T3 (by simp [u2_ap, h25]) (by simp [u2_ap, h21]) (by simp [u2_ap]) (by simp [u2_ap, pv]; rfl)
        rw [← ee] at g1 g2
        refine ⟨v2, e2, ((((FrN.rf v).u (by omega)).u (by omega)).u (by omega)).tr f2, ?_⟩
        unfold tokX
        have h1 := he.2.2 (by omega) (by omega)
        by_cases z : sT K P + 2 < eN K P
        · rw [if_pos (Or.inr ⟨hk, z⟩)]
          exact g1 z
        · rw [if_neg (by omega)]
          obtain ⟨x1, x2, x3, x4⟩ := g2 z
          refine ⟨x1, hP, x2, x3, by rw [b23, hk]; simp [u2_ap]; rfl, fun _ => ?_⟩
          rw [x4]
          unfold pv vL
          rw [if_neg (by omega)]
      · rw [if_neg c2, if_pos rfl]
        simp only [hN0, bd1_q]
        rw [show (59 : Int32) = nI 59 from rfl, ite_iff (nI_eqI (by omega) (by omega))]
        unfold f_M_next_260
        simp only [hN0, bd1_q]
        by_cases c3 : K.2 (sT K P) = 59
        · have hk : kD K P = 3 := by rw [ek]; unfold kc; rw [if_pos c, if_pos c3]
          rw [if_pos c3, M_needs1]
          simp only [hN0, bd1_q]
          refine ⟨_, rfl, (((FrN.rf v).u (by omega)).u (by omega)).u (by omega), ?_⟩
          unfold tokX
          rw [if_neg (by omega)]
          refine ⟨by simp [u2_ap, h25], hP, ?_, by simp [u2_ap], by rw [hk]; simp [u2_ap]; rfl, fun z => by omega⟩
          rw [u2_at, u2_n (show 21 ≠ 23 by decide), u2_n (show 21 ≠ 22 by decide), h21, nI_1]
          unfold eN
          rw [if_neg (by omega), if_neg (by omega), if_pos hk]
        · have hk : kD K P = 4 := by rw [ek]; unfold kc; rw [if_pos c, if_neg c3, if_neg c1, if_neg c2]
          rw [if_neg c3, M_needs0 (by simp [u2_ap, h25])]
          simp only [hN0, bd1_q]
          refine ⟨_, rfl, (((((FrN.rf v).u (by omega)).u (by omega)).u (by omega)).u (by omega)).u (by omega), ?_⟩
          unfold tokX
          rw [if_pos (Or.inl hk)]
          exact ⟨by simp [u2_ap]; rfl, by simp [u2_ap], Nat.le_refl 1, show 1 ≤ 6 by decide⟩
  · have hk : kD K P = 0 := by rw [ek]; unfold kc; rw [if_neg c]
    rw [if_neg c, if_neg (by decide)]
    simp only [hN0, bd1_q]
    refine ⟨_, rfl, ((FrN.rf v).u (by omega)).u (by omega), ?_⟩
    unfold tokX
    rw [if_neg (by omega)]
    refine ⟨by simp [u2_ap, h25], hP, ?_, by simp [u2_ap], by rw [hk]; simp [u2_ap]; rfl, fun z => by omega⟩
    unfold eN
    rw [if_neg (by omega), if_neg (by omega), if_neg (by omega)]
    simp [u2_ap, h21]
theorem M_next8 (hP : P ≤ K.1) : ∀ (n fuel i : Nat) (v : Nat → Nat → Int32), n < fuel → i + n = K.1 → ru K.2 32 32 n i = sT K P → MT K v → v 100 25 = 0 → v 100 21 = nI i → ∃ v', f_M_next_8 fuel 100 (bh v w) = some (bh v' w) ∧ FrN v v' ∧ MX (tokX K P) (fun _ v' => MTk K P v') v' := by
  intro n
  induction n with
  | zero =>
    intro fuel i v hf hi hr hT h25 h21
    obtain ⟨m, rfl⟩ : ∃ m, fuel = m + 1 := ⟨fuel - 1, by omega⟩
    have hr : i = sT K P := hr
    exact M_nextX (f_M_next_8 m) hT h25 (by rw [← hr]; exact h21) hP (by omega)
  | succ n ih =>
    intro fuel i v hf hi hr hT h25 h21
    obtain ⟨m, rfl⟩ : ∃ m, fuel = m + 1 := ⟨fuel - 1, by omega⟩
    have hL := hT.2.1
    obtain ⟨t1, t2⟩ := hT.2.2 i (by omega)
    unfold ru at hr
    by_cases c : 32 ≤ K.2 i ∧ K.2 i ≤ 32
    · rw [if_pos c] at hr
      obtain ⟨v', e1, e2, e3⟩ := ih m (i + 1) (u2 v 100 21 (nI (i + 1))) (by omega) (by omega) hr (hT.fr (u2_n (by decide)) (u2_o (by decide))) ((u2_n (by decide)).trans h25) (u2_at _ _ _ _)
      refine ⟨v', ?_, ((FrN.rf v).u (by omega)).tr e2, e3⟩
      show f_M_next_8b (f_M_next_8 m) 100 (bh v w) = _
      unfold f_M_next_8b
      simp only [hN0, bd1_q]
      rw [h21, M_look hT (by omega), bd2_s, if_pos (show i < K.1 by omega), if_pos (show nI (K.2 i) = (32 : Int32) by rw [show K.2 i = 32 by omega]; rfl)]
      simp only [hN0, bd1_q]
      rw [h21, nI_1]
      exact e1
    · rw [if_neg c] at hr
      exact M_nextX (f_M_next_8 m) hT h25 (by rw [← hr]; exact h21) hP (fun z => c (by rw [hr]; omega))
theorem M_next (hT : MT K v) (h25 : v 100 25 = 0) (h21 : v 100 21 = nI P) (hP : P ≤ K.1) : ∃ v', f_M_next 100 (bh v w) = some (bh v' w) ∧ FrN v v' ∧ MX (tokX K P) (fun _ v' => MTk K P v') v' := by
  have hL := hT.2.1
  obtain ⟨v', e1, e2, e3⟩ := M_next8 (w := w) hP (K.1 - P) FU P v (by unfold FU; omega) (by omega) rfl hT h25 h21
  refine ⟨v', ?_, e2, e3⟩
  unfold f_M_next f_M_next_0
  simp only [hN0, bd1_q]
  rw [h25, if_pos (by decide)]
  exact e1
theorem M_nextF {f : Fa} (hF : FL f v) : f_M_next 100 (bh v w) = some (bh v w) := by
  have := hF.2.2
  unfold f_M_next f_M_next_0
  simp only [hN0, bd1_q]
  rw [hF.1, if_neg (nI_nle (by omega) (by omega))]
theorem M_lookedF {f : Fa} (hF : FL f v) (lo hi : Int32) : f_M_looked 100 lo hi (bh v w) = some (0, bh v w) := by
  have := hF.2.2
  have n0 : ¬ nI f.1 = 0 := nI_ne0 (by omega) (by omega)
  unfold f_M_looked f_M_looked_0 f_M_looked_25 f_M_looked_49
  simp only [hN0, bd1_q]
  rw [hF.1, if_neg n0, if_neg n0, if_neg n0]
theorem M_looked {lo hi : Nat} (hk : MTk K P v) (h25 : v 100 25 = 0) (hb : ∀ j, j < K.1 → K.2 j ≤ 127) (hlo : lo < 200) (hhi : hi < 200) : ∃ r v', f_M_looked 100 (nI lo) (nI hi) (bh v w) = some (r, bh v' w) ∧ FrN v v' ∧ MX (chk K lo hi P) (fun n v' => r = nI n ∧ MTk K P v') v' ∧ (∀ f, chk K lo hi P = .inl f → r = 0) := by
  have k4 := (kc_s (K := K) (s := sT K P)).2.2.2.2
  have ek : kD K P = kc K (sT K P) := rfl
  obtain ⟨hP, k21, k22, k23, k24⟩ := hk
  unfold f_M_looked f_M_looked_0 f_M_looked_21 f_M_looked_25 f_M_looked_49
  simp only [hN0, bd1_q]
  rw [h25, if_pos rfl, k23, show (2 : Int32) = nI 2 from rfl, ite_iff (nI_eqI (by omega) (by omega))]
  unfold chk chkB
  by_cases c : kD K P = 2
  · have hv := vL_lt hb hP c
    rw [if_pos c, if_pos c, M_needs1]
    simp only [hN0, bd1_q]
    rw [h25, if_pos rfl, k24 c, nin_I hv (by omega) (by omega), bd2_s]
    by_cases g : lo ≤ vL K P ∧ vL K P ≤ hi
    · rw [if_pos g, if_pos g]
      simp only [hN0, bd1_q]
      rw [M_needs1]
      simp only [hN0, bd1_q]
      rw [h25, if_pos rfl, k24 c]
      exact ⟨_, v, rfl, FrN.rf v, ⟨h25, rfl, hP, k21, k22, k23, k24⟩, fun f z => by cases z⟩
    · rw [if_neg g, if_neg g]
      simp only [hN0, bd1_q]
      rw [M_needs0 h25]
      simp only [hN0, bd1_q]
      rw [u2_n (show 25 ≠ 26 by decide), u2_at, if_neg (by decide)]
      exact ⟨0, _, rfl, ((FrN.rf v).u (by omega)).u (by omega), ⟨by simp [u2_ap]; rfl, by simp [u2_ap, k22], show 1 ≤ 3 by decide, show 3 ≤ 6 by decide⟩, fun f z => rfl⟩
  · rw [if_neg c, if_neg c, M_needs0 h25]
    simp only [hN0, bd1_q]
    rw [u2_n (show 25 ≠ 26 by decide), u2_at, if_neg (by decide), if_neg (by decide)]
    exact ⟨0, _, rfl, ((FrN.rf v).u (by omega)).u (by omega), ⟨by simp [u2_ap], by simp [u2_ap, k22], show 1 ≤ 2 by decide, show 2 ≤ 6 by decide⟩, fun f z => rfl⟩
end
