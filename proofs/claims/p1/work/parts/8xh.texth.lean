theorem hN1 (v : Nat → Nat → Int32) (w : Nat → Nat → Int64) : (∀ i x, sI (bh v w) 0 101 i x = wr v w 101 198 i x) ∧ (∀ i x, sI (bh v w) 0 103 i x = wr v w 103 5 i x) ∧ (∀ i x, sI (bh v w) 0 104 i x = wr v w 104 5 i x) ∧ (∀ i x, sI (bh v w) 0 105 i x = wr v w 105 5 i x) ∧ (∀ i x, sI (bh v w) 0 106 i x = wr v w 106 3 i x) ∧ (∀ i x, sI (bh v w) 0 107 i x = wr v w 107 3 i x) ∧ (∀ i x, sI (bh v w) 2 102 i x = wr v w 102 2 i x) := ⟨sI_bh rfl, sI_bh rfl, sI_bh rfl, sI_bh rfl, sI_bh rfl, sI_bh rfl, sI_bh rfl⟩
section
variable {K : Tp} {σ : Rho} {v v' : Nat → Nat → Int32} {w : Nat → Nat → Int64} {P : Nat}
theorem M_fd23 : ∀ (n fuel l : Nat) (v : Nat → Nat → Int32), n < fuel → l + n = 5 → (∀ j, j < l → v 108 (5 + j) = -4) → (∀ j, j < 5 ∨ 10 ≤ j ∧ j < 66 → v 108 j = 0) → ∃ v', f_M_firstDraft_23 fuel 100 (nI l) (bh v w) = some (bh v' w) ∧ MS (fun _ _ => 0) v' ∧ (∀ q, q ≠ 100 → q ≠ 108 → v' q = v q) ∧ ∀ j, j ≠ 10 → j ≠ 11 → j ≠ 17 → j ≠ 18 → v' 100 j = v 100 j := by
  intro n
  induction n with
  | zero =>
    intro fuel l v hf hl h1 h2
    obtain ⟨m, rfl⟩ : ∃ m, fuel = m + 1 := ⟨fuel - 1, by omega⟩
    show ∃ v', f_M_firstDraft_23b (f_M_firstDraft_23 m) 100 (nI l) (bh v w) = _ ∧ _
    unfold f_M_firstDraft_23b
    rw [show (5 : Int32) = nI 5 from rfl, if_pos ((nI_leI (by omega) (by omega)).mpr (by omega))]
    simp only [hN0, bd1_q]
    refine ⟨_, rfl, ⟨⟨by simp [u2_ap]; rfl, by simp [u2_ap]; rfl, by simp [u2_ap]; rfl, by simp [u2_ap]; rfl, ?_⟩, fun l hl => absurd hl (Nat.not_lt_zero _), fun l _ hl => ?_, fun p hp => absurd hp (Nat.not_lt_zero _), fun p hp => ⟨?_, ?_⟩, fun j a b => ?_⟩, fun q a b => by rw [u2_o a, u2_o a, u2_o a, u2_o a], fun j a b c d => by rw [u2_n d, u2_n c, u2_n b, u2_n a]⟩
    · rw [u2_o (by decide), u2_o (by decide), u2_o (by decide), u2_o (by decide)]; exact h2 11 (by omega)
    · rw [u2_o (by decide), u2_o (by decide), u2_o (by decide), u2_o (by decide)]; exact h1 l (by omega)
    · rw [u2_o (by decide), u2_o (by decide), u2_o (by decide), u2_o (by decide)]; exact h2 _ (by omega)
    · rw [u2_o (by decide), u2_o (by decide), u2_o (by decide), u2_o (by decide)]; exact h2 _ (by omega)
    · rw [u2_o (by decide), u2_o (by decide), u2_o (by decide), u2_o (by decide)]; exact h2 _ (by omega)
  | succ n ih =>
    intro fuel l v hf hl h1 h2
    obtain ⟨m, rfl⟩ : ∃ m, fuel = m + 1 := ⟨fuel - 1, by omega⟩
    obtain ⟨v', e1, e2, e3, e4⟩ := ih m (l + 1) (u2 v 108 (5 + l) (-4)) (by omega) (by omega) (fun j hj => by
      by_cases z : j = l
      · rw [z, u2_at]
      · rw [u2_n (by omega)]; exact h1 j (by omega)) (fun j hj => by rw [u2_n (by omega)]; exact h2 j hj)
    refine ⟨v', ?_, e2, fun q a b => (e3 q a b).trans (u2_o b), fun j a b c d => (e4 j a b c d).trans (congrFun (u2_o (by decide)) j)⟩
    show f_M_firstDraft_23b (f_M_firstDraft_23 m) 100 (nI l) (bh v w) = _
    unfold f_M_firstDraft_23b
    rw [show (5 : Int32) = nI 5 from rfl, if_neg (fun z => by have := (nI_leI (by omega) (by omega)).mp z; omega)]
    simp only [hN0, bd1_q]
    rw [nI_add, wr_nI (by omega) (by decide), bd1_s, nI_1]
    exact e1
theorem M_fd2 : ∀ (n fuel k : Nat) (v : Nat → Nat → Int32), n < fuel → k + n = 66 → (∀ j, j < k → v 108 j = 0) → ∃ v', f_M_firstDraft_2 fuel 100 (nI k) (bh v w) = some (bh v' w) ∧ MS (fun _ _ => 0) v' ∧ (∀ q, q ≠ 100 → q ≠ 108 → v' q = v q) ∧ ∀ j, j ≠ 10 → j ≠ 11 → j ≠ 17 → j ≠ 18 → v' 100 j = v 100 j := by
  intro n
  induction n with
  | zero =>
    intro fuel k v hf hk h1
    obtain ⟨m, rfl⟩ : ∃ m, fuel = m + 1 := ⟨fuel - 1, by omega⟩
    obtain ⟨v', e1, e2⟩ := M_fd23 (w := w) 5 FU 0 v (by decide) (by decide) (fun j hj => by omega) (fun j hj => h1 j (by omega))
    refine ⟨v', ?_, e2⟩
    show f_M_firstDraft_2b (f_M_firstDraft_2 m) 100 (nI k) (bh v w) = _
    unfold f_M_firstDraft_2b
    rw [show (66 : Int32) = nI 66 from rfl, if_pos ((nI_leI (by omega) (by omega)).mpr (by omega))]
    exact e1
  | succ n ih =>
    intro fuel k v hf hk h1
    obtain ⟨m, rfl⟩ : ∃ m, fuel = m + 1 := ⟨fuel - 1, by omega⟩
    obtain ⟨v', e1, e2, e3, e4⟩ := ih m (k + 1) (u2 v 108 k 0) (by omega) (by omega) (fun j hj => by
      by_cases z : j = k
      · rw [z, u2_at]
      · rw [u2_n z]; exact h1 j (by omega))
    refine ⟨v', ?_, e2, fun q a b => (e3 q a b).trans (u2_o b), fun j a b c d => (e4 j a b c d).trans (congrFun (u2_o (by decide)) j)⟩
    show f_M_firstDraft_2b (f_M_firstDraft_2 m) 100 (nI k) (bh v w) = _
    unfold f_M_firstDraft_2b
    rw [show (66 : Int32) = nI 66 from rfl, if_neg (fun z => by have := (nI_leI (by omega) (by omega)).mp z; omega)]
    simp only [hN0, bd1_q]
    rw [wr_nI (by omega) (by decide), bd1_s, nI_1]
    exact e1
theorem M_firstDraft : ∃ v', f_M_firstDraft 100 (bh v w) = some (bh v' w) ∧ MS (fun _ _ => 0) v' ∧ (∀ q, q ≠ 100 → q ≠ 108 → v' q = v q) ∧ ∀ j, j ≠ 10 → j ≠ 11 → j ≠ 17 → j ≠ 18 → v' 100 j = v 100 j := by
  unfold f_M_firstDraft f_M_firstDraft_0
  rw [show (0 : Int32) = nI 0 from rfl]
  exact M_fd2 66 FU 0 v (by decide) (by decide) (fun j hj => by omega)
theorem M_kd111 {n3 : Nat} (h3 : n3 ≤ 3) : ∀ (n fuel l : Nat) (v : Nat → Nat → Int32), n < fuel → l + n = n3 → v 100 3 = nI n3 → ∃ v', f_M_keepDraft_111 fuel 100 (nI l) (bh v w) = some (bh v' w) ∧ v' 102 0 = 0 ∧ v' 102 1 = 0 ∧ (∀ q, q ≠ 102 → q ≠ 106 → q ≠ 107 → v' q = v q) ∧ (∀ j, l ≤ j → j < n3 → v' 106 j = v 112 j ∧ v' 107 j = v 113 j) ∧ ∀ j, j < l → v' 106 j = v 106 j ∧ v' 107 j = v 107 j := by
  intro n
  induction n with
  | zero =>
    intro fuel l v hf hl hv
    obtain ⟨m, rfl⟩ : ∃ m, fuel = m + 1 := ⟨fuel - 1, by omega⟩
    show ∃ v', f_M_keepDraft_111b (f_M_keepDraft_111 m) 100 (nI l) (bh v w) = _ ∧ _
    unfold f_M_keepDraft_111b
    simp only [hN0, hN1, bd1_q]
    rw [hv, if_pos ((nI_leI (by omega) (by omega)).mpr (by omega)), show wr v w 102 2 (0 : Int32) (vp_nar .boolean (0 : Int32)) = some (bh (u2 v 102 0 0) w) from wr_nI (j := 0) (by decide) (by decide), bd1_s]
    simp only [hN0, hN1, bd1_q]
    rw [show wr (u2 v 102 0 0) w 102 2 (1 : Int32) (vp_nar .boolean (0 : Int32)) = some (bh (u2 (u2 v 102 0 0) 102 1 0) w) from wr_nI (j := 1) (by decide) (by decide), bd1_s]
    exact ⟨_, rfl, by simp [u2_ap], by simp [u2_ap], fun q a b c => (u2_o a).trans (u2_o a), fun j a b => by omega, fun j a => ⟨by simp [u2_ap], by simp [u2_ap]⟩⟩
  | succ n ih =>
    intro fuel l v hf hl hv
    obtain ⟨m, rfl⟩ : ∃ m, fuel = m + 1 := ⟨fuel - 1, by omega⟩
    obtain ⟨v', e1, e2, e3, e4, e5, e6⟩ := ih m (l + 1) (u2 (u2 v 106 l (v 112 l)) 107 l (v 113 l)) (by omega) (by omega) (by simp [u2_ap, hv])
    refine ⟨v', ?_, e2, e3, fun q a b c => (e4 q a b c).trans ((u2_o c).trans (u2_o b)), fun j a b => ?_, fun j a => ?_⟩
    · show f_M_keepDraft_111b (f_M_keepDraft_111 m) 100 (nI l) (bh v w) = _
      unfold f_M_keepDraft_111b
      simp only [hN0, hN1, bd1_q]
      rw [hv, if_neg (fun z => by have := (nI_leI (by omega) (by omega)).mp z; omega), rd_nI (by omega) (by decide), bd1_s, wr_nI (by omega) (by decide), bd1_s]
      simp only [hN0, hN1, bd1_q]
      rw [rd_nI (by omega) (by decide), bd1_s, wr_nI (by omega) (by decide), bd1_s, u2_o (by decide), nI_1]
      exact e1
    · by_cases z : j = l
      · have := e6 j (by omega)
        rw [this.1, this.2, z]
        simp [u2_ap]
      · have := e5 j (by omega) b
        rw [this.1, this.2]
        simp [u2_ap]
    · have := e6 j (by omega)
      rw [this.1, this.2]
      simp [u2_ap, show ¬ j = l by omega]
theorem M_kd59 {n5 n3 : Nat} (h5 : n5 ≤ 5) (h3 : n3 ≤ 3) : ∀ (n fuel l : Nat) (v : Nat → Nat → Int32), n < fuel → l + n = n5 → v 100 2 = nI n5 → v 100 3 = nI n3 → ∃ v', f_M_keepDraft_59 fuel 100 (nI l) (bh v w) = some (bh v' w) ∧ v' 102 0 = 0 ∧ v' 102 1 = 0 ∧ (∀ q, q < 102 ∨ 107 < q → v' q = v q) ∧ (∀ j, l ≤ j → j < n5 → v' 103 j = v 109 j ∧ v' 104 j = v 110 j ∧ v' 105 j = v 111 j) ∧ (∀ j, j < l → v' 103 j = v 103 j ∧ v' 104 j = v 104 j ∧ v' 105 j = v 105 j) ∧ ∀ j, j < n3 → v' 106 j = v 112 j ∧ v' 107 j = v 113 j := by
  intro n
  induction n with
  | zero =>
    intro fuel l v hf hl hv hv3
    obtain ⟨m, rfl⟩ : ∃ m, fuel = m + 1 := ⟨fuel - 1, by omega⟩
    obtain ⟨v', e1, e2, e3, e4, e5, e6⟩ := M_kd111 (w := w) h3 n3 FU 0 v (by unfold FU; omega) (by omega) hv3
    refine ⟨v', ?_, e2, e3, fun q a => e4 q (by omega) (by omega) (by omega), fun j a b => by omega, fun j a => ?_, fun j a => e5 j (Nat.zero_le _) a⟩
    · show f_M_keepDraft_59b (f_M_keepDraft_59 m) 100 (nI l) (bh v w) = _
      unfold f_M_keepDraft_59b
      simp only [hN0, hN1, bd1_q]
      rw [hv, if_pos ((nI_leI (by omega) (by omega)).mpr (by omega))]
      exact e1
    · rw [e4 103 (by decide) (by decide) (by decide), e4 104 (by decide) (by decide) (by decide), e4 105 (by decide) (by decide) (by decide)]
      exact ⟨rfl, rfl, rfl⟩
  | succ n ih =>
    intro fuel l v hf hl hv hv3
    obtain ⟨m, rfl⟩ : ∃ m, fuel = m + 1 := ⟨fuel - 1, by omega⟩
    obtain ⟨v', e1, e2, e3, e4, e5, e6, e7⟩ := ih m (l + 1) (u2 (u2 (u2 v 103 l (v 109 l)) 104 l (v 110 l)) 105 l (v 111 l)) (by omega) (by omega) (by simp [u2_ap, hv]) (by simp [u2_ap, hv3])
    refine ⟨v', ?_, e2, e3, fun q a => (e4 q a).trans ((u2_o (by omega)).trans ((u2_o (by omega)).trans (u2_o (by omega)))), fun j a b => ?_, fun j a => ?_, fun j a => ?_⟩
    · show f_M_keepDraft_59b (f_M_keepDraft_59 m) 100 (nI l) (bh v w) = _
      unfold f_M_keepDraft_59b
      simp only [hN0, hN1, bd1_q]
      rw [hv, if_neg (fun z => by have := (nI_leI (by omega) (by omega)).mp z; omega), rd_nI (by omega) (by decide), bd1_s, wr_nI (by omega) (by decide), bd1_s]
      simp only [hN0, hN1, bd1_q]
      rw [rd_nI (by omega) (by decide), bd1_s, wr_nI (by omega) (by decide), bd1_s]
      simp only [hN0, hN1, bd1_q]
      rw [rd_nI (by omega) (by decide), bd1_s, wr_nI (by omega) (by decide), bd1_s, u2_o (show 111 ≠ 104 by decide), u2_o (show 111 ≠ 103 by decide), u2_o (show 110 ≠ 103 by decide), nI_1]
      exact e1
    · by_cases z : j = l
      · have := e6 j (by omega)
        rw [this.1, this.2.1, this.2.2, z]
        simp [u2_ap]
      · have := e5 j (by omega) b
        rw [this.1, this.2.1, this.2.2]
        simp [u2_ap]
    · have := e6 j (by omega)
      rw [this.1, this.2.1, this.2.2]
      simp [u2_ap, show ¬ j = l by omega]
    · have := e7 j a
      rw [this.1, this.2]
      simp [u2_ap]
theorem pw_m1 : ∀ n, n ≤ 5 → ((1 : Int32) <<< (nI n &&& 31)) - (1 : Int32) = nI (2 ^ n - 1) := by decide +kernel
theorem M_keepDraft (hS : MS σ v) (hI : SI σ) : ∃ v', f_M_keepDraft 100 (bh v w) = some (bh v' w) ∧ MR (fin σ) v' ∧ v' 102 0 = 0 ∧ v' 102 1 = 0 ∧ (∀ q, q < 100 ∨ 107 < q → v' q = v q) ∧ ∀ j, j ≠ 2 → j ≠ 3 → v' 100 j = v 100 j := by
  have hI' := hI
  obtain ⟨⟨a1, a2, a3, a4, a5, a6, a7, a8⟩, b, c', d, e, g, k⟩ := hI'
  have key : ∀ (n fuel i : Nat) (u : Nat → Nat → Int32), n < fuel → i + n = 66 → (∀ q, q ≠ 101 → u q = v q) → (∀ j, j < i → u 101 j = v 108 j) → ∃ v', f_M_keepDraft_2 fuel 100 (nI i) (bh u w) = some (bh v' w) ∧ MR (fin σ) v' ∧ v' 102 0 = 0 ∧ v' 102 1 = 0 ∧ (∀ q, q < 100 ∨ 107 < q → v' q = v q) ∧ ∀ j, j ≠ 2 → j ≠ 3 → v' 100 j = v 100 j := by
    intro n
    induction n with
    | zero =>
      intro fuel i u hf hi hq hj
      obtain ⟨m, rfl⟩ : ∃ m, fuel = m + 1 := ⟨fuel - 1, by omega⟩
      have u10 : u 100 10 = nI (σ 0 0) := (congrFun (hq 100 (by decide)) 10).trans hS.1.1
      have u11 : u 100 11 = nI (σ 0 1) := (congrFun (hq 100 (by decide)) 11).trans hS.1.2.1
      obtain ⟨v', e1, e2, e3, e4, e5, -, e7⟩ := M_kd59 (w := w) a1 a2 (σ 0 0) FU 0 (u2 (u2 (u2 u 100 2 (nI (σ 0 0))) 100 3 (nI (σ 0 1))) 101 10 (nI (2 ^ σ 0 0 - 1))) (by unfold FU; omega) (by omega) (by simp [u2_ap]) (by simp [u2_ap])
      refine ⟨v', ?_, ?_, e2, e3, fun q a => ?_, fun j a b => ?_⟩
      · show f_M_keepDraft_2b (f_M_keepDraft_2 m) 100 (nI i) (bh u w) = _
        unfold f_M_keepDraft_2b
        rw [show (66 : Int32) = nI 66 from rfl, if_pos ((nI_leI (by omega) (by omega)).mpr (by omega))]
        simp only [hN0, hN1, bd1_q]
        rw [u2_n (show 2 ≠ 3 by decide), u2_at, u2_n (show 11 ≠ 2 by decide), u10, u11, pw_m1 _ a1, show (10 : Int32) = nI 10 from rfl, wr_nI (by decide) (by decide), bd1_s]
        exact e1
      · have w101 : ∀ j, j < 66 → j ≠ 10 → v' 101 j = v 108 j := fun j h1 h2 => by
          rw [e4 101 (by decide), u2_n h2, u2_o (by decide), u2_o (by decide)]; exact hj j (by omega)
        refine ⟨⟨?_, ?_, fun l hl => ?_, fun p hp => ?_⟩, ?_⟩
        · rw [e4 100 (by decide), u2_o (by decide), u2_n (by decide), u2_at]; rfl
        · rw [e4 100 (by decide), u2_o (by decide), u2_at]; rfl
        · have hl : l < σ 0 0 := hl
          have x := e5 l (Nat.zero_le _) hl
          have y := hS.2.1 l hl
          rw [x.1, x.2.1, x.2.2]
          simp [u2_ap]
          rw [hq 109 (by decide), hq 110 (by decide), hq 111 (by decide)]
          exact ⟨y.2.1, y.2.2.1, y.2.2.2.1⟩
        · have hp : p < σ 0 1 := hp
          have x := e7 p hp
          have y := hS.2.2.2.1 p hp
          rw [x.1, x.2]
          simp [u2_ap]
          rw [hq 112 (by decide), hq 113 (by decide)]
          exact ⟨y.2.1, y.2.2.1⟩
        · unfold MB fin
          simp [up2_ap, a3, a4, a6, e]
          refine ⟨fun l hl => ?_, fun l hl => ?_, ?_, ?_, fun p hp => ?_, fun p hp => ?_, fun p hp => ?_, fun p hp => ?_, fun p l hp hl => ?_, ?_, ?_, ?_⟩
          · rw [w101 l (by omega) (by omega)]; exact (hS.2.1 l hl).1
          · rw [w101 _ (by omega) (by omega)]; exact (hS.2.1 l hl).2.2.2.2
          · rw [e4 101 (by decide), u2_at]
          · rw [w101 _ (by omega) (by omega)]; exact hS.1.2.2.2.2
          · rw [w101 _ (by omega) (by omega)]; exact (hS.2.2.2.1 p hp).1
          · rw [w101 _ (by omega) (by omega)]; exact (hS.2.2.2.1 p hp).2.2.2
          · rw [w101 _ (by omega) (by omega)]; exact (hS.2.2.2.2.1 p (by omega)).1
          · rw [w101 _ (by omega) (by omega)]; exact (hS.2.2.2.2.1 p (by omega)).2
          · rw [w101 _ (by omega) (by omega)]; exact hS.2.2.2.2.2 _ (by omega) (by omega)
          · rw [w101 _ (by omega) (by omega)]; exact hS.2.2.2.2.2 _ (by omega) (by omega)
          · rw [w101 _ (by omega) (by omega)]; exact hS.2.2.2.2.2 _ (by omega) (by omega)
          · rw [w101 _ (by omega) (by omega)]; exact hS.2.2.2.2.2 _ (by omega) (by omega)
      · rw [e4 q (by omega), u2_o (by omega), u2_o (by omega), u2_o (by omega)]; exact hq q (by omega)
      · rw [e4 100 (by decide), u2_o (by decide), u2_n b, u2_n a, hq 100 (by decide)]
    | succ n ih =>
      intro fuel i u hf hi hq hj
      obtain ⟨m, rfl⟩ : ∃ m, fuel = m + 1 := ⟨fuel - 1, by omega⟩
      obtain ⟨v', e1, e2⟩ := ih m (i + 1) (u2 u 101 i (u 108 i)) (by omega) (by omega) (fun q a => (u2_o a).trans (hq q a)) (fun j a => by
        by_cases z : j = i
        · rw [z, u2_at, hq 108 (by decide)]
        · rw [u2_n z]; exact hj j (by omega))
      refine ⟨v', ?_, e2⟩
      show f_M_keepDraft_2b (f_M_keepDraft_2 m) 100 (nI i) (bh u w) = _
      unfold f_M_keepDraft_2b
      rw [show (66 : Int32) = nI 66 from rfl, if_neg (fun z => by have := (nI_leI (by omega) (by omega)).mp z; omega)]
      simp only [hN0, hN1, bd1_q]
      rw [rd_nI (by omega) (by decide), bd1_s, wr_nI (by omega) (by decide), bd1_s, nI_1]
      exact e1
  exact key 66 FU 0 v (by decide) (by decide) (fun _ _ => rfl) (fun j hj => by omega)
theorem M_textL : ∀ (n fuel c : Nat) (σ : Rho) (P : Nat) (v : Nat → Nat → Int32), n + 1 < fuel → K.1 ≤ P + n → MT K v → v 100 25 = 0 → MTk K P v → MS σ v → SI σ → ∃ c' v', f_M_text_20 fuel 100 (nI c) (bh v w) = f_M_text_44 100 (nI c') (bh v' w) ∧ FrD v v' ∧ MX (sLines K n σ P c) (fun x v' => c' = x.2 ∧ MS x.1 v' ∧ SI x.1 ∧ v' 100 22 = nI K.1) v' := by
  intro n
  have ends : ∀ (m c : Nat) (P : Nat) (v : Nat → Nat → Int32), kD K P = 0 → v 100 25 = 0 → MTk K P v → f_M_text_20 (m + 1) 100 (nI c) (bh v w) = f_M_text_44 100 (nI c) (bh v w) ∧ v 100 22 = nI K.1 := by
    intro m c P v hz h25 hk
    have s1 := sT_b hk.1
    have s2 := (kc_s (K := K) (s := sT K P)).1.mp hz
    refine ⟨?_, by rw [hk.2.2.1, show sT K P = K.1 by omega]⟩
    show f_M_text_20b (f_M_text_20 m) 100 (nI c) (bh v w) = _
    unfold f_M_text_20b
    simp only [hN0, bd1_q]
    rw [h25, if_pos rfl, hk.2.2.2.1, hz, if_pos (show nI 0 = 0 from rfl)]
  have flt : ∀ (m c : Nat) (f : Fa) (v : Nat → Nat → Int32), FL f v → f_M_text_20 (m + 1) 100 (nI c) (bh v w) = f_M_text_44 100 (nI c) (bh v w) := by
    intro m c f v hF
    have := hF.2.2
    show f_M_text_20b (f_M_text_20 m) 100 (nI c) (bh v w) = _
    unfold f_M_text_20b
    simp only [hN0, bd1_q]
    rw [hF.1, if_neg (nI_ne0 (by omega) (by omega))]
  induction n with
  | zero =>
    intro fuel c σ P v hf hP hT h25 hk hS hI
    obtain ⟨m, rfl⟩ : ∃ m, fuel = m + 1 := ⟨fuel - 1, by omega⟩
    have s1 := sT_b hk.1
    have hz : kD K P = 0 := (kc_s (K := K) (s := sT K P)).1.mpr (by omega)
    obtain ⟨e1, e2⟩ := ends m c P v hz h25 hk
    exact ⟨c, v, e1, FrD.rf v, h25, rfl, hS, hI, e2⟩
  | succ n ih =>
    intro fuel c σ P v hf hP hT h25 hk hS hI
    obtain ⟨m, rfl⟩ : ∃ m, fuel = m + 1 + 1 := ⟨fuel - 2, by omega⟩
    have k4 := (kc_s (K := K) (s := sT K P)).2.2.2.2
    have ek : kD K P = kc K (sT K P) := rfl
    unfold sLines
    by_cases hz : kD K P = 0
    · obtain ⟨e1, e2⟩ := ends (m + 1) c P v hz h25 hk
      rw [if_pos hz]
      exact ⟨c, v, e1, FrD.rf v, h25, rfl, hS, hI, e2⟩
    · rw [if_neg hz]
      obtain ⟨v1, e1, f1, x1⟩ := M_readLine (w := w) hT hk h25 hS hI
      have go : f_M_text_20 (m + 1 + 1) 100 (nI c) (bh v w) = f_M_text_20 (m + 1) 100 (nI (c + 1)) (bh v1 w) := by
        show f_M_text_20b (f_M_text_20 (m + 1)) 100 (nI c) (bh v w) = _
        unfold f_M_text_20b
        simp only [hN0, bd1_q]
        rw [h25, if_pos rfl, hk.2.2.2.1, if_neg (nI_ne0 (by omega) (by omega)), e1, bd1_s, nI_1]
      rw [go]
      clear e1
      cases hX : sLine K σ P with
      | inl f =>
        rw [hX] at x1
        exact ⟨c + 1, v1, flt m (c + 1) f v1 x1, f1, x1⟩
      | inr y =>
        rw [hX, sb_r] at x1
        obtain ⟨yI, yP, yL⟩ := sLine_ok hX hI hk.1
        rw [sb_r]
        cases hY : tokX K y.2 with
        | inl f =>
          rw [hY] at x1
          exact ⟨c + 1, v1, flt m (c + 1) f v1 x1, f1, x1⟩
        | inr u =>
          rw [hY] at x1
          obtain ⟨b25, bk, bS⟩ := x1
          obtain ⟨c', v2, e2, f2, x2⟩ := ih (m + 1) (c + 1) y.1 y.2 v1 (by omega) (by omega) (hT.fD f1) b25 bk bS yI
          exact ⟨c', v2, e2, f1.tr f2, x2⟩
theorem cI_le5 : ∀ m, m ≤ 5 → ∀ h, h ≤ 5 → (nI m ≤ cI h ↔ m + 1 ≤ h) := by decide +kernel
/-- the reference's text() -/
theorem M_text (hT : MT K v) : ∃ r v', f_M_text 100 (bh v w) = some (r, bh v' w) ∧ v' 100 20 = 0 ∧ match sText K with
    | .inl f => (r = ((-10) : Int32) - nI f.2 ∧ v' 100 25 = nI f.1 ∧ f.1 ≤ 6) ∧ (∀ q, q < 100 ∨ 100 < q ∧ q < 108 ∨ 113 < q → v' q = v q) ∧ ∀ j, j < 10 ∨ 26 < j → v' 100 j = v 100 j
    | .inr x => r = nI x.2 ∧ v' 100 25 = 0 ∧ MR (fin x.1) v' ∧ v' 102 0 = 0 ∧ v' 102 1 = 0 ∧ (∀ q, q < 100 ∨ 113 < q → v' q = v q) ∧ ∀ j, 26 < j → v' 100 j = v 100 j := by
  unfold f_M_text f_M_text_0 sText
  simp only [hN0, bd1_q]
  obtain ⟨v1, e1, S1, q1, j1⟩ := M_firstDraft (v := u2 (u2 v 100 25 0) 100 21 0) (w := w)
  rw [e1]
  simp only [hN0, bd1_q]
  have D1 : FrD v v1 := (((FrD.rf v).u (k := 25) (x := 0) (by decide)).u (k := 21) (x := 0) (by decide)).tr ⟨fun q hq => q1 q (by omega) (by omega), fun j hj => j1 j (by omega) (by omega) (by omega) (by omega)⟩
  have a25 : v1 100 25 = 0 := by rw [j1 25 (by decide) (by decide) (by decide) (by decide)]; simp [u2_ap]
  have a21 : v1 100 21 = nI 0 := by rw [j1 21 (by decide) (by decide) (by decide) (by decide)]; simp [u2_ap]; rfl
  have T1 := hT.fD D1
  obtain ⟨v2, e2, f2, x2⟩ := M_next (w := w) T1 a25 a21 (Nat.zero_le _)
  rw [e2, bd1_s]
  clear e1 e2
  have D2 := D1.tr f2.d
  have S2 : MS (fun _ _ => 0) v2 := S1.fN (show 0 ≤ 5 by decide) f2
  have lp : ∃ c' v3, f_M_text_20 FU 100 0 (bh v2 w) = f_M_text_44 100 (nI c') (bh v3 w) ∧ FrD v v3 ∧ MX (sb (tokX K 0) fun _ => sLines K 160 (fun _ _ => 0) 0 0) (fun x v' => c' = x.2 ∧ MS x.1 v' ∧ SI x.1 ∧ v' 100 22 = nI K.1) v3 := by
    cases hX : tokX K 0 with
    | inl f =>
      rw [hX] at x2
      have F : FL f v2 := x2
      have := F.2.2
      refine ⟨0, v2, ?_, D2, F⟩
      show f_M_text_20b (f_M_text_20 599) 100 (nI 0) (bh v2 w) = _
      unfold f_M_text_20b
      simp only [hN0, bd1_q]
      rw [F.1, if_neg (nI_ne0 (by omega) (by omega))]
    | inr u =>
      rw [hX] at x2
      obtain ⟨b25, bk⟩ := x2
      obtain ⟨c', v3, e3, f3, x3⟩ := M_textL (w := w) 160 FU 0 (fun _ _ => 0) 0 v2 (by decide) (by have := hT.2.1; omega) (T1.fN f2) b25 bk S2 SI_0
      exact ⟨c', v3, e3, D2.tr f3, x3⟩
  obtain ⟨c', v3, e3, D3, x3⟩ := lp
  rw [e3]
  rw [show (sb (tokX K 0) fun _ => sb (sLines K 160 (fun _ _ => 0) 0 0) fun x => sEnd K x) = sb (sb (tokX K 0) fun _ => sLines K 160 (fun _ _ => 0) 0 0) fun x => sEnd K x from (sb_as _ _ _).symm]
  generalize (sb (tokX K 0) fun _ => sLines K 160 (fun _ _ => 0) 0 0) = X at x3 ⊢
  have t84 : ∀ (f : Fa) (u : Nat → Nat → Int32), FL f u → FrD v u → ∃ r v', f_M_text_84 100 (nI c') (bh u w) = some (r, bh v' w) ∧ v' 100 20 = 0 ∧ (r = ((-10) : Int32) - nI f.2 ∧ v' 100 25 = nI f.1 ∧ f.1 ≤ 6) ∧ (∀ q, q < 100 ∨ 100 < q ∧ q < 108 ∨ 113 < q → v' q = v q) ∧ ∀ j, j < 10 ∨ 26 < j → v' 100 j = v 100 j := by
    intro f u hF hD
    have := hF.2.2
    unfold f_M_text_84
    simp only [hN0, bd1_q]
    rw [u2_n (show 25 ≠ 20 by decide), u2_n (show 26 ≠ 20 by decide), hF.1, hF.2.1, if_neg (nI_nle (by omega) (by omega))]
    exact ⟨_, _, rfl, u2_at _ _ _ _, ⟨rfl, (u2_n (by decide)).trans hF.1, hF.2.2.2⟩, fun q hq => (u2_o (by omega)).trans (hD.1 q hq), fun j hj => (u2_n (by omega)).trans (hD.2 j (by omega))⟩
  unfold f_M_text_44 f_M_text_78 f_M_text_79
  simp only [hN0, bd1_q]
  cases X with
  | inl f =>
    have F : FL f v3 := x3
    have := F.2.2
    rw [F.1, if_neg (nI_ne0 (by omega) (by omega))]
    exact t84 f v3 F D3
  | inr x =>
    obtain ⟨b25, rfl, bS, bI, b22⟩ := x3
    have h0 := bI.1.1
    have h1 := bI.1.2.1
    have h7 := bI.1.2.2.2.2.2.2.1
    have h8 := bI.1.2.2.2.2.2.2.2
    rw [b25, if_pos rfl, bS.1.2.2.1, bS.1.1, bS.1.2.2.2.1, bS.1.2.1, ite_iff (cI_le5 _ h0 _ h7), ite_iff (cI_le5 _ (by omega) _ (by omega)), sb_r, M_needs0 b25, M_needs1]
    simp only [bd1_q]
    unfold sEnd
    have F : FL (6, K.1) (u2 (u2 v3 100 25 6) 100 26 (v3 100 22)) := ⟨by simp [u2_ap]; rfl, by simp [u2_ap]; exact b22, show 1 ≤ 6 by decide, show 6 ≤ 6 by decide⟩
    have bad := t84 (6, K.1) _ F ((D3.u (by decide)).u (by decide))
    by_cases g1 : x.1 0 0 + 1 ≤ x.1 17 0
    · rw [if_pos g1, if_neg (fun z => by omega)]
      exact bad
    · rw [if_neg g1]
      by_cases g2 : x.1 0 1 + 1 ≤ x.1 17 1
      · rw [if_pos g2, if_neg (fun z => by omega)]
        exact bad
      · rw [if_neg g2, if_pos ⟨by omega, by omega⟩]
        unfold f_M_text_84
        simp only [hN0, bd1_q]
        have S4 : MS x.1 (u2 v3 100 20 0) := bS.put h0 (by unfold rdS; omega)
        obtain ⟨v5, e5, R5, k0, k1, q5, j5⟩ := M_keepDraft (w := w) S4 bI
        rw [u2_n (show 25 ≠ 20 by decide), b25, if_pos (by decide), e5, bd1_s]
        refine ⟨_, v5, rfl, ?_, rfl, ?_, R5, k0, k1, fun q hq => ?_, fun j hj => ?_⟩
        · rw [j5 20 (by decide) (by decide), u2_at]
        · rw [j5 25 (by decide) (by decide), u2_n (by decide)]; exact b25
        · rw [q5 q (by omega), u2_o (by omega)]; exact D3.1 q (by omega)
        · rw [j5 j (by omega) (by omega), u2_n (by omega)]; exact D3.2 j (by omega)
end
