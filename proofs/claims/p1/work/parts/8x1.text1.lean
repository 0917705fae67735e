theorem hT0 (v : Nat → Nat → Int32) (w : Nat → Nat → Int64) : kC (bh v w) 1 3 = some () ∧ gR (bh v w) 1 3 0 = some 2 ∧ gI (bh v w) 1 3 1 = some (v 1 1) ∧ (∀ x, pV (bh v w) 1 3 1 (.int x) = some (bh (u2 v 1 1 x) w)) ∧ gI (bh v w) 1 3 2 = some (v 1 2) ∧ (∀ x, pV (bh v w) 1 3 2 (.int x) = some (bh (u2 v 1 2 x) w)) ∧ gI (bh v w) 1 3 3 = some (v 1 3) ∧ (∀ x, pV (bh v w) 1 3 3 (.int x) = some (bh (u2 v 1 3 x) w)) ∧ gI (bh v w) 1 3 4 = some (v 1 4) ∧ (∀ x, pV (bh v w) 1 3 4 (.int x) = some (bh (u2 v 1 4 x) w)) ∧ gI (bh v w) 1 3 5 = some (v 1 5) ∧ (∀ x, pV (bh v w) 1 3 5 (.int x) = some (bh (u2 v 1 5 x) w)) ∧ gI (bh v w) 1 3 6 = some (v 1 6) ∧ (∀ x, pV (bh v w) 1 3 6 (.int x) = some (bh (u2 v 1 6 x) w)) ∧ gI (bh v w) 1 3 7 = some (v 1 7) ∧ (∀ x, pV (bh v w) 1 3 7 (.int x) = some (bh (u2 v 1 7 x) w)) ∧ gI (bh v w) 1 3 8 = some (v 1 8) ∧ (∀ x, pV (bh v w) 1 3 8 (.int x) = some (bh (u2 v 1 8 x) w)) ∧ (∀ i, aI (bh v w) 1 2 i = rd (v 2) 160 i) := ⟨rfl, rfl, rfl, (fun _ => pV_bh rfl rfl), rfl, (fun _ => pV_bh rfl rfl), rfl, (fun _ => pV_bh rfl rfl), rfl, (fun _ => pV_bh rfl rfl), rfl, (fun _ => pV_bh rfl rfl), rfl, (fun _ => pV_bh rfl rfl), rfl, (fun _ => pV_bh rfl rfl), rfl, (fun _ => pV_bh rfl rfl), aI_bh rfl⟩
theorem hN0 (v : Nat → Nat → Int32) (w : Nat → Nat → Int64) : kC (bh v w) 100 8 = some () ∧ gI (bh v w) 100 8 2 = some (v 100 2) ∧ (∀ x, pV (bh v w) 100 8 2 (.int x) = some (bh (u2 v 100 2 x) w)) ∧ gI (bh v w) 100 8 3 = some (v 100 3) ∧ (∀ x, pV (bh v w) 100 8 3 (.int x) = some (bh (u2 v 100 3 x) w)) ∧ gI (bh v w) 100 8 10 = some (v 100 10) ∧ (∀ x, pV (bh v w) 100 8 10 (.int x) = some (bh (u2 v 100 10 x) w)) ∧ gI (bh v w) 100 8 11 = some (v 100 11) ∧ (∀ x, pV (bh v w) 100 8 11 (.int x) = some (bh (u2 v 100 11 x) w)) ∧ gI (bh v w) 100 8 17 = some (v 100 17) ∧ (∀ x, pV (bh v w) 100 8 17 (.int x) = some (bh (u2 v 100 17 x) w)) ∧ gI (bh v w) 100 8 18 = some (v 100 18) ∧ (∀ x, pV (bh v w) 100 8 18 (.int x) = some (bh (u2 v 100 18 x) w)) ∧ gI (bh v w) 100 8 20 = some (v 100 20) ∧ (∀ x, pV (bh v w) 100 8 20 (.int x) = some (bh (u2 v 100 20 x) w)) ∧ gI (bh v w) 100 8 21 = some (v 100 21) ∧ (∀ x, pV (bh v w) 100 8 21 (.int x) = some (bh (u2 v 100 21 x) w)) ∧ gI (bh v w) 100 8 22 = some (v 100 22) ∧ (∀ x, pV (bh v w) 100 8 22 (.int x) = some (bh (u2 v 100 22 x) w)) ∧ gI (bh v w) 100 8 23 = some (v 100 23) ∧ (∀ x, pV (bh v w) 100 8 23 (.int x) = some (bh (u2 v 100 23 x) w)) ∧ gI (bh v w) 100 8 24 = some (v 100 24) ∧ (∀ x, pV (bh v w) 100 8 24 (.int x) = some (bh (u2 v 100 24 x) w)) ∧ gI (bh v w) 100 8 25 = some (v 100 25) ∧ (∀ x, pV (bh v w) 100 8 25 (.int x) = some (bh (u2 v 100 25 x) w)) ∧ gI (bh v w) 100 8 26 = some (v 100 26) ∧ (∀ x, pV (bh v w) 100 8 26 (.int x) = some (bh (u2 v 100 26 x) w)) ∧ gR (bh v w) 100 8 0 = some 101 ∧ gR (bh v w) 100 8 1 = some 102 ∧ gR (bh v w) 100 8 4 = some 103 ∧ gR (bh v w) 100 8 5 = some 104 ∧ gR (bh v w) 100 8 6 = some 105 ∧ gR (bh v w) 100 8 7 = some 106 ∧ gR (bh v w) 100 8 8 = some 107 ∧ gR (bh v w) 100 8 9 = some 108 ∧ gR (bh v w) 100 8 12 = some 109 ∧ gR (bh v w) 100 8 13 = some 110 ∧ gR (bh v w) 100 8 14 = some 111 ∧ gR (bh v w) 100 8 15 = some 112 ∧ gR (bh v w) 100 8 16 = some 113 ∧ gR (bh v w) 100 8 19 = some 114 ∧ (∀ i, aI (bh v w) 0 108 i = rd (v 108) 66 i) ∧ (∀ i x, sI (bh v w) 0 108 i x = wr v w 108 66 i x) ∧ (∀ i, aI (bh v w) 0 109 i = rd (v 109) 5 i) ∧ (∀ i x, sI (bh v w) 0 109 i x = wr v w 109 5 i x) ∧ (∀ i, aI (bh v w) 0 110 i = rd (v 110) 5 i) ∧ (∀ i x, sI (bh v w) 0 110 i x = wr v w 110 5 i x) ∧ (∀ i, aI (bh v w) 0 111 i = rd (v 111) 5 i) ∧ (∀ i x, sI (bh v w) 0 111 i x = wr v w 111 5 i x) ∧ (∀ i, aI (bh v w) 0 112 i = rd (v 112) 3 i) ∧ (∀ i x, sI (bh v w) 0 112 i x = wr v w 112 3 i x) ∧ (∀ i, aI (bh v w) 0 113 i = rd (v 113) 3 i) ∧ (∀ i x, sI (bh v w) 0 113 i x = wr v w 113 3 i x) ∧ (∀ i, aI (bh v w) 0 114 i = rd (v 114) 160 i) := ⟨rfl, rfl, (fun _ => pV_bh rfl rfl), rfl, (fun _ => pV_bh rfl rfl), rfl, (fun _ => pV_bh rfl rfl), rfl, (fun _ => pV_bh rfl rfl), rfl, (fun _ => pV_bh rfl rfl), rfl, (fun _ => pV_bh rfl rfl), rfl, (fun _ => pV_bh rfl rfl), rfl, (fun _ => pV_bh rfl rfl), rfl, (fun _ => pV_bh rfl rfl), rfl, (fun _ => pV_bh rfl rfl), rfl, (fun _ => pV_bh rfl rfl), rfl, (fun _ => pV_bh rfl rfl), rfl, (fun _ => pV_bh rfl rfl), rfl, rfl, rfl, rfl, rfl, rfl, rfl, rfl, rfl, rfl, rfl, rfl, rfl, rfl, aI_bh rfl, sI_bh rfl, aI_bh rfl, sI_bh rfl, aI_bh rfl, sI_bh rfl, aI_bh rfl, sI_bh rfl, aI_bh rfl, sI_bh rfl, aI_bh rfl, sI_bh rfl, aI_bh rfl⟩
theorem bd1_q {α β : Type} (a : α) (f : α → Option β) : bd1 (some a) f = f a := Option.some.inj (show some (bd1 (some a) f) = some (f a) from rfl)
theorem bd2_q {α β γ : Type} (a : α) (c : γ) (f : α → γ → Option β) : bd2 (some (a, c)) f = f a c := Option.some.inj (show some (bd2 (some (a, c)) f) = some (f a c) from rfl)
/-! THE TAPE: how it is read, said of numbers -/
abbrev Fa : Type := Nat × Nat
def sb {α β : Type} (x : Fa ⊕ α) (f : α → Fa ⊕ β) : Fa ⊕ β := match x with
  | .inl e => .inl e
  | .inr a => f a
theorem sb_l {α β : Type} (e : Fa) (f : α → Fa ⊕ β) : sb (.inl e) f = .inl e := rfl
theorem sb_r {α β : Type} (a : α) (f : α → Fa ⊕ β) : sb (.inr a) f = f a := rfl
def ru (tp : Nat → Nat) (lo hi : Nat) : Nat → Nat → Nat
  | 0, i => i
  | n + 1, i => if lo ≤ tp i ∧ tp i ≤ hi then ru tp lo hi n (i + 1) else i
abbrev Tp : Type := Nat × (Nat → Nat)
def rn (K : Tp) (lo hi i : Nat) : Nat := ru K.2 lo hi (K.1 - i) i
def sT (K : Tp) (P : Nat) : Nat := rn K 32 32 P
def kc (K : Tp) (s : Nat) : Nat := if s < K.1 then (if K.2 s = 59 then 3 else if 97 ≤ K.2 s ∧ K.2 s ≤ 122 then 1 else if 48 ≤ K.2 s ∧ K.2 s ≤ 57 then 2 else 4) else 0
def kD (K : Tp) (P : Nat) : Nat := kc K (sT K P)
def eN (K : Tp) (P : Nat) : Nat := if kD K P = 1 then rn K 97 122 (sT K P) else if kD K P = 2 then rn K 48 57 (sT K P) else if kD K P = 3 then sT K P + 1 else sT K P
def vL (K : Tp) (P : Nat) : Nat := if eN K P = sT K P + 1 then K.2 (sT K P) - 48 else 10 * (K.2 (sT K P) - 48) + (K.2 (sT K P + 1) - 48)
def bad (K : Tp) (P : Nat) : Prop := kD K P = 4 ∨ kD K P = 2 ∧ sT K P + 2 < eN K P
theorem bad_dec (K : Tp) (P : Nat) : bad K P ∨ ¬ bad K P := by unfold bad; omega
def tokX (K : Tp) (P : Nat) : Fa ⊕ Unit := if kD K P = 4 ∨ kD K P = 2 ∧ sT K P + 2 < eN K P then .inl (1, sT K P) else .inr ()
theorem ru_b (tp : Nat → Nat) (lo hi : Nat) : ∀ n i, i ≤ ru tp lo hi n i ∧ ru tp lo hi n i ≤ i + n
  | 0, i => ⟨Nat.le_refl _, Nat.le_refl _⟩
  | n + 1, i => by
    have := ru_b tp lo hi n (i + 1)
    unfold ru
    split <;> omega
theorem ru_in (tp : Nat → Nat) (lo hi : Nat) : ∀ n i j, i ≤ j → j < ru tp lo hi n i → lo ≤ tp j ∧ tp j ≤ hi
  | 0, i, j, h1, h2 => by unfold ru at h2; omega
  | n + 1, i, j, h1, h2 => by
    unfold ru at h2
    split at h2
    · next c =>
      by_cases e : j = i
      · subst e; exact c
      · exact ru_in tp lo hi n (i + 1) j (by omega) h2
    · omega
theorem rn_b {K : Tp} {lo hi i : Nat} (h : i ≤ K.1) : i ≤ rn K lo hi i ∧ rn K lo hi i ≤ K.1 := by
  have := ru_b K.2 lo hi (K.1 - i) i
  unfold rn
  omega
theorem rn_1 {K : Tp} {lo hi i : Nat} (h : i < K.1) (c : lo ≤ K.2 i ∧ K.2 i ≤ hi) : i + 1 ≤ rn K lo hi i := by
  unfold rn
  obtain ⟨n, e⟩ : ∃ n, K.1 - i = n + 1 := ⟨K.1 - i - 1, by omega⟩
  rw [e]
  unfold ru
  rw [if_pos c]
  exact (ru_b K.2 lo hi n (i + 1)).1
theorem rn_in {K : Tp} {lo hi i j : Nat} (h1 : i ≤ j) (h2 : j < rn K lo hi i) : lo ≤ K.2 j ∧ K.2 j ≤ hi := ru_in _ _ _ _ _ _ h1 h2
theorem sT_b {K : Tp} {P : Nat} (h : P ≤ K.1) : P ≤ sT K P ∧ sT K P ≤ K.1 := rn_b h
theorem kc_s {K : Tp} {s : Nat} : (kc K s = 0 ↔ K.1 ≤ s) ∧ (kc K s = 1 → 97 ≤ K.2 s ∧ K.2 s ≤ 122) ∧ (kc K s = 2 → 48 ≤ K.2 s ∧ K.2 s ≤ 57) ∧ (kc K s = 3 → K.2 s = 59) ∧ kc K s ≤ 4 := by
  unfold kc
  split
  · split
    · omega
    · split
      · omega
      · split <;> omega
  · omega
theorem eN_b {K : Tp} {P : Nat} (h : P ≤ K.1) : sT K P ≤ eN K P ∧ eN K P ≤ K.1 ∧ (kD K P ≠ 0 → kD K P ≠ 4 → sT K P + 1 ≤ eN K P) := by
  have hs := sT_b h
  have hk := kc_s (K := K) (s := sT K P)
  unfold eN
  have h1 := rn_b (lo := 97) (hi := 122) hs.2
  have h2 := rn_b (lo := 48) (hi := 57) hs.2
  have e : kD K P = kc K (sT K P) := rfl
  split
  · next c =>
    have := rn_1 (lo := 97) (hi := 122) (K := K) (i := sT K P) (by omega) (hk.2.1 (by omega))
    omega
  · split
    · next c =>
      have := rn_1 (lo := 48) (hi := 57) (K := K) (i := sT K P) (by omega) (hk.2.2.1 (by omega))
      omega
    · split <;> omega
/-- the class's tape -/
def CT (K : Tp) (v : Nat → Nat → Int32) : Prop := v 1 1 = nI K.1 ∧ K.1 ≤ 160 ∧ ∀ j, j < K.1 → v 2 j = nI (K.2 j) ∧ K.2 j ≤ 127
def MT (K : Tp) (v : Nat → Nat → Int32) : Prop := v 100 20 = nI K.1 ∧ K.1 ≤ 160 ∧ ∀ j, j < K.1 → v 114 j = nI (K.2 j) ∧ K.2 j ≤ 127
section
variable {K : Tp} {v : Nat → Nat → Int32} {w : Nat → Nat → Int64}
theorem CT.fr {v' : Nat → Nat → Int32} (h : CT K v) (h1 : v' 1 1 = v 1 1) (h2 : v' 2 = v 2) : CT K v' := by
  unfold CT
  rw [h1, h2]
  exact h
theorem C_run {lo hi : Nat} (hlo : lo ≤ 127) (hhi : hi ≤ 127) : ∀ (n fuel i : Nat) (v : Nat → Nat → Int32), n < fuel → i + n = K.1 → CT K v → v 1 5 = nI i → ∃ v', f_Reader_passRun_0 fuel 1 (nI lo) (nI hi) (bh v w) = some (bh v' w) ∧ v' 1 5 = nI (ru K.2 lo hi n i) ∧ (∀ q, q ≠ 1 → v' q = v q) ∧ ∀ j, j ≠ 5 → v' 1 j = v 1 j := by
  intro n
  induction n with
  | zero =>
    intro fuel i v hf hin hT h5
    obtain ⟨m, rfl⟩ : ∃ m, fuel = m + 1 := ⟨fuel - 1, by omega⟩
    have := hT.2.1
    refine ⟨v, ?_, h5, fun _ _ => rfl, fun _ _ => rfl⟩
    simp only [f_Reader_passRun_0, f_Reader_passRun_0b, hT0 v w, bd1_s]
    rw [h5, hT.1, if_pos ((nI_leI (by omega) (by omega)).mpr (by omega))]
  | succ n ih =>
    intro fuel i v hf hin hT h5
    obtain ⟨m, rfl⟩ : ∃ m, fuel = m + 1 := ⟨fuel - 1, by omega⟩
    have hL := hT.2.1
    obtain ⟨t1, t2⟩ := hT.2.2 i (by omega)
    simp only [f_Reader_passRun_0, f_Reader_passRun_0b, hT0 v w, bd1_s]
    rw [h5, hT.1, if_neg (fun z => by have := (nI_leI (by omega) (by omega)).mp z; omega), rd_nI (by omega) (by decide), bd1_s, bd1_s, t1, ite_iff (nI_ltI (by omega) (by omega)), ite_iff (nI_ltI (by omega) (by omega)), nI_1]
    unfold ru
    by_cases c1 : K.2 i < lo
    · rw [if_pos c1, if_neg (by omega)]
      exact ⟨v, rfl, h5, fun _ _ => rfl, fun _ _ => rfl⟩
    · rw [if_neg c1]
      by_cases c2 : hi < K.2 i
      · rw [if_pos c2, if_neg (by omega)]
        exact ⟨v, rfl, h5, fun _ _ => rfl, fun _ _ => rfl⟩
      · rw [if_neg c2, if_pos (by omega)]
        obtain ⟨v', e1, e2, e3, e4⟩ := ih m (i + 1) (u2 v 1 5 (nI (i + 1))) (by omega) (by omega) (hT.fr (u2_n (by decide)) (u2_o (by decide))) (u2_at _ _ _ _)
        exact ⟨v', e1, e2, fun q hq => (e3 q hq).trans (u2_o hq), fun j hj => (e4 j hj).trans (u2_n hj)⟩
theorem C_passRun {lo hi i : Nat} (hlo : lo ≤ 127) (hhi : hi ≤ 127) (hT : CT K v) (h5 : v 1 5 = nI i) (hin : i ≤ K.1) : ∃ v', f_Reader_passRun 1 (nI lo) (nI hi) (bh v w) = some (bh v' w) ∧ v' 1 5 = nI (rn K lo hi i) ∧ (∀ q, q ≠ 1 → v' q = v q) ∧ ∀ j, j ≠ 5 → v' 1 j = v 1 j := by
  have := hT.2.1
  exact C_run hlo hhi (K.1 - i) FU i v (by unfold FU; omega) (by omega) hT h5
theorem C_kindHere {s : Nat} (hT : CT K v) (h5 : v 1 5 = nI s) (hs : s ≤ K.1) : f_Reader_kindHere 1 (bh v w) = some (nI (kc K s), bh v w) := by
  have hL := hT.2.1
  simp only [f_Reader_kindHere, f_Reader_kindHere_0, f_Reader_kindHere_45, f_Reader_kindHere_61, hT0 v w, bd1_s]
  rw [h5, hT.1, ite_iff (nI_ltI (by omega) (by omega))]
  unfold kc
  by_cases c : s < K.1
  · obtain ⟨t1, t2⟩ := hT.2.2 s c
    rw [if_pos c, if_pos c, rd_nI (by omega) (by decide), bd1_s, t1, show (59 : Int32) = nI 59 from rfl, show (97 : Int32) = nI 97 from rfl, show (122 : Int32) = nI 122 from rfl, show (48 : Int32) = nI 48 from rfl, show (57 : Int32) = nI 57 from rfl, ite_iff (nI_eqI (by omega) (by omega)), ite_iff (nI_ltI (by omega) (by omega)), ite_iff (nI_ltI (by omega) (by omega)), ite_iff (nI_ltI (by omega) (by omega)), ite_iff (nI_ltI (by omega) (by omega))]
    by_cases c1 : K.2 s = 59
    · rw [if_pos c1, if_pos c1]; rfl
    · rw [if_neg c1, if_neg c1]
      by_cases c2 : 97 ≤ K.2 s ∧ K.2 s ≤ 122
      · rw [if_neg (by omega), if_neg (by omega), if_pos c2]; rfl
      · rw [if_neg c2]
        by_cases c3 : 48 ≤ K.2 s ∧ K.2 s ≤ 57
        · rw [if_pos c3, if_pos (by omega), if_neg (by omega), if_neg (by omega)]; rfl
        · rw [if_neg c3]
          by_cases c4 : K.2 s < 97
          · rw [if_pos c4]
            by_cases c5 : K.2 s < 48
            · rw [if_pos c5]; rfl
            · rw [if_neg c5, if_pos (by omega)]; rfl
          · rw [if_neg c4, if_pos (by omega), if_neg (by omega), if_pos (by omega)]; rfl
  · rw [if_neg c, if_neg c]; rfl
end
