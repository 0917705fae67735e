/-! the reference's tokens -/
theorem nin_I {a lo hi : Nat} (ha : a < 2 ^ 31) (hl : lo < 2 ^ 31) (hh : hi < 2 ^ 31) (h : mH) : f_M_in (nI a).toInt64 (nI lo).toInt64 (nI hi).toInt64 h = some (if lo ≤ a ∧ a ≤ hi then 1 else 0, h) := by
  rw [M_in]
  have e : ((nI lo).toInt64 ≤ (nI a).toInt64 ∧ (nI a).toInt64 ≤ (nI hi).toInt64) ↔ (lo ≤ a ∧ a ≤ hi) := by
    rw [i64_le, i64_le, nI_toInt ha, nI_toInt hl, nI_toInt hh]
    omega
  rw [ite_iff e]
def FL (f : Fa) (v : Nat → Nat → Int32) : Prop := v 100 25 = nI f.1 ∧ v 100 26 = nI f.2 ∧ 1 ≤ f.1 ∧ f.1 ≤ 6
def FrN (v v' : Nat → Nat → Int32) : Prop := (∀ q, q ≠ 100 → v' q = v q) ∧ ∀ j, j < 21 ∨ 26 < j → v' 100 j = v 100 j
theorem FrN.rf (v : Nat → Nat → Int32) : FrN v v := ⟨fun _ _ => rfl, fun _ _ => rfl⟩
theorem FrN.tr {v v1 v2 : Nat → Nat → Int32} (h : FrN v v1) (g : FrN v1 v2) : FrN v v2 := ⟨fun q hq => (g.1 q hq).trans (h.1 q hq), fun j hj => (g.2 j hj).trans (h.2 j hj)⟩
theorem FrN.u {v v1 : Nat → Nat → Int32} {k : Nat} {x : Int32} (h : FrN v v1) (hk : 21 ≤ k ∧ k ≤ 26) : FrN v (u2 v1 100 k x) := ⟨fun q hq => (u2_o hq).trans (h.1 q hq), fun j hj => (u2_n (by omega)).trans (h.2 j hj)⟩
def MX {α : Type} (X : Fa ⊕ α) (Q : α → (Nat → Nat → Int32) → Prop) (v : Nat → Nat → Int32) : Prop := match X with
  | .inl f => FL f v
  | .inr a => v 100 25 = 0 ∧ Q a v
def MTk (K : Tp) (P : Nat) (v : Nat → Nat → Int32) : Prop := P ≤ K.1 ∧ v 100 21 = nI (eN K P) ∧ v 100 22 = nI (sT K P) ∧ v 100 23 = nI (kD K P) ∧ (kD K P = 2 → v 100 24 = nI (vL K P))
theorem MT.fr {K : Tp} {v v' : Nat → Nat → Int32} (h : MT K v) (h1 : v' 100 20 = v 100 20) (h2 : v' 114 = v 114) : MT K v' := by
  unfold MT
  rw [h1, h2]
  exact h
theorem MT.fN {K : Tp} {v v' : Nat → Nat → Int32} (h : MT K v) (g : FrN v v') : MT K v' := h.fr (g.2 20 (by decide)) (g.1 114 (by decide))
section
variable {K : Tp} {v : Nat → Nat → Int32} {w : Nat → Nat → Int64} {P : Nat}
theorem M_look (hT : MT K v) {p : Nat} (hp : p < 2 ^ 31) : f_M_look 100 (nI p) (bh v w) = some (if p < K.1 then nI (K.2 p) else -1, bh v w) := by
  have hL := hT.2.1
  unfold f_M_look f_M_look_0
  simp only [hN0, bd1_q]
  rw [hT.1, ite_iff (nI_leI (by omega) hp)]
  by_cases c : p < K.1
  · rw [if_neg (by omega), if_pos c, rd_nI (by omega) (by decide), bd1_s, (hT.2.2 p c).1]
  · rw [if_pos (by omega), if_neg c]
theorem M_needs1 (c : Int32) (h : mH) : f_M_needs 100 1 c h = some h := by
  unfold f_M_needs f_M_needs_0
  rw [if_neg (by decide)]
theorem M_needs0 (h25 : v 100 25 = 0) (c : Int32) : f_M_needs 100 0 c (bh v w) = some (bh (u2 (u2 v 100 25 c) 100 26 (v 100 22)) w) := by
  unfold f_M_needs f_M_needs_0
  rw [if_pos rfl]
  simp only [hN0, bd1_q]
  rw [h25, if_pos rfl, u2_n (by decide)]
theorem M_needsF {f : Fa} (hF : FL f v) (b c : Int32) : f_M_needs 100 b c (bh v w) = some (bh v w) := by
  have h1 := hF.2.2
  unfold f_M_needs f_M_needs_0
  by_cases z : b = 0
  · rw [if_pos z]
    simp only [hN0, bd1_q]
    rw [hF.1, if_neg (nI_ne0 (by omega) (by omega))]
  · rw [if_neg z]
theorem M_run82 : ∀ (n fuel i : Nat) (v : Nat → Nat → Int32), n < fuel → i + n = K.1 → MT K v → v 100 21 = nI i → ∃ v', f_M_next_82 fuel 100 (bh v w) = some (bh v' w) ∧ v' 100 21 = nI (ru K.2 97 122 n i) ∧ (∀ q, q ≠ 100 → v' q = v q) ∧ ∀ j, j ≠ 21 → v' 100 j = v 100 j := by
  intro n
  induction n with
  | zero =>
    intro fuel i v hf hi hT h21
    obtain ⟨m, rfl⟩ : ∃ m, fuel = m + 1 := ⟨fuel - 1, by omega⟩
    have hL := hT.2.1
    refine ⟨v, ?_, h21, fun _ _ => rfl, fun _ _ => rfl⟩
    show f_M_next_82b (f_M_next_82 m) 100 (bh v w) = _
    unfold f_M_next_82b
    simp only [hN0, bd1_q]
    rw [h21, M_look hT (by omega), bd2_s, if_neg (by omega), show f_M_in (-1 : Int32).toInt64 97 122 (bh v w) = some (0, bh v w) from rfl, bd2_s, if_pos rfl]
  | succ n ih =>
    intro fuel i v hf hi hT h21
    obtain ⟨m, rfl⟩ : ∃ m, fuel = m + 1 := ⟨fuel - 1, by omega⟩
    have hL := hT.2.1
    obtain ⟨t1, t2⟩ := hT.2.2 i (by omega)
    show ∃ v', f_M_next_82b (f_M_next_82 m) 100 (bh v w) = _ ∧ _
    unfold f_M_next_82b ru
    simp only [hN0, bd1_q]
    rw [h21, M_look hT (by omega), bd2_s, if_pos (show i < K.1 by omega), show (97 : Int64) = (nI 97).toInt64 from rfl, show (122 : Int64) = (nI 122).toInt64 from rfl, nin_I (by omega) (by omega) (by omega), bd2_s]
    by_cases c : 97 ≤ K.2 i ∧ K.2 i ≤ 122
    · rw [if_pos c, if_neg (by decide), if_pos c]
      simp only [hN0, bd1_q]
      rw [h21, nI_1]
      obtain ⟨v', e1, e2, e3, e4⟩ := ih m (i + 1) (u2 v 100 21 (nI (i + 1))) (by omega) (by omega) (hT.fr (u2_n (by decide)) (u2_o (by decide))) (u2_at _ _ _ _)
      exact ⟨v', e1, e2, fun q hq => (e3 q hq).trans (u2_o hq), fun j hj => (e4 j hj).trans (u2_n hj)⟩
    · rw [if_neg c, if_pos rfl, if_neg c]
      exact ⟨v, rfl, h21, fun _ _ => rfl, fun _ _ => rfl⟩
/-- the first two figures from s on, below i -/
def pv (K : Tp) (s i : Nat) : Nat := if i = s then 0 else if i = s + 1 then K.2 s - 48 else 10 * (K.2 s - 48) + (K.2 (s + 1) - 48)
theorem M_run140 {s : Nat} : ∀ (n fuel i : Nat) (v : Nat → Nat → Int32), n < fuel → i + n = K.1 → s ≤ i → (∀ j, s ≤ j → j < i → 48 ≤ K.2 j ∧ K.2 j ≤ 57) → MT K v → v 100 25 = 0 → v 100 21 = nI i → v 100 22 = nI s → v 100 24 = nI (pv K s i) → ∃ v', f_M_next_140 fuel 100 (bh v w) = some (bh v' w) ∧ FrN v v' ∧ v' 100 23 = v 100 23 ∧ (s + 2 < ru K.2 48 57 n i → FL (1, s) v') ∧ (¬ s + 2 < ru K.2 48 57 n i → v' 100 25 = 0 ∧ v' 100 21 = nI (ru K.2 48 57 n i) ∧ v' 100 22 = nI s ∧ v' 100 24 = nI (pv K s (ru K.2 48 57 n i))) := by
  intro n
  have ext : ∀ (i : Nat) (v : Nat → Nat → Int32), i ≤ K.1 → s ≤ i → MT K v → v 100 25 = 0 → v 100 21 = nI i → v 100 22 = nI s → v 100 24 = nI (pv K s i) → ∃ v', (if (2 : Int32) < nI i - nI s then f_M_next_236 100 0 (bh v w) else f_M_next_236 100 1 (bh v w)) = some (bh v' w) ∧ FrN v v' ∧ v' 100 23 = v 100 23 ∧ (s + 2 < i → FL (1, s) v') ∧ (¬ s + 2 < i → v' 100 25 = 0 ∧ v' 100 21 = nI i ∧ v' 100 22 = nI s ∧ v' 100 24 = nI (pv K s i)) := by
    intro i v hi hs hT h25 h21 h22 h24
    have hL := hT.2.1
    rw [pk_sub hs, show (2 : Int32) = nI 2 from rfl, ite_iff (nI_ltI (by omega) (by omega))]
    unfold f_M_next_236
    simp only [hN0, bd1_q]
    by_cases c : 2 < i - s
    · rw [if_pos c, M_needs0 h25, bd1_s]
      refine ⟨_, rfl, ((FrN.rf v).u (by omega)).u (by omega), by simp [u2_ap], fun _ => ⟨by simp [u2_ap]; rfl, by simp [u2_ap, h22], Nat.le_refl 1, show 1 ≤ 6 by decide⟩, fun z => by omega⟩
    · rw [if_neg c, M_needs1, bd1_s]
      exact ⟨v, rfl, FrN.rf v, rfl, fun z => by omega, fun _ => ⟨h25, h21, h22, h24⟩⟩
  induction n with
  | zero =>
    intro fuel i v hf hi hs hd hT h25 h21 h22 h24
    obtain ⟨m, rfl⟩ : ∃ m, fuel = m + 1 := ⟨fuel - 1, by omega⟩
    have hL := hT.2.1
    show ∃ v', f_M_next_140b (f_M_next_140 m) 100 (bh v w) = _ ∧ _
    unfold f_M_next_140b
    simp only [hN0, bd1_q]
    rw [h21, M_look hT (by omega), bd2_s, if_neg (by omega), show f_M_in (-1 : Int32).toInt64 48 57 (bh v w) = some (0, bh v w) from rfl, bd2_s, if_pos rfl]
    simp only [hN0, bd1_q]
    rw [h21, h22]
    exact ext i v (by omega) hs hT h25 h21 h22 h24
  | succ n ih =>
    intro fuel i v hf hi hs hd hT h25 h21 h22 h24
    obtain ⟨m, rfl⟩ : ∃ m, fuel = m + 1 := ⟨fuel - 1, by omega⟩
    have hL := hT.2.1
    obtain ⟨t1, t2⟩ := hT.2.2 i (by omega)
    show ∃ v', f_M_next_140b (f_M_next_140 m) 100 (bh v w) = _ ∧ _
    unfold f_M_next_140b ru
    simp only [hN0, bd1_q]
    rw [h21, M_look hT (by omega), bd2_s, if_pos (show i < K.1 by omega), show (48 : Int64) = (nI 48).toInt64 from rfl, show (57 : Int64) = (nI 57).toInt64 from rfl, nin_I (by omega) (by omega) (by omega), bd2_s]
    by_cases c : 48 ≤ K.2 i ∧ K.2 i ≤ 57
    · rw [if_pos c, if_neg (by decide), if_pos c]
      unfold f_M_next_201
      simp only [hN0, bd1_q]
      have go : ∀ x : Nat, x = pv K s (i + 1) → ∃ v', f_M_next_140 m 100 (bh (u2 (u2 v 100 24 (nI x)) 100 21 (nI (i + 1))) w) = some (bh v' w) ∧ FrN v v' ∧ v' 100 23 = v 100 23 ∧ (s + 2 < ru K.2 48 57 n (i + 1) → FL (1, s) v') ∧ (¬ s + 2 < ru K.2 48 57 n (i + 1) → v' 100 25 = 0 ∧ v' 100 21 = nI (ru K.2 48 57 n (i + 1)) ∧ v' 100 22 = nI s ∧ v' 100 24 = nI (pv K s (ru K.2 48 57 n (i + 1)))) := by
        intro x hx
        have hd' : ∀ j, s ≤ j → j < i + 1 → 48 ≤ K.2 j ∧ K.2 j ≤ 57 := fun j q1 q2 => by
          by_cases z : j = i
          · rw [z]; exact c
          · exact hd j q1 (by omega)
        obtain ⟨v', e1, e2, e3, e4, e5⟩ := ih m (i + 1) (u2 (u2 v 100 24 (nI x)) 100 21 (nI (i + 1))) (by omega) (by omega) (by omega) hd' (hT.fr (by simp [u2_ap]) ((u2_o (by decide)).trans (u2_o (by decide)))) (by simp [u2_ap, h25]) (u2_at _ _ _ _) (by simp [u2_ap, h22]) (by simp [u2_ap, hx])
        exact ⟨v', e1, (((FrN.rf v).u (by omega)).u (by omega)).tr e2, by rw [e3]; simp [u2_ap], e4, e5⟩
      have q1 : (u2 (u2 v 100 24 (v 100 24)) 100 21 (nI (i + 1))) = (u2 (u2 v 100 24 (v 100 24)) 100 21 (nI (i + 1))) := rfl
      rw [h21, h22, pk_sub hs, show (2 : Int32) = nI 2 from rfl, ite_iff (nI_leI (by omega) (by omega))]
      by_cases g : 2 ≤ i - s
      · rw [if_pos g, u2_n (show 21 ≠ 24 by decide), h21, nI_1, h24]
        refine go _ ?_
        unfold pv
        rw [if_neg (by omega), if_neg (by omega), if_neg (by omega), if_neg (by omega)]
      · rw [if_neg g, M_look hT (by omega), bd2_s, if_pos (show i < K.1 by omega)]
        simp only [hN0, bd1_q]
        rw [u2_n (show 21 ≠ 24 by decide), h21, nI_1, h24, show (10 : Int32) = nI 10 from rfl, pk_mul, nI_add, show (48 : Int32) = nI 48 from rfl, pk_sub (by omega)]
        refine go _ ?_
        unfold pv
        by_cases z : i = s
        · subst z
          rw [if_pos rfl, if_neg (by omega), if_pos rfl]
          omega
        · have z2 : i = s + 1 := by omega
          subst z2
          have := hd s (Nat.le_refl _) (by omega)
          rw [if_neg (by omega), if_pos rfl, if_neg (by omega), if_neg (by omega)]
          omega
    · rw [if_neg c, if_pos rfl, if_neg c]
      simp only [hN0, bd1_q]
      rw [h21, h22]
      exact ext i v (by omega) hs hT h25 h21 h22 h24
end
