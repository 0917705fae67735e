/-! the reference reads numbers and laws -/
def MS (σ : Rho) (v : Nat → Nat → Int32) : Prop := (v 100 10 = nI (σ 0 0) ∧ v 100 11 = nI (σ 0 1) ∧ v 100 17 = cI (σ 17 0) ∧ v 100 18 = cI (σ 17 1) ∧ v 108 11 = nI (σ 0 5)) ∧ (∀ l, l < σ 0 0 → v 108 l = nI (σ 1 l) ∧ v 109 l = nI (σ 2 l) ∧ v 110 l = nI (σ 3 l) ∧ v 111 l = nI (σ 4 l) ∧ v 108 (5 + l) = cI (σ 5 l)) ∧ (∀ l, σ 0 0 ≤ l → l < 5 → v 108 (5 + l) = -4) ∧ (∀ p, p < σ 0 1 → v 108 (12 + p) = nI (σ 6 p) ∧ v 112 p = nI (σ 7 p) ∧ v 113 p = nI (σ 8 p) ∧ v 108 (15 + p) = nI (σ 9 p)) ∧ (∀ p, p < 3 → v 108 (18 + p) = nI (σ 10 p) ∧ v 108 (21 + p) = nI (σ 11 p)) ∧ (∀ j, 24 ≤ j → j < 66 → v 108 j = 0)
/-- what MS reads -/
def rdS (σ : Rho) (q j : Nat) : Prop := q = 100 ∧ (j = 10 ∨ j = 11 ∨ j = 17 ∨ j = 18) ∨ q = 108 ∧ (j < σ 0 0 ∨ 5 ≤ j ∧ j < 10 ∨ j = 11 ∨ 12 ≤ j ∧ j < 12 + σ 0 1 ∨ 15 ≤ j ∧ j < 15 + σ 0 1 ∨ 18 ≤ j ∧ j < 66) ∨ (q = 109 ∨ q = 110 ∨ q = 111) ∧ j < σ 0 0 ∨ (q = 112 ∨ q = 113) ∧ j < σ 0 1
theorem MS.of {σ : Rho} {v v' : Nat → Nat → Int32} (h : MS σ v) (h0 : σ 0 0 ≤ 5) (e : ∀ q j, rdS σ q j → v' q j = v q j) : MS σ v' := by
  obtain ⟨⟨a1, a2, a3, a4, a5⟩, b, c, d, f, g⟩ := h
  refine ⟨⟨(e _ _ (by unfold rdS; omega)).trans a1, (e _ _ (by unfold rdS; omega)).trans a2, (e _ _ (by unfold rdS; omega)).trans a3, (e _ _ (by unfold rdS; omega)).trans a4, (e _ _ (by unfold rdS; omega)).trans a5⟩, fun l hl => ?_, fun l h1 h2 => (e _ _ (by unfold rdS; omega)).trans (c l h1 h2), fun p hp => ?_, fun p hp => ?_, fun j h1 h2 => (e _ _ (by unfold rdS; omega)).trans (g j h1 h2)⟩
  · obtain ⟨x1, x2, x3, x4, x5⟩ := b l hl
    exact ⟨(e _ _ (by unfold rdS; omega)).trans x1, (e _ _ (by unfold rdS; omega)).trans x2, (e _ _ (by unfold rdS; omega)).trans x3, (e _ _ (by unfold rdS; omega)).trans x4, (e _ _ (by unfold rdS; omega)).trans x5⟩
  · obtain ⟨x1, x2, x3, x4⟩ := d p hp
    exact ⟨(e _ _ (by unfold rdS; omega)).trans x1, (e _ _ (by unfold rdS; omega)).trans x2, (e _ _ (by unfold rdS; omega)).trans x3, (e _ _ (by unfold rdS; omega)).trans x4⟩
  · obtain ⟨x1, x2⟩ := f p hp
    exact ⟨(e _ _ (by unfold rdS; omega)).trans x1, (e _ _ (by unfold rdS; omega)).trans x2⟩
theorem MS.fN {σ : Rho} {v v' : Nat → Nat → Int32} (h : MS σ v) (h0 : σ 0 0 ≤ 5) (g : FrN v v') : MS σ v' := h.of h0 (fun q j hr => by
  by_cases z : q = 100
  · subst z
    exact g.2 j (by unfold rdS at hr; omega)
  · rw [g.1 q z])
/-- what the lines may change -/
def FrD (v v' : Nat → Nat → Int32) : Prop := (∀ q, q < 100 ∨ 100 < q ∧ q < 108 ∨ 113 < q → v' q = v q) ∧ ∀ j, j < 10 ∨ j = 20 ∨ 26 < j → v' 100 j = v 100 j
theorem FrN.d {v v' : Nat → Nat → Int32} (h : FrN v v') : FrD v v' := ⟨fun q hq => h.1 q (by omega), fun j hj => h.2 j (by omega)⟩
theorem FrD.rf (v : Nat → Nat → Int32) : FrD v v := ⟨fun _ _ => rfl, fun _ _ => rfl⟩
theorem FrD.tr {v v1 v2 : Nat → Nat → Int32} (h : FrD v v1) (g : FrD v1 v2) : FrD v v2 := ⟨fun q hq => (g.1 q hq).trans (h.1 q hq), fun j hj => (g.2 j hj).trans (h.2 j hj)⟩
theorem FrD.w {v v1 : Nat → Nat → Int32} {o k : Nat} {x : Int32} (h : FrD v v1) (ho : 108 ≤ o ∧ o ≤ 113) : FrD v (u2 v1 o k x) := ⟨fun q hq => (u2_o (by omega)).trans (h.1 q hq), fun j hj => (congrFun (u2_o (by omega)) j).trans (h.2 j hj)⟩
theorem FrD.u {v v1 : Nat → Nat → Int32} {k : Nat} {x : Int32} (h : FrD v v1) (hk : 10 ≤ k ∧ k ≤ 26 ∧ k ≠ 20) : FrD v (u2 v1 100 k x) := ⟨fun q hq => (u2_o (by omega)).trans (h.1 q hq), fun j hj => (u2_n (by omega)).trans (h.2 j hj)⟩
theorem MT.fD {K : Tp} {v v' : Nat → Nat → Int32} (h : MT K v) (g : FrD v v') : MT K v' := h.fr (g.2 20 (by decide)) (g.1 114 (by decide))
theorem FL.w {f : Fa} {v : Nat → Nat → Int32} {o k : Nat} {x : Int32} (h : FL f v) (ho : 100 ≠ o) : FL f (u2 v o k x) := ⟨(congrFun (u2_o ho) 25).trans h.1, (congrFun (u2_o ho) 26).trans h.2.1, h.2.2⟩
theorem FL.u {f : Fa} {v : Nat → Nat → Int32} {k : Nat} {x : Int32} (h : FL f v) (h1 : 25 ≠ k) (h2 : 26 ≠ k) : FL f (u2 v 100 k x) := ⟨(u2_n h1).trans h.1, (u2_n h2).trans h.2.1, h.2.2⟩
theorem MTk.w {K : Tp} {P o k : Nat} {x : Int32} {v : Nat → Nat → Int32} (h : MTk K P v) (ho : 100 ≠ o) : MTk K P (u2 v o k x) := h.of (fun j _ => congrFun (u2_o ho) j)
theorem MTk.u {K : Tp} {P k : Nat} {x : Int32} {v : Nat → Nat → Int32} (h : MTk K P v) (hk : k < 21 ∨ 24 < k) : MTk K P (u2 v 100 k x) := h.of (fun j hj => u2_n (by omega))
def sNw {α : Type} (K : Tp) (lo hi : Nat) (X : Fa ⊕ (α × Nat)) : Fa ⊕ ((α × Nat) × Nat) := sb X fun y => sb (chk K lo hi y.2) fun n => sb (tokX K (eN K y.2)) fun _ => .inr ((y.1, n), eN K y.2)
section
variable {K : Tp} {σ : Rho} {v : Nat → Nat → Int32} {w : Nat → Nat → Int64} {P lo hi : Nat}
theorem chk_inr {n : Nat} (h : chk K lo hi P = .inr n) : lo ≤ n ∧ n ≤ hi := by
  unfold chk at h
  split at h
  · exact chkB_inr h
  · cases h
theorem M_rn {α : Type} {X : Fa ⊕ (α × Nat)} {A : α → Prop} (hT : MT K v) (h : MX X (fun y v => MTk K y.2 v ∧ A y.1) v) (hlo : lo < 200) (hhi : hi < 200) : ∃ r v', f_M_readNumber 100 (nI lo) (nI hi) (bh v w) = some (r, bh v' w) ∧ FrN v v' ∧ (∃ n, n ≤ hi ∧ r = nI n) ∧ MX (sNw K lo hi X) (fun y v' => MTk K y.2 v' ∧ A y.1.1 ∧ r = nI y.1.2 ∧ lo ≤ y.1.2 ∧ y.1.2 ≤ hi) v' := by
  have hb : ∀ j, j < K.1 → K.2 j ≤ 127 := fun j hj => (hT.2.2 j hj).2
  unfold f_M_readNumber f_M_readNumber_0 sNw
  simp only [hN0, bd1_q]
  cases X with
  | inl f =>
    have h : FL f v := h
    rw [M_lookedF h, bd2_s]
    simp only [hN0, bd1_q]
    rw [M_nextF h, bd1_s]
    exact ⟨0, v, rfl, FrN.rf v, ⟨0, Nat.zero_le _, rfl⟩, h⟩
  | inr y =>
    obtain ⟨h25, hk, hA⟩ := h
    obtain ⟨r, v1, e1, f1, x1, z1⟩ := M_looked (w := w) (lo := lo) (hi := hi) hk h25 hb hlo hhi
    rw [e1, bd2_s, sb_r]
    simp only [hN0, bd1_q]
    clear e1
    cases hc : chk K lo hi y.2 with
    | inl f =>
      rw [hc] at x1
      have x1 : FL f v1 := x1
      rw [M_nextF x1, bd1_s, z1 f hc]
      exact ⟨0, v1, rfl, f1, ⟨0, Nat.zero_le _, rfl⟩, x1⟩
    | inr n =>
      rw [hc] at x1
      obtain ⟨b25, rfl, bk⟩ := x1
      obtain ⟨v2, e2, f2, x2⟩ := M_next (w := w) (hT.fN f1) b25 bk.2.1 (eN_b hk.1).2.1
      rw [e2, bd1_s, sb_r]
      have hn := chk_inr hc
      refine ⟨nI n, v2, rfl, f1.tr f2, ⟨n, hn.2, rfl⟩, ?_⟩
      clear e2
      cases hx : tokX K (eN K y.2) with
      | inl f => rw [hx] at x2; exact x2
      | inr u =>
        rw [hx] at x2
        exact ⟨x2.1, x2.2, hA, rfl, hn⟩
theorem M_nw {α : Type} {X : Fa ⊕ (α × Nat)} {A : α → (Nat → Nat → Int32) → Prop} {B : α × Nat → (Nat → Nat → Int32) → Prop} (o k : Nat) (hT : MT K v) (h : MX X (fun y v => MTk K y.2 v ∧ A y.1 v) v) (hlo : lo < 200) (hhi : hi < 200) (ho : 100 ≠ o) (hB : ∀ a n v', FrN v v' → A a v → B (a, n) (u2 v' o k (nI n))) : ∃ r v', f_M_readNumber 100 (nI lo) (nI hi) (bh v w) = some (r, bh v' w) ∧ FrN v v' ∧ MX (sNw K lo hi X) (fun y v => MTk K y.2 v ∧ B y.1 v) (u2 v' o k r) := by
  have h' : MX X (fun y v2 => MTk K y.2 v2 ∧ A y.1 v) v := by
    cases X with
    | inl f => exact h
    | inr y => exact h
  obtain ⟨r, v1, e1, f1, -, x1⟩ := M_rn (w := w) (lo := lo) (hi := hi) (A := fun a => A a v) hT h' hlo hhi
  refine ⟨r, v1, e1, f1, ?_⟩
  clear e1
  generalize sNw K lo hi X = Y at x1 ⊢
  cases Y with
  | inl f => exact FL.w x1 ho
  | inr y =>
    obtain ⟨a25, ak, aA, ar, -⟩ := x1
    refine ⟨(congrFun (u2_o ho) 25).trans a25, ak.w ho, ?_⟩
    rw [ar]
    exact hB y.1.1 y.1.2 v1 f1 aA
theorem M_rloF {f : Fa} (hF : FL f v) (R : Int32) : f_M_readLawOf 100 R (bh v w) = some (R ||| ((1 : Int32) <<< ((0 : Int32) &&& 31)), bh v w) := by
  have := hF.2.2
  have n0 : ¬ nI f.1 = 0 := nI_ne0 (by omega) (by omega)
  unfold f_M_readLawOf f_M_readLawOf_0 f_M_readLawOf_32 f_M_readLawOf_59
  simp only [hN0, bd1_q]
  rw [M_lookedF hF, bd2_s]
  simp only [hN0, bd1_q]
  rw [hF.1, if_neg n0, if_neg n0, M_nextF hF, bd1_s]
theorem cI_le : ∀ m, m ≤ 4 → ∀ h, h ≤ 5 → (nI m ≤ cI h ↔ m + 1 ≤ h) := by decide +kernel
def sLx (K : Tp) (R P : Nat) : Fa ⊕ (Nat × Nat) := sb (chk K 0 4 P) fun m => if bit R m = 1 then .inl (4, sT K P) else sb (tokX K (eN K P)) fun _ => .inr (m, eN K P)
theorem M_rlo {R h : Nat} (hT : MT K v) (hk : MTk K P v) (h25 : v 100 25 = 0) (hR : R < 32) (h17 : v 100 17 = cI h) (hh : h ≤ 5) : ∃ r v', f_M_readLawOf 100 (nI R) (bh v w) = some (r, bh v' w) ∧ (∀ q, q ≠ 100 → v' q = v q) ∧ (∀ j, j ≠ 17 → j < 21 ∨ 26 < j → v' 100 j = v 100 j) ∧ MX (sLx K R P) (fun y v' => r = nI (R ||| 2 ^ y.1) ∧ v' 100 17 = cI (max h (y.1 + 1)) ∧ y.1 ≤ 4 ∧ MTk K y.2 v') v' := by
  have hb : ∀ j, j < K.1 → K.2 j ≤ 127 := fun j hj => (hT.2.2 j hj).2
  obtain ⟨r, v1, e1, f1, x1, z1⟩ := M_looked (w := w) (lo := 0) (hi := 4) hk h25 hb (by decide) (by decide)
  have e1 : f_M_looked 100 (0 : Int32) (4 : Int32) (bh v w) = some (r, bh v1 w) := e1
  unfold f_M_readLawOf f_M_readLawOf_0 f_M_readLawOf_28 f_M_readLawOf_32 f_M_readLawOf_56 f_M_readLawOf_59 sLx
  simp only [hN0, bd1_q]
  rw [e1, bd2_s]
  simp only [hN0, bd1_q]
  clear e1
  cases hc : chk K 0 4 P with
  | inl f =>
    rw [hc] at x1
    have x1 : FL f v1 := x1
    have := x1.2.2
    have n0 : ¬ nI f.1 = 0 := nI_ne0 (by omega) (by omega)
    rw [x1.1, if_neg n0, if_neg n0, M_nextF x1, bd1_s]
    exact ⟨_, v1, rfl, f1.1, fun j _ hj => f1.2 j hj, x1⟩
  | inr m =>
    rw [hc] at x1
    obtain ⟨b25, rfl, bk⟩ := x1
    have hm := (chk_inr hc).2
    rw [b25, if_pos rfl, bit_I (by omega) (by omega), sb_r]
    rcases bit_01 R m with b | b
    · rw [b, if_pos (show nI 0 = 0 from rfl), M_needs1, if_neg (by decide)]
      simp only [hN0, bd1_q]
      have b17 : v1 100 17 = cI h := (f1.2 17 (by decide)).trans h17
      rw [b25, if_pos rfl, b17, ite_iff (cI_le m hm h hh), shl_I (by omega), or_I]
      have go : ∀ x : Int32, x = cI (max h (m + 1)) → ∃ r v', (bd1 (f_M_next 100 (bh (u2 v1 100 17 x) w)) fun h26 => some (nI (R ||| 2 ^ m), h26)) = some (r, bh v' w) ∧ (∀ q, q ≠ 100 → v' q = v q) ∧ (∀ j, j ≠ 17 → j < 21 ∨ 26 < j → v' 100 j = v 100 j) ∧ MX (sb (tokX K (eN K P)) fun _ => .inr (m, eN K P)) (fun y v' => r = nI (R ||| 2 ^ y.1) ∧ v' 100 17 = cI (max h (y.1 + 1)) ∧ y.1 ≤ 4 ∧ MTk K y.2 v') v' := by
        intro x hx
        obtain ⟨v2, e2, f2, x2⟩ := M_next (w := w) (K := K) (P := eN K P) (v := u2 v1 100 17 x) ((hT.fN f1).fr (u2_n (by decide)) (u2_o (by decide))) ((u2_n (by decide)).trans b25) ((u2_n (by decide)).trans bk.2.1) (eN_b hk.1).2.1
        rw [e2, bd1_s]
        refine ⟨_, v2, rfl, fun q hq => (f2.1 q hq).trans ((u2_o hq).trans (f1.1 q hq)), fun j h1 h2 => (f2.2 j h2).trans ((u2_n h1).trans (f1.2 j h2)), ?_⟩
        clear e2
        cases hx2 : tokX K (eN K P) with
        | inl f => rw [hx2] at x2; exact x2
        | inr u =>
          rw [hx2] at x2
          exact ⟨x2.1, rfl, (f2.2 17 (by decide)).trans ((u2_at _ _ _ _).trans hx), hm, x2.2⟩
      by_cases g : m + 1 ≤ h
      · rw [if_pos g]
        exact go _ (by rw [show max h (m + 1) = h by omega])
      · rw [if_neg g]
        exact go _ (by rw [show max h (m + 1) = m + 1 by omega]; rfl)
    · rw [b, if_neg (by decide), M_needs0 b25, if_pos rfl]
      simp only [hN0, bd1_q]
      have F2 : FL (4, sT K P) (u2 (u2 v1 100 25 4) 100 26 (v1 100 22)) := ⟨by simp [u2_ap]; rfl, by simp [u2_ap]; exact bk.2.2.1, show 1 ≤ 4 by decide, show 4 ≤ 6 by decide⟩
      rw [F2.1, if_neg (show ¬ nI 4 = 0 by decide), M_nextF F2, bd1_s]
      exact ⟨_, _, rfl, fun q hq => (u2_o hq).trans ((u2_o hq).trans (f1.1 q hq)), fun j h1 h2 => by rw [u2_n (by omega), u2_n (by omega)]; exact f1.2 j h2, F2⟩
end
