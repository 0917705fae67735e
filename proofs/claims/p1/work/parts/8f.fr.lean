/-! frames: places that the tie doesn't read may change -/
def pC (p : Nat) : Prop := p < 20 ∨ 37 ≤ p ∧ p < 40 ∨ p = 43 ∨ 58 ≤ p ∧ p < 100
def pC0 (p : Nat) : Prop := p < 20 ∨ 37 ≤ p ∧ p < 40 ∨ 58 ≤ p ∧ p < 100
def pM (p : Nat) : Prop := 101 ≤ p ∧ p < 108 ∨ p = 114 ∨ 123 ≤ p
section
variable {S : Sg} {ρ' : Rho} {v v' v1 : Nat → Nat → Int32} {w : Nat → Nat → Int64}
theorem CI.fr0 (h : CI S v) (hv : ∀ p, pC0 p → v' p = v p) (h43 : v' 43 0 = 0) : CI S v' := by
  obtain ⟨h1, h2, h3, h4, h5, h6, h7⟩ := h
  unfold CI
  rw [hv 38 (by unfold pC0; omega), hv 1 (by unfold pC0; omega), hv 2 (by unfold pC0; omega), hv 0 (by unfold pC0; omega)]
  refine ⟨h1.frame (fun p _ _ => hv p (by unfold pC0; omega)), fun k hk => ⟨(h2 k hk).1, fun z => ((h2 k hk).2 z).frame (fun p _ _ => hv p (by unfold pC0; omega))⟩, h3, h4, h5, fun k hk => ?_, h7.1, h43⟩
  rw [hv (92 + 2 * k) (by unfold pC0; omega), hv (93 + 2 * k) (by unfold pC0; omega)]
  exact h6 k hk
theorem CI.fr (h : CI S v) (hv : ∀ p, pC p → v' p = v p) : CI S v' := h.fr0 (fun p hp => hv p (by unfold pC0 at hp; unfold pC; omega)) (by rw [hv 43 (by unfold pC; omega)]; exact h.2.2.2.2.2.2.2)
theorem MI.fr (h : MI S v) (hv : ∀ p, pM p → v' p = v p) (h0 : v' 100 2 = v 100 2 ∧ v' 100 3 = v 100 3 ∧ v' 100 20 = v 100 20 ∧ v' 100 25 = v 100 25 ∧ v' 100 38 = v 100 38) : MI S v' := by
  obtain ⟨⟨h1, h1b⟩, h2, h3, h4, h5, h6, h7⟩ := h
  obtain ⟨a1, a2, a3, a4, a5⟩ := h0
  unfold MI MR MF
  rw [hv 102 (by unfold pM; omega), hv 114 (by unfold pM; omega), hv 123 (by unfold pM; omega), hv 124 (by unfold pM; omega), hv 125 (by unfold pM; omega), hv 103 (by unfold pM; omega), hv 104 (by unfold pM; omega), hv 105 (by unfold pM; omega), hv 106 (by unfold pM; omega), hv 107 (by unfold pM; omega), a1, a2, a3, a4, a5]
  exact ⟨⟨h1, h1b.frame (hv 101 (by unfold pM; omega))⟩, fun k hk => ⟨(h2 k hk).1, fun z => ((h2 k hk).2 z).frame (hv 101 (by unfold pM; omega))⟩, h3, h4, h5, h6, h7⟩
theorem CI_rt (h : CI S v) (hR : CR 3 ρ' v1) (hq : ∀ q, q < 3 ∨ 37 ≤ q ∧ q < 40 ∨ q = 43 ∨ 58 ≤ q ∧ q < 100 → v1 q = v q) : CI (ρ', S.2) v1 := by
  obtain ⟨-, h2, h3, h4, h5, h6, h7⟩ := h
  refine ⟨hR, fun k hk => ?_, ?_, ?_, ?_, fun k hk => ?_, ?_⟩
  · rw [hq 38 (by omega)]
    exact ⟨(h2 k hk).1, fun z => ((h2 k hk).2 z).frame (fun p _ _ => hq p (by omega))⟩
  · rw [hq 1 (by omega)]; exact h3
  · rw [hq 2 (by omega)]; exact h4
  · rw [hq 1 (by omega)]; exact h5
  · rw [hq (92 + 2 * k) (by omega), hq (93 + 2 * k) (by omega)]; exact h6 k hk
  · rw [hq 0 (by omega), hq 43 (by omega)]; exact h7
theorem MI_rt (h : MI S v) (hR : MR ρ' v1) (hq : ∀ q, 102 ≤ q ∧ q < 108 ∨ q = 114 ∨ 123 ≤ q → v1 q = v q) (h0 : v1 100 20 = v 100 20 ∧ v1 100 25 = v 100 25 ∧ v1 100 38 = v 100 38) (hj : ∀ j, 66 ≤ j → v1 101 j = v 101 j) : MI (ρ', S.2) v1 := by
  obtain ⟨-, h2, h3, h4, h5, h6, h7⟩ := h
  refine ⟨hR, fun k hk => ?_, ?_, ?_, ?_, ?_, ?_⟩
  · rw [hq 102 (by omega)]
    exact ⟨(h2 k hk).1, fun z => ((h2 k hk).2 z).hi (by omega) hj⟩
  · rw [h0.1]; exact h3
  · rw [hq 114 (by omega)]; exact h4
  · rw [h0.2.1]; exact h5
  · rw [hq 123 (by omega), hq 124 (by omega), hq 125 (by omega)]; exact h6
  · rw [h0.2.2]; exact h7
theorem CI_torn {t : Int} (h : CI S v) : CI (S.1, S.2.1, upX S.2.2 7 0 t) (u2 v 0 9 (zI t)) := by
  obtain ⟨h1, h2, h3, h4, h5, h6, h7⟩ := h
  have hq : ∀ q, q ≠ 0 → u2 v 0 9 (zI t) q = v q := fun q hq => u2_o hq
  refine ⟨h1.frame (fun p _ _ => hq p (by omega)), fun k hk => ?_, ?_, ?_, ?_, fun k hk => ?_, u2_at _ _ _ _, (congrFun (hq 43 (by omega)) 0).trans h7.2⟩
  · rw [hq 38 (by omega)]
    exact ⟨(h2 k hk).1, fun z => ((h2 k hk).2 z).frame (fun p _ _ => hq p (by omega))⟩
  · rw [hq 1 (by omega)]; exact h3
  · rw [hq 2 (by omega)]; exact h4
  · rw [hq 1 (by omega)]; exact h5
  · rw [hq (92 + 2 * k) (by omega), hq (93 + 2 * k) (by omega)]; exact h6 k hk
theorem MI_torn7 {t : Int} (h : MI S v) : MI (S.1, S.2.1, upX S.2.2 7 0 t) v := h
theorem CI_torn8 {t : Int} (h : CI S v) : CI (S.1, S.2.1, upX S.2.2 8 0 t) v := h
theorem MI_torn {t : Int} (h : MI S v) : MI (S.1, S.2.1, upX S.2.2 8 0 t) (u2 v 100 38 (zI t)) := by
  obtain ⟨⟨h1, h1b⟩, h2, h3, h4, h5, h6, h7⟩ := h
  have hq : ∀ q, q ≠ 100 → u2 v 100 38 (zI t) q = v q := fun q hq => u2_o hq
  refine ⟨⟨?_, h1b.frame (hq 101 (by omega))⟩, fun k hk => ?_, ?_, ?_, ?_, ?_, u2_at _ _ _ _⟩
  · unfold MF
    rw [u2_n (show 2 ≠ 38 by decide), u2_n (show 3 ≠ 38 by decide), hq 103 (by omega), hq 104 (by omega), hq 105 (by omega), hq 106 (by omega), hq 107 (by omega)]
    exact h1
  · rw [hq 102 (by omega)]
    exact ⟨(h2 k hk).1, fun z => ((h2 k hk).2 z).frame (hq 101 (by omega))⟩
  · rw [u2_n (by decide)]; exact h3
  · rw [hq 114 (by omega)]; exact h4
  · rw [u2_n (by decide)]; exact h5
  · rw [hq 123 (by omega), hq 124 (by omega), hq 125 (by omega)]; exact h6
theorem SOK_torn {t t' : Int} (h : SOK S) : SOK (S.1, S.2.1, upX (upX S.2.2 7 0 t) 8 0 t') := h
/-- alike, with any kind of answer; both come to an end, and go on alike -/
def EqT {α : Type} (S : Sg) (v : Nat → Nat → Int32) (w : Nat → Nat → Int64) (fq fm : mH → Option (α × mH)) : Prop :=
  ∃ (r : α) (v1 : Nat → Nat → Int32) (w1 : Nat → Nat → Int64) (v2 : Nat → Nat → Int32) (w2 : Nat → Nat → Int64) (S' : Sg), fq (bh v w) = some (r, bh v1 w1) ∧ fm (bh v1 w1) = some (r, bh v2 w2) ∧ SOK S' ∧ CI S' v2 ∧ MI S' v2
def FiT {α : Type} (S : Sg) (v : Nat → Nat → Int32) (w : Nat → Nat → Int64) (fq fm : mH → Option (α × mH)) : Prop :=
  ∃ (r r' : α) (v1 : Nat → Nat → Int32) (w1 : Nat → Nat → Int64) (v2 : Nat → Nat → Int32) (w2 : Nat → Nat → Int64) (S' : Sg), fq (bh v w) = some (r, bh v1 w1) ∧ fm (bh v1 w1) = some (r', bh v2 w2) ∧ SOK S' ∧ CI S' v2 ∧ MI S' v2
theorem Eqv.T {fq fm : mH → Option (Int32 × mH)} (h : Eqv S v w fq fm) : EqT S v w fq fm := h
theorem EqT.fi {α : Type} {fq fm : mH → Option (α × mH)} (h : EqT S v w fq fm) : FiT S v w fq fm := by
  obtain ⟨r, v1, w1, v2, w2, S', e⟩ := h
  exact ⟨r, r, v1, w1, v2, w2, S', e⟩
theorem EqT.q {α : Type} {fq fm : mH → Option (α × mH)} {r : α} {v1 v2 : Nat → Nat → Int32} {w1 w2 : Nat → Nat → Int64} (hs : SOK S) (hc : CI S v) (hm : MI S v) (h1 : fq (bh v w) = some (r, bh v1 w1)) (f1 : ∀ p, pC p ∨ 100 ≤ p → v1 p = v p) (h2 : fm (bh v1 w1) = some (r, bh v2 w2)) (f2 : ∀ p, p ≤ 100 ∨ pM p → v2 p = v1 p) : EqT S v w fq fm := by
  have e : v2 100 = v 100 := (f2 100 (Or.inl (Nat.le_refl _))).trans (f1 100 (Or.inr (Nat.le_refl _)))
  refine ⟨r, v1, w1, v2, w2, S, h1, h2, hs, hc.fr (fun p hp => (f2 p (Or.inl (by unfold pC at hp; omega))).trans (f1 p (Or.inl hp))), hm.fr (fun p hp => (f2 p (Or.inr hp)).trans (f1 p (Or.inr (by unfold pM at hp; omega)))) ?_⟩
  rw [e]
  exact ⟨rfl, rfl, rfl, rfl, rfl⟩
theorem FiT.q {α : Type} {fq fm : mH → Option (α × mH)} {r r' : α} {v1 v2 : Nat → Nat → Int32} {w1 w2 : Nat → Nat → Int64} (hs : SOK S) (hc : CI S v) (hm : MI S v) (h1 : fq (bh v w) = some (r, bh v1 w1)) (f1 : ∀ p, pC p ∨ 100 ≤ p → v1 p = v p) (h2 : fm (bh v1 w1) = some (r', bh v2 w2)) (f2 : ∀ p, p ≤ 100 ∨ pM p → v2 p = v1 p) : FiT S v w fq fm := by
  have e : v2 100 = v 100 := (f2 100 (Or.inl (Nat.le_refl _))).trans (f1 100 (Or.inr (Nat.le_refl _)))
  refine ⟨r, r', v1, w1, v2, w2, S, h1, h2, hs, hc.fr (fun p hp => (f2 p (Or.inl (by unfold pC at hp; omega))).trans (f1 p (Or.inl hp))), hm.fr (fun p hp => (f2 p (Or.inr hp)).trans (f1 p (Or.inr (by unfold pM at hp; omega)))) ?_⟩
  rw [e]
  exact ⟨rfl, rfl, rfl, rfl, rfl⟩
end
/-! a BREAKING by any two numbers -/
def vld (ρ : Rho) (x y : Int32) : Prop := (0 ≤ x.toInt ∧ x.toInt < (ρ 0 1 : Int)) ∧ (0 ≤ y.toInt ∧ y.toInt < (ρ 0 0 : Int))
noncomputable def gbk (ρ : Rho) (x y : Int32) : Int32 := haveI := Classical.propDecidable; if vld ρ x y then rbk ρ x.toInt.toNat y.toInt.toNat else -1
noncomputable def gst (ρ : Rho) (x y : Int32) : Rho := haveI := Classical.propDecidable; if vld ρ x y then sbk ρ x.toInt.toNat y.toInt.toNat else ρ
section
variable {ρ : Rho} {v : Nat → Nat → Int32} {w : Nat → Nat → Int64} {o : Nat}
theorem vld_ix {x y : Int32} (hk : ROK ρ) (h : vld ρ x y) : ∃ p l, p < ρ 0 1 ∧ l < ρ 0 0 ∧ x = nI p ∧ y = nI l ∧ x.toInt.toNat = p ∧ y.toInt.toNat = l := by
  have h1 := hk.1.1
  have h2 := hk.1.2.1
  obtain ⟨p, hp, rfl⟩ := ix (by omega) h.1
  obtain ⟨l, hl, rfl⟩ := ix (by omega) h.2
  refine ⟨p, l, hp, hl, rfl, rfl, ?_, ?_⟩
  · rw [nI_toInt (by omega)]; rfl
  · rw [nI_toInt (by omega)]; rfl
theorem C_bk (ho : rl o) (hr : CR o ρ v) (hk : ROK ρ) (x y : Int32) : ∃ v', f_Realm_breakOnce o x y (bh v w) = some (gbk ρ x y, bh v' w) ∧ CR o (gst ρ x y) v' ∧ ∀ q, q < o ∨ o + 17 ≤ q → v' q = v q := by
  unfold gbk gst
  by_cases hb : vld ρ x y
  · rw [if_pos hb, if_pos hb]
    obtain ⟨p, l, hp, hl, ex, ey, e1, e2⟩ := vld_ix hk hb
    rw [e1, e2, ex, ey]
    exact C_breakOnce ho hr hk hp hl
  · rw [if_neg hb, if_neg hb]
    exact ⟨v, C_breakOnce_bad ho hr hk hb, hr, fun _ _ => rfl⟩
theorem M_bk (hr : MR ρ v) (hk : ROK ρ) (x y : Int32) : ∃ v', f_M_breaks 100 x y (bh v w) = some (gbk ρ x y, bh v' w) ∧ MR (gst ρ x y) v' ∧ (∀ q, q ≠ 101 → v' q = v q) ∧ ∀ j, 66 ≤ j → v' 101 j = v 101 j := by
  unfold gbk gst
  by_cases hb : vld ρ x y
  · rw [if_pos hb, if_pos hb]
    obtain ⟨p, l, hp, hl, ex, ey, e1, e2⟩ := vld_ix hk hb
    rw [e1, e2, ex, ey]
    exact M_breaks hr hk hp hl
  · rw [if_neg hb, if_neg hb]
    exact ⟨v, M_breaks_bad hr hk hb, hr, fun _ _ => rfl, fun _ _ => rfl⟩
theorem ROK_gst (hk : ROK ρ) (x y : Int32) : ROK (gst ρ x y) := by
  unfold gst
  by_cases hb : vld ρ x y
  · rw [if_pos hb]
    obtain ⟨p, l, hp, hl, ex, ey, e1, e2⟩ := vld_ix hk hb
    rw [e1, e2]
    exact ROK_sbk hk hp hl
  · rw [if_neg hb]; exact hk
theorem SAME_gst {σ : Rho} (h : SAME ρ σ) (x y : Int32) : SAME (gst ρ x y) σ := by
  unfold gst
  by_cases hb : vld ρ x y
  · rw [if_pos hb]; exact SAME_sbk h
  · rw [if_neg hb]; exact h
end
