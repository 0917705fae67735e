theorem upX_ap (X : Nat → Nat → Int) (f i : Nat) (x : Int) (g j : Nat) : upX X f i x g j = if g = f ∧ j = i then x else X g j := by
  by_cases h : g = f
  · subst h
    by_cases k : j = i
    · subst k
      rw [upX_at, if_pos ⟨rfl, rfl⟩]
    · rw [upX_n k, if_neg (fun z => k z.2)]
  · rw [upX_f h, if_neg (fun z => h z.1)]
section
variable {S : Sg} {v v1 v2 : Nat → Nat → Int32} {w : Nat → Nat → Int64}
theorem CI_tx {ρ : Rho} {X : Nat → Nat → Int} (h : CI S v) (hq : ∀ q, q ≠ 1 → q ≠ 38 → q < 3 ∨ 37 ≤ q ∧ q < 100 → v2 q = v q) (hR : CR 3 ρ v2) (e0 : X 0 0 = 0) (e2 : v2 1 2 = zI (X 2 0)) (e1 : v2 1 1 = 0) (ek : ∀ k, k < 2 → v2 38 k = zI (X 3 k) ∧ (X 3 k = 1 → S.2.2 3 k = 1)) (e4 : ∀ f, 4 ≤ f → X f = S.2.2 f) : CI (ρ, S.2.1, X) v2 := by
  obtain ⟨h1, h2, h3, h4, h5, h6, h7⟩ := h
  refine ⟨hR, fun k hk => ⟨(ek k hk).1, fun z => ((h2 k hk).2 ((ek k hk).2 z)).frame (fun p _ _ => hq p (by omega) (by omega) (by omega))⟩, ?_, fun j hj => ?_, e2, fun k hk => ?_, ?_⟩
  · show v2 1 1 = zI (X 0 0)
    rw [e1, e0]; rfl
  · have hj : (j : Int) < X 0 0 := hj
    rw [e0] at hj
    omega
  · show v2 (92 + 2 * k) 0 = zI (if X 4 k = -4 then -4 else X 5 k) ∧ (X 4 k ≠ -4 → v2 (92 + 2 * k) 1 = zI (X 4 k)) ∧ ∀ i, i < 40 → v2 (93 + 2 * k) i = zI (X 6 (40 * k + i))
    rw [e4 4 (by omega), e4 5 (by omega), e4 6 (by omega), hq (92 + 2 * k) (by omega) (by omega) (by omega), hq (93 + 2 * k) (by omega) (by omega) (by omega)]
    exact h6 k hk
  · show v2 0 9 = zI (X 7 0) ∧ v2 43 0 = 0
    rw [e4 7 (by omega), hq 0 (by omega) (by omega) (by omega), hq 43 (by omega) (by omega) (by omega)]
    exact h7
theorem MI_tx {ρ : Rho} {X : Nat → Nat → Int} (h : MI S v) (hq : ∀ q, 113 < q → v2 q = v q) (hR : MR ρ v2) (e0 : X 0 0 = 0) (e2 : v2 100 25 = zI (X 2 0)) (e1 : v2 100 20 = 0) (ek : ∀ k, k < 2 → v2 102 k = zI (X 3 k) ∧ (X 3 k = 1 → S.2.2 3 k = 1 ∧ v2 101 = v 101)) (e4 : ∀ f, 4 ≤ f → X f = S.2.2 f) (e38 : v2 100 38 = v 100 38) : MI (ρ, S.2.1, X) v2 := by
  obtain ⟨h1, h2, h3, h4, h5, h6, h7⟩ := h
  refine ⟨hR, fun k hk => ⟨(ek k hk).1, fun z => ((h2 k hk).2 ((ek k hk).2 z).1).frame ((ek k hk).2 z).2⟩, ?_, fun j hj => ?_, e2, fun k hk => ?_, ?_⟩
  · show v2 100 20 = zI (X 0 0)
    rw [e1, e0]; rfl
  · have hj : (j : Int) < X 0 0 := hj
    rw [e0] at hj
    omega
  · show v2 123 k = zI (X 4 k) ∧ v2 124 k = zI (X 5 k) ∧ ∀ i, i < 40 → v2 125 (40 * k + i) = zI (X 6 (40 * k + i))
    rw [e4 4 (by omega), e4 5 (by omega), e4 6 (by omega), hq 123 (by omega), hq 124 (by omega), hq 125 (by omega)]
    exact h6 k hk
  · show v2 100 38 = zI (X 8 0)
    rw [e4 8 (by omega), e38]
    exact h7
theorem E_text (hs : SOK S) (hc : CI S v) (hm : MI S v) : Eqv S v w (f_Q_text 0) (f_M_text 100) := by
  have hs' := hs
  obtain ⟨hR, hK, hL, hB, hF, hSh⟩ := hs'
  obtain ⟨n, hn⟩ : ∃ n : Nat, S.2.2 0 0 = n := ⟨(S.2.2 0 0).toNat, by omega⟩
  have ej : ∀ j : Nat, j < n → zI (S.2.2 1 j) = nI (S.2.2 1 j).toNat ∧ (S.2.2 1 j).toNat ≤ 127 := by
    intro j hj
    have b := hB j (by omega)
    refine ⟨?_, by omega⟩
    rw [← zI_n, Int.toNat_of_nonneg b.1]
  have T : CT (n, fun j => (S.2.2 1 j).toNat) v := ⟨by rw [hc.2.2.1, hn]; exact zI_n n, by show n ≤ 160; omega, fun j hj => ⟨by rw [hc.2.2.2.1 j (by rw [hn]; exact Int.ofNat_lt.mpr hj)]; exact (ej j hj).1, (ej j hj).2⟩⟩
  have TM : MT (n, fun j => (S.2.2 1 j).toNat) v := ⟨by rw [hm.2.2.1, hn]; exact zI_n n, by show n ≤ 160; omega, fun j hj => ⟨by rw [hm.2.2.2.1 j (by rw [hn]; exact Int.ofNat_lt.mpr hj)]; exact (ej j hj).1, (ej j hj).2⟩⟩
  generalize ((n, fun j => (S.2.2 1 j).toNat) : Tp) = K at T TM
  obtain ⟨r, v1, e1, l1, x1⟩ := C_text (w := w) T
  have hi1 : ∀ q, 100 ≤ q → v1 q = v q := by
    intro q hq
    cases hX : sText K with
    | inl f => rw [hX] at x1; exact x1.2.2 q (by omega) (by omega)
    | inr y => rw [hX] at x1; exact x1.2.2.2.2.2.2 q (by omega) (by omega) (by omega)
  have hm1 : MI S v1 := hm.frame hi1
  have TM1 : MT K v1 := TM.fr (by rw [hi1 100 (by omega)]) (hi1 114 (by omega))
  obtain ⟨r', v2, e2, l2, x2⟩ := M_text (w := w) TM1
  cases hX : sText K with
  | inl f =>
    rw [hX] at x1 x2
    obtain ⟨y1, y2, y3⟩ := x1
    obtain ⟨⟨z1, z2, z3⟩, z4, z5⟩ := x2
    rw [z1, ← y1] at e2
    have lo : ∀ q, q ≠ 1 → q < 20 ∨ 37 ≤ q ∧ q < 100 → v2 q = v q := fun q a b => (z4 q (by omega)).trans (y3 q a (by omega))
    refine ⟨r, v1, w, v2, w, (S.1, S.2.1, upX (upX S.2.2 0 0 0) 2 0 (f.1 : Int)), e1, e2, ?_, ?_, ?_⟩
    · refine ⟨hR, fun k hk => ?_, ?_, fun j hj => ?_, ?_, fun k hk => ?_⟩
      · show upX (upX S.2.2 0 0 0) 2 0 (f.1 : Int) 3 k = 0 ∨ upX (upX S.2.2 0 0 0) 2 0 (f.1 : Int) 3 k = 1 ∧ _
        rw [upX_f (by decide), upX_f (by decide)]
        exact hK k hk
      · show 0 ≤ upX (upX S.2.2 0 0 0) 2 0 (f.1 : Int) 0 0 ∧ upX (upX S.2.2 0 0 0) 2 0 (f.1 : Int) 0 0 ≤ 160
        rw [upX_f (by decide), upX_at]
        omega
      · have hj : (j : Int) < upX (upX S.2.2 0 0 0) 2 0 (f.1 : Int) 0 0 := hj
        rw [upX_f (by decide), upX_at] at hj
        omega
      · show 0 ≤ upX (upX S.2.2 0 0 0) 2 0 (f.1 : Int) 2 0 ∧ upX (upX S.2.2 0 0 0) 2 0 (f.1 : Int) 2 0 ≤ 6
        rw [upX_at]
        omega
      · show (upX (upX S.2.2 0 0 0) 2 0 (f.1 : Int) 4 k = -4 ∨ 0 ≤ upX (upX S.2.2 0 0 0) 2 0 (f.1 : Int) 4 k ∧ upX (upX S.2.2 0 0 0) 2 0 (f.1 : Int) 4 k ≤ 2) ∧ 0 ≤ upX (upX S.2.2 0 0 0) 2 0 (f.1 : Int) 5 k ∧ upX (upX S.2.2 0 0 0) 2 0 (f.1 : Int) 5 k ≤ 40
        rw [upX_f (show 4 ≠ 2 by decide), upX_f (show 4 ≠ 0 by decide), upX_f (show 5 ≠ 2 by decide), upX_f (show 5 ≠ 0 by decide)]
        exact hSh k hk
    · refine CI_tx hc (fun q a b c => lo q a (by omega)) (hc.1.frame (fun p a b => lo p (by omega) (by omega))) ?_ ?_ ?_ (fun k hk => ?_) (fun g hg => ?_)
      · rw [upX_f (by decide), upX_at]
      · rw [upX_at, z4 1 (by decide), y2, zI_n]
      · rw [z4 1 (by decide)]; exact l1
      · rw [upX_f (show 3 ≠ 2 by decide), upX_f (show 3 ≠ 0 by decide), lo 38 (by decide) (by decide)]
        exact ⟨(hc.2.1 k hk).1, fun z => z⟩
      · rw [upX_f (by omega), upX_f (by omega)]
    · have hf : MR S.1 v2 := by
        have hr := hm1.1
        unfold MR MF MB at hr ⊢
        rw [z5 2 (by decide), z5 3 (by decide), z4 101 (by decide), z4 103 (by decide), z4 104 (by decide), z4 105 (by decide), z4 106 (by decide), z4 107 (by decide)]
        exact hr
      refine MI_tx hm1 (fun q a => z4 q (by omega)) hf ?_ ?_ l2 (fun k hk => ?_) (fun g hg => ?_) (z5 38 (by decide))
      · rw [upX_f (by decide), upX_at]
      · rw [upX_at, z2, zI_n]
      · rw [upX_f (show 3 ≠ 2 by decide), upX_f (show 3 ≠ 0 by decide), z4 102 (by decide)]
        exact ⟨(hm1.2.1 k hk).1, fun z => ⟨z, z4 101 (by decide)⟩⟩
      · rw [upX_f (by omega), upX_f (by omega)]
  | inr y =>
    rw [hX] at x1 x2
    obtain ⟨y1, y2, y3, y4, y5, ⟨yI, ya, yb⟩, y6⟩ := x1
    obtain ⟨z1, z2, z3, z4, z5, z6, z7⟩ := x2
    rw [z1, ← y1] at e2
    have lo : ∀ q, q ≠ 1 → q ≠ 38 → q < 3 ∨ 37 ≤ q ∧ q < 100 → v2 q = v q := fun q a b c => (z6 q (by omega)).trans (y6 q a b (by omega))
    have xk : ∀ k, k < 2 → upX (upX (upX (upX S.2.2 0 0 0) 2 0 0) 3 0 0) 3 1 0 3 k = 0 := by
      intro k hk
      rcases (show k = 0 ∨ k = 1 by omega) with rfl | rfl
      · rw [upX_n (by decide), upX_at]
      · rw [upX_at]
    refine ⟨r, v1, w, v2, w, (fin y.1, S.2.1, upX (upX (upX (upX S.2.2 0 0 0) 2 0 0) 3 0 0) 3 1 0), e1, e2, ?_, ?_, ?_⟩
    · refine ⟨ROK_fin yI ya yb, fun k hk => Or.inl (xk k hk), ?_, fun j hj => ?_, ?_, fun k hk => ?_⟩
      · show 0 ≤ upX (upX (upX (upX S.2.2 0 0 0) 2 0 0) 3 0 0) 3 1 0 0 0 ∧ upX (upX (upX (upX S.2.2 0 0 0) 2 0 0) 3 0 0) 3 1 0 0 0 ≤ 160
        rw [upX_f (by decide), upX_f (by decide), upX_f (by decide), upX_at]
        omega
      · have hj : (j : Int) < upX (upX (upX (upX S.2.2 0 0 0) 2 0 0) 3 0 0) 3 1 0 0 0 := hj
        rw [upX_f (by decide), upX_f (by decide), upX_f (by decide), upX_at] at hj
        omega
      · show 0 ≤ upX (upX (upX (upX S.2.2 0 0 0) 2 0 0) 3 0 0) 3 1 0 2 0 ∧ upX (upX (upX (upX S.2.2 0 0 0) 2 0 0) 3 0 0) 3 1 0 2 0 ≤ 6
        rw [upX_f (by decide), upX_f (by decide), upX_at]
        omega
      · show (upX (upX (upX (upX S.2.2 0 0 0) 2 0 0) 3 0 0) 3 1 0 4 k = -4 ∨ 0 ≤ upX (upX (upX (upX S.2.2 0 0 0) 2 0 0) 3 0 0) 3 1 0 4 k ∧ upX (upX (upX (upX S.2.2 0 0 0) 2 0 0) 3 0 0) 3 1 0 4 k ≤ 2) ∧ 0 ≤ upX (upX (upX (upX S.2.2 0 0 0) 2 0 0) 3 0 0) 3 1 0 5 k ∧ upX (upX (upX (upX S.2.2 0 0 0) 2 0 0) 3 0 0) 3 1 0 5 k ≤ 40
        simp only [upX_ap]
        simp
        have := hSh k hk
        simpa using this
    · refine CI_tx hc (fun q a b c => lo q a b (by omega)) (y3.frame (fun p a b => z6 p (by omega))) ?_ ?_ ?_ (fun k hk => ?_) (fun g hg => ?_)
      · rw [upX_f (by decide), upX_f (by decide), upX_f (by decide), upX_at]
      · rw [upX_f (by decide), upX_f (by decide), upX_at, z6 1 (by decide), y2]; rfl
      · rw [z6 1 (by decide)]; exact l1
      · rw [xk k hk, z6 38 (by decide)]
        refine ⟨?_, fun z => absurd z (by decide)⟩
        rcases (show k = 0 ∨ k = 1 by omega) with rfl | rfl
        · rw [y4]; rfl
        · rw [y5]; rfl
      · rw [upX_f (by omega), upX_f (by omega), upX_f (by omega), upX_f (by omega)]
    · refine MI_tx hm1 (fun q a => z6 q (by omega)) z3 ?_ ?_ l2 (fun k hk => ?_) (fun g hg => ?_) (z7 38 (by decide))
      · rw [upX_f (by decide), upX_f (by decide), upX_f (by decide), upX_at]
      · rw [upX_f (by decide), upX_f (by decide), upX_at, z2]; rfl
      · rw [xk k hk]
        refine ⟨?_, fun z => absurd z (by decide)⟩
        rcases (show k = 0 ∨ k = 1 by omega) with rfl | rfl
        · rw [z4]; rfl
        · rw [z5]; rfl
      · rw [upX_f (by omega), upX_f (by omega), upX_f (by omega), upX_f (by omega)]
end
