/-! one call on a fresh object -/
def K1 (h : mH) : Prop := h.1 ≤ 600000 ∧ h.2.1 ≤ 7302250
def E1 {α : Type} (h : mH) (fq fm : mH → Option (α × mH)) : Prop := St h K1 fq fm
def ckB {α : Type} [BEq α] (fq fm : mH → Option (α × mH)) : Bool := match fq hD with
  | some (r, h1) => (match fm h1 with
    | some (r', h2) => r == r' && (Nat.ble h2.1 600000 && (Nat.ble h2.2.1 7302250 && (kC h1 100 8).isSome))
    | none => false)
  | none => false
theorem ck_of {α : Type} [BEq α] [LawfulBEq α] {fq fm : mH → Option (α × mH)} (h : ckB fq fm = true) : E1 hD fq fm := by
  unfold ckB at h
  split at h
  · next r h1 e1 =>
    split at h
    · next r' h2 e2 =>
      simp only [Bool.and_eq_true, beq_iff_eq, Nat.ble_eq] at h
      obtain ⟨rfl, h3, h4, h5⟩ := h
      refine ⟨r, h1, h2, e1, ?_, e2, ⟨h3, h4⟩⟩
      cases hk : kC h1 100 8 with
      | none => rw [hk] at h5; cases h5
      | some u => rfl
    · cases h
  · cases h
theorem EqT.e1 {α : Type} {S : Sg} {v : Nat → Nat → Int32} {w : Nat → Nat → Int64} {fq fm : mH → Option (α × mH)} (h : EqT S v w fq fm) : E1 (bh v w) fq fm := by
  obtain ⟨r, v1, w1, v2, w2, S', e1, e2, -⟩ := h
  exact ⟨r, bh v1 w1, bh v2 w2, e1, rfl, e2, ⟨show 126 ≤ 600000 by decide, show 27134 ≤ 7302250 by decide⟩⟩
theorem k_text : E1 hD (f_Q_text 0) (f_M_text 100) := by
  rw [← g_Q_text_eq, ← g_M_text_eq]
  exact ck_of (by decide +kernel)
theorem k_self0 : E1 hD (f_Q_selfish 0 0) (f_M_selfish 100 0) := by
  rw [← g_Q_selfish_eq, ← g_M_selfish_eq]
  exact ck_of (by decide +kernel)
theorem k_self1 : E1 hD (f_Q_selfish 0 1) (f_M_selfish 100 1) := by
  rw [← g_Q_selfish_eq, ← g_M_selfish_eq]
  exact ck_of (by decide +kernel)
theorem k_self2 : E1 hD (f_Q_selfish 0 2) (f_M_selfish 100 2) := by
  rw [← g_Q_selfish_eq, ← g_M_selfish_eq]
  exact ck_of (by decide +kernel)
theorem k_tog0 : E1 hD (f_Q_together 0 0) (f_M_together 100 0) := by
  rw [← g_Q_together_eq, ← g_M_together_eq]
  exact ck_of (by decide +kernel)
theorem k_tog1 : E1 hD (f_Q_together 0 1) (f_M_together 100 1) := by
  rw [← g_Q_together_eq, ← g_M_together_eq]
  exact ck_of (by decide +kernel)
theorem k_rota : E1 hD (f_Q_rota 0 0) (f_M_rota 100 0) := by
  rw [← g_Q_rota_eq, ← g_M_rota_eq]
  exact ck_of (by decide +kernel)
theorem k_books : E1 hD (f_Q_books 0) (f_M_books 100) := by
  rw [← g_Q_books_eq, ← g_M_books_eq]
  exact ck_of (by decide +kernel)
