section
variable {ρ : Rho} {v : Nat → Nat → Int32} {w : Nat → Nat → Int64} {T : Nat → Nat} {s A B C : Nat}
def rBase (ρ : Rho) (s : Nat) (T : Nat → Nat) (A B C : Nat) (v : Nat → Nat → Int32) : Prop := MRt T ρ v ∧ (∀ l, l < ρ 0 0 → v 116 l = nI (rN ρ s l)) ∧ v 117 0 = nI A ∧ v 117 1 = nI B ∧ v 117 2 = nI C
theorem MRt.frame {v' : Nat → Nat → Int32} (h : MRt T ρ v) (hq : ∀ q, 100 ≤ q ∧ q < 108 → v' q = v q) : MRt T ρ v' := by
  unfold MRt MF MBt at h ⊢
  rw [hq 100 (by omega), hq 101 (by omega), hq 103 (by omega), hq 104 (by omega), hq 105 (by omega), hq 106 (by omega), hq 107 (by omega)]
  exact h
theorem rBase.frame {v' : Nat → Nat → Int32} (h : rBase ρ s T A B C v) (hq : ∀ q, q ≠ 115 → v' q = v q) : rBase ρ s T A B C v' := by
  obtain ⟨h1, h2, h3, h4, h5⟩ := h
  unfold rBase
  rw [hq 116 (by decide), hq 117 (by decide)]
  exact ⟨h1.frame (fun q z => hq q (by omega)), h2, h3, h4, h5⟩
theorem rBst_s {l : Nat} (hl : l < ρ 0 0) (a b c : Nat) : rBst ρ s (ρ 0 0 - l) a b c = rMin (rOpt ρ s (rBst ρ s (ρ 0 0 - (l + 1))) l a b c) 16 := by
  obtain ⟨k, hk⟩ : ∃ k, ρ 0 0 - l = k + 1 := ⟨ρ 0 0 - l - 1, by omega⟩
  rw [hk]
  show rMin (rOpt ρ s (rBst ρ s k) (ρ 0 0 - (k + 1)) a b c) 16 = _
  rw [show ρ 0 0 - (k + 1) = l by omega, show ρ 0 0 - (l + 1) = k by omega]
theorem M_leastOf (hb : rBase ρ s T A B C v) (hk : ROK ρ) {l a b c : Nat} (hl : l < ρ 0 0) (ha : a < 16) (hb2 : b < 16) (hc : c < 16) (ht : ∀ a' b' c', a' ≤ a → b' ≤ b → c' ≤ c → v 115 (atN (l + 1) a' b' c') = nI (rBst ρ s (ρ 0 0 - (l + 1)) a' b' c')) : f_M_leastOf 100 (nI l) (nI a) (nI b) (nI c) (bh v w) = some (nI (rBst ρ s (ρ 0 0 - l) a b c), bh v w) := by
  have h1 := hk.1.1
  rw [rBst_s hl]
  generalize hf : rOpt ρ s (rBst ρ s (ρ 0 0 - (l + 1))) l a b c = f
  have hN := rN_le hk (s := s) hl
  have fF : FAR < 2 ^ 31 := by decide
  have stp : ∀ (rec7 : Nat → Int32 → Int32 → Int32 → Int32 → Int32 → Int32 → mH → Option (Int32 × mH)) (m x y : Nat), x ≤ 3 → y ≤ 3 → f_M_leastOf_16 rec7 (m + 1) 100 (nI l) (nI a) (nI b) (nI c) (nI (rMin f (4 * x + y))) (nI x) (nI y) (bh v w) = f_M_leastOf_16 rec7 m 100 (nI l) (nI a) (nI b) (nI c) (nI (rMin f (4 * x + (y + 1)))) (nI x) (nI (y + 1)) (bh v w) := by
    intro rec7 m x y hx hy
    have hm := rMin_le f (4 * x + y)
    have e1 : rMin f (4 * x + (y + 1)) = if f x y < rMin f (4 * x + y) then f x y else rMin f (4 * x + y) := by
      show (if f ((4 * x + y) / 4) ((4 * x + y) % 4) < rMin f (4 * x + y) then f ((4 * x + y) / 4) ((4 * x + y) % 4) else rMin f (4 * x + y)) = _
      rw [show (4 * x + y) / 4 = x by omega, show (4 * x + y) % 4 = y by omega]
    show f_M_leastOf_16b rec7 (f_M_leastOf_16 rec7 m) 100 (nI l) (nI a) (nI b) (nI c) (nI (rMin f (4 * x + y))) (nI x) (nI y) (bh v w) = _
    unfold f_M_leastOf_16b f_M_leastOf_69 f_M_leastOf_85
    rw [show (3 : Int32) = nI 3 from rfl, if_neg (fun z => by have := (nI_ltI (by omega) (by omega)).mp z; omega)]
    simp only [hM v w, bd1_s]
    rw [rd_nI (by omega) (by decide), bd1_s, hb.2.1 l hl, show nI (rN ρ s l) - nI x - nI y = zI ((rN ρ s l : Int) - x - y) by rw [← zI_n (rN ρ s l), zI_subn, zI_subn], M_in, bd2_s, show (3 : Int64) = (zI 3).toInt64 from rfl]
    by_cases g : 0 ≤ (rN ρ s l : Int) - x - y ∧ (rN ρ s l : Int) - x - y ≤ 3
    · rw [if_pos ((in_lay (by decide) (by decide)).mpr (by rw [zI_t (by omega) (by omega)]; exact g)), if_neg (by decide)]
      simp only [hM v w, bd1_s]
      obtain ⟨z, hz⟩ : ∃ z : Nat, (rN ρ s l : Int) - x - y = z := ⟨((rN ρ s l : Int) - x - y).toNat, by omega⟩
      have ez : rN ρ s l - x - y = z := by omega
      have hB := rBst_or hk s (ρ 0 0 - (l + 1)) (a - x) (b - y) (c - z) (by omega)
      rw [hz, zI_n, M_harmBy hb.1 hk (B := rBst ρ s (ρ 0 0 - (l + 1)) (a - x) (b - y) (c - z)) hl ha hb2 hc hx hy (by omega) (by omega) (fun _ _ _ => ht _ _ _ (by omega) (by omega) (by omega)), bd2_s]
      have ef : f x y = rVal ρ l a b c x y z (rBst ρ s (ρ 0 0 - (l + 1)) (a - x) (b - y) (c - z)) := by
        rw [← hf]
        unfold rOpt
        rw [if_pos (by omega), ez]
      rw [← ef, e1]
      have hv := rVal_or hk (a := a) (b := b) (c := c) (x := x) (y := y) (z := z) hl hB
      rw [← ef] at hv
      have hfl : f x y < 2 ^ 31 := by unfold FAR at hv; omega
      rw [ite_iff (nI_leI (by omega) hfl), nI_1]
      by_cases q : rMin f (4 * x + y) ≤ f x y
      · rw [if_pos q, if_neg (by omega)]
      · rw [if_neg q, if_pos (by omega)]
    · have gi : ¬ ((0 : Int64) ≤ (zI ((rN ρ s l : Int) - x - y)).toInt64 ∧ (zI ((rN ρ s l : Int) - x - y)).toInt64 ≤ (zI 3).toInt64) := fun q => g (by
        have := (in_lay (y := zI ((rN ρ s l : Int) - x - y)) (m := 3) (by decide) (by decide)).mp q
        rwa [zI_t (by omega) (by omega)] at this)
      rw [if_neg gi, if_pos rfl]
      have ef : f x y = FAR := by
        rw [← hf]
        unfold rOpt
        rw [if_neg (by omega)]
      rw [e1, ef, if_neg (show ¬ FAR < rMin f (4 * x + y) by omega), show (1000000 : Int32) = nI FAR from rfl, if_pos ((nI_leI (by omega) fF).mpr hm), nI_1]
  have row : ∀ (rec7 : Nat → Int32 → Int32 → Int32 → Int32 → Int32 → Int32 → mH → Option (Int32 × mH)) (x : Nat), x ≤ 3 → f_M_leastOf_16 rec7 FU 100 (nI l) (nI a) (nI b) (nI c) (nI (rMin f (4 * x))) (nI x) 0 (bh v w) = rec7 100 (nI l) (nI a) (nI b) (nI c) (nI (rMin f (4 * (x + 1)))) (nI (x + 1)) (bh v w) := by
    intro rec7 x hx
    have s0 := stp rec7 599 x 0 hx (by omega)
    have s1 := stp rec7 598 x 1 hx (by omega)
    have s2 := stp rec7 597 x 2 hx (by omega)
    have s3 := stp rec7 596 x 3 hx (by omega)
    refine (s0.trans (s1.trans (s2.trans s3))).trans ?_
    show f_M_leastOf_16b rec7 (f_M_leastOf_16 rec7 595) 100 (nI l) (nI a) (nI b) (nI c) (nI (rMin f (4 * x + 4))) (nI x) (nI 4) (bh v w) = _
    unfold f_M_leastOf_16b
    rw [if_pos (by decide), nI_1, show 4 * (x + 1) = 4 * x + 4 by omega]
  have r0 : ∀ (m x : Nat), x ≤ 3 → f_M_leastOf_7 (m + 1) 100 (nI l) (nI a) (nI b) (nI c) (nI (rMin f (4 * x))) (nI x) (bh v w) = f_M_leastOf_7 m 100 (nI l) (nI a) (nI b) (nI c) (nI (rMin f (4 * (x + 1)))) (nI (x + 1)) (bh v w) := by
    intro m x hx
    show f_M_leastOf_7b (f_M_leastOf_7 m) 100 (nI l) (nI a) (nI b) (nI c) (nI (rMin f (4 * x))) (nI x) (bh v w) = _
    unfold f_M_leastOf_7b
    rw [show (3 : Int32) = nI 3 from rfl, if_neg (fun z => by have := (nI_ltI (by omega) (by omega)).mp z; omega), row _ x hx]
  have t0 := r0 599 0 (by omega)
  have t1 := r0 598 1 (by omega)
  have t2 := r0 597 2 (by omega)
  have t3 := r0 596 3 (by omega)
  refine (t0.trans (t1.trans (t2.trans t3))).trans ?_
  show f_M_leastOf_7b (f_M_leastOf_7 595) 100 (nI l) (nI a) (nI b) (nI c) (nI (rMin f 16)) (nI 4) (bh v w) = _
  unfold f_M_leastOf_7b
  rw [if_pos (by decide)]
/-- what is done of the table -/
def rP (ρ : Rho) (s A B C l0 a0 b0 c0 : Nat) (v : Nat → Nat → Int32) : Prop := ∀ l a b c, l ≤ ρ 0 0 → a ≤ A → b ≤ B → c ≤ C → (l0 < l ∨ l = l0 ∧ (a < a0 ∨ a = a0 ∧ (b < b0 ∨ b = b0 ∧ c < c0))) → v 115 (atN l a b c) = nI (rBst ρ s (ρ 0 0 - l) a b c)
theorem atN_inj {l a b c l' a' b' c' : Nat} (h : atN l a b c = atN l' a' b' c') (ha : a < 16) (hb : b < 16) (hc : c < 16) (ha' : a' < 16) (hb' : b' < 16) (hc' : c' < 16) : l = l' ∧ a = a' ∧ b = b' ∧ c = c' := by
  unfold atN at h
  omega
theorem M_cLoop (hk : ROK ρ) (hA : A < 16) (hB : B < 16) (hC : C < 16) (rec5 : Nat → Int32 → mH → Option (Int32 × mH)) (rec11 : Nat → Int32 → Int32 → mH → Option (Int32 × mH)) (rec23 : Nat → Int32 → Int32 → Int32 → mH → Option (Int32 × mH)) {l a b : Nat} (hl : l ≤ ρ 0 0) (ha : a ≤ A) (hbb : b ≤ B) : ∀ (k fuel c : Nat) (v : Nat → Nat → Int32), k < fuel → c + k = C + 1 → rBase ρ s T A B C v → rP ρ s A B C l a b c v → ∃ v', f_M_findRota_36 rec5 rec11 rec23 fuel 100 (nI l) (nI a) (nI b) (nI c) (bh v w) = rec23 100 (nI l) (nI a) (nI (b + 1)) (bh v' w) ∧ rP ρ s A B C l a (b + 1) 0 v' ∧ ∀ q, q ≠ 115 → v' q = v q := by
  have h1 := hk.1.1
  intro k
  induction k with
  | zero =>
    intro fuel c v hf hc hb hp
    obtain ⟨n, rfl⟩ : ∃ n, fuel = n + 1 := ⟨fuel - 1, by omega⟩
    refine ⟨v, ?_, fun l' a' b' c' q1 q2 q3 q4 q5 => hp l' a' b' c' q1 q2 q3 q4 (by omega), fun _ _ => rfl⟩
    show f_M_findRota_36b rec5 rec11 rec23 (f_M_findRota_36 rec5 rec11 rec23 n) 100 (nI l) (nI a) (nI b) (nI c) (bh v w) = _
    unfold f_M_findRota_36b
    simp only [hM v w, bd1_s]
    have e2 : rd (v 117) 3 (2 : Int32) = some (nI C) := by rw [← hb.2.2.2.2]; rfl
    rw [e2, bd1_s, if_pos ((nI_ltI (by omega) (by omega)).mpr (by omega)), nI_1]
  | succ k ih =>
    intro fuel c v hf hc hb hp
    obtain ⟨n, rfl⟩ : ∃ n, fuel = n + 1 := ⟨fuel - 1, by omega⟩
    have wr1 : ∀ x : Nat, x = rBst ρ s (ρ 0 0 - l) a b c → ∃ v', f_M_findRota_36 rec5 rec11 rec23 n 100 (nI l) (nI a) (nI b) (nI (c + 1)) (bh (u2 v 115 (atN l a b c) (nI x)) w) = rec23 100 (nI l) (nI a) (nI (b + 1)) (bh v' w) ∧ rP ρ s A B C l a (b + 1) 0 v' ∧ ∀ q, q ≠ 115 → v' q = v q := by
      intro x hx
      have hp' : rP ρ s A B C l a b (c + 1) (u2 v 115 (atN l a b c) (nI x)) := by
        intro l' a' b' c' q1 q2 q3 q4 q5
        by_cases e : atN l' a' b' c' = atN l a b c
        · obtain ⟨z1, z2, z3, z4⟩ := atN_inj e (by omega) (by omega) (by omega) (by omega) (by omega) (by omega)
          rw [z1, z2, z3, z4, u2_at, hx]
        · rw [u2_n e]
          refine hp l' a' b' c' q1 q2 q3 q4 ?_
          have : ¬ (l' = l ∧ a' = a ∧ b' = b ∧ c' = c) := fun z => e (by rw [z.1, z.2.1, z.2.2.1, z.2.2.2])
          omega
      obtain ⟨v', e1, e2, e3⟩ := ih n (c + 1) (u2 v 115 (atN l a b c) (nI x)) (by omega) (by omega) (hb.frame (fun q hq => u2_o hq)) hp'
      exact ⟨v', e1, e2, fun q hq => (e3 q hq).trans (u2_o hq)⟩
    show ∃ v', f_M_findRota_36b rec5 rec11 rec23 (f_M_findRota_36 rec5 rec11 rec23 n) 100 (nI l) (nI a) (nI b) (nI c) (bh v w) = _ ∧ _
    unfold f_M_findRota_36b f_M_findRota_80
    simp only [hM v w, bd1_s]
    have e2 : rd (v 117) 3 (2 : Int32) = some (nI C) := by rw [← hb.2.2.2.2]; rfl
    rw [e2, bd1_s, if_neg (fun z => by have := (nI_ltI (by omega) (by omega)).mp z; omega), M_at, bd2_s]
    simp only [hM v w, bd1_s]
    rw [hb.1.1.1, ite_iff (nI_eqI (by omega) (by omega)), wr_nI (by unfold atN; omega) (by decide), bd1_s, nI_1]
    by_cases e : l = ρ 0 0
    · rw [if_pos e]
      exact wr1 0 (by rw [e, Nat.sub_self]; rfl)
    · rw [if_neg e, M_leastOf hb hk (by omega) (by omega) (by omega) (by omega) (fun a' b' c' q1 q2 q3 => hp (l + 1) a' b' c' (by omega) (by omega) (by omega) (by omega) (by omega)), bd2_s]
      simp only [hM v w, bd1_s]
      rw [wr_nI (by unfold atN; omega) (by decide), bd1_s]
      exact wr1 _ rfl
end
