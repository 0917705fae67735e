/-! what can be met: the least cut says whether there is a rota -/
def mn (a b : Nat) : Nat := min a b
theorem mn_if (a b : Nat) : (if a < b then a else b) = mn a b := by
  unfold mn
  split <;> omega
theorem mn_mono {a a' b b' : Nat} (h : a ≤ a') (g : b ≤ b') : mn a b ≤ mn a' b' := by
  unfold mn
  omega
theorem mn_sub {a t u i j : Nat} (h : i + j = t + u) (h1 : j ≤ t) (h2 : j ≤ u) : mn a i + mn a j ≤ mn a t + mn a u := by
  unfold mn
  omega
theorem mn_less {a r : Nat} : mn a r ≤ mn (a - 1) r + 1 ∧ (mn (a - 1) r < mn a r → a ≤ r) := by
  unfold mn
  omega
theorem mn_same {a r x : Nat} (h : x = 0 ∨ a = 0 ∨ a ≤ r) : mn a (r + x) = mn a r := by
  unfold mn
  omega
theorem mn_one {a r x : Nat} (ha : 0 < a) (hx : 0 < x) : mn (a - 1) (r + (x - 1)) + 1 = mn a (r + x) := by
  unfold mn
  omega
theorem mn_part {a r q i : Nat} (ha : i ≤ a) (hq : i ≤ q) : mn (a - i) r + i ≤ mn a (r + q) := by
  unfold mn
  omega
/-- a sum over a part -/
def sP (T : Nat → Bool) (f : Nat → Nat) (k : Nat) : Nat := sumN (fun i => if T i = true then f i else 0) k
theorem sP_succ (T : Nat → Bool) (f : Nat → Nat) (k : Nat) : sP T f (k + 1) = sP T f k + (if T k = true then f k else 0) := rfl
theorem sP_mod (T U : Nat → Bool) (f : Nat → Nat) : ∀ k, sP (fun i => T i || U i) f k + sP (fun i => T i && U i) f k = sP T f k + sP U f k
  | 0 => rfl
  | k + 1 => by
    have ih := sP_mod T U f k
    have e : (if (T k || U k) = true then f k else 0) + (if (T k && U k) = true then f k else 0) = (if T k = true then f k else 0) + (if U k = true then f k else 0) := by
      cases T k <;> cases U k <;> simp
    rw [sP_succ, sP_succ, sP_succ, sP_succ]
    omega
theorem sP_mono {T U : Nat → Bool} (h : ∀ i, T i = true → U i = true) (f : Nat → Nat) (k : Nat) : sP T f k ≤ sP U f k := by
  refine sumN_le (fun i _ => ?_)
  show (if T i = true then f i else 0) ≤ (if U i = true then f i else 0)
  by_cases c : T i = true
  · rw [if_pos c, if_pos (h i c)]
    exact Nat.le_refl _
  · rw [if_neg c]
    exact Nat.zero_le _
theorem sP_nil (f : Nat → Nat) : ∀ k, sP (fun _ => false) f k = 0
  | 0 => rfl
  | k + 1 => by
    rw [sP_succ, sP_nil f k]
    rfl
theorem sP_with (T : Nat → Bool) (b : Bool) (f : Nat → Nat) (k : Nat) : sP (fun i => if i = k then b else T i) f (k + 1) = sP T f k + (if b = true then f k else 0) := by
  rw [sP_succ]
  have e : sP (fun i => if i = k then b else T i) f k = sP T f k := sumN_congr (fun i hi => by
    show (if (if i = k then b else T i) = true then f i else 0) = (if T i = true then f i else 0)
    rw [if_neg (show ¬ i = k by omega)])
  rw [e, if_pos rfl]
/-- no part needs more than can be given to it -/
def gP (N : Nat → Nat) (R : Nat → Nat → Nat) (k a b c : Nat) : Prop := ∀ T : Nat → Bool, sP T N k ≤ mn a (sP T (R 0) k) + mn b (sP T (R 1) k) + mn c (sP T (R 2) k)
/-- a part that takes all that can be given to it -/
def tP (N : Nat → Nat) (R : Nat → Nat → Nat) (k a b c : Nat) (T : Nat → Bool) : Prop := mn a (sP T (R 0) k) + mn b (sP T (R 1) k) + mn c (sP T (R 2) k) ≤ sP T N k
section
variable {N : Nat → Nat} {R : Nat → Nat → Nat} {k a b c : Nat} {T U : Nat → Bool}
theorem tP_or (h : gP N R k a b c) (ht : tP N R k a b c T) (hu : tP N R k a b c U) : tP N R k a b c (fun i => T i || U i) := by
  have n := sP_mod T U N k
  have m1 : ∀ p, sP (fun i => T i && U i) (R p) k ≤ sP T (R p) k := fun p => sP_mono (fun i q => by cases e : T i <;> simp [e] at q ⊢) _ _
  have m2 : ∀ p, sP (fun i => T i && U i) (R p) k ≤ sP U (R p) k := fun p => sP_mono (fun i q => by cases e : U i <;> simp [e] at q ⊢) _ _
  have s0 := mn_sub (a := a) (sP_mod T U (R 0) k) (m1 0) (m2 0)
  have s1 := mn_sub (a := b) (sP_mod T U (R 1) k) (m1 1) (m2 1)
  have s2 := mn_sub (a := c) (sP_mod T U (R 2) k) (m1 2) (m2 2)
  have g := h (fun i => T i && U i)
  unfold tP at ht hu ⊢
  omega
/-- one of them can give one more, or a tight part holds all of his time -/
theorem gP_less {a' b' c' r : Nat} (hl : ∀ T : Nat → Bool, mn a (sP T (R 0) k) + mn b (sP T (R 1) k) + mn c (sP T (R 2) k) ≤ mn a' (sP T (R 0) k) + mn b' (sP T (R 1) k) + mn c' (sP T (R 2) k) + 1 ∧ (mn a' (sP T (R 0) k) + mn b' (sP T (R 1) k) + mn c' (sP T (R 2) k) < mn a (sP T (R 0) k) + mn b (sP T (R 1) k) + mn c (sP T (R 2) k) → r ≤ sP T (R (if a' < a then 0 else if b' < b then 1 else 2)) k)) (h : gP N R k a b c) (n : ¬ gP N R k a' b' c') : ∃ T, tP N R k a b c T ∧ r ≤ sP T (R (if a' < a then 0 else if b' < b then 1 else 2)) k := by
  apply Classical.byContradiction
  intro q
  refine n (fun T => ?_)
  have g := h T
  have l := hl T
  apply Classical.byContradiction
  intro z
  refine q ⟨T, ?_, l.2 (by omega)⟩
  unfold tP
  omega
theorem gP_a (h : gP N R k a b c) {x : Nat} (n : ¬ (0 < x ∧ 0 < a ∧ gP N R k (a - 1) b c)) : ∃ T, tP N R k a b c T ∧ (x = 0 ∨ a = 0 ∨ a ≤ sP T (R 0) k) := by
  by_cases c1 : 0 < x ∧ 0 < a
  · obtain ⟨T, h1, h2⟩ := gP_less (a' := a - 1) (b' := b) (c' := c) (r := a) (fun T => by
      have m := mn_less (a := a) (r := sP T (R 0) k)
      rw [if_pos (show a - 1 < a by omega)]
      exact ⟨by omega, fun z => m.2 (by omega)⟩) h (fun q => n ⟨c1.1, c1.2, q⟩)
    rw [if_pos (show a - 1 < a by omega)] at h2
    exact ⟨T, h1, Or.inr (Or.inr h2)⟩
  · refine ⟨fun _ => false, ?_, by omega⟩
    unfold tP mn
    rw [sP_nil, sP_nil, sP_nil]
    omega
theorem gP_b (h : gP N R k a b c) {x : Nat} (n : ¬ (0 < x ∧ 0 < b ∧ gP N R k a (b - 1) c)) : ∃ T, tP N R k a b c T ∧ (x = 0 ∨ b = 0 ∨ b ≤ sP T (R 1) k) := by
  by_cases c1 : 0 < x ∧ 0 < b
  · obtain ⟨T, h1, h2⟩ := gP_less (a' := a) (b' := b - 1) (c' := c) (r := b) (fun T => by
      have m := mn_less (a := b) (r := sP T (R 1) k)
      rw [if_neg (show ¬ a < a by omega), if_pos (show b - 1 < b by omega)]
      exact ⟨by omega, fun z => m.2 (by omega)⟩) h (fun q => n ⟨c1.1, c1.2, q⟩)
    rw [if_neg (show ¬ a < a by omega), if_pos (show b - 1 < b by omega)] at h2
    exact ⟨T, h1, Or.inr (Or.inr h2)⟩
  · refine ⟨fun _ => false, ?_, by omega⟩
    unfold tP mn
    rw [sP_nil, sP_nil, sP_nil]
    omega
theorem gP_c (h : gP N R k a b c) {x : Nat} (n : ¬ (0 < x ∧ 0 < c ∧ gP N R k a b (c - 1))) : ∃ T, tP N R k a b c T ∧ (x = 0 ∨ c = 0 ∨ c ≤ sP T (R 2) k) := by
  by_cases c1 : 0 < x ∧ 0 < c
  · obtain ⟨T, h1, h2⟩ := gP_less (a' := a) (b' := b) (c' := c - 1) (r := c) (fun T => by
      have m := mn_less (a := c) (r := sP T (R 2) k)
      rw [if_neg (show ¬ a < a by omega), if_neg (show ¬ b < b by omega)]
      exact ⟨by omega, fun z => m.2 (by omega)⟩) h (fun q => n ⟨c1.1, c1.2, q⟩)
    rw [if_neg (show ¬ a < a by omega), if_neg (show ¬ b < b by omega)] at h2
    exact ⟨T, h1, Or.inr (Or.inr h2)⟩
  · refine ⟨fun _ => false, ?_, by omega⟩
    unfold tP mn
    rw [sP_nil, sP_nil, sP_nil]
    omega
end
section
variable {N : Nat → Nat} {R : Nat → Nat → Nat} {k : Nat}
/-- n more can be given, one after the other -/
theorem gP_give : ∀ (n a b c x y z : Nat), gP N R k a b c → (∀ T : Nat → Bool, sP T N k + n ≤ mn a (sP T (R 0) k + x) + mn b (sP T (R 1) k + y) + mn c (sP T (R 2) k + z)) → ∃ i j l, i + j + l = n ∧ i ≤ a ∧ j ≤ b ∧ l ≤ c ∧ i ≤ x ∧ j ≤ y ∧ l ≤ z ∧ gP N R k (a - i) (b - j) (c - l)
  | 0, a, b, c, x, y, z, h, _ => ⟨0, 0, 0, rfl, Nat.zero_le _, Nat.zero_le _, Nat.zero_le _, Nat.zero_le _, Nat.zero_le _, Nat.zero_le _, h⟩
  | n + 1, a, b, c, x, y, z, h, g => by
    by_cases q0 : 0 < x ∧ 0 < a ∧ gP N R k (a - 1) b c
    · obtain ⟨i, j, l, e, h1, h2, h3, h4, h5, h6, h7⟩ := gP_give n (a - 1) b c (x - 1) y z q0.2.2 (fun T => by
        have g := g T
        have o := mn_one (r := sP T (R 0) k) q0.2.1 q0.1
        omega)
      refine ⟨i + 1, j, l, by omega, by omega, h2, h3, by omega, h5, h6, ?_⟩
      rw [show a - (i + 1) = a - 1 - i by omega]
      exact h7
    · by_cases q1 : 0 < y ∧ 0 < b ∧ gP N R k a (b - 1) c
      · obtain ⟨i, j, l, e, h1, h2, h3, h4, h5, h6, h7⟩ := gP_give n a (b - 1) c x (y - 1) z q1.2.2 (fun T => by
          have g := g T
          have o := mn_one (r := sP T (R 1) k) q1.2.1 q1.1
          omega)
        refine ⟨i, j + 1, l, by omega, h1, by omega, h3, h4, by omega, h6, ?_⟩
        rw [show b - (j + 1) = b - 1 - j by omega]
        exact h7
      · by_cases q2 : 0 < z ∧ 0 < c ∧ gP N R k a b (c - 1)
        · obtain ⟨i, j, l, e, h1, h2, h3, h4, h5, h6, h7⟩ := gP_give n a b (c - 1) x y (z - 1) q2.2.2 (fun T => by
            have g := g T
            have o := mn_one (r := sP T (R 2) k) q2.2.1 q2.1
            omega)
          refine ⟨i, j, l + 1, by omega, h1, h2, by omega, h4, h5, by omega, ?_⟩
          rw [show c - (l + 1) = c - 1 - l by omega]
          exact h7
        · exfalso
          obtain ⟨T0, t0, m0⟩ := gP_a h q0
          obtain ⟨T1, t1, m1⟩ := gP_b h q1
          obtain ⟨T2, t2, m2⟩ := gP_c h q2
          have t := tP_or h (tP_or h t0 t1) t2
          have u0 : ∀ f, sP T0 f k ≤ sP (fun i => (T0 i || T1 i) || T2 i) f k := fun f => sP_mono (fun i q => by rw [q]; rfl) f k
          have u1 : ∀ f, sP T1 f k ≤ sP (fun i => (T0 i || T1 i) || T2 i) f k := fun f => sP_mono (fun i q => by rw [q]; cases T0 i <;> rfl) f k
          have u2 : ∀ f, sP T2 f k ≤ sP (fun i => (T0 i || T1 i) || T2 i) f k := fun f => sP_mono (fun i q => by rw [q]; cases T0 i <;> cases T1 i <;> rfl) f k
          have v0 := u0 (R 0)
          have v1 := u1 (R 1)
          have v2 := u2 (R 2)
          have g := g (fun i => (T0 i || T1 i) || T2 i)
          rw [mn_same (a := a) (x := x) (by omega), mn_same (a := b) (x := y) (by omega), mn_same (a := c) (x := z) (by omega)] at g
          unfold tP at t
          omega
theorem gP_step (a b c : Nat) : gP N R (k + 1) a b c ↔ ∃ i j l, i + j + l = N k ∧ i ≤ a ∧ j ≤ b ∧ l ≤ c ∧ i ≤ R 0 k ∧ j ≤ R 1 k ∧ l ≤ R 2 k ∧ gP N R k (a - i) (b - j) (c - l) := by
  constructor
  · intro h
    refine gP_give (N k) a b c (R 0 k) (R 1 k) (R 2 k) (fun T => ?_) (fun T => ?_)
    · have h := h (fun i => if i = k then false else T i)
      rw [sP_with, sP_with, sP_with, sP_with] at h
      exact h
    · have h := h (fun i => if i = k then true else T i)
      rw [sP_with, sP_with, sP_with, sP_with, if_pos rfl, if_pos rfl, if_pos rfl, if_pos rfl] at h
      exact h
  · rintro ⟨i, j, l, e, h1, h2, h3, h4, h5, h6, h7⟩ T
    have h := h7 T
    rw [sP_succ, sP_succ, sP_succ, sP_succ]
    cases ht : T k
    · have m0 := mn_mono (a := a - i) (a' := a) (b := sP T (R 0) k) (by omega) (Nat.le_refl _)
      have m1 := mn_mono (a := b - j) (a' := b) (b := sP T (R 1) k) (by omega) (Nat.le_refl _)
      have m2 := mn_mono (a := c - l) (a' := c) (b := sP T (R 2) k) (by omega) (Nat.le_refl _)
      rw [if_neg (by decide), if_neg (by decide), if_neg (by decide), if_neg (by decide)]
      show sP T N k ≤ mn a (sP T (R 0) k) + mn b (sP T (R 1) k) + mn c (sP T (R 2) k)
      omega
    · have m0 := mn_part (r := sP T (R 0) k) h1 h4
      have m1 := mn_part (r := sP T (R 1) k) h2 h5
      have m2 := mn_part (r := sP T (R 2) k) h3 h6
      rw [if_pos rfl, if_pos rfl, if_pos rfl, if_pos rfl]
      omega
end
