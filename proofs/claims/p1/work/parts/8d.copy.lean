/-! copies: a realm of the class, a bank of the reference -/
def cpv (v : Nat → Nat → Int32) (y x n : Nat) : Nat → Nat → Int32 := va_up v y (va_cpy (v x) (v y) 0 0 n)
theorem cp_bh {v : Nat → Nat → Int32} {w : Nat → Nat → Int64} {x y nx ny n : Nat} {f g : Nat → Int32} {k : Int32} (ex : tm x = .inl (0, nx, .inl f)) (ey : tm y = .inl (0, ny, .inl g)) (hk : ¬ k < 0) (hn : k.toNatClampNeg = n) (h1 : n ≤ nx) (h2 : n ≤ ny) : cpI (bh v w) 0 x 0 y 0 k = some (bh (cpv v y x n) w) := by
  unfold cpI
  have e1 : (bh v w).2.2 x = .inl (0, nx, .inl (v x)) := by show fillc _ _ (tm x) = _; rw [ex]; rfl
  have e2 : (bh v w).2.2 y = .inl (0, ny, .inl (v y)) := by show fillc _ _ (tm y) = _; rw [ey]; rfl
  have z0 : (0 : Int32).toNatClampNeg = 0 := rfl
  rw [e1, e2]
  dsimp only
  rw [z0, hn, if_pos ⟨⟨rfl, rfl⟩, by decide, by decide, hk, by omega, by omega⟩]
  congr 1
  refine bh_up (fun p hp => ⟨up_ne hp, rfl⟩) ?_
  rw [ey]
  show Sum.inl (0, ny, Sum.inl (va_up v y (va_cpy (v x) (v y) 0 0 n) y)) = _
  rw [up_at]
def cpL : List Nat := [6, 5, 5, 5, 5, 5, 3, 3, 3, 3, 3, 3, 15, 1, 8, 8, 8]
/-- the first n cells of the realm a are those of b in v -/
def cpd (a b n : Nat) (v v' : Nat → Nat → Int32) : Prop := (∀ q, q < a ∨ a + n ≤ q → v' q = v q) ∧ ∀ j, j < n → ∀ i, i < cpL.getD j 0 → v' (a + j) i = v (b + j) i
theorem cpd.step {a b n k : Nat} {v v' : Nat → Nat → Int32} (hd : a + 17 ≤ b ∨ b + 17 ≤ a) (hn : n < 17) (hk : cpL.getD n 0 = k) (h : cpd a b n v v') : cpd a b (n + 1) v (cpv v' (a + n) (b + n) k) := by
  refine ⟨fun q hq => ?_, fun j hj i hi => ?_⟩
  · unfold cpv
    rw [up_ne (by omega)]
    exact h.1 q (by omega)
  · unfold cpv
    by_cases e : j = n
    · subst e
      rw [up_at, h.1 (b + j) (by omega)]
      rw [hk] at hi
      unfold va_cpy
      rw [if_pos (by omega), show 0 + (i - 0) = i by omega]
    · rw [up_ne (by omega)]
      exact h.2 j (by omega) i hi
theorem cpR {a b : Nat} (ha : rl a) (hb : rl b) (v : Nat → Nat → Int32) (w : Nat → Nat → Int64) :
    cpI (bh v w) 0 (b + 1) 0 (a + 1) 0 5 = some (bh (cpv v (a + 1) (b + 1) 5) w) ∧ cpI (bh v w) 0 (b + 2) 0 (a + 2) 0 5 = some (bh (cpv v (a + 2) (b + 2) 5) w) ∧ cpI (bh v w) 0 (b + 3) 0 (a + 3) 0 5 = some (bh (cpv v (a + 3) (b + 3) 5) w) ∧ cpI (bh v w) 0 (b + 4) 0 (a + 4) 0 5 = some (bh (cpv v (a + 4) (b + 4) 5) w) ∧ cpI (bh v w) 0 (b + 5) 0 (a + 5) 0 5 = some (bh (cpv v (a + 5) (b + 5) 5) w) ∧
    cpI (bh v w) 0 (b + 6) 0 (a + 6) 0 3 = some (bh (cpv v (a + 6) (b + 6) 3) w) ∧ cpI (bh v w) 0 (b + 7) 0 (a + 7) 0 3 = some (bh (cpv v (a + 7) (b + 7) 3) w) ∧ cpI (bh v w) 0 (b + 8) 0 (a + 8) 0 3 = some (bh (cpv v (a + 8) (b + 8) 3) w) ∧ cpI (bh v w) 0 (b + 9) 0 (a + 9) 0 3 = some (bh (cpv v (a + 9) (b + 9) 3) w) ∧ cpI (bh v w) 0 (b + 10) 0 (a + 10) 0 3 = some (bh (cpv v (a + 10) (b + 10) 3) w) ∧ cpI (bh v w) 0 (b + 11) 0 (a + 11) 0 3 = some (bh (cpv v (a + 11) (b + 11) 3) w) ∧
    cpI (bh v w) 0 (b + 12) 0 (a + 12) 0 15 = some (bh (cpv v (a + 12) (b + 12) 15) w) ∧ cpI (bh v w) 0 (b + 14) 0 (a + 14) 0 8 = some (bh (cpv v (a + 14) (b + 14) 8) w) ∧ cpI (bh v w) 0 (b + 15) 0 (a + 15) 0 8 = some (bh (cpv v (a + 15) (b + 15) 8) w) ∧ cpI (bh v w) 0 (b + 16) 0 (a + 16) 0 8 = some (bh (cpv v (a + 16) (b + 16) 8) w) := by
  rcases ha with rfl | rfl | rfl | rfl <;> rcases hb with rfl | rfl | rfl | rfl <;> exact ⟨cp_bh rfl rfl (by decide) rfl (by decide) (by decide), cp_bh rfl rfl (by decide) rfl (by decide) (by decide), cp_bh rfl rfl (by decide) rfl (by decide) (by decide), cp_bh rfl rfl (by decide) rfl (by decide) (by decide), cp_bh rfl rfl (by decide) rfl (by decide) (by decide), cp_bh rfl rfl (by decide) rfl (by decide) (by decide), cp_bh rfl rfl (by decide) rfl (by decide) (by decide), cp_bh rfl rfl (by decide) rfl (by decide) (by decide), cp_bh rfl rfl (by decide) rfl (by decide) (by decide), cp_bh rfl rfl (by decide) rfl (by decide) (by decide), cp_bh rfl rfl (by decide) rfl (by decide) (by decide), cp_bh rfl rfl (by decide) rfl (by decide) (by decide), cp_bh rfl rfl (by decide) rfl (by decide) (by decide), cp_bh rfl rfl (by decide) rfl (by decide) (by decide), cp_bh rfl rfl (by decide) rfl (by decide) (by decide)⟩
theorem rl_apart {a b : Nat} (ha : rl a) (hb : rl b) (hab : a ≠ b) : a + 17 ≤ b ∨ b + 17 ≤ a := by
  rcases ha with rfl | rfl | rfl | rfl <;> rcases hb with rfl | rfl | rfl | rfl <;> omega
theorem cpd.fields {a b : Nat} {v : Nat → Nat → Int32} (hd : a + 17 ≤ b ∨ b + 17 ≤ a) : cpd a b 1 v (u2 (u2 (u2 (u2 (u2 (u2 v a 0 (v b 0)) a 1 (v b 1)) a 2 (v b 2)) a 3 (v b 3)) a 4 (v b 4)) a 5 (v b 5)) := by
  refine ⟨fun q hq => ?_, fun j hj i hi => ?_⟩
  · rw [u2_o (by omega), u2_o (by omega), u2_o (by omega), u2_o (by omega), u2_o (by omega), u2_o (by omega)]
  · obtain rfl : j = 0 := by omega
    have hi : i < 6 := hi
    rw [Nat.add_zero, Nat.add_zero]
    rcases (show i = 0 ∨ i = 1 ∨ i = 2 ∨ i = 3 ∨ i = 4 ∨ i = 5 by omega) with rfl | rfl | rfl | rfl | rfl | rfl
    · rw [u2_n (by decide), u2_n (by decide), u2_n (by decide), u2_n (by decide), u2_n (by decide), u2_at]
    · rw [u2_n (by decide), u2_n (by decide), u2_n (by decide), u2_n (by decide), u2_at]
    · rw [u2_n (by decide), u2_n (by decide), u2_n (by decide), u2_at]
    · rw [u2_n (by decide), u2_n (by decide), u2_at]
    · rw [u2_n (by decide), u2_at]
    · rw [u2_at]
theorem cpd.seen {a b : Nat} {v v' : Nat → Nat → Int32} (hd : a + 17 ≤ b ∨ b + 17 ≤ a) (h : cpd a b 13 v v') : cpd a b 14 v (u2 v' (a + 13) 0 (v' (b + 13) 0)) := by
  refine ⟨fun q hq => ?_, fun j hj i hi => ?_⟩
  · rw [u2_o (by omega)]
    exact h.1 q (by omega)
  · by_cases e : j = 13
    · subst e
      have hi : i < 1 := hi
      obtain rfl : i = 0 := by omega
      rw [u2_at, h.1 (b + 13) (by omega)]
    · rw [u2_o (by omega)]
      exact h.2 j (by omega) i hi
theorem C_copyFrom {a b : Nat} (ha : rl a) (hb : rl b) (hab : a ≠ b) (v : Nat → Nat → Int32) (w : Nat → Nat → Int64) : ∃ v', f_Realm_copyFrom a b (bh v w) = some (bh v' w) ∧ cpd a b 17 v v' := by
  have hd := rl_apart ha hb hab
  have H := fun v w => hRl ha v w
  have H2 := fun v w => hRl hb v w
  have K := fun v w => cpR ha hb v w
  have ne : b ≠ a := fun z => hab z.symm
  unfold f_Realm_copyFrom f_Realm_copyFrom_0
  simp only [H, H2, bd1_s]
  rw [u2_o ne, u2_o ne, u2_o ne, u2_o ne, u2_o ne, u2_o ne, u2_o ne, u2_o ne, u2_o ne, u2_o ne, u2_o ne, u2_o ne, u2_o ne, u2_o ne, u2_o ne]
  have f0 := cpd.fields (v := v) hd
  generalize u2 (u2 (u2 (u2 (u2 (u2 v a 0 (v b 0)) a 1 (v b 1)) a 2 (v b 2)) a 3 (v b 3)) a 4 (v b 4)) a 5 (v b 5) = v1 at f0
  unfold f_Sightings_copyFrom f_Sightings_copyFrom_0
  simp only [K, H, H2, bd1_s]
  refine ⟨_, rfl, ?_⟩
  refine cpd.step hd (n := 16) (by decide) rfl (cpd.step hd (n := 15) (by decide) rfl (cpd.step hd (n := 14) (by decide) rfl (cpd.seen hd ?_)))
  exact cpd.step hd (n := 12) (by decide) rfl (cpd.step hd (n := 11) (by decide) rfl (cpd.step hd (n := 10) (by decide) rfl (cpd.step hd (n := 9) (by decide) rfl (cpd.step hd (n := 8) (by decide) rfl (cpd.step hd (n := 7) (by decide) rfl (cpd.step hd (n := 6) (by decide) rfl (cpd.step hd (n := 5) (by decide) rfl (cpd.step hd (n := 4) (by decide) rfl (cpd.step hd (n := 3) (by decide) rfl (cpd.step hd (n := 2) (by decide) rfl (cpd.step hd (n := 1) (by decide) rfl f0)))))))))))
theorem CR_copy {a b : Nat} {ρ : Rho} {v v' : Nat → Nat → Int32} (h : CR b ρ v) (hk : ROK ρ) (c : cpd a b 17 v v') : CR a ρ v' := by
  obtain ⟨⟨a0, a1, a2, a3, a4, a5, a6⟩, h2, h3, h4, h5⟩ := h
  have hL := hk.1.1
  have hP := hk.1.2.1
  have hS := hk.1.2.2.2.2.2.2
  have g := c.2
  refine ⟨⟨(g 0 (by decide) 0 (by decide)).trans a0, (g 0 (by decide) 1 (by decide)).trans a1, (g 0 (by decide) 2 (by decide)).trans a2, (g 0 (by decide) 3 (by decide)).trans a3, (g 0 (by decide) 4 (by decide)).trans a4, (g 0 (by decide) 5 (by decide)).trans a5, (g 13 (by decide) 0 (by decide)).trans a6⟩, fun l hl => ?_, fun p hp => ?_, fun p l hp hl => ?_, fun i hi => ?_⟩
  · obtain ⟨b1, b2, b3, b4, b5⟩ := h2 l hl
    exact ⟨(g 1 (by decide) l (show l < 5 by omega)).trans b1, (g 2 (by decide) l (show l < 5 by omega)).trans b2, (g 3 (by decide) l (show l < 5 by omega)).trans b3, (g 4 (by decide) l (show l < 5 by omega)).trans b4, (g 5 (by decide) l (show l < 5 by omega)).trans b5⟩
  · obtain ⟨b1, b2, b3, b4, b5, b6⟩ := h3 p hp
    exact ⟨(g 6 (by decide) p (show p < 3 by omega)).trans b1, (g 7 (by decide) p (show p < 3 by omega)).trans b2, (g 8 (by decide) p (show p < 3 by omega)).trans b3, (g 9 (by decide) p (show p < 3 by omega)).trans b4, (g 10 (by decide) p (show p < 3 by omega)).trans b5, (g 11 (by decide) p (show p < 3 by omega)).trans b6⟩
  · exact (g 12 (by decide) (5 * p + l) (show 5 * p + l < 15 by omega)).trans (h4 p l hp hl)
  · obtain ⟨b1, b2, b3⟩ := h5 i hi
    exact ⟨(g 14 (by decide) i (show i < 8 by omega)).trans b1, (g 15 (by decide) i (show i < 8 by omega)).trans b2, (g 16 (by decide) i (show i < 8 by omega)).trans b3⟩
/-- a bank of 66 -/
theorem MB_copy {q q' k k' : Nat} {ρ : Rho} {v v' : Nat → Nat → Int32} (h : MB q k ρ v) (hk : ROK ρ) (c : ∀ j, j < 66 → v' q' (k' + j) = v q (k + j)) : MB q' k' ρ v' := by
  obtain ⟨h1, h2, h3, h4, h5, h6, h7, h8, h9, h10, h11, h12, h13⟩ := h
  have hL := hk.1.1
  have hP := hk.1.2.1
  have hS := hk.1.2.2.2.2.2.2
  have c' : ∀ (a b : Nat) (x : Int32) (j : Nat), j < 66 → k + j = a → k' + j = b → v q a = x → v' q' b = x := fun a b x j hj ea eb h => by subst ea; subst eb; exact (c j hj).trans h
  refine ⟨fun l hl => (c l (by omega)).trans (h1 l hl), fun l hl => c' _ _ _ (5 + l) (by omega) (by omega) (by omega) (h2 l hl), (c 10 (by omega)).trans h3, (c 11 (by omega)).trans h4, fun p hp => c' _ _ _ (12 + p) (by omega) (by omega) (by omega) (h5 p hp), fun p hp => c' _ _ _ (15 + p) (by omega) (by omega) (by omega) (h6 p hp), fun p hp => c' _ _ _ (18 + p) (by omega) (by omega) (by omega) (h7 p hp), fun p hp => c' _ _ _ (21 + p) (by omega) (by omega) (by omega) (h8 p hp), fun p l hp hl => c' _ _ _ (24 + 5 * p + l) (by omega) (by omega) (by omega) (h9 p l hp hl), (c 39 (by omega)).trans h10, (c 40 (by omega)).trans h11, (c 41 (by omega)).trans h12, fun i hi => ?_⟩
  obtain ⟨b1, b2, b3⟩ := h13 i hi
  exact ⟨c' _ _ _ (42 + 3 * i) (by omega) (by omega) (by omega) b1, c' _ _ _ (42 + 3 * i + 1) (by omega) (by omega) (by omega) b2, c' _ _ _ (42 + 3 * i + 2) (by omega) (by omega) (by omega) b3⟩
section
variable {v : Nat → Nat → Int32} {w : Nat → Nat → Int64}
theorem M_copies {a b : Nat} (ha : a + 66 ≤ 198) (hb : b + 66 ≤ 198) (hd : a + 66 ≤ b ∨ b + 66 ≤ a) (v : Nat → Nat → Int32) (w : Nat → Nat → Int64) : ∃ v', f_M_copies 100 (nI a) (nI b) (bh v w) = some (bh v' w) ∧ (∀ q, q ≠ 101 → v' q = v q) ∧ ∀ j, v' 101 j = if a ≤ j ∧ j < a + 66 then v 101 (b + (j - a)) else v 101 j := by
  have key : ∀ (k fuel i : Nat) (v : Nat → Nat → Int32), k < fuel → i + k = 66 → ∃ v', f_M_copies_2 fuel 100 (nI a) (nI b) (nI i) (bh v w) = some (bh v' w) ∧ (∀ q, q ≠ 101 → v' q = v q) ∧ ∀ j, v' 101 j = if a + i ≤ j ∧ j < a + 66 then v 101 (b + (j - a)) else v 101 j := by
    intro k
    induction k with
    | zero =>
      intro fuel i v hf hi
      obtain ⟨n, rfl⟩ : ∃ n, fuel = n + 1 := ⟨fuel - 1, by omega⟩
      simp only [f_M_copies_2, f_M_copies_2b]
      rw [show (66 : Int32) = nI 66 from rfl, if_pos ((nI_leI (by omega) (by omega)).mpr (by omega))]
      exact ⟨v, rfl, fun _ _ => rfl, fun j => by rw [if_neg (by omega)]⟩
    | succ k ih =>
      intro fuel i v hf hi
      obtain ⟨n, rfl⟩ : ∃ n, fuel = n + 1 := ⟨fuel - 1, by omega⟩
      simp only [f_M_copies_2, f_M_copies_2b, hM v w, bd1_s]
      rw [show (66 : Int32) = nI 66 from rfl, if_neg (fun z => by have := (nI_leI (by omega) (by omega)).mp z; omega), nI_add, nI_add, rd_nI (by omega) (by decide), bd1_s, wr_nI (by omega) (by decide), bd1_s, nI_1]
      obtain ⟨v', e1, f1, f2⟩ := ih n (i + 1) (u2 v 101 (a + i) (v 101 (b + i))) (by omega) (by omega)
      refine ⟨v', e1, fun q hq => (f1 q hq).trans (u2_o hq), fun j => ?_⟩
      rw [f2 j]
      by_cases e : j = a + i
      · subst e
        rw [if_neg (by omega), if_pos (by omega), u2_at, show a + i - a = i by omega]
      · by_cases h : a + (i + 1) ≤ j ∧ j < a + 66
        · rw [if_pos h, if_pos (by omega), u2_n (by omega)]
        · rw [if_neg h, if_neg (by omega), u2_n e]
  obtain ⟨v', e1, f1, f2⟩ := key 66 FU 0 v (by unfold FU; omega) (by omega)
  exact ⟨v', e1, f1, f2⟩
theorem M_saves (v : Nat → Nat → Int32) (w : Nat → Nat → Int64) : ∃ v', f_M_saves 100 (bh v w) = some (bh v' w) ∧ (∀ q, q ≠ 119 → v' q = v q) ∧ ∀ j, j < 66 → v' 119 j = v 101 j := by
  have key : ∀ (k fuel i : Nat) (v : Nat → Nat → Int32), k < fuel → i + k = 66 → ∃ v', f_M_saves_2 fuel 100 (nI i) (bh v w) = some (bh v' w) ∧ (∀ q, q ≠ 119 → v' q = v q) ∧ (∀ j, j < i → v' 119 j = v 119 j) ∧ ∀ j, i ≤ j → j < 66 → v' 119 j = v 101 j := by
    intro k
    induction k with
    | zero =>
      intro fuel i v hf hi
      obtain ⟨n, rfl⟩ : ∃ n, fuel = n + 1 := ⟨fuel - 1, by omega⟩
      simp only [f_M_saves_2, f_M_saves_2b]
      rw [show (66 : Int32) = nI 66 from rfl, if_pos ((nI_leI (by omega) (by omega)).mpr (by omega))]
      exact ⟨v, rfl, fun _ _ => rfl, fun _ _ => rfl, fun j _ _ => by omega⟩
    | succ k ih =>
      intro fuel i v hf hi
      obtain ⟨n, rfl⟩ : ∃ n, fuel = n + 1 := ⟨fuel - 1, by omega⟩
      simp only [f_M_saves_2, f_M_saves_2b, hM v w, bd1_s]
      rw [show (66 : Int32) = nI 66 from rfl, if_neg (fun z => by have := (nI_leI (by omega) (by omega)).mp z; omega), rd_nI (by omega) (by decide), bd1_s, wr_nI (by omega) (by decide), bd1_s, nI_1]
      obtain ⟨v', e1, f1, f2, f3⟩ := ih n (i + 1) (u2 v 119 i (v 101 i)) (by omega) (by omega)
      refine ⟨v', e1, fun q hq => (f1 q hq).trans (u2_o hq), fun j hj => (f2 j (by omega)).trans (u2_n (by omega)), fun j h1 h2 => ?_⟩
      by_cases e : j = i
      · subst e; rw [f2 j (by omega), u2_at]
      · rw [f3 j (by omega) h2, u2_o (by decide)]
  obtain ⟨v', e1, f1, -, f3⟩ := key 66 FU 0 v (by unfold FU; omega) (by omega)
  exact ⟨v', e1, f1, fun j hj => f3 j (by omega) hj⟩
theorem M_returns (v : Nat → Nat → Int32) (w : Nat → Nat → Int64) : ∃ v', f_M_returns 100 (bh v w) = some (bh v' w) ∧ (∀ q, q ≠ 101 → v' q = v q) ∧ (∀ j, j < 66 → v' 101 j = v 119 j) ∧ ∀ j, 66 ≤ j → v' 101 j = v 101 j := by
  have key : ∀ (k fuel i : Nat) (v : Nat → Nat → Int32), k < fuel → i + k = 66 → ∃ v', f_M_returns_2 fuel 100 (nI i) (bh v w) = some (bh v' w) ∧ (∀ q, q ≠ 101 → v' q = v q) ∧ (∀ j, j < i ∨ 66 ≤ j → v' 101 j = v 101 j) ∧ ∀ j, i ≤ j → j < 66 → v' 101 j = v 119 j := by
    intro k
    induction k with
    | zero =>
      intro fuel i v hf hi
      obtain ⟨n, rfl⟩ : ∃ n, fuel = n + 1 := ⟨fuel - 1, by omega⟩
      simp only [f_M_returns_2, f_M_returns_2b]
      rw [show (66 : Int32) = nI 66 from rfl, if_pos ((nI_leI (by omega) (by omega)).mpr (by omega))]
      exact ⟨v, rfl, fun _ _ => rfl, fun _ _ => rfl, fun j _ _ => by omega⟩
    | succ k ih =>
      intro fuel i v hf hi
      obtain ⟨n, rfl⟩ : ∃ n, fuel = n + 1 := ⟨fuel - 1, by omega⟩
      simp only [f_M_returns_2, f_M_returns_2b, hM v w, bd1_s]
      rw [show (66 : Int32) = nI 66 from rfl, if_neg (fun z => by have := (nI_leI (by omega) (by omega)).mp z; omega), rd_nI (by omega) (by decide), bd1_s, wr_nI (by omega) (by decide), bd1_s, nI_1]
      obtain ⟨v', e1, f1, f2, f3⟩ := ih n (i + 1) (u2 v 101 i (v 119 i)) (by omega) (by omega)
      refine ⟨v', e1, fun q hq => (f1 q hq).trans (u2_o hq), fun j hj => (f2 j (by omega)).trans (u2_n (by omega)), fun j h1 h2 => ?_⟩
      by_cases e : j = i
      · subst e; rw [f2 j (by omega), u2_at]
      · rw [f3 j (by omega) h2, u2_o (by decide)]
  obtain ⟨v', e1, f1, f2, f3⟩ := key 66 FU 0 v (by unfold FU; omega) (by omega)
  exact ⟨v', e1, f1, fun j hj => f3 j (by omega) hj, fun j hj => f2 j (Or.inr hj)⟩
end
