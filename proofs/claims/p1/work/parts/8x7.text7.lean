/-! what the lines keep; the end of a text -/
theorem sb_inr {α β : Type} {x : Fa ⊕ α} {f : α → Fa ⊕ β} {b : β} (h : sb x f = .inr b) : ∃ a, x = .inr a ∧ f a = .inr b := by
  cases x with
  | inl e => cases h
  | inr a => exact ⟨a, rfl, h⟩
theorem chkB_inr {K : Tp} {lo hi P n : Nat} (h : chkB K lo hi P = .inr n) : lo ≤ n ∧ n ≤ hi := by
  unfold chkB at h
  split at h
  · next c => cases h; exact c
  · cases h
theorem sNum_inr {K : Tp} {lo hi P n : Nat} (h : sNum K lo hi P = .inr n) : lo ≤ n ∧ n ≤ hi := by
  obtain ⟨u, -, h2⟩ := sb_inr h
  unfold chk at h2
  split at h2
  · exact chkB_inr h2
  · cases h2
theorem sFin_inr {α : Type} {K : Tp} {P : Nat} {a : α} {y : α × Nat} (h : sFin K P a = .inr y) : y = (a, eN K P) := by
  obtain ⟨u, -, h2⟩ := sb_inr h
  cases h2
  rfl
theorem ite_inr {α : Type} {c : Prop} [Decidable c] {e : Fa} {x : Fa ⊕ α} {b : α} (h : (if c then .inl e else x) = .inr b) : ¬ c ∧ x = .inr b := by
  split at h
  · cases h
  · next c => exact ⟨c, h⟩
theorem or_pw_lt : ∀ x, x < 32 → ∀ m, m ≤ 4 → ∀ n, n ≤ 5 → (x ||| 2 ^ m < 2 ^ n ↔ x < 2 ^ n ∧ m + 1 ≤ n) := by decide +kernel
theorem or_2_lt : ∀ x, x < 32 → ∀ y, y < 32 → ∀ n, n ≤ 5 → (x ||| y < 2 ^ n ↔ x < 2 ^ n ∧ y < 2 ^ n) := by decide +kernel
theorem or_pw_0 : ∀ x, x < 32 → ∀ m, m ≤ 4 → x ||| 2 ^ m ≠ 0 := by decide +kernel
theorem SI_addL {σ : Rho} {q c h f m : Nat} (hI : SI σ) (hl : σ 0 0 < 5) (hq : q ≤ 9) (hc : 1 ≤ c ∧ c ≤ 3) (hh : h ≤ 9) (hf : f ≤ 9) (hm : m ≤ 5) (hm2 : m ≠ σ 0 0 + 1) : SI (addL σ q c h f m) := by
  obtain ⟨⟨a1, a2, a3, a4, a5, a6, a7, a8⟩, b, c', d, e, g, k⟩ := hI
  unfold SI addL
  simp [up2_ap]
  refine ⟨⟨by omega, a2, a3, a4, a5, a6, by omega, a8⟩, fun l hl2 => ?_, c', d, e, fun n hn => ?_, k⟩
  · by_cases z : l = σ 0 0
    · simp [z]; omega
    · have := b l (by omega)
      simp [z]; omega
  · have gn := g n hn
    constructor
    · intro hx
      obtain ⟨x1, x2, x3⟩ := gn.mp (by omega)
      refine ⟨x1, fun l hl2 => ?_, x3⟩
      by_cases z : l = σ 0 0
      · simp [z]; omega
      · simp [z]; exact x2 l (by omega)
    · rintro ⟨x1, x2, x3⟩
      have y := x2 (σ 0 0) (by omega)
      simp at y
      have := gn.mpr ⟨x1, fun l hl2 => by
        have z := x2 l (by omega)
        simp [show ¬ l = σ 0 0 by omega] at z
        exact z, x3⟩
      omega
theorem SI_addO {σ : Rho} {t c n u R h : Nat} (hI : SI σ) (hl : σ 0 1 < 3) (ht : t ≤ 5) (hc : c ≤ 3) (hn : n ≤ 10) (hu : u ≤ 99) (hR : R < 32) (hh : ∀ n, n ≤ 5 → (h ≤ n ↔ σ 17 0 ≤ n ∧ R < 2 ^ n)) : SI (addO σ t c n u R h) := by
  obtain ⟨⟨a1, a2, a3, a4, a5, a6, a7, a8⟩, b, c', d, e, g, k⟩ := hI
  have h5 : h ≤ 5 := (hh 5 (by decide)).mpr ⟨a7, hR⟩
  unfold SI addO
  simp [up2_ap]
  refine ⟨⟨a1, by omega, a3, a4, a5, a6, h5, a8⟩, b, fun p hp => ?_, fun p hp => ?_, e, fun n hn => ?_, k⟩
  · by_cases z : p = σ 0 1
    · simp [z]; omega
    · have := c' p (by omega)
      simp [z]; omega
  · have := d p hp
    by_cases z : p = σ 0 1
    · simp [z]
      refine ⟨hR, ?_⟩
      rw [← z]
      exact ⟨this.2.1, fun q => by omega⟩
    · simp [z]
      exact ⟨this.1, this.2.1, fun q => this.2.2 (by omega)⟩
  · rw [hh n hn, g n hn]
    constructor
    · rintro ⟨⟨x1, x2, x3⟩, x4⟩
      refine ⟨x1, x2, fun p hp => ⟨?_, (x3 p hp).2⟩⟩
      by_cases z : p = σ 0 1
      · simp [z]; exact x4
      · simp [z]; exact (x3 p hp).1
    · rintro ⟨x1, x2, x3⟩
      refine ⟨⟨x1, x2, fun p hp => ⟨?_, (x3 p hp).2⟩⟩, ?_⟩
      · by_cases z : p = σ 0 1
        · have := (d p hp).2.2 (by omega)
          rw [this]
          exact Nat.pow_pos (by decide)
        · have := (x3 p hp).1
          simp [z] at this
          exact this
      · have := (x3 (σ 0 1) hl).1
        simp at this
        exact this
theorem SI_addW {σ : Rho} {p m : Nat} (hI : SI σ) (hp : p ≤ 2) (hm : m ≤ 4) : SI (addW σ p m) := by
  obtain ⟨⟨a1, a2, a3, a4, a5, a6, a7, a8⟩, b, c', d, e, g, k⟩ := hI
  have dp := d p (by omega)
  unfold SI addW
  simp [up2_ap]
  refine ⟨⟨a1, a2, a3, a4, a5, a6, by omega, by omega⟩, b, c', fun j hj => ?_, e, fun n hn => ?_, fun n hn => ?_⟩
  · have := d j hj
    by_cases z : j = p
    · simp [z]
      rw [z] at this
      exact ⟨this.1, or_lt _ this.2.1 _ (pw4 m hm), this.2.2⟩
    · simp [z]; exact this
  · have o := or_pw_lt _ dp.2.1 m hm n hn
    rw [show max (σ 17 0) (m + 1) ≤ n ↔ σ 17 0 ≤ n ∧ m + 1 ≤ n by omega, g n hn]
    constructor
    · rintro ⟨⟨x1, x2, x3⟩, x4⟩
      refine ⟨x1, x2, fun j hj => ⟨(x3 j hj).1, ?_⟩⟩
      by_cases z : j = p
      · simp [z]
        have := (x3 j hj).2
        rw [z] at this
        exact o.mpr ⟨this, x4⟩
      · simp [z]; exact (x3 j hj).2
    · rintro ⟨x1, x2, x3⟩
      have y := (x3 p (by omega)).2
      simp at y
      refine ⟨⟨x1, x2, fun j hj => ⟨(x3 j hj).1, ?_⟩⟩, (o.mp y).2⟩
      by_cases z : j = p
      · rw [z]; exact (o.mp y).1
      · have := (x3 j hj).2
        simp [z] at this
        exact this
  · rw [show max (σ 17 1) (p + 1) ≤ n ↔ σ 17 1 ≤ n ∧ p + 1 ≤ n by omega, k n hn]
    constructor
    · rintro ⟨x1, x2⟩ j hj hz
      by_cases z : j = p
      · omega
      · simp [z] at hz
        exact x1 j hj hz
    · intro x
      have y := x p (by omega) (by simp)
      refine ⟨fun j hj hz => ?_, by omega⟩
      by_cases z : j = p
      · omega
      · exact x j hj (by simp [z]; exact hz)
theorem SI_addH {σ : Rho} {m : Nat} (hI : SI σ) (hm : m ≤ 4) : SI (addH σ m) := by
  obtain ⟨⟨a1, a2, a3, a4, a5, a6, a7, a8⟩, b, c', d, e, g, k⟩ := hI
  unfold SI addH
  simp [up2_ap]
  refine ⟨⟨a1, a2, a3, a4, or_lt _ a5 _ (pw4 m hm), a6, by omega, a8⟩, b, c', d, e, fun n hn => ?_, k⟩
  have o := or_pw_lt _ a5 m hm n hn
  rw [show max (σ 17 0) (m + 1) ≤ n ↔ σ 17 0 ≤ n ∧ m + 1 ≤ n by omega, g n hn]
  constructor
  · rintro ⟨⟨x1, x2, x3⟩, x4⟩
    exact ⟨o.mpr ⟨x1, x4⟩, x2, x3⟩
  · rintro ⟨x1, x2, x3⟩
    exact ⟨⟨(o.mp x1).1, x2, x3⟩, (o.mp x1).2⟩
theorem sRef_ok {K : Tp} {h0 : Nat} : ∀ (n R h Q : Nat) (y : (Nat × Nat) × Nat), sRef K n R h Q = .inr y → Q ≤ K.1 → R < 32 → (∀ n, n ≤ 5 → (h ≤ n ↔ h0 ≤ n ∧ R < 2 ^ n)) → y.1.1 < 32 ∧ (∀ n, n ≤ 5 → (y.1.2 ≤ n ↔ h0 ≤ n ∧ y.1.1 < 2 ^ n)) ∧ Q ≤ y.2 ∧ y.2 ≤ K.1
  | 0, R, h, Q, y, e, hQ, hR, hh => by cases e; exact ⟨hR, hh, Nat.le_refl _, hQ⟩
  | n + 1, R, h, Q, y, e, hQ, hR, hh => by
    unfold sRef at e
    split at e
    · obtain ⟨m, e1, e2⟩ := sb_inr e
      have hm := (chkB_inr e1).2
      obtain ⟨-, e3⟩ := ite_inr e2
      obtain ⟨u, -, e4⟩ := sb_inr e3
      have hs := sT_b hQ
      have he := eN_b hQ
      have := sRef_ok (h0 := h0) n _ _ _ y e4 he.2.1 (or_lt _ hR _ (pw4 m hm)) (fun n hn => by rw [show max h (m + 1) ≤ n ↔ h ≤ n ∧ m + 1 ≤ n by omega, hh n hn, or_pw_lt R hR m hm n hn]; omega)
      exact ⟨this.1, this.2.1, by omega, this.2.2.2⟩
    · cases e
      exact ⟨hR, hh, Nat.le_refl _, hQ⟩
theorem sLaw_ok {K : Tp} {σ : Rho} {Q : Nat} {y : Rho × Nat} (h : sLaw K σ Q = .inr y) (hI : SI σ) (hl : σ 0 0 < 5) (hQ : Q ≤ K.1) : SI y.1 ∧ Q ≤ y.2 ∧ y.2 ≤ K.1 := by
  obtain ⟨q, h1, h⟩ := sb_inr h
  obtain ⟨c, h2, h⟩ := sb_inr h
  obtain ⟨hh, h3, h⟩ := sb_inr h
  obtain ⟨f, h4, h⟩ := sb_inr h
  have b1 := sNum_inr h1
  have b2 := sNum_inr h2
  have b3 := sNum_inr h3
  have b4 := sNum_inr h4
  have e1 := eN_b hQ
  have s1 := sT_b hQ
  have e2 := eN_b e1.2.1
  have s2 := sT_b e1.2.1
  have e3 := eN_b e2.2.1
  have s3 := sT_b e2.2.1
  have e4 := eN_b e3.2.1
  have s4 := sT_b e3.2.1
  have e5 := eN_b e4.2.1
  have s5 := sT_b e4.2.1
  have e6 := eN_b e5.2.1
  have s6 := sT_b e5.2.1
  obtain ⟨u, -, h⟩ := sb_inr h
  split at h
  · obtain ⟨m, h5, h⟩ := sb_inr h
    have b5 := chkB_inr h5
    obtain ⟨n5, h⟩ := ite_inr h
    obtain ⟨u, -, h⟩ := sb_inr h
    have := sFin_inr h
    subst this
    exact ⟨SI_addL hI hl b1.2 b2 b3.2 b4.2 (by omega) (by omega), by show Q ≤ eN K _; omega, by show eN K _ ≤ K.1; omega⟩
  · have := sFin_inr h
    subst this
    exact ⟨SI_addL hI hl b1.2 b2 b3.2 b4.2 (by omega) (by omega), by show Q ≤ eN K _; omega, by show eN K _ ≤ K.1; omega⟩
theorem sOne_ok {K : Tp} {σ : Rho} {Q : Nat} {y : Rho × Nat} (h : sOne K σ Q = .inr y) (hI : SI σ) (hl : σ 0 1 < 3) (hQ : Q ≤ K.1) : SI y.1 ∧ Q ≤ y.2 ∧ y.2 ≤ K.1 := by
  obtain ⟨q, h1, h⟩ := sb_inr h
  obtain ⟨c, h2, h⟩ := sb_inr h
  obtain ⟨hh, h3, h⟩ := sb_inr h
  obtain ⟨f, h4, h⟩ := sb_inr h
  have b1 := sNum_inr h1
  have b2 := sNum_inr h2
  have b3 := sNum_inr h3
  have b4 := sNum_inr h4
  have e1 := eN_b hQ
  have s1 := sT_b hQ
  have e2 := eN_b e1.2.1
  have s2 := sT_b e1.2.1
  have e3 := eN_b e2.2.1
  have s3 := sT_b e2.2.1
  have e4 := eN_b e3.2.1
  have s4 := sT_b e3.2.1
  obtain ⟨u, -, h⟩ := sb_inr h
  obtain ⟨x, h5, h⟩ := sb_inr h
  obtain ⟨g1, g2, g3, g4⟩ := sRef_ok (h0 := σ 17 0) 6 0 (σ 17 0) _ x h5 e4.2.1 (by decide) (fun n hn => ⟨fun z => ⟨z, Nat.pow_pos (by decide)⟩, fun z => z.1⟩)
  have e5 := eN_b g4
  have s5 := sT_b g4
  have := sFin_inr h
  subst this
  exact ⟨SI_addO hI hl b1.2 b2.2 b3.2 b4.2 g1 g2, by show Q ≤ eN K _; omega, by show eN K _ ≤ K.1; omega⟩
theorem sWant_ok {K : Tp} {σ : Rho} {Q : Nat} {y : Rho × Nat} (h : sWant K σ Q = .inr y) (hI : SI σ) (hQ : Q ≤ K.1) : SI y.1 ∧ Q ≤ y.2 ∧ y.2 ≤ K.1 := by
  obtain ⟨q, h1, h⟩ := sb_inr h
  obtain ⟨c, h2, h⟩ := sb_inr h
  have b1 := sNum_inr h1
  have b2 := sNum_inr h2
  have e1 := eN_b hQ
  have s1 := sT_b hQ
  have e2 := eN_b e1.2.1
  have s2 := sT_b e1.2.1
  have e3 := eN_b e2.2.1
  have s3 := sT_b e2.2.1
  obtain ⟨-, h⟩ := ite_inr h
  obtain ⟨u, -, h⟩ := sb_inr h
  have := sFin_inr h
  subst this
  exact ⟨SI_addW hI b1.2 b2.2, by show Q ≤ eN K _; omega, by show eN K _ ≤ K.1; omega⟩
theorem sWatch_ok {K : Tp} {σ : Rho} {Q : Nat} {y : Rho × Nat} (h : sWatch K σ Q = .inr y) (hI : SI σ) (hQ : Q ≤ K.1) : SI y.1 ∧ Q ≤ y.2 ∧ y.2 ≤ K.1 := by
  obtain ⟨c, h2, h⟩ := sb_inr h
  have b2 := sNum_inr h2
  have e1 := eN_b hQ
  have s1 := sT_b hQ
  have e2 := eN_b e1.2.1
  have s2 := sT_b e1.2.1
  obtain ⟨-, h⟩ := ite_inr h
  obtain ⟨u, -, h⟩ := sb_inr h
  have := sFin_inr h
  subst this
  exact ⟨SI_addH hI b2.2, by show Q ≤ eN K _; omega, by show eN K _ ≤ K.1; omega⟩
theorem isW_k {K : Tp} {P o : Nat} (h : isW K P o = true) : kD K P = 1 := by
  unfold isW at h
  split at h
  · next c => exact c.1
  · cases h
theorem sLine_ok {K : Tp} {σ : Rho} {P : Nat} {y : Rho × Nat} (h : sLine K σ P = .inr y) (hI : SI σ) (hP : P ≤ K.1) : SI y.1 ∧ P < y.2 ∧ y.2 ≤ K.1 := by
  have he := eN_b hP
  have hs := sT_b hP
  unfold sLine at h
  split at h
  · next c =>
    have k := isW_k c
    have := he.2.2 (by omega) (by omega)
    split at h
    · next g =>
      have := sLaw_ok h hI g he.2.1
      exact ⟨this.1, by omega, this.2.2⟩
    · cases h
  · split at h
    · next c =>
      have k := isW_k c
      have := he.2.2 (by omega) (by omega)
      split at h
      · next g =>
        have := sOne_ok h hI g he.2.1
        exact ⟨this.1, by omega, this.2.2⟩
      · cases h
    · split at h
      · next c =>
        have k := isW_k c
        have := he.2.2 (by omega) (by omega)
        have := sWant_ok h hI he.2.1
        exact ⟨this.1, by omega, this.2.2⟩
      · split at h
        · next c =>
          have k := isW_k c
          have := he.2.2 (by omega) (by omega)
          have := sWatch_ok h hI he.2.1
          exact ⟨this.1, by omega, this.2.2⟩
        · cases h
