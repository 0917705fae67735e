theorem part_I : ∀ n, n ≤ 5 → ∀ x, x < 32 → (nI x &&& ((((1 : Int32) <<< (nI n &&& 31)) - (1 : Int32)) ^^^ ((-1) : Int32)) = 0 ↔ x < 2 ^ n) := by decide +kernel
theorem Q_isPart {x n : Nat} (hx : x < 32) (hn : n ≤ 5) (h : mH) : f_Q_isPart (nI x) (((1 : Int32) <<< (nI n &&& 31)) - (1 : Int32)) h = some (if x < 2 ^ n then 1 else 0, h) := by
  unfold f_Q_isPart f_Q_isPart_0
  rw [ite_iff (part_I n hn x hx)]
  split <;> rfl
def sLines (K : Tp) : Nat → Rho → Nat → Nat → Fa ⊕ (Rho × Nat)
  | 0, σ, _, c => .inr (σ, c)
  | n + 1, σ, P, c => if kD K P = 0 then .inr (σ, c) else sb (sLine K σ P) fun x => sb (tokX K x.2) fun _ => sLines K n x.1 x.2 (c + 1)
def sEnd (K : Tp) (x : Rho × Nat) : Fa ⊕ (Rho × Nat) := if x.1 17 0 ≤ x.1 0 0 ∧ x.1 17 1 ≤ x.1 0 1 then .inr x else .inl (6, K.1)
def sText (K : Tp) : Fa ⊕ (Rho × Nat) := sb (tokX K 0) fun _ => sb (sLines K 160 (fun _ _ => 0) 0 0) fun x => sEnd K x
def fin (σ : Rho) : Rho := up2 σ 0 4 (2 ^ σ 0 0 - 1)
theorem SI_0 : SI (fun _ _ => 0) := by
  refine ⟨by decide, fun l hl => absurd hl (Nat.not_lt_zero _), fun p hp => absurd hp (Nat.not_lt_zero _), fun p hp => ⟨show 0 < 32 by decide, show 0 < 32 by decide, fun _ => rfl⟩, fun _ => rfl, fun n hn => ⟨fun _ => ⟨Nat.pow_pos (by decide), fun l hl => absurd hl (Nat.not_lt_zero _), fun p hp => ⟨Nat.pow_pos (by decide), Nat.pow_pos (by decide)⟩⟩, fun _ => Nat.zero_le _⟩, fun n hn => ⟨fun _ p hp z => absurd rfl z, fun _ => Nat.zero_le _⟩⟩
theorem ROK_fin {σ : Rho} (hI : SI σ) (h1 : σ 17 0 ≤ σ 0 0) (h2 : σ 17 1 ≤ σ 0 1) : ROK (fin σ) := by
  obtain ⟨⟨a1, a2, a3, a4, a5, a6, a7, a8⟩, b, c', d, e, g, k⟩ := hI
  obtain ⟨g1, g2, g3⟩ := (g _ a1).mp h1
  have pw : 0 < 2 ^ σ 0 0 := Nat.pow_pos (by decide)
  unfold ROK fin
  simp [up2_ap]
  refine ⟨⟨a1, a2, by omega, by omega, by omega, g1, by omega⟩, fun l hl => ?_, fun p hp => ?_, fun p l hp hl => by rw [e]; omega, fun i hi => by omega⟩
  · have := b l hl
    have := g2 l hl
    omega
  · have := c' p hp
    have q := g3 p (by omega)
    refine ⟨by omega, by omega, by omega, by omega, q.1, q.2, ?_⟩
    rw [sumN_congr (g := fun _ => 0) (fun i _ => e _), sumN_0]
    omega
section
variable {K : Tp} {σ : Rho} {v : Nat → Nat → Int32} {w : Nat → Nat → Int64} {P : Nat}
theorem CR_fin (hs : CS σ v) (hI : SI σ) : CR 20 (fin σ) v := by
  obtain ⟨⟨b1, b2, b3, b4, b5, b6, b7⟩, bb, bc, bd, be⟩ := hs
  obtain ⟨⟨a1, a2, a3, a4, a5, a6, a7, a8⟩, b, c', d, e, g, k⟩ := hI
  unfold CR fin
  simp [up2_ap, a3, a4, a6, b1, b2, b3, b4, b5, b6, b7]
  refine ⟨rfl, bb, fun p hp => ?_, fun p l hp hl => ?_⟩
  · have x := bc p hp
    have y := bd p (by omega)
    exact ⟨x.1, x.2.1, x.2.2.1, x.2.2.2, y.1, y.2⟩
  · rw [be _ (by omega), e]; rfl
theorem S_hasOne (hs : CS σ v) (hI : SI σ) {p : Nat} (hp : p < 3) : f_Realm_hasOne 20 (nI p) (bh v w) = some (if p < σ 0 1 then 1 else 0, bh v w) := by
  have a2 := hI.1.2.1
  unfold f_Realm_hasOne f_Realm_hasOne_0 f_Realm_hasOne_16
  rw [if_neg (nI_pos (by omega))]
  simp only [hU0, bd1_q]
  rw [hs.1.2.1, ite_iff (nI_leI (by omega) (by omega))]
  by_cases c : p < σ 0 1
  · rw [if_neg (by omega), if_pos c]
  · rw [if_pos (by omega), if_neg c]
theorem S_hasLaw (hs : CS σ v) (hI : SI σ) {m : Nat} (hm : m < 5) : f_Realm_hasLaw 20 (nI m) (bh v w) = some (if m < σ 0 0 then 1 else 0, bh v w) := by
  have a1 := hI.1.1
  unfold f_Realm_hasLaw f_Realm_hasLaw_0 f_Realm_hasLaw_16
  rw [if_neg (nI_pos (by omega))]
  simp only [hU0, bd1_q]
  rw [hs.1.1, ite_iff (nI_leI (by omega) (by omega))]
  by_cases c : m < σ 0 0
  · rw [if_neg (by omega), if_pos c]
  · rw [if_pos (by omega), if_neg c]
theorem C_allThere (hs : CS σ v) (hI : SI σ) : ∃ r, f_Reader_allThere 20 (bh v w) = some (r, bh v w) ∧ (r = 1 ∧ (σ 17 0 ≤ σ 0 0 ∧ σ 17 1 ≤ σ 0 1) ∨ r = 0 ∧ ¬ (σ 17 0 ≤ σ 0 0 ∧ σ 17 1 ≤ σ 0 1)) := by
  have hI' := hI
  obtain ⟨⟨a1, a2, a3, a4, a5, a6, a7, a8⟩, b, c', d, e, g, k⟩ := hI'
  have k66 : ∀ (n fuel p : Nat), n < fuel → p + n = 3 → ∃ r, f_Reader_allThere_66 fuel 20 (((1 : Int32) <<< (nI (σ 0 0) &&& 31)) - (1 : Int32)) (nI p) (bh v w) = some (r, bh v w) ∧ (r = 1 ∧ (∀ j, p ≤ j → j < 3 → (σ 0 1 ≤ j → σ 11 j = 0) ∧ σ 10 j ||| σ 11 j < 2 ^ σ 0 0) ∨ r = 0 ∧ ¬ ∀ j, p ≤ j → j < 3 → (σ 0 1 ≤ j → σ 11 j = 0) ∧ σ 10 j ||| σ 11 j < 2 ^ σ 0 0) := by
    intro n
    induction n with
    | zero =>
      intro fuel p hf hp
      obtain ⟨m, rfl⟩ : ∃ m, fuel = m + 1 := ⟨fuel - 1, by omega⟩
      show ∃ r, f_Reader_allThere_66b (f_Reader_allThere_66 m) 20 _ (nI p) (bh v w) = some (r, bh v w) ∧ _
      unfold f_Reader_allThere_66b
      rw [show (3 : Int32) = nI 3 from rfl, if_pos ((nI_leI (by omega) (by omega)).mpr (by omega))]
      exact ⟨1, rfl, Or.inl ⟨rfl, fun j h1 h2 => by omega⟩⟩
    | succ n ih =>
      intro fuel p hf hp
      obtain ⟨m, rfl⟩ : ∃ m, fuel = m + 1 := ⟨fuel - 1, by omega⟩
      have dp := d p (by omega)
      have sp := hs.2.2.2.1 p (by omega)
      obtain ⟨r, er, hr⟩ := ih m (p + 1) (by omega) (by omega)
      have f93 : (σ 0 1 ≤ p → σ 11 p = 0) → ∃ r, f_Reader_allThere_93 (f_Reader_allThere_66 m) 20 (((1 : Int32) <<< (nI (σ 0 0) &&& 31)) - (1 : Int32)) (nI p) 0 (bh v w) = some (r, bh v w) ∧ (r = 1 ∧ (∀ j, p ≤ j → j < 3 → (σ 0 1 ≤ j → σ 11 j = 0) ∧ σ 10 j ||| σ 11 j < 2 ^ σ 0 0) ∨ r = 0 ∧ ¬ ∀ j, p ≤ j → j < 3 → (σ 0 1 ≤ j → σ 11 j = 0) ∧ σ 10 j ||| σ 11 j < 2 ^ σ 0 0) := by
        intro hw
        unfold f_Reader_allThere_93 f_Reader_allThere_118
        rw [if_pos rfl]
        simp only [hU0, bd1_q]
        rw [rd_nI (by omega) (by decide), bd1_s, rd_nI (by omega) (by decide), bd1_s, sp.1, sp.2, or_I, Q_isPart (or_lt _ dp.1 _ dp.2.1) a1, bd2_s, nI_1, er]
        by_cases c : σ 10 p ||| σ 11 p < 2 ^ σ 0 0
        · rw [if_pos c, if_neg (by decide)]
          refine ⟨r, rfl, ?_⟩
          rcases hr with ⟨h1, h2⟩ | ⟨h1, h2⟩
          · refine Or.inl ⟨h1, fun j q1 q2 => ?_⟩
            by_cases z : j = p
            · rw [z]; exact ⟨hw, c⟩
            · exact h2 j (by omega) q2
          · exact Or.inr ⟨h1, fun z => h2 (fun j q1 q2 => z j (by omega) q2)⟩
        · rw [if_neg c, if_pos rfl]
          exact ⟨0, rfl, Or.inr ⟨rfl, fun z => c (z p (Nat.le_refl _) (by omega)).2⟩⟩
      show ∃ r, f_Reader_allThere_66b (f_Reader_allThere_66 m) 20 _ (nI p) (bh v w) = some (r, bh v w) ∧ _
      unfold f_Reader_allThere_66b f_Reader_allThere_92
      rw [show (3 : Int32) = nI 3 from rfl, if_neg (fun z => by have := (nI_leI (by omega) (by omega)).mp z; omega)]
      simp only [hU0, bd1_q]
      rw [S_hasOne hs hI (by omega), bd2_s]
      by_cases c : p < σ 0 1
      · rw [if_pos c, if_neg (by decide)]
        exact f93 (fun z => by omega)
      · rw [if_neg c, if_pos rfl]
        simp only [hU0, bd1_q]
        rw [rd_nI (by omega) (by decide), bd1_s, sp.2, ite_iff (nI_eq0 (by omega))]
        by_cases z : σ 11 p = 0
        · rw [if_pos z]
          exact f93 (fun _ => z)
        · rw [if_neg z]
          unfold f_Reader_allThere_93 f_Reader_allThere_118
          rw [if_neg (by decide)]
          exact ⟨0, rfl, Or.inr ⟨rfl, fun q => z ((q p (Nat.le_refl _) (by omega)).1 (by omega))⟩⟩
  have k24 : ∀ (n fuel l : Nat), n < fuel → l + n = σ 0 0 → ∃ r, f_Reader_allThere_24 fuel 20 (((1 : Int32) <<< (nI (σ 0 0) &&& 31)) - (1 : Int32)) (nI l) (bh v w) = some (r, bh v w) ∧ (r = 1 ∧ ((∀ j, l ≤ j → j < σ 0 0 → σ 5 j ≤ σ 0 0) ∧ ∀ j, 0 ≤ j → j < 3 → (σ 0 1 ≤ j → σ 11 j = 0) ∧ σ 10 j ||| σ 11 j < 2 ^ σ 0 0) ∨ r = 0 ∧ ¬ ((∀ j, l ≤ j → j < σ 0 0 → σ 5 j ≤ σ 0 0) ∧ ∀ j, 0 ≤ j → j < 3 → (σ 0 1 ≤ j → σ 11 j = 0) ∧ σ 10 j ||| σ 11 j < 2 ^ σ 0 0)) := by
    intro n
    induction n with
    | zero =>
      intro fuel l hf hl
      obtain ⟨m, rfl⟩ : ∃ m, fuel = m + 1 := ⟨fuel - 1, by omega⟩
      obtain ⟨r, er, hr⟩ := k66 3 FU 0 (by decide) (by decide)
      refine ⟨r, ?_, ?_⟩
      · show f_Reader_allThere_24b (f_Reader_allThere_24 m) 20 _ (nI l) (bh v w) = _
        unfold f_Reader_allThere_24b
        simp only [hU0, bd1_q]
        rw [hs.1.1, if_pos ((nI_leI (by omega) (by omega)).mpr (by omega))]
        exact er
      · rcases hr with ⟨h1, h2⟩ | ⟨h1, h2⟩
        · exact Or.inl ⟨h1, fun j q1 q2 => by omega, h2⟩
        · exact Or.inr ⟨h1, fun z => h2 z.2⟩
    | succ n ih =>
      intro fuel l hf hl
      obtain ⟨m, rfl⟩ : ∃ m, fuel = m + 1 := ⟨fuel - 1, by omega⟩
      obtain ⟨r, er, hr⟩ := ih m (l + 1) (by omega) (by omega)
      have bl := b l (by omega)
      have sl := (hs.2.1 l (by omega)).2.2.2.2
      have go : σ 5 l ≤ σ 0 0 → (r = 1 ∧ ((∀ j, l ≤ j → j < σ 0 0 → σ 5 j ≤ σ 0 0) ∧ ∀ j, 0 ≤ j → j < 3 → (σ 0 1 ≤ j → σ 11 j = 0) ∧ σ 10 j ||| σ 11 j < 2 ^ σ 0 0) ∨ r = 0 ∧ ¬ ((∀ j, l ≤ j → j < σ 0 0 → σ 5 j ≤ σ 0 0) ∧ ∀ j, 0 ≤ j → j < 3 → (σ 0 1 ≤ j → σ 11 j = 0) ∧ σ 10 j ||| σ 11 j < 2 ^ σ 0 0)) := by
        intro h5
        rcases hr with ⟨h1, h2⟩ | ⟨h1, h2⟩
        · refine Or.inl ⟨h1, fun j q1 q2 => ?_, h2.2⟩
          by_cases z : j = l
          · rw [z]; exact h5
          · exact h2.1 j (by omega) q2
        · exact Or.inr ⟨h1, fun z => h2 ⟨fun j q1 q2 => z.1 j (by omega) q2, z.2⟩⟩
      show ∃ r, f_Reader_allThere_24b (f_Reader_allThere_24 m) 20 _ (nI l) (bh v w) = some (r, bh v w) ∧ _
      unfold f_Reader_allThere_24b f_Reader_allThere_58
      simp only [hU0, bd1_q]
      rw [hs.1.1, if_neg (fun z => by have := (nI_leI (by omega) (by omega)).mp z; omega), rd_nI (by omega) (by decide), bd1_s, bd1_s, sl, nI_1, er]
      rcases h5 : σ 5 l with _ | m5
      · rw [if_pos (show cI 0 = -4 from rfl)]
        exact ⟨r, rfl, go (by omega)⟩
      · rw [if_neg (show ¬ cI (m5 + 1) = -4 from fun z => by
          have z2 : nI m5 = -4 := z
          have := congrArg Int32.toInt z2
          rw [nI_toInt (by omega)] at this
          have q : (-4 : Int32).toInt = -4 := by decide
          omega), show cI (m5 + 1) = nI m5 from rfl, S_hasLaw hs hI (by omega), bd2_s]
        by_cases c : m5 < σ 0 0
        · rw [if_pos c, if_neg (by decide)]
          exact ⟨r, er, go (by omega)⟩
        · rw [if_neg c, if_pos rfl]
          exact ⟨0, rfl, Or.inr ⟨rfl, fun z => by have := z.1 l (Nat.le_refl _) (by omega); omega⟩⟩
  have iff1 : (σ 17 0 ≤ σ 0 0 ∧ σ 17 1 ≤ σ 0 1) ↔ σ 0 5 < 2 ^ σ 0 0 ∧ (∀ j, 0 ≤ j → j < σ 0 0 → σ 5 j ≤ σ 0 0) ∧ ∀ j, 0 ≤ j → j < 3 → (σ 0 1 ≤ j → σ 11 j = 0) ∧ σ 10 j ||| σ 11 j < 2 ^ σ 0 0 := by
    rw [g _ a1, k _ a2]
    constructor
    · rintro ⟨⟨x1, x2, x3⟩, x4⟩
      refine ⟨x1, fun j _ q => x2 j q, fun j _ q => ⟨fun z => ?_, (or_2_lt _ (d j q).1 _ (d j q).2.1 _ a1).mpr (x3 j q)⟩⟩
      rcases Nat.eq_zero_or_pos (σ 11 j) with y | y
      · exact y
      · have := x4 j q (by omega)
        omega
    · rintro ⟨x1, x2, x3⟩
      refine ⟨⟨x1, fun l q => x2 l (Nat.zero_le _) q, fun p q => (or_2_lt _ (d p q).1 _ (d p q).2.1 _ a1).mp (x3 p (Nat.zero_le _) q).2⟩, fun p q z => ?_⟩
      rcases Nat.lt_or_ge p (σ 0 1) with y | y
      · exact y
      · exact absurd ((x3 p (Nat.zero_le _) q).1 y) z
  unfold f_Reader_allThere f_Reader_allThere_0
  simp only [hU0, bd1_q]
  rw [hs.1.1, hs.1.2.2.2.2.2.1, Q_isPart a5 a1, bd2_s]
  by_cases c : σ 0 5 < 2 ^ σ 0 0
  · rw [if_pos c, if_neg (by decide)]
    obtain ⟨r, er, hr⟩ := k24 (σ 0 0) FU 0 (by unfold FU; omega) (by omega)
    refine ⟨r, er, ?_⟩
    rcases hr with ⟨h1, h2⟩ | ⟨h1, h2⟩
    · exact Or.inl ⟨h1, iff1.mpr ⟨c, h2⟩⟩
    · exact Or.inr ⟨h1, fun z => h2 (iff1.mp z).2⟩
  · rw [if_neg c, if_pos rfl]
    exact ⟨0, rfl, Or.inr ⟨rfl, fun z => c (iff1.mp z).1⟩⟩
end
