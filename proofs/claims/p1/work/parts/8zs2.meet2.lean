/-! a rota there is where no part needs more than can be given -/
theorem rMin_ne {f : Nat → Nat → Nat} : ∀ t, rMin f t ≠ FAR ↔ ∃ i, i < t ∧ f (i / 4) (i % 4) < FAR
  | 0 => ⟨fun h => (h rfl).elim, fun ⟨i, h, _⟩ => (Nat.not_lt_zero i h).elim⟩
  | t + 1 => by
    have ih := rMin_ne (f := f) t
    have le := rMin_le f t
    have e : rMin f (t + 1) = if f (t / 4) (t % 4) < rMin f t then f (t / 4) (t % 4) else rMin f t := rfl
    rw [e]
    constructor
    · intro h
      by_cases c : f (t / 4) (t % 4) < rMin f t
      · exact ⟨t, Nat.lt_succ_self t, Nat.lt_of_lt_of_le c le⟩
      · rw [if_neg c] at h
        obtain ⟨i, h1, h2⟩ := ih.mp h
        exact ⟨i, Nat.lt_succ_of_lt h1, h2⟩
    · rintro ⟨i, h1, h2⟩
      by_cases c : f (t / 4) (t % 4) < rMin f t
      · rw [if_pos c]
        exact Nat.ne_of_lt (Nat.lt_of_lt_of_le c le)
      · rw [if_neg c]
        by_cases z : i = t
        · rw [z] at h2
          exact Nat.ne_of_lt (Nat.lt_of_le_of_lt (Nat.le_of_not_lt c) h2)
        · exact ih.mpr ⟨i, by omega, h2⟩
def hNd (ρ : Rho) (s i : Nat) : Nat := rN ρ s (ρ 0 0 - (i + 1))
def hRm (ρ : Rho) (p i : Nat) : Nat := rR ρ p (ρ 0 0 - (i + 1))
section
variable {ρ : Rho}
theorem rOpt_lt (hk : ROK ρ) {s k a b c x y : Nat} (h : k < ρ 0 0) (hx : x ≤ 3) (hy : y ≤ 3) : rOpt ρ s (rBst ρ s k) (ρ 0 0 - (k + 1)) a b c x y < FAR ↔ ∃ z, x + y + z = hNd ρ s k ∧ z ≤ 3 ∧ (x ≤ a ∧ y ≤ b ∧ z ≤ c) ∧ (x ≤ hRm ρ 0 k ∧ y ≤ hRm ρ 1 k ∧ z ≤ hRm ρ 2 k) ∧ rBst ρ s k (a - x) (b - y) (c - z) ≠ FAR := by
  have h5 := hk.1.1
  have eF : FAR = 1000000 := rfl
  unfold rOpt hNd hRm
  constructor
  · intro q
    by_cases d : x + y ≤ rN ρ s (ρ 0 0 - (k + 1)) ∧ rN ρ s (ρ 0 0 - (k + 1)) - x - y ≤ 3
    · rw [if_pos d] at q
      unfold rVal at q
      by_cases g : x ≤ a ∧ y ≤ b ∧ rN ρ s (ρ 0 0 - (k + 1)) - x - y ≤ c ∧ x ≤ rR ρ 0 (ρ 0 0 - (k + 1)) ∧ y ≤ rR ρ 1 (ρ 0 0 - (k + 1)) ∧ rN ρ s (ρ 0 0 - (k + 1)) - x - y ≤ rR ρ 2 (ρ 0 0 - (k + 1)) ∧ rBst ρ s k (a - x) (b - y) (c - (rN ρ s (ρ 0 0 - (k + 1)) - x - y)) < FAR
      · exact ⟨rN ρ s (ρ 0 0 - (k + 1)) - x - y, by omega, d.2, ⟨g.1, g.2.1, g.2.2.1⟩, ⟨g.2.2.2.1, g.2.2.2.2.1, g.2.2.2.2.2.1⟩, Nat.ne_of_lt g.2.2.2.2.2.2⟩
      · rw [if_neg g] at q
        exact (Nat.lt_irrefl _ q).elim
    · rw [if_neg d] at q
      exact (Nat.lt_irrefl _ q).elim
  · rintro ⟨z, h1, h2, h3, h4, h6⟩
    have ez : rN ρ s (ρ 0 0 - (k + 1)) - x - y = z := by omega
    have lt : rBst ρ s k (a - x) (b - y) (c - z) < FAR := Nat.lt_of_le_of_ne (rBst_le ρ s k _ _ _) h6
    rw [if_pos ⟨by omega, by omega⟩, ez]
    unfold rVal
    rw [if_pos ⟨h3.1, h3.2.1, h3.2.2, h4.1, h4.2.1, h4.2.2, lt⟩]
    have c1 := rCost_le hk (l := ρ 0 0 - (k + 1)) (x := x) (y := y) (z := z) (by omega) hx hy h2
    have c2 := rBst_or hk s k (a - x) (b - y) (c - z) (by omega)
    omega
theorem rBst_gP (hk : ROK ρ) (s : Nat) : ∀ k a b c, k ≤ ρ 0 0 → (rBst ρ s k a b c ≠ FAR ↔ gP (hNd ρ s) (hRm ρ) k a b c)
  | 0, a, b, c, _ => ⟨fun _ T => Nat.zero_le _, fun _ => by show (0 : Nat) ≠ FAR; decide⟩
  | k + 1, a, b, c, h => by
    have ih := fun a b c => rBst_gP hk s k a b c (by omega)
    rw [gP_step]
    show rMin (rOpt ρ s (rBst ρ s k) (ρ 0 0 - (k + 1)) a b c) 16 ≠ FAR ↔ _
    rw [rMin_ne]
    constructor
    · rintro ⟨i, h1, h2⟩
      obtain ⟨z, g1, g2, g3, g4, g5⟩ := (rOpt_lt hk (by omega) (by omega) (by omega)).mp h2
      exact ⟨i / 4, i % 4, z, g1, g3.1, g3.2.1, g3.2.2, g4.1, g4.2.1, g4.2.2, (ih _ _ _).mp g5⟩
    · rintro ⟨x, y, z, g1, g2, g3, g4, g5, g6, g7, g8⟩
      have x3 : x ≤ 3 := Nat.le_trans g5 (rR_le hk (by omega))
      have y3 : y ≤ 3 := Nat.le_trans g6 (rR_le hk (by omega))
      have z3 : z ≤ 3 := Nat.le_trans g7 (rR_le hk (by omega))
      refine ⟨4 * x + y, by omega, ?_⟩
      rw [show (4 * x + y) / 4 = x by omega, show (4 * x + y) % 4 = y by omega]
      exact (rOpt_lt hk (by omega) x3 y3).mpr ⟨z, g1, z3, ⟨g2, g3, g4⟩, ⟨g5, g6, g7⟩, (ih _ _ _).mpr g8⟩
/-- a sum from its end -/
theorem sumN_rev (g : Nat → Nat) : ∀ n, sumN (fun i => g (n - (i + 1))) n = sumN g n
  | 0 => rfl
  | n + 1 => by
    have e := sumN_sh (f := fun i => g (n + 1 - (i + 1))) 1 n
    have e1 : sumN (fun i => g (n + 1 - (i + 1))) 1 = g n := by
      show 0 + g (n + 1 - (0 + 1)) = g n
      rw [Nat.zero_add, show n + 1 - (0 + 1) = n by omega]
    have e2 : sumN (fun i => g (n + 1 - (1 + i + 1))) n = sumN g n := (sumN_congr (fun i _ => by
      show g (n + 1 - (1 + i + 1)) = g (n - (i + 1))
      rw [show n + 1 - (1 + i + 1) = n - (i + 1) by omega])).trans (sumN_rev g n)
    have e3 : sumN g (n + 1) = sumN g n + g n := rfl
    have e4 : sumN (fun i => g (n + 1 - (1 + i + 1))) n = sumN (fun i => (fun i => g (n + 1 - (i + 1))) (1 + i)) n := rfl
    rw [Nat.add_comm 1 n] at e
    omega
theorem sP_rev (T : Nat → Bool) (f : Nat → Nat) (L : Nat) : sP T (fun i => f (L - (i + 1))) L = sumN (fun l => if T (L - (l + 1)) = true then f l else 0) L := by
  refine Eq.trans ?_ (sumN_rev (fun l => if T (L - (l + 1)) = true then f l else 0) L)
  refine sumN_congr (fun i hi => ?_)
  show (if T i = true then f (L - (i + 1)) else 0) = (if T (L - (L - (i + 1) + 1)) = true then f (L - (i + 1)) else 0)
  rw [show L - (L - (i + 1) + 1) = i by omega]
theorem mask5 (B : Nat → Bool) : ∃ t, t < 32 ∧ ∀ l, l < 5 → (bit t l = 1 ↔ B l = true) := by
  have key : ∀ b0 b1 b2 b3 b4 : Bool, b0.toNat + 2 * b1.toNat + 4 * b2.toNat + 8 * b3.toNat + 16 * b4.toNat < 32 ∧ (bit (b0.toNat + 2 * b1.toNat + 4 * b2.toNat + 8 * b3.toNat + 16 * b4.toNat) 0 = 1 ↔ b0 = true) ∧ (bit (b0.toNat + 2 * b1.toNat + 4 * b2.toNat + 8 * b3.toNat + 16 * b4.toNat) 1 = 1 ↔ b1 = true) ∧ (bit (b0.toNat + 2 * b1.toNat + 4 * b2.toNat + 8 * b3.toNat + 16 * b4.toNat) 2 = 1 ↔ b2 = true) ∧ (bit (b0.toNat + 2 * b1.toNat + 4 * b2.toNat + 8 * b3.toNat + 16 * b4.toNat) 3 = 1 ↔ b3 = true) ∧ (bit (b0.toNat + 2 * b1.toNat + 4 * b2.toNat + 8 * b3.toNat + 16 * b4.toNat) 4 = 1 ↔ b4 = true) := by
    intro b0 b1 b2 b3 b4
    cases b0 <;> cases b1 <;> cases b2 <;> cases b3 <;> cases b4 <;> decide
  obtain ⟨h, h0, h1, h2, h3, h4⟩ := key (B 0) (B 1) (B 2) (B 3) (B 4)
  refine ⟨_, h, fun l hl => ?_⟩
  match l, hl with
  | 0, _ => exact h0
  | 1, _ => exact h1
  | 2, _ => exact h2
  | 3, _ => exact h3
  | 4, _ => exact h4
theorem partI : ∀ t, t < 32 → ∀ s, s < 32 → (t &&& (31 - s) = 0 ↔ ∀ l, l < 5 → bit t l = 1 → bit s l = 1) := by decide +kernel
theorem partLe : ∀ t, t < 32 → ∀ s, s < 32 → t &&& (31 - s) = 0 → t ≤ s := by decide +kernel
theorem bit0 (l : Nat) : bit 0 l = 0 := by
  unfold bit
  rw [Nat.zero_div]
theorem gA_eq (L : Nat) (rm : Nat → Nat → Nat) (lf : Nat → Nat) (t : Nat) : gA L rm lf t = mn (lf 0) (oA L rm t 0) + mn (lf 1) (oA L rm t 1) + mn (lf 2) (oA L rm t 2) := by
  show 0 + (if lf 0 < oA L rm t 0 then lf 0 else oA L rm t 0) + (if lf 1 < oA L rm t 1 then lf 1 else oA L rm t 1) + (if lf 2 < oA L rm t 2 then lf 2 else oA L rm t 2) = _
  rw [mn_if, mn_if, mn_if, Nat.zero_add]
theorem cM_gP (hk : ROK ρ) {s : Nat} (hs : s < 32) (lf : Nat → Nat) : cM (ρ 0 0) (sNeed ρ) (rR ρ) lf s ↔ gP (hNd ρ s) (hRm ρ) (ρ 0 0) (lf 0) (lf 1) (lf 2) := by
  have h5 := hk.1.1
  constructor
  · intro h T
    obtain ⟨t, t32, ht⟩ := mask5 (fun l => T (ρ 0 0 - (l + 1)) && decide (bit s l = 1))
    have ht : ∀ l, l < 5 → (bit t l = 1 ↔ T (ρ 0 0 - (l + 1)) = true ∧ bit s l = 1) := fun l hl => (ht l hl).trans (by
      show (T (ρ 0 0 - (l + 1)) && decide (bit s l = 1)) = true ↔ _
      rw [Bool.and_eq_true, decide_eq_true_iff])
    have eN : sP T (hNd ρ s) (ρ 0 0) = nA (ρ 0 0) (sNeed ρ) t := by
      refine (sP_rev T (rN ρ s) (ρ 0 0)).trans (sumN_congr (fun l hl => ?_))
      show (if T (ρ 0 0 - (l + 1)) = true then rN ρ s l else 0) = (if bit t l = 1 then sNeed ρ l else 0)
      have q := ht l (by omega)
      unfold rN
      by_cases c1 : T (ρ 0 0 - (l + 1)) = true
      · by_cases c2 : bit s l = 1
        · rw [if_pos c1, if_pos c2, if_pos (q.mpr ⟨c1, c2⟩)]
        · rw [if_pos c1, if_neg c2, if_neg (fun z => c2 (q.mp z).2)]
      · rw [if_neg c1, if_neg (fun z => c1 (q.mp z).1)]
    have eR : ∀ p, oA (ρ 0 0) (rR ρ) t p ≤ sP T (hRm ρ p) (ρ 0 0) := fun p => by
      rw [show sP T (hRm ρ p) (ρ 0 0) = _ from sP_rev T (rR ρ p) (ρ 0 0)]
      refine sumN_le (fun l hl => ?_)
      show (if bit t l = 1 then rR ρ p l else 0) ≤ (if T (ρ 0 0 - (l + 1)) = true then rR ρ p l else 0)
      by_cases c : bit t l = 1
      · rw [if_pos c, if_pos ((ht l (by omega)).mp c).1]
        exact Nat.le_refl _
      · rw [if_neg c]
        exact Nat.zero_le _
    rw [eN]
    by_cases z : t = 0
    · have : nA (ρ 0 0) (sNeed ρ) t ≤ 0 * ρ 0 0 := sumN_c (fun l _ => by
        show (if bit t l = 1 then sNeed ρ l else 0) ≤ 0
        rw [z, bit0, if_neg (by decide)]
        exact Nat.le_refl _)
      omega
    · have sub : t &&& (31 - s) = 0 := (partI t t32 s hs).mpr (fun l hl b => ((ht l hl).mp b).2)
      have g := h t (by omega) (partLe t t32 s hs sub) sub
      rw [gA_eq] at g
      have m0 := mn_mono (Nat.le_refl (lf 0)) (eR 0)
      have m1 := mn_mono (Nat.le_refl (lf 1)) (eR 1)
      have m2 := mn_mono (Nat.le_refl (lf 2)) (eR 2)
      omega
  · intro h t h1 h2 h3
    have b := (partI t (by omega) s hs).mp h3
    have g := h (fun i => decide (bit t (ρ 0 0 - (i + 1)) = 1))
    have ix : ∀ l, l < ρ 0 0 → ρ 0 0 - (ρ 0 0 - (l + 1) + 1) = l := fun l hl => by omega
    have eN : sP (fun i => decide (bit t (ρ 0 0 - (i + 1)) = 1)) (hNd ρ s) (ρ 0 0) = nA (ρ 0 0) (sNeed ρ) t := by
      refine (sP_rev _ (rN ρ s) (ρ 0 0)).trans (sumN_congr (fun l hl => ?_))
      show (if decide (bit t (ρ 0 0 - (ρ 0 0 - (l + 1) + 1)) = 1) = true then rN ρ s l else 0) = (if bit t l = 1 then sNeed ρ l else 0)
      rw [ix l hl]
      unfold rN
      by_cases c : bit t l = 1
      · rw [if_pos (decide_eq_true c), if_pos c, if_pos (b l (by omega) c)]
      · rw [if_neg (fun z => c (of_decide_eq_true z)), if_neg c]
    have eR : ∀ p, sP (fun i => decide (bit t (ρ 0 0 - (i + 1)) = 1)) (hRm ρ p) (ρ 0 0) = oA (ρ 0 0) (rR ρ) t p := fun p => by
      refine (sP_rev _ (rR ρ p) (ρ 0 0)).trans (sumN_congr (fun l hl => ?_))
      show (if decide (bit t (ρ 0 0 - (ρ 0 0 - (l + 1) + 1)) = 1) = true then rR ρ p l else 0) = (if bit t l = 1 then rR ρ p l else 0)
      rw [ix l hl]
      by_cases c : bit t l = 1
      · rw [if_pos (decide_eq_true c), if_pos c]
      · rw [if_neg (fun z => c (of_decide_eq_true z)), if_neg c]
    rw [eN, eR, eR, eR] at g
    rw [gA_eq]
    exact g
/-- the class's test is the reference's -/
theorem cM_rBst (hk : ROK ρ) {s : Nat} (hs : s < 32) (lf : Nat → Nat) : cM (ρ 0 0) (sNeed ρ) (rR ρ) lf s ↔ rBst ρ s (ρ 0 0) (lf 0) (lf 1) (lf 2) ≠ FAR := (cM_gP hk hs lf).trans (rBst_gP hk s (ρ 0 0) _ _ _ (Nat.le_refl _)).symm
theorem mLst_one {P Q : Nat → Prop} {r r' : Int32} (h : mLst P r) (h' : mLst Q r') (e : ∀ e, e ≤ 9 → (P e ↔ Q e)) : r = r' := by
  rcases h with ⟨a, a9, ra, pa, na⟩ | ⟨ra, na⟩
  · rcases h' with ⟨b, b9, rb, pb, nb⟩ | ⟨rb, nb⟩
    · rcases Nat.lt_trichotomy a b with c | c | c
      · exact (nb a c ((e a a9).mp pa)).elim
      · rw [ra, rb, c]
      · exact (na b c ((e b b9).mpr pb)).elim
    · exact (nb a a9 ((e a a9).mp pa)).elim
  · rcases h' with ⟨b, b9, rb, pb, nb⟩ | ⟨rb, nb⟩
    · exact (na b b9 ((e b b9).mpr pb)).elim
    · rw [ra, rb]
theorem lfe_rL {p : Nat} (hp : p < ρ 0 1) (e q : Nat) : lfe ρ p e q = rL ρ (Tme ρ p e) q := by
  unfold lfe rL Tme
  by_cases z : q = p
  · rw [if_pos z, if_pos z, z, if_pos hp]
  · rw [if_neg z, if_neg z]
theorem moM_cM (hk : ROK ρ) {p : Nat} (hp : p < ρ 0 1) (e : Nat) : cM (ρ 0 0) (sNeed ρ) (rR ρ) (lfe ρ p e) (ρ 0 4) ↔ moM ρ p e := by
  rw [cM_rBst hk hk.st]
  unfold moM
  rw [lfe_rL hp, lfe_rL hp, lfe_rL hp]
end
section
variable {S : Sg} {v : Nat → Nat → Int32} {w : Nat → Nat → Int64}
theorem E_more (x : Int32) (hs : SOK S) (hc : CI S v) (hm : MI S v) : EqT S v w (f_Q_more 0 x) (f_M_more 100 x) := by
  have h2 := hs.1.1.2.1
  by_cases hp : 0 ≤ x.toInt ∧ x.toInt < (S.1 0 1 : Int)
  · obtain ⟨p, hp2, rfl⟩ := ix (by omega) hp
    obtain ⟨r, v1, e1, f1, a1, l1⟩ := C_more (w := w) hc.1 hs.1 hc.2.2.2.2.2.2.2 hp2
    obtain ⟨r', v2, e2, f2, l2⟩ := M_more (w := w) (hm.1.fr1 (fun q h => f1 q (by omega))) hs.1 hp2
    have e := mLst_one l1 l2 (fun e _ => moM_cM hs.1 hp2 e)
    rw [← e] at e2
    exact EqT.pl hs hc hm e1 (fun q h => f1 q (by omega)) a1 e2 (fun q h => f2 q (by omega))
  · refine EqT.q (r := -1) (v1 := v) (v2 := v) (w1 := w) (w2 := w) hs hc hm ?_ (fun _ _ => rfl) ?_ (fun _ _ => rfl)
    · unfold f_Q_more f_Q_more_0
      simp only [hP0, bd1_q]
      rw [C_hasOne rl3 hc.1 h2, bd2_s, if_neg hp, if_pos rfl]
    · unfold f_M_more f_M_more_0
      simp only [hN0, bd1_q]
      rw [M_isOne hm.1.1 h2, bd2_s, if_neg hp, if_pos rfl]
end
