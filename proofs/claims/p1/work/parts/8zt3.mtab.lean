/-! the reference's tables, exactly -/
def tW (q : Nat) (w : Nat → Nat → Int64) (W : Nat → Nat → Nat → Nat) : Prop := ∀ a b c, a < 6 → b < 6 → c < 6 → w q (36 * a + 6 * b + c) = nL (W a b c)
theorem tW.to {q : Nat} {w : Nat → Nat → Int64} {W W' : Nat → Nat → Nat → Nat} (h : tW q w W) (e : ∀ a b c, a < 6 → b < 6 → c < 6 → W a b c = W' a b c) : tW q w W' := fun a b c ha hb hc => by rw [h a b c ha hb hc, e a b c ha hb hc]
theorem S3_box {n m0 m1 m2 : Nat} (h0 : m0 < n) (h1 : m1 < n) (h2 : m2 < n) {f g : Nat → Nat → Nat → Nat} (hin : ∀ x y z, x ≤ m0 → y ≤ m1 → z ≤ m2 → f x y z = g x y z) (hout : ∀ x y z, ¬ (x ≤ m0 ∧ y ≤ m1 ∧ z ≤ m2) → f x y z = 0) : S3 n f = sumN (fun x => sumN (fun y => sumN (fun z => g x y z) (m2 + 1)) (m1 + 1)) (m0 + 1) := by
  unfold S3
  rw [sumN_cut (n := m0 + 1) (m := n) (by omega) (fun x a _ => sumN_none (fun y _ => sumN_none (fun z _ => hout x y z (by omega))))]
  refine sumN_congr (fun x hx => ?_)
  show sumN (fun y => sumN (fun z => f x y z) n) n = sumN (fun y => sumN (fun z => g x y z) (m2 + 1)) (m1 + 1)
  rw [sumN_cut (n := m1 + 1) (m := n) (by omega) (fun y a _ => sumN_none (fun z _ => hout x y z (by omega)))]
  refine sumN_congr (fun y hy => ?_)
  show sumN (fun z => f x y z) n = sumN (fun z => g x y z) (m2 + 1)
  rw [sumN_cut (n := m2 + 1) (m := n) (by omega) (fun z a _ => hout x y z (by omega))]
  exact sumN_congr (fun z hz => hin x y z (by omega) (by omega) (by omega))
def aT (x y z k : Nat) (A B : Nat → Nat → Nat → Nat) (a b c : Nat) : Nat := B a b c + if x ≤ a ∧ y ≤ b ∧ z ≤ c ∧ 36 * (a - x) + 6 * (b - y) + (c - z) < k then A (a - x) (b - y) (c - z) else 0
def bAs (b2 b3 b4 : Int32) (p l x : Nat) : Bool := decide (¬ nI p = b2) || decide (¬ nI l = b3) || decide (nI x = b4)
theorem M_isAskedX (a b c d e f : Int32) (h : mH) : f_M_isAsked 100 a b c d e f h = some (if (decide (¬ a = d) || decide (¬ b = e) || decide (c = f)) = true then 1 else 0, h) := by
  unfold f_M_isAsked f_M_isAsked_0 f_M_isAsked_18
  by_cases c1 : a = d
  · by_cases c2 : b = e
    · by_cases c3 : c = f
      · rw [if_pos c1, if_pos c2, if_pos c3, if_pos (by simp [c3])]
      · rw [if_pos c1, if_pos c2, if_neg c3, if_neg (by simp [c1, c2, c3])]
    · rw [if_pos c1, if_neg c2, if_pos (by simp [c2])]
  · rw [if_neg c1, if_pos (by simp [c1])]
section
variable {ρ : Rho} {v : Nat → Nat → Int32} {w : Nat → Nat → Int64} {A B : Nat → Nat → Nat → Nat}
theorem M_addsTablesX {x y z : Nat} (hx : x ≤ 3) (hy : y ≤ 3) (hz : z ≤ 3) (w : Nat → Nat → Int64) (hA : tW 121 w A) (hB : tW 122 w B) : ∃ w', f_M_addsTables 100 (nI x) (nI y) (nI z) (bh v w) = some (bh v w') ∧ tW 121 w' A ∧ tW 122 w' (fun a b c => B a b c + if x ≤ a ∧ y ≤ b ∧ z ≤ c then A (a - x) (b - y) (c - z) else 0) := by
  have key : ∀ (n fuel k : Nat) (w : Nat → Nat → Int64), n < fuel → k + n = 216 → tW 121 w A → tW 122 w (aT x y z k A B) → ∃ w', f_M_addsTables_3 fuel 100 (nI x) (nI y) (nI z) (nI k) (bh v w) = some (bh v w') ∧ tW 121 w' A ∧ tW 122 w' (aT x y z 216 A B) := by
    intro n
    induction n with
    | zero =>
      intro fuel k w hf hk hA hB
      obtain ⟨m, rfl⟩ : ∃ m, fuel = m + 1 := ⟨fuel - 1, by omega⟩
      refine ⟨w, ?_, hA, by rw [show (216 : Nat) = k by omega]; exact hB⟩
      show f_M_addsTables_3b (f_M_addsTables_3 m) 100 (nI x) (nI y) (nI z) (nI k) (bh v w) = some (bh v w)
      unfold f_M_addsTables_3b
      rw [show (216 : Int32) = nI 216 from rfl, if_pos ((nI_leI (by omega) (by omega)).mpr (by omega))]
    | succ n ih =>
      intro fuel k w hf hk hA hB
      obtain ⟨m, rfl⟩ : ∃ m, fuel = m + 1 := ⟨fuel - 1, by omega⟩
      obtain ⟨d1, d2, d3⟩ := div_I k (by omega)
      have b1 : k / 36 < 6 := by omega
      have b2 : k / 6 % 6 < 6 := by omega
      have b3 : k % 6 < 6 := by omega
      have ek : 36 * (k / 36) + 6 * (k / 6 % 6) + k % 6 = k := by omega
      have skip : ¬ (k / 36 + x < 6 ∧ k / 6 % 6 + y < 6 ∧ k % 6 + z < 6) → ∃ w', f_M_addsTables_3 m 100 (nI x) (nI y) (nI z) (nI (k + 1)) (bh v w) = some (bh v w') ∧ tW 121 w' A ∧ tW 122 w' (aT x y z 216 A B) := fun q => ih m (k + 1) w (by omega) (by omega) hA (hB.to (fun a b c ha hb hc => by
        unfold aT
        congr 1
        by_cases g : x ≤ a ∧ y ≤ b ∧ z ≤ c ∧ 36 * (a - x) + 6 * (b - y) + (c - z) < k
        · rw [if_pos g, if_pos ⟨g.1, g.2.1, g.2.2.1, by omega⟩]
        · rw [if_neg g, if_neg (fun r => by
            by_cases e : 36 * (a - x) + 6 * (b - y) + (c - z) = k
            · exact q ⟨by omega, by omega, by omega⟩
            · exact g ⟨r.1, r.2.1, r.2.2.1, by omega⟩)]))
      show ∃ w', f_M_addsTables_3b (f_M_addsTables_3 m) 100 (nI x) (nI y) (nI z) (nI k) (bh v w) = some (bh v w') ∧ _
      unfold f_M_addsTables_3b f_M_addsTables_91
      rw [show (216 : Int32) = nI 216 from rfl, if_neg (fun q => by have := (nI_leI (by omega) (by omega)).mp q; omega), d1, d2, d3, nI_add, nI_add, nI_add, nI_1]
      have q6 : ∀ t : Nat, t < 100 → ((6 : Int32) ≤ nI t ↔ 6 ≤ t) := fun t ht => nI_leI (a := 6) (by decide) (by omega)
      generalize hka : k / 36 = ka at *
      generalize hkb : k / 6 % 6 = kb at *
      generalize hkc : k % 6 = kc at *
      rw [ite_iff (q6 (ka + x) (by omega)), ite_iff (q6 (kb + y) (by omega)), ite_iff (q6 (kc + z) (by omega))]
      by_cases c1 : 6 ≤ ka + x
      · rw [if_pos c1]; exact skip (by omega)
      · rw [if_neg c1]
        by_cases c2 : 6 ≤ kb + y
        · rw [if_pos c2]; exact skip (by omega)
        · rw [if_neg c2]
          by_cases c3 : 6 ≤ kc + z
          · rw [if_pos c3]; exact skip (by omega)
          · rw [if_neg c3]
            have rB := hB (ka + x) (kb + y) (kc + z) (by omega) (by omega) (by omega)
            have rA := hA ka kb kc b1 b2 b3
            rw [ek] at rA
            simp only [hJ0, bd1_q]
            rw [show (36 : Int32) = nI 36 from rfl, show (6 : Int32) = nI 6 from rfl, pk_mul, pk_mul, nI_add, nI_add, rd_nI (by omega) (by decide), bd1_s, rd_nI (by omega) (by decide), bd1_s, wrL_nI (by omega) (by decide), bd1_s, rB, rA, nL_add]
            refine ih m (k + 1) _ (by omega) (by omega) (fun a b c ha hb hc => by rw [u2L_o (by decide)]; exact hA a b c ha hb hc) (fun a b c ha hb hc => ?_)
            by_cases e : a = ka + x ∧ b = kb + y ∧ c = kc + z
            · rw [e.1, e.2.1, e.2.2, u2L_at]
              unfold aT
              rw [if_neg (fun r => by omega), if_pos ⟨by omega, by omega, by omega, by omega⟩, Nat.add_sub_cancel, Nat.add_sub_cancel, Nat.add_sub_cancel, Nat.add_zero]
            · rw [u2L_n (by omega), hB a b c ha hb hc]
              unfold aT
              congr 2
              by_cases g : x ≤ a ∧ y ≤ b ∧ z ≤ c ∧ 36 * (a - x) + 6 * (b - y) + (c - z) < k
              · rw [if_pos g, if_pos ⟨g.1, g.2.1, g.2.2.1, by omega⟩]
              · rw [if_neg g, if_neg (fun r => by
                  by_cases e2 : 36 * (a - x) + 6 * (b - y) + (c - z) = k
                  · exact e ⟨by omega, by omega, by omega⟩
                  · exact g ⟨r.1, r.2.1, r.2.2.1, by omega⟩)]
  obtain ⟨w', e1, e2, e3⟩ := key 216 FU 0 w (by decide) (by decide) hA (hB.to (fun a b c _ _ _ => by
    unfold aT
    rw [if_neg (fun r => by omega), Nat.add_zero]))
  refine ⟨w', ?_, e2, e3.to (fun a b c ha hb hc => ?_)⟩
  · unfold f_M_addsTables f_M_addsTables_0
    rw [show (0 : Int32) = nI 0 from rfl]
    exact e1
  · unfold aT
    congr 1
    by_cases g : x ≤ a ∧ y ≤ b ∧ z ≤ c
    · rw [if_pos g, if_pos ⟨g.1, g.2.1, g.2.2, by omega⟩]
    · rw [if_neg g, if_neg (fun r => g ⟨r.1, r.2.1, r.2.2.1⟩)]
theorem M_al172X : ∀ (n fuel k : Nat) (w : Nat → Nat → Int64), n < fuel → k + n = 216 → (∀ j, j < k → w 121 j = w 122 j) → ∃ w', f_M_addsLaw_172 fuel 100 (nI k) (bh v w) = some (bh v w') ∧ w' 122 = w 122 ∧ ∀ j, j < 216 → w' 121 j = w 122 j := by
  intro n
  induction n with
  | zero =>
    intro fuel k w hf hk hj
    obtain ⟨m, rfl⟩ : ∃ m, fuel = m + 1 := ⟨fuel - 1, by omega⟩
    refine ⟨w, ?_, rfl, fun j h => hj j (by omega)⟩
    show f_M_addsLaw_172b (f_M_addsLaw_172 m) 100 (nI k) (bh v w) = some (bh v w)
    unfold f_M_addsLaw_172b
    rw [show (216 : Int32) = nI 216 from rfl, if_pos ((nI_leI (by omega) (by omega)).mpr (by omega))]
  | succ n ih =>
    intro fuel k w hf hk hj
    obtain ⟨m, rfl⟩ : ∃ m, fuel = m + 1 := ⟨fuel - 1, by omega⟩
    obtain ⟨w', e1, e2, e3⟩ := ih m (k + 1) (u2L w 121 k (w 122 k)) (by omega) (by omega) (fun j h => by
      rw [u2L_o (q := 122) (by decide)]
      by_cases z : j = k
      · rw [z, u2L_at]
      · rw [u2L_n z]; exact hj j (by omega))
    rw [u2L_o (q := 122) (by decide)] at e2 e3
    refine ⟨w', ?_, e2, e3⟩
    show f_M_addsLaw_172b (f_M_addsLaw_172 m) 100 (nI k) (bh v w) = some (bh v w')
    unfold f_M_addsLaw_172b
    rw [show (216 : Int32) = nI 216 from rfl, if_neg (fun q => by have := (nI_leI (by omega) (by omega)).mp q; omega)]
    simp only [hJ0, bd1_q]
    rw [rd_nI (by omega) (by decide), bd1_s, wrL_nI (by omega) (by decide), bd1_s, nI_1]
    exact e1
/-- what was seen of the law and what is asked for let it -/
def kk (ρ : Rho) (b2 b3 b4 : Int32) (l x y z : Nat) : Bool := bSo ρ 1 l (x + y + z) (ρ 0 6) && bAs b2 b3 b4 0 l x && bAs b2 b3 b4 1 l y && bAs b2 b3 b4 2 l z
def tt (ρ : Rho) (b2 b3 b4 : Int32) (l : Nat) (A : Nat → Nat → Nat → Nat) (a b c x y z : Nat) : Nat := if kk ρ b2 b3 b4 l x y z = true ∧ x ≤ a ∧ y ≤ b ∧ z ≤ c then A (a - x) (b - y) (c - z) else 0
theorem M_al56X (hr : MR ρ v) (hk : ROK ρ) {l : Nat} (hl : l < ρ 0 0) (b2 b3 b4 : Int32) (rec28 : Nat → Int32 → Int32 → Int32 → Int32 → Int32 → mH → Option mH) (rec42 : Nat → Int32 → Int32 → Int32 → Int32 → Int32 → Int32 → mH → Option mH) {x y : Nat} (hx : x ≤ 3) (hy : y ≤ 3) : ∀ (n fuel z : Nat) (w : Nat → Nat → Int64), n < fuel → z + n = mo ρ 2 l + 1 → tW 121 w A → tW 122 w (fun a b c => B a b c + sumN (fun z => tt ρ b2 b3 b4 l A a b c x y z) z) → ∃ w', f_M_addsLaw_56 rec28 rec42 fuel 100 (nI l) b2 b3 b4 (nI x) (nI y) (nI z) (bh v w) = rec42 100 (nI l) b2 b3 b4 (nI x) (nI (y + 1)) (bh v w') ∧ tW 121 w' A ∧ tW 122 w' (fun a b c => B a b c + sumN (fun z => tt ρ b2 b3 b4 l A a b c x y z) (mo ρ 2 l + 1)) := by
  have h0 := hk.1.1
  have hm := mo_le hk (p := 2) hl
  have q2 : ∀ w, f_M_mostOf 100 (2 : Int32) (nI l) (bh v w) = some (nI (mo ρ 2 l), bh v w) := fun w => M_mostOf (w := w) (p := 2) hr hk (by decide) hl
  intro n
  induction n with
  | zero =>
    intro fuel z w hf hz hA hB
    obtain ⟨m, rfl⟩ : ∃ m, fuel = m + 1 := ⟨fuel - 1, by omega⟩
    refine ⟨w, ?_, hA, by rw [show mo ρ 2 l + 1 = z by omega]; exact hB⟩
    show f_M_addsLaw_56b rec28 rec42 (f_M_addsLaw_56 rec28 rec42 m) 100 (nI l) b2 b3 b4 (nI x) (nI y) (nI z) (bh v w) = _
    unfold f_M_addsLaw_56b
    simp only [hJ0, bd1_q]
    rw [q2, bd2_s, if_pos ((nI_ltI (by omega) (by omega)).mpr (by omega)), nI_1]
  | succ n ih =>
    intro fuel z w hf hz hA hB
    obtain ⟨m, rfl⟩ : ∃ m, fuel = m + 1 := ⟨fuel - 1, by omega⟩
    have s1 : f_M_isSo 100 (1 : Int32) (nI l) ((nI x + nI y) + nI z) (bh v w) = some (if bSo ρ 1 l (x + y + z) (ρ 0 6) = true then 1 else 0, bh v w) := by
      rw [nI_add, nI_add]
      exact M_isSoX (w := w) (kd := 1) hr hk (by decide) (by omega) (by omega)
    have s2 : f_M_isAsked 100 (0 : Int32) (nI l) (nI x) b2 b3 b4 (bh v w) = some (if bAs b2 b3 b4 0 l x = true then 1 else 0, bh v w) := M_isAskedX _ _ _ _ _ _ _
    have s3 : f_M_isAsked 100 (1 : Int32) (nI l) (nI y) b2 b3 b4 (bh v w) = some (if bAs b2 b3 b4 1 l y = true then 1 else 0, bh v w) := M_isAskedX _ _ _ _ _ _ _
    have s4 : f_M_isAsked 100 (2 : Int32) (nI l) (nI z) b2 b3 b4 (bh v w) = some (if bAs b2 b3 b4 2 l z = true then 1 else 0, bh v w) := M_isAskedX _ _ _ _ _ _ _
    obtain ⟨w2, e2, hA2, hB2⟩ := M_addsTablesX (v := v) hx hy (show z ≤ 3 by omega) w hA hB
    have no : kk ρ b2 b3 b4 l x y z = false → ∃ w', f_M_addsLaw_56 rec28 rec42 m 100 (nI l) b2 b3 b4 (nI x) (nI y) (nI (z + 1)) (bh v w) = rec42 100 (nI l) b2 b3 b4 (nI x) (nI (y + 1)) (bh v w') ∧ tW 121 w' A ∧ tW 122 w' (fun a b c => B a b c + sumN (fun z => tt ρ b2 b3 b4 l A a b c x y z) (mo ρ 2 l + 1)) := fun q => ih m (z + 1) w (by omega) (by omega) hA (hB.to (fun a b c _ _ _ => by
      show B a b c + sumN (fun z => tt ρ b2 b3 b4 l A a b c x y z) z = B a b c + (sumN (fun z => tt ρ b2 b3 b4 l A a b c x y z) z + tt ρ b2 b3 b4 l A a b c x y z)
      have e : tt ρ b2 b3 b4 l A a b c x y z = 0 := by
        unfold tt
        rw [q]
        exact if_neg (fun r => by cases r.1)
      rw [e, Nat.add_zero]))
    have yes : kk ρ b2 b3 b4 l x y z = true → ∃ w', f_M_addsLaw_56 rec28 rec42 m 100 (nI l) b2 b3 b4 (nI x) (nI y) (nI (z + 1)) (bh v w2) = rec42 100 (nI l) b2 b3 b4 (nI x) (nI (y + 1)) (bh v w') ∧ tW 121 w' A ∧ tW 122 w' (fun a b c => B a b c + sumN (fun z => tt ρ b2 b3 b4 l A a b c x y z) (mo ρ 2 l + 1)) := fun q => ih m (z + 1) w2 (by omega) (by omega) hA2 (hB2.to (fun a b c _ _ _ => by
      show (B a b c + sumN (fun z => tt ρ b2 b3 b4 l A a b c x y z) z) + _ = B a b c + (sumN (fun z => tt ρ b2 b3 b4 l A a b c x y z) z + tt ρ b2 b3 b4 l A a b c x y z)
      rw [Nat.add_assoc]
      congr 2
      unfold tt
      by_cases g : x ≤ a ∧ y ≤ b ∧ z ≤ c
      · rw [if_pos g, if_pos ⟨q, g⟩]
      · rw [if_neg g, if_neg (fun r => g r.2)]))
    show ∃ w', f_M_addsLaw_56b rec28 rec42 (f_M_addsLaw_56 rec28 rec42 m) 100 (nI l) b2 b3 b4 (nI x) (nI y) (nI z) (bh v w) = _ ∧ _
    unfold f_M_addsLaw_56b f_M_addsLaw_133 f_M_addsLaw_134 f_M_addsLaw_151
    simp only [hJ0, bd1_q]
    rw [q2, bd2_s, if_neg (fun q => by have := (nI_ltI (by omega) (by omega)).mp q; omega), nI_1]
    simp only [hJ0, bd1_q]
    rw [s1, bd2_s]
    unfold kk at no yes
    cases g1 : bSo ρ 1 l (x + y + z) (ρ 0 6)
    · rw [if_pos if01, if_pos trivial]
      exact no (by rw [g1]; rfl)
    · rw [if_pos rfl, if_neg (by decide)]
      simp only [hJ0, bd1_q]
      rw [s2, bd2_s]
      cases g2 : bAs b2 b3 b4 0 l x
      · rw [if_pos if01, if_pos trivial]
        exact no (by rw [g1, g2]; rfl)
      · rw [if_pos rfl, if_neg (by decide)]
        simp only [hJ0, bd1_q]
        rw [s3, bd2_s]
        cases g3 : bAs b2 b3 b4 1 l y
        · rw [if_pos if01, if_pos trivial]
          exact no (by rw [g1, g2, g3]; rfl)
        · rw [if_pos rfl, if_neg (by decide)]
          simp only [hJ0, bd1_q]
          rw [s4, bd2_s]
          cases g4 : bAs b2 b3 b4 2 l z
          · rw [if_pos if01, if_pos trivial]
            exact no (by rw [g1, g2, g3, g4]; rfl)
          · rw [if_pos rfl, if_neg (by decide), if_neg (by decide)]
            simp only [hJ0, bd1_q]
            rw [e2, bd1_s]
            exact yes (by rw [g1, g2, g3, g4]; rfl)
theorem M_al42X (hr : MR ρ v) (hk : ROK ρ) {l : Nat} (hl : l < ρ 0 0) (b2 b3 b4 : Int32) (rec28 : Nat → Int32 → Int32 → Int32 → Int32 → Int32 → mH → Option mH) {x : Nat} (hx : x ≤ 3) : ∀ (n fuel y : Nat) (w : Nat → Nat → Int64), n < fuel → y + n = mo ρ 1 l + 1 → tW 121 w A → tW 122 w (fun a b c => B a b c + sumN (fun y => sumN (fun z => tt ρ b2 b3 b4 l A a b c x y z) (mo ρ 2 l + 1)) y) → ∃ w', f_M_addsLaw_42 rec28 fuel 100 (nI l) b2 b3 b4 (nI x) (nI y) (bh v w) = rec28 100 (nI l) b2 b3 b4 (nI (x + 1)) (bh v w') ∧ tW 121 w' A ∧ tW 122 w' (fun a b c => B a b c + sumN (fun y => sumN (fun z => tt ρ b2 b3 b4 l A a b c x y z) (mo ρ 2 l + 1)) (mo ρ 1 l + 1)) := by
  have hm := mo_le hk (p := 1) hl
  have q2 : ∀ w, f_M_mostOf 100 (1 : Int32) (nI l) (bh v w) = some (nI (mo ρ 1 l), bh v w) := fun w => M_mostOf (w := w) (p := 1) hr hk (by decide) hl
  intro n
  induction n with
  | zero =>
    intro fuel y w hf hy hA hB
    obtain ⟨m, rfl⟩ : ∃ m, fuel = m + 1 := ⟨fuel - 1, by omega⟩
    refine ⟨w, ?_, hA, by rw [show mo ρ 1 l + 1 = y by omega]; exact hB⟩
    show f_M_addsLaw_42b rec28 (f_M_addsLaw_42 rec28 m) 100 (nI l) b2 b3 b4 (nI x) (nI y) (bh v w) = _
    unfold f_M_addsLaw_42b
    simp only [hJ0, bd1_q]
    rw [q2, bd2_s, if_pos ((nI_ltI (by omega) (by omega)).mpr (by omega)), nI_1]
  | succ n ih =>
    intro fuel y w hf hy hA hB
    obtain ⟨m, rfl⟩ : ∃ m, fuel = m + 1 := ⟨fuel - 1, by omega⟩
    have hm2 := mo_le hk (p := 2) hl
    obtain ⟨w1, e1, a1, b1⟩ := M_al56X (A := A) (B := fun a b c => B a b c + sumN (fun y => sumN (fun z => tt ρ b2 b3 b4 l A a b c x y z) (mo ρ 2 l + 1)) y) hr hk hl b2 b3 b4 rec28 (f_M_addsLaw_42 rec28 m) hx (show y ≤ 3 by omega) (mo ρ 2 l + 1) FU 0 w (by unfold FU; omega) (by omega) hA hB
    obtain ⟨w2, e2, a2, b2'⟩ := ih m (y + 1) w1 (by omega) (by omega) a1 (b1.to (fun a b c _ _ _ => Nat.add_assoc _ _ _))
    refine ⟨w2, ?_, a2, b2'⟩
    show f_M_addsLaw_42b rec28 (f_M_addsLaw_42 rec28 m) 100 (nI l) b2 b3 b4 (nI x) (nI y) (bh v w) = _
    unfold f_M_addsLaw_42b
    simp only [hJ0, bd1_q]
    rw [q2, bd2_s, if_neg (fun q => by have := (nI_ltI (by omega) (by omega)).mp q; omega)]
    exact e1.trans e2
def bx (ρ : Rho) (b2 b3 b4 : Int32) (l : Nat) (A : Nat → Nat → Nat → Nat) (n a b c : Nat) : Nat := sumN (fun x => sumN (fun y => sumN (fun z => tt ρ b2 b3 b4 l A a b c x y z) (mo ρ 2 l + 1)) (mo ρ 1 l + 1)) n
theorem M_al28X (hr : MR ρ v) (hk : ROK ρ) {l : Nat} (hl : l < ρ 0 0) (b2 b3 b4 : Int32) : ∀ (n fuel x : Nat) (w : Nat → Nat → Int64), n < fuel → x + n = mo ρ 0 l + 1 → tW 121 w A → tW 122 w (bx ρ b2 b3 b4 l A x) → ∃ w', f_M_addsLaw_28 fuel 100 (nI l) b2 b3 b4 (nI x) (bh v w) = some (bh v w') ∧ tW 121 w' (bx ρ b2 b3 b4 l A (mo ρ 0 l + 1)) := by
  have hm := mo_le hk (p := 0) hl
  have q2 : ∀ w, f_M_mostOf 100 (0 : Int32) (nI l) (bh v w) = some (nI (mo ρ 0 l), bh v w) := fun w => M_mostOf (w := w) (p := 0) hr hk (by decide) hl
  intro n
  induction n with
  | zero =>
    intro fuel x w hf hx hA hB
    obtain ⟨m, rfl⟩ : ∃ m, fuel = m + 1 := ⟨fuel - 1, by omega⟩
    obtain ⟨w1, e1, c1, d1⟩ := M_al172X (v := v) 216 FU 0 w (by decide) (by decide) (fun j h => by omega)
    have e1 : f_M_addsLaw_172 FU 100 0 (bh v w) = some (bh v w1) := e1
    refine ⟨w1, ?_, fun a b c ha hb hc => ?_⟩
    · show f_M_addsLaw_28b (f_M_addsLaw_28 m) 100 (nI l) b2 b3 b4 (nI x) (bh v w) = _
      unfold f_M_addsLaw_28b
      simp only [hJ0, bd1_q]
      rw [q2, bd2_s, if_pos ((nI_ltI (by omega) (by omega)).mpr (by omega))]
      exact e1
    · rw [d1 _ (by omega), show mo ρ 0 l + 1 = x by omega]
      exact hB a b c ha hb hc
  | succ n ih =>
    intro fuel x w hf hx hA hB
    obtain ⟨m, rfl⟩ : ∃ m, fuel = m + 1 := ⟨fuel - 1, by omega⟩
    have hm2 := mo_le hk (p := 1) hl
    obtain ⟨w1, e1, a1, b1⟩ := M_al42X (A := A) (B := bx ρ b2 b3 b4 l A x) hr hk hl b2 b3 b4 (f_M_addsLaw_28 m) (show x ≤ 3 by omega) (mo ρ 1 l + 1) FU 0 w (by unfold FU; omega) (by omega) hA (hB.to (fun a b c _ _ _ => (Nat.add_zero _).symm))
    obtain ⟨w2, e2, a2⟩ := ih m (x + 1) w1 (by omega) (by omega) a1 b1
    refine ⟨w2, ?_, a2⟩
    show f_M_addsLaw_28b (f_M_addsLaw_28 m) 100 (nI l) b2 b3 b4 (nI x) (bh v w) = _
    unfold f_M_addsLaw_28b
    simp only [hJ0, bd1_q]
    rw [q2, bd2_s, if_neg (fun q => by have := (nI_ltI (by omega) (by omega)).mp q; omega)]
    exact e1.trans e2
/-- the reference's law: what it lets -/
def mK (ρ : Rho) (b2 b3 b4 : Int32) (l x y z : Nat) : Bool := decide (x ≤ mo ρ 0 l ∧ y ≤ mo ρ 1 l ∧ z ≤ mo ρ 2 l) && kk ρ b2 b3 b4 l x y z
theorem bx_cv (hk : ROK ρ) {l : Nat} (hl : l < ρ 0 0) (b2 b3 b4 : Int32) (A : Nat → Nat → Nat → Nat) (a b c : Nat) : bx ρ b2 b3 b4 l A (mo ρ 0 l + 1) a b c = cvo (mK ρ b2 b3 b4 l) A a b c := by
  unfold cvo bx
  refine (S3_box (Nat.lt_succ_of_le (mo_le hk hl)) (Nat.lt_succ_of_le (mo_le hk hl)) (Nat.lt_succ_of_le (mo_le hk hl)) (fun x y z hx hy hz => ?_) (fun x y z h => ?_)).symm
  · unfold tt mK
    rw [decide_eq_true (show x ≤ mo ρ 0 l ∧ y ≤ mo ρ 1 l ∧ z ≤ mo ρ 2 l from ⟨hx, hy, hz⟩), Bool.true_and]
  · refine if_neg (fun q => h ?_)
    have := q.1
    unfold mK at this
    rw [Bool.and_eq_true, decide_eq_true_iff] at this
    exact this.1
theorem M_addsLawX (hr : MR ρ v) (hk : ROK ρ) {l : Nat} (hl : l < ρ 0 0) (b2 b3 b4 : Int32) (w : Nat → Nat → Int64) (hA : tW 121 w A) : ∃ w', f_M_addsLaw 100 (nI l) b2 b3 b4 (bh v w) = some (bh v w') ∧ tW 121 w' (cvo (mK ρ b2 b3 b4 l) A) := by
  have hm := mo_le hk (p := 0) hl
  have key : ∀ (n fuel k : Nat) (w : Nat → Nat → Int64), n < fuel → k + n = 216 → tW 121 w A → (∀ j, j < k → w 122 j = 0) → ∃ w', f_M_addsLaw_3 fuel 100 (nI l) b2 b3 b4 (nI k) (bh v w) = some (bh v w') ∧ tW 121 w' (cvo (mK ρ b2 b3 b4 l) A) := by
    intro n
    induction n with
    | zero =>
      intro fuel k w hf hk2 hA hj
      obtain ⟨m, rfl⟩ : ∃ m, fuel = m + 1 := ⟨fuel - 1, by omega⟩
      obtain ⟨w1, e1, a1⟩ := M_al28X (A := A) hr hk hl b2 b3 b4 (mo ρ 0 l + 1) FU 0 w (by unfold FU; omega) (by omega) hA (fun a b c ha hb hc => hj _ (by omega))
      have e1 : f_M_addsLaw_28 FU 100 (nI l) b2 b3 b4 0 (bh v w) = some (bh v w1) := e1
      refine ⟨w1, ?_, a1.to (fun a b c _ _ _ => bx_cv hk hl b2 b3 b4 A a b c)⟩
      show f_M_addsLaw_3b (f_M_addsLaw_3 m) 100 (nI l) b2 b3 b4 (nI k) (bh v w) = _
      unfold f_M_addsLaw_3b
      rw [show (216 : Int32) = nI 216 from rfl, if_pos ((nI_leI (by omega) (by omega)).mpr (by omega))]
      exact e1
    | succ n ih =>
      intro fuel k w hf hk2 hA hj
      obtain ⟨m, rfl⟩ : ∃ m, fuel = m + 1 := ⟨fuel - 1, by omega⟩
      show ∃ w', f_M_addsLaw_3b (f_M_addsLaw_3 m) 100 (nI l) b2 b3 b4 (nI k) (bh v w) = some (bh v w') ∧ _
      unfold f_M_addsLaw_3b
      rw [show (216 : Int32) = nI 216 from rfl, if_neg (fun q => by have := (nI_leI (by omega) (by omega)).mp q; omega)]
      simp only [hJ0, bd1_q]
      rw [wrL_nI (by omega) (by decide), bd1_s, nI_1]
      exact ih m (k + 1) _ (by omega) (by omega) (fun a b c ha hb hc => by rw [u2L_o (by decide)]; exact hA a b c ha hb hc) (fun j h => by
        by_cases z : j = k
        · rw [z, u2L_at]
        · rw [u2L_n z]; exact hj j (by omega))
  unfold f_M_addsLaw f_M_addsLaw_0
  rw [show (0 : Int32) = nI 0 from rfl]
  exact key 216 FU 0 w (by decide) (by decide) hA (fun j h => by omega)
def e0 (s : Nat) : Nat := if s = 0 then 1 else 0
def mW (ρ : Rho) (b2 b3 b4 : Int32) (a b c : Nat) : Nat := if (bTm ρ 0 a && bTm ρ 1 b && bTm ρ 2 c) = true then cvs (mK ρ b2 b3 b4) (pr3 e0 e0 e0) (ρ 0 0) a b c else 0
/-- how many tables there are by the reference -/
def mTot (ρ : Rho) (b2 b3 b4 : Int32) : Nat := sumN (fun k => mW ρ b2 b3 b4 (k / 36) (k / 6 % 6) (k % 6)) 216
theorem M_tablesByX (hr : MR ρ v) (hk : ROK ρ) (b2 b3 b4 : Int32) (w : Nat → Nat → Int64) : ∃ w', f_M_tablesBy 100 b2 b3 b4 (bh v w) = some (nL (mTot ρ b2 b3 b4), bh v w') := by
  have h0 := hk.1.1
  have k67 : ∀ (w : Nat → Nat → Int64), tW 121 w (cvs (mK ρ b2 b3 b4) (pr3 e0 e0 e0) (ρ 0 0)) → ∀ (n fuel k : Nat), n < fuel → k + n = 216 → f_M_tablesBy_67 fuel 100 (nL (sumN (fun k => mW ρ b2 b3 b4 (k / 36) (k / 6 % 6) (k % 6)) k)) (nI k) (bh v w) = some (nL (mTot ρ b2 b3 b4), bh v w) := by
    intro w hA n
    induction n with
    | zero =>
      intro fuel k hf hk2
      obtain ⟨m, rfl⟩ : ∃ m, fuel = m + 1 := ⟨fuel - 1, by omega⟩
      show f_M_tablesBy_67b (f_M_tablesBy_67 m) 100 _ (nI k) (bh v w) = _
      unfold f_M_tablesBy_67b mTot
      rw [show (216 : Int32) = nI 216 from rfl, if_pos ((nI_leI (by omega) (by omega)).mpr (by omega)), show k = 216 by omega]
    | succ n ih =>
      intro fuel k hf hk2
      obtain ⟨m, rfl⟩ : ∃ m, fuel = m + 1 := ⟨fuel - 1, by omega⟩
      have nx := ih m (k + 1) (by omega) (by omega)
      have es : sumN (fun k => mW ρ b2 b3 b4 (k / 36) (k / 6 % 6) (k % 6)) (k + 1) = sumN (fun k => mW ρ b2 b3 b4 (k / 36) (k / 6 % 6) (k % 6)) k + mW ρ b2 b3 b4 (k / 36) (k / 6 % 6) (k % 6) := rfl
      rw [es, ← nL_add] at nx
      obtain ⟨d1, d2, d3⟩ := div_I k (by omega)
      have r := hA (k / 36) (k / 6 % 6) (k % 6) (by omega) (by omega) (by omega)
      rw [show 36 * (k / 36) + 6 * (k / 6 % 6) + k % 6 = k by omega] at r
      have e1 : f_M_isTime 100 (0 : Int32) (nI (k / 36)) (bh v w) = some (if bTm ρ 0 (k / 36) = true then 1 else 0, bh v w) := M_isTimeX (w := w) (p := 0) hr hk (by decide) (by omega)
      have e2 : f_M_isTime 100 (1 : Int32) (nI (k / 6 % 6)) (bh v w) = some (if bTm ρ 1 (k / 6 % 6) = true then 1 else 0, bh v w) := M_isTimeX (w := w) (p := 1) hr hk (by decide) (by omega)
      have e3 : f_M_isTime 100 (2 : Int32) (nI (k % 6)) (bh v w) = some (if bTm ρ 2 (k % 6) = true then 1 else 0, bh v w) := M_isTimeX (w := w) (p := 2) hr hk (by decide) (by omega)
      show f_M_tablesBy_67b (f_M_tablesBy_67 m) 100 _ (nI k) (bh v w) = _
      unfold f_M_tablesBy_67b f_M_tablesBy_129 f_M_tablesBy_130
      rw [show (216 : Int32) = nI 216 from rfl, if_neg (fun q => by have := (nI_leI (by omega) (by omega)).mp q; omega)]
      simp only [hJ0, bd1_q]
      rw [d1, d2, d3, e1, bd2_s, nI_1]
      unfold mW at nx
      unfold mW
      cases g1 : bTm ρ 0 (k / 36)
      · rw [if_pos if01]
        rw [g1, Bool.false_and, Bool.false_and, if_neg (by decide)] at nx
        exact nx
      · rw [if_pos rfl, if_neg (by decide)]
        simp only [hJ0, bd1_q]
        rw [e2, bd2_s]
        cases g2 : bTm ρ 1 (k / 6 % 6)
        · rw [if_pos if01]
          rw [g1, g2, Bool.and_false, Bool.false_and, if_neg (by decide)] at nx
          exact nx
        · rw [if_pos rfl, if_neg (by decide)]
          simp only [hJ0, bd1_q]
          rw [e3, bd2_s]
          cases g3 : bTm ρ 2 (k % 6)
          · rw [if_pos if01]
            rw [g1, g2, g3, Bool.and_false, if_neg (by decide)] at nx
            exact nx
          · rw [if_pos rfl, if_neg (by decide)]
            simp only [hJ0, bd1_q]
            rw [rd_nI (by omega) (by decide), bd1_s, r]
            rw [g1, g2, g3, if_pos (by decide)] at nx
            exact nx
  have k37 : ∀ (n fuel l : Nat) (w : Nat → Nat → Int64), n < fuel → l + n = ρ 0 0 → tW 121 w (cvs (mK ρ b2 b3 b4) (pr3 e0 e0 e0) l) → ∃ w', f_M_tablesBy_37 fuel 100 b2 b3 b4 (nI l) (bh v w) = some (nL (mTot ρ b2 b3 b4), bh v w') := by
    intro n
    induction n with
    | zero =>
      intro fuel l w hf hl hA
      obtain ⟨m, rfl⟩ : ∃ m, fuel = m + 1 := ⟨fuel - 1, by omega⟩
      have el : l = ρ 0 0 := by omega
      rw [el] at hA
      have e1 := k67 w hA 216 FU 0 (by decide) (by decide)
      have e1 : f_M_tablesBy_67 FU 100 0 0 (bh v w) = some (nL (mTot ρ b2 b3 b4), bh v w) := e1
      refine ⟨w, ?_⟩
      show f_M_tablesBy_37b (f_M_tablesBy_37 m) 100 b2 b3 b4 (nI l) (bh v w) = _
      unfold f_M_tablesBy_37b
      simp only [hJ0, bd1_q]
      rw [hr.1.1, if_pos ((nI_leI (by omega) (by omega)).mpr (by omega))]
      exact e1
    | succ n ih =>
      intro fuel l w hf hl hA
      obtain ⟨m, rfl⟩ : ∃ m, fuel = m + 1 := ⟨fuel - 1, by omega⟩
      obtain ⟨w1, e1, a1⟩ := M_addsLawX hr hk (show l < ρ 0 0 by omega) b2 b3 b4 w hA
      show ∃ w', f_M_tablesBy_37b (f_M_tablesBy_37 m) 100 b2 b3 b4 (nI l) (bh v w) = some (_, bh v w')
      unfold f_M_tablesBy_37b
      simp only [hJ0, bd1_q]
      rw [hr.1.1, if_neg (fun q => by have := (nI_leI (by omega) (by omega)).mp q; omega), e1, bd1_s, nI_1]
      exact ih m (l + 1) w1 (by omega) (by omega) a1
  have k3 : ∀ (n fuel k : Nat) (w : Nat → Nat → Int64), n < fuel → k + n = 216 → (∀ j, j < k → w 121 j = if j = 0 then 1 else 0) → ∃ w', f_M_tablesBy_3 fuel 100 b2 b3 b4 (nI k) (bh v w) = some (nL (mTot ρ b2 b3 b4), bh v w') := by
    intro n
    induction n with
    | zero =>
      intro fuel k w hf hk2 hj
      obtain ⟨m, rfl⟩ : ∃ m, fuel = m + 1 := ⟨fuel - 1, by omega⟩
      obtain ⟨w1, e1⟩ := k37 (ρ 0 0) FU 0 w (by unfold FU; omega) (by omega) (fun a b c ha hb hc => by
        rw [hj _ (by omega)]
        unfold cvs pr3 e0
        by_cases z : 36 * a + 6 * b + c = 0
        · rw [if_pos z, if_pos (by omega), if_pos (by omega), if_pos (by omega)]
          rfl
        · rw [if_neg z]
          by_cases z1 : a = 0
          · by_cases z2 : b = 0
            · rw [if_neg (show ¬ c = 0 by omega), Nat.mul_zero]; rfl
            · rw [if_neg z2, Nat.mul_zero, Nat.zero_mul]; rfl
          · rw [if_neg z1, Nat.zero_mul, Nat.zero_mul]; rfl)
      have e1 : f_M_tablesBy_37 FU 100 b2 b3 b4 0 (bh v w) = some (nL (mTot ρ b2 b3 b4), bh v w1) := e1
      refine ⟨w1, ?_⟩
      show f_M_tablesBy_3b (f_M_tablesBy_3 m) 100 b2 b3 b4 (nI k) (bh v w) = _
      unfold f_M_tablesBy_3b
      rw [show (216 : Int32) = nI 216 from rfl, if_pos ((nI_leI (by omega) (by omega)).mpr (by omega))]
      exact e1
    | succ n ih =>
      intro fuel k w hf hk2 hj
      obtain ⟨m, rfl⟩ : ∃ m, fuel = m + 1 := ⟨fuel - 1, by omega⟩
      have nx := fun x : Int64 => fun hx : x = (if k = 0 then 1 else 0) => ih m (k + 1) (u2L w 121 k x) (by omega) (by omega) (fun j h => by
        by_cases z : j = k
        · rw [z, u2L_at]; exact hx
        · rw [u2L_n z]; exact hj j (by omega))
      show ∃ w', f_M_tablesBy_3b (f_M_tablesBy_3 m) 100 b2 b3 b4 (nI k) (bh v w) = some (_, bh v w')
      unfold f_M_tablesBy_3b f_M_tablesBy_27
      rw [show (216 : Int32) = nI 216 from rfl, if_neg (fun q => by have := (nI_leI (by omega) (by omega)).mp q; omega)]
      simp only [hJ0, bd1_q]
      rw [wrL_nI (by omega) (by decide), wrL_nI (by omega) (by decide), bd1_s, bd1_s, nI_1, ite_iff (nI_eq0 (by omega))]
      by_cases z : k = 0
      · rw [if_pos z]; exact nx 1 (if_pos z).symm
      · rw [if_neg z]; exact nx 0 (if_neg z).symm
  unfold f_M_tablesBy f_M_tablesBy_0
  rw [show (0 : Int32) = nI 0 from rfl]
  exact k3 216 FU 0 w (by decide) (by decide) (fun j h => by omega)
end
