/-! 8h.read2.lean.txt -/
section
section
variable {S : Sg} {v : Nat → Nat → Int32} {w : Nat → Nat → Int64} {k : Nat}
def hsh (S : Sg) (k : Nat) (v : Nat → Nat → Int32) : Prop := v 123 k = zI (S.2.2 4 k) ∧ v 124 k = zI (S.2.2 5 k) ∧ ∀ i, i < 40 → v 125 (40 * k + i) = zI (S.2.2 6 (40 * k + i))
/-- the reference's FAULT of a pair -/
noncomputable def flt (S : Sg) (k : Nat) (y : Int32) (t : Int) : Int32 := haveI := Classical.propDecidable; if S.2.2 4 k = -4 then 1 else if zI (S.2.2 4 k) = y then (if 0 ≤ t ∧ t + 1 < S.2.2 5 k then 0 else 2) else 3
theorem M_inn (hs : SOK S) (hk : k < 4) (hv : hsh S k v) (f y N c : Int32) {i : Nat} (hi : i ≤ 20) (rec : Nat → Int32 → Int32 → Int32 → Int32 → Int32 → Int32 → Int32 → mH → Option (Int32 × mH)) : f_M_read_51 rec FU 100 (nI k) y f N 0 c (nI i) 0 (bh v w) = f_M_read_138 rec 100 (nI k) y f N (flt S k y (f.toInt + 2 * i)) c (nI i) (bh v w) := by
  have l4 : zI (S.2.2 4 k) = (-4 : Int32) ↔ S.2.2 4 k = -4 := lane_I hs hk (c := -4) (Or.inl rfl)
  have hz := (hs.2.2.2.2.2 k hk).2
  have eat := at_I f (i := i) (by omega)
  have hf1 := f.toInt_lt
  have hf2 := f.le_toInt
  have e5 : (zI (S.2.2 5 k)).toInt64.toInt = S.2.2 5 k := by rw [Int32.toInt_toInt64, zI_t (by omega) (by omega)]
  have one : ∀ (m d : Nat), d ≤ 1 → f_M_read_51 rec (m + 1) 100 (nI k) y f N 0 c (nI i) (nI d) (bh v w) = f_M_read_51 rec m 100 (nI k) y f N (if S.2.2 4 k = -4 then 1 else if zI (S.2.2 4 k) = y then (if 0 ≤ f.toInt + 2 * i + d ∧ f.toInt + 2 * i + d < S.2.2 5 k then 0 else 2) else 3) c (nI i) (nI d + 1) (bh v w) := by
    intro m d hd
    show f_M_read_51b rec (f_M_read_51 rec m) 100 (nI k) y f N 0 c (nI i) (nI d) (bh v w) = _
    unfold f_M_read_51b f_M_read_130 f_M_read_125
    have ea := at_S (c := d) eat (by omega) hd
    rw [show (2 : Int32) = nI 2 from rfl, if_neg (fun z => by have := (nI_leI (by omega) (by omega)).mp z; omega), show nI 2 = (2 : Int32) from rfl, if_pos rfl]
    simp only [hM v w, bd1_s]
    rw [rd_nI hk (by decide), bd1_s, hv.1]
    by_cases h4 : S.2.2 4 k = -4
    · rw [if_pos (l4.mpr h4), if_pos h4]
    · rw [if_neg (fun q => h4 (l4.mp q)), if_neg h4]
      simp only [bd1_s]
      by_cases hy : zI (S.2.2 4 k) = y
      · rw [if_pos hy, if_pos hy]
        simp only [cmp_lt]
        by_cases h0 : (f.toInt64 + ((2 : Int32) * nI i).toInt64) + (nI d).toInt64 < 0
        · rw [if_pos h0, if_neg (fun q => by rw [Int64.lt_iff_toInt_lt, ea] at h0; have : (0 : Int64).toInt = 0 := rfl; omega)]
          rfl
        · rw [if_neg h0, rd_nI hk (by decide), bd1_s, hv.2.1]
          rw [Int64.lt_iff_toInt_lt, ea, show (0 : Int64).toInt = 0 from rfl] at h0
          by_cases h1 : (f.toInt64 + ((2 : Int32) * nI i).toInt64) + (nI d).toInt64 < (zI (S.2.2 5 k)).toInt64
          · rw [if_pos h1]
            rw [Int64.lt_iff_toInt_lt, ea, e5] at h1
            rw [if_pos (by omega)]
          · rw [if_neg h1]
            rw [Int64.lt_iff_toInt_lt, ea, e5] at h1
            rw [if_neg (by omega)]
            rfl
      · rw [if_neg hy, if_neg hy]
  have halt : ∀ (m : Nat) (x d : Int32), ¬ x = 0 → f_M_read_51 rec (m + 1) 100 (nI k) y f N x c (nI i) d (bh v w) = f_M_read_138 rec 100 (nI k) y f N x c (nI i) (bh v w) := by
    intro m x d hx
    show f_M_read_51b rec (f_M_read_51 rec m) 100 (nI k) y f N x c (nI i) d (bh v w) = _
    unfold f_M_read_51b
    rw [if_neg hx]
    split <;> rfl
  have last : ∀ (m : Nat) (x : Int32), f_M_read_51 rec (m + 1) 100 (nI k) y f N x c (nI i) (nI 1 + 1) (bh v w) = f_M_read_138 rec 100 (nI k) y f N x c (nI i) (bh v w) := by
    intro m x
    show f_M_read_51b rec (f_M_read_51 rec m) 100 (nI k) y f N x c (nI i) (nI 1 + 1) (bh v w) = _
    unfold f_M_read_51b
    rw [if_pos (by decide)]
  show f_M_read_51 rec (597 + 1 + 1 + 1) 100 (nI k) y f N 0 c (nI i) (nI 0) (bh v w) = _
  rw [one (597 + 1 + 1) 0 (by decide)]
  unfold flt
  by_cases h4 : S.2.2 4 k = -4
  · rw [if_pos h4, if_pos h4, halt _ _ _ (by decide)]
  · rw [if_neg h4, if_neg h4]
    by_cases hy : zI (S.2.2 4 k) = y
    · rw [if_pos hy, if_pos hy]
      by_cases h0 : 0 ≤ f.toInt + 2 * i + ((0 : Nat) : Int) ∧ f.toInt + 2 * i + ((0 : Nat) : Int) < S.2.2 5 k
      · rw [if_pos h0, show nI 0 + 1 = nI 1 from rfl, one (597 + 1) 1 (by decide), if_neg h4, if_pos hy, last]
        congr 1
        by_cases h1 : f.toInt + 2 * i + 1 < S.2.2 5 k
        · rw [if_pos (by omega), if_pos (by omega)]
        · rw [if_neg (by omega), if_neg (by omega)]
      · rw [if_neg h0, halt _ _ _ (by decide), if_neg (by omega)]
    · rw [if_neg hy, if_neg hy, halt _ _ _ (by decide)]
theorem M_rd (hs : SOK S) (hk : k < 4) (f y : Int32) (hl : S.2.2 4 k = -4 ∨ zI (S.2.2 4 k) = y) {N : Nat} (hN : N ≤ 20) : ∀ (n i fuel : Nat) (ρ : Rho) (v : Nat → Nat → Int32), n + 1 < fuel → i + n = N → hsh S k v → MR ρ v → ROK ρ →
    (∀ j, rdl S k f.toInt n i ρ = .inl j → ∃ v', f_M_read_36 fuel 100 (nI k) y f (nI N) 0 (nI i) (nI i) (bh v w) = some ((-20) - nI j, bh v' w) ∧ (∀ q, q ≠ 101 → v' q = v q) ∧ (∀ j, j < 66 → v' 101 j = v 119 j) ∧ ∀ j, 66 ≤ j → v' 101 j = v 101 j) ∧
    (∀ c ρ' t, rdl S k f.toInt n i ρ = .inr (c, ρ', t) → ∃ v', f_M_read_36 fuel 100 (nI k) y f (nI N) 0 (nI i) (nI i) (bh v w) = some (nI c, bh (u2 v' 100 38 (zI t)) w) ∧ MR ρ' v' ∧ (∀ q, q ≠ 101 → v' q = v q) ∧ ∀ j, 66 ≤ j → v' 101 j = v 101 j) := by
  intro n
  induction n with
  | zero =>
    intro i fuel ρ v hf hi hv hr hk2
    obtain ⟨m, rfl⟩ : ∃ m, fuel = m + 1 := ⟨fuel - 1, by omega⟩
    refine ⟨fun j z => (by cases z), fun c ρ' t z => ?_⟩
    have z := Sum.inr.inj z
    obtain rfl : i = c := congrArg Prod.fst z
    obtain rfl : ρ = ρ' := congrArg (fun q => q.2.1) z
    obtain rfl : (0 : Int) = t := congrArg (fun q => q.2.2) z
    refine ⟨v, ?_, hr, fun _ _ => rfl, fun _ _ => rfl⟩
    simp only [f_M_read_36, f_M_read_36b, f_M_read_198, hM v w, bd1_s]
    rw [if_pos ((nI_leI (by omega) (by omega)).mpr (by omega))]
    rfl
  | succ n ih =>
    intro i fuel ρ v hf hi hv hr hk2
    obtain ⟨m, rfl⟩ : ∃ m, fuel = m + 1 + 1 := ⟨fuel - 2, by omega⟩
    have hf1 := f.toInt_lt
    have hf2 := f.le_toInt
    have stop : ∀ (t : Int32), ¬ t = 0 → f_M_read_138 (f_M_read_36 (m + 1)) 100 (nI k) y f (nI N) t (nI i) (nI i) (bh v w) = some (nI i, bh (u2 v 100 38 t) w) := by
      intro t ht
      unfold f_M_read_138 f_M_read_192
      rw [if_neg ht]
      simp only [f_M_read_36, f_M_read_36b, f_M_read_198, hM v w, bd1_s]
      rw [if_neg ht]
      split <;> rfl
    have step : f_M_read_36 (m + 1 + 1) 100 (nI k) y f (nI N) 0 (nI i) (nI i) (bh v w) = f_M_read_138 (f_M_read_36 (m + 1)) 100 (nI k) y f (nI N) (flt S k y (f.toInt + 2 * i)) (nI i) (nI i) (bh v w) := by
      show f_M_read_36b (f_M_read_36 (m + 1)) 100 (nI k) y f (nI N) 0 (nI i) (nI i) (bh v w) = _
      unfold f_M_read_36b
      rw [if_neg (fun z => by have := (nI_leI (by omega) (by omega)).mp z; omega), if_pos rfl, M_inn hs hk hv _ _ _ _ (by omega)]
    by_cases h4 : S.2.2 4 k = -4
    · have e : rdl S k f.toInt (n + 1) i ρ = .inr (i, ρ, 1) := by simp only [rdl]; rw [if_pos h4]
      have ef : flt S k y (f.toInt + 2 * i) = 1 := by unfold flt; rw [if_pos h4]
      rw [e]
      refine ⟨fun j z => (by cases z), fun c ρ' t z => ?_⟩
      have z := Sum.inr.inj z
      obtain rfl : i = c := congrArg Prod.fst z
      obtain rfl : ρ = ρ' := congrArg (fun q => q.2.1) z
      obtain rfl : (1 : Int) = t := congrArg (fun q => q.2.2) z
      refine ⟨v, ?_, hr, fun _ _ => rfl, fun _ _ => rfl⟩
      rw [step, ef, stop 1 (by decide)]
      rfl
    · have hy : zI (S.2.2 4 k) = y := hl.resolve_left h4
      by_cases h5 : 0 ≤ f.toInt + 2 * i ∧ f.toInt + 2 * i + 1 < S.2.2 5 k
      · have ef : flt S k y (f.toInt + 2 * i) = 0 := by unfold flt; rw [if_neg h4, if_pos hy, if_pos h5]
        have hz := (hs.2.2.2.2.2 k hk).2.2
        obtain ⟨j, hj⟩ : ∃ j : Nat, f.toInt + 2 * i = (j : Int) := ⟨(f.toInt + 2 * i).toNat, by omega⟩
        have ej : (f.toInt + 2 * i).toNat = j := by omega
        obtain ⟨v1, e1, c1, f1, g1⟩ := M_bk (w := w) hr hk2 (cl S k f.toInt i 0) (cl S k f.toInt i 1)
        have hv1 : hsh S k v1 := by
          unfold hsh
          rw [f1 123 (by decide), f1 124 (by decide), f1 125 (by decide)]
          exact hv
        have eix : (((40 : Int32) * nI k) + f) + ((2 : Int32) * nI i) = nI (40 * k + j) := by
          rw [← zI_toInt f, show (40 : Int32) = nI 40 from rfl, show (2 : Int32) = nI 2 from rfl, pk_mul, pk_mul, ← zI_n, ← zI_n, zI_add, zI_add, ← zI_n]
          congr 1
          omega
        have step2 : f_M_read_36 (m + 1 + 1) 100 (nI k) y f (nI N) 0 (nI i) (nI i) (bh v w) = if 0 ≤ gbk ρ (cl S k f.toInt i 0) (cl S k f.toInt i 1) then f_M_read_36 (m + 1) 100 (nI k) y f (nI N) 0 (nI (i + 1)) (nI (i + 1)) (bh v1 w) else bd1 (f_M_returns 100 (bh v1 w)) fun h48 => some (((-20) : Int32) - nI i, h48) := by
          rw [step, ef]
          unfold f_M_read_138 f_M_read_192
          rw [if_pos rfl]
          simp only [hM v w, bd1_s]
          rw [eix, rd_nI (by omega) (by decide), bd1_s, nI_1, rd_nI (by omega) (by decide), bd1_s]
          have c0 : v 125 (40 * k + j) = cl S k f.toInt i 0 := by unfold cl; rw [ej]; exact hv.2.2 j (by omega)
          have c1 : v 125 (40 * k + j + 1) = cl S k f.toInt i 1 := by unfold cl; rw [ej]; exact hv.2.2 (j + 1) (by omega)
          rw [c0, c1, e1, bd2_s, nI_1]
          simp only [hM v1 w, bd1_s]
        by_cases hg : 0 ≤ gbk ρ (cl S k f.toInt i 0) (cl S k f.toInt i 1)
        · have e : rdl S k f.toInt (n + 1) i ρ = rdl S k f.toInt n (i + 1) (gst ρ (cl S k f.toInt i 0) (cl S k f.toInt i 1)) := by simp only [rdl]; rw [if_neg h4, if_pos h5, if_pos hg]
          rw [e, step2, if_pos hg]
          obtain ⟨a1, a2⟩ := ih (i + 1) (m + 1) _ v1 (by omega) (by omega) hv1 c1 (ROK_gst hk2 _ _)
          refine ⟨fun j z => ?_, fun c ρ' t z => ?_⟩
          · obtain ⟨v', b1, b2, b3, b4⟩ := a1 j z
            exact ⟨v', b1, fun q hq => (b2 q hq).trans (f1 q hq), fun j hj => (b3 j hj).trans (by rw [f1 119 (by decide)]), fun j hj => (b4 j hj).trans (g1 j hj)⟩
          · obtain ⟨v', b1, b2, b3, b4⟩ := a2 c ρ' t z
            exact ⟨v', b1, b2, fun q hq => (b3 q hq).trans (f1 q hq), fun j hj => (b4 j hj).trans (g1 j hj)⟩
        · have e : rdl S k f.toInt (n + 1) i ρ = .inl i := by simp only [rdl]; rw [if_neg h4, if_pos h5, if_neg hg]
          rw [e, step2, if_neg hg]
          refine ⟨fun j z => ?_, fun c ρ' t z => (by cases z)⟩
          obtain rfl : i = j := Sum.inl.inj z
          obtain ⟨v3, e3, f3, g3, h3⟩ := M_returns v1 w
          refine ⟨v3, by rw [e3]; rfl, fun q hq => (f3 q hq).trans (f1 q hq), fun j hj => (g3 j hj).trans (by rw [f1 119 (by decide)]), fun j hj => (h3 j hj).trans (g1 j hj)⟩
      · have e : rdl S k f.toInt (n + 1) i ρ = .inr (i, ρ, 2) := by simp only [rdl]; rw [if_neg h4, if_neg h5]
        have ef : flt S k y (f.toInt + 2 * i) = 2 := by unfold flt; rw [if_neg h4, if_pos hy, if_neg h5]
        rw [e]
        refine ⟨fun j z => (by cases z), fun c ρ' t z => ?_⟩
        have z := Sum.inr.inj z
        obtain rfl : i = c := congrArg Prod.fst z
        obtain rfl : ρ = ρ' := congrArg (fun q => q.2.1) z
        obtain rfl : (2 : Int) = t := congrArg (fun q => q.2.2) z
        refine ⟨v, ?_, hr, fun _ _ => rfl, fun _ _ => rfl⟩
        rw [step, ef, stop 2 (by decide)]
        rfl
theorem C_as (hs : SOK S) (hc : CI S v) (hk : k < 4) {a : Nat} (ha : a < 3) : f_Sheet_faultAs (92 + 2 * k) (nI a) (bh v w) = some (if S.2.2 4 k = -4 ∨ zI (S.2.2 4 k) = nI a then 0 else 3, bh v w) := by
  simp only [f_Sheet_faultAs, f_Sheet_faultAs_0, f_Sheet_faultAs_17, hSh hk v w, bd1_s]
  rw [(hc.2.2.2.2.2.1 k hk).1]
  by_cases h : S.2.2 4 k = -4
  · rw [if_pos h, if_pos (show zI (-4) = -4 from rfl), if_pos (Or.inl h)]
  · rw [if_neg h, if_neg (size_4 hs hk h), (hc.2.2.2.2.2.1 k hk).2.1 h]
    by_cases h2 : zI (S.2.2 4 k) = nI a
    · rw [if_pos h2, if_pos (Or.inr h2)]
    · rw [if_neg h2, if_neg (fun q => q.elim h h2)]
end
end
/-! 8i.read3.lean.txt -/
section
section
variable {S : Sg} {v : Nat → Nat → Int32} {w : Nat → Nat → Int64} {k : Nat}
theorem E_read (x y f z : Int32) (hs : SOK S) (hc : CI S v) (hm : MI S v) : Eqv S v w (f_Q_read 0 x y f z) (f_M_read 100 x y f z) := by
  by_cases hx : 0 ≤ x.toInt ∧ x.toInt < ((3 + 1 : Nat) : Int)
  · by_cases hy : 0 ≤ y.toInt ∧ y.toInt < ((2 + 1 : Nat) : Int)
    · by_cases hn : 0 ≤ z.toInt ∧ z.toInt < ((20 + 1 : Nat) : Int)
      · obtain ⟨k, hk, rfl⟩ := ix (by omega) hx
        obtain ⟨a, ha, rfl⟩ := ix (by omega) hy
        obtain ⟨N, hN, rfl⟩ := ix (by omega) hn
        have hk : k < 4 := hk
        have ha : a < 3 := ha
        have hN : N ≤ 20 := by omega
        obtain ⟨v1, e1, d1⟩ := C_copyFrom rl20 rl3 (by decide) v w
        have r1 := CR_copy hc.1 hs.1 d1
        have hc1 : CI S v1 := hc.fr (fun p hp => d1.1 p (by unfold pC at hp; omega))
        have start : f_Q_read 0 (nI k) (nI a) f (nI N) (bh v w) = f_Q_read_64 FU 0 f (nI N) (92 + 2 * k) 0 (if S.2.2 4 k = -4 ∨ zI (S.2.2 4 k) = nI a then 0 else 3) 0 (bh v1 w) := by
          simp only [f_Q_read, f_Q_read_0, Q_isWithin, bd2_s]
          rw [show (3 : Int32).toInt = (nI 3).toInt from rfl, show (2 : Int32).toInt = (nI 2).toInt from rfl, show (20 : Int32).toInt = (nI 20).toInt from rfl, if_pos ((in_rng (by decide)).mpr hx), if_neg (by decide), if_pos ((in_rng (by decide)).mpr hy), if_neg (by decide), if_pos ((in_rng (by decide)).mpr hn), if_neg (by decide)]
          simp only [hQ v w, hSh hk v w, hRl rl20 v w, bd1_s]
          rw [e1]
          simp only [hSh hk v1 w, bd1_s]
          rw [C_as hs hc1 hk ha, bd2_s]
        have startM : ∀ (v2 : Nat → Nat → Int32) (w2 : Nat → Nat → Int64), ∃ v3, f_M_read 100 (nI k) (nI a) f (nI N) (bh v2 w2) = f_M_read_36 FU 100 (nI k) (nI a) f (nI N) 0 0 0 (bh v3 w2) ∧ (∀ q, q ≠ 119 → v3 q = v2 q) ∧ ∀ j, j < 66 → v3 119 j = v2 101 j := by
          intro v2 w2
          obtain ⟨v3, e3, f3, g3⟩ := M_saves v2 w2
          refine ⟨v3, ?_, f3, g3⟩
          simp only [f_M_read, f_M_read_0, M_isSheet, M_in, bd2_s]
          rw [if_pos (And.intro hx hy), if_neg (by decide), show (20 : Int64) = (nI 20).toInt64 from rfl, if_pos ((in_rngL (by decide)).mpr hn), if_neg (by decide)]
          simp only [hM v2 w2, bd1_s]
          rw [e3]
          rfl
        by_cases hl : S.2.2 4 k = -4 ∨ zI (S.2.2 4 k) = nI a
        · rw [if_pos hl] at start
          have Q := Q_rd (w := w) hs hk f hN N 0 FU S.1 v1 (by unfold FU; omega) (by omega) hc1 r1 hs.1
          cases hr : rdl S k f.toInt N 0 S.1 with
          | inl j =>
            obtain ⟨v2, e2, f2⟩ := Q.1 j hr
            have q2 : ∀ q, q < 20 ∨ 37 ≤ q → v2 q = v q := fun q hq => (f2 q hq).trans (d1.1 q (by omega))
            have hc2 : CI S v2 := hc.fr (fun p hp => q2 p (by unfold pC at hp; omega))
            have hm2 : MI S v2 := hm.frame (fun p hp => q2 p (by omega))
            obtain ⟨v3, e3, f3, g3⟩ := startM v2 w
            have hm3 : MI S v3 := hm2.fr (fun p hp => f3 p (by unfold pM at hp; omega)) (by rw [f3 100 (by decide)]; exact ⟨rfl, rfl, rfl, rfl, rfl⟩)
            obtain ⟨v4, e4, f4, g4, h4⟩ := (M_rd (w := w) hs hk f (nI a) hl hN N 0 FU S.1 v3 (by unfold FU; omega) (by omega) (hm3.2.2.2.2.2.1 k hk) hm3.1 hs.1).1 j hr
            have e101 : v4 101 = v2 101 := by
              funext j
              by_cases hj : j < 66
              · rw [g4 j hj, g3 j hj]
              · rw [h4 j (by omega), f3 101 (by decide)]
            have q4 : ∀ q, q ≠ 119 → v4 q = v2 q := by
              intro q hq
              by_cases h : q = 101
              · subst h; exact e101
              · exact (f4 q h).trans (f3 q hq)
            exact ⟨_, v2, w, v4, w, S, start.trans e2, e3.trans e4, hs, hc2.fr (fun p hp => q4 p (by unfold pC at hp; omega)), hm2.fr (fun p hp => q4 p (by unfold pM at hp; omega)) (by rw [q4 100 (by decide)]; exact ⟨rfl, rfl, rfl, rfl, rfl⟩)⟩
          | inr q =>
            obtain ⟨c, ρ', t⟩ := q
            obtain ⟨v2, e2, c2, k2, s2, f2⟩ := Q.2 c ρ' t hr
            obtain ⟨v3, e3, d3⟩ := C_copyFrom rl3 rl20 (by decide) v2 w
            have r3 := CR_copy c2 k2 d3
            have q3 : ∀ q, q < 3 ∨ 37 ≤ q → v3 q = v q := fun q hq => (d3.1 q (by omega)).trans ((f2 q (by omega)).trans (d1.1 q (by omega)))
            have hc3 : CI (ρ', S.2) v3 := CI_rt hc r3 (fun q hq => q3 q (by omega))
            have hc4 := CI_torn (t := t) hc3
            have ea : f_Q_read 0 (nI k) (nI a) f (nI N) (bh v w) = some (nI c, bh (u2 v3 0 9 (zI t)) w) := by
              rw [start]
              refine e2.trans ?_
              simp only [f_Q_read_141, hQ v2 w, hRl rl3 v2 w, bd1_s]
              rw [e3]
              simp only [hQ v3 w, bd1_s]
            have q4 : ∀ q, 100 ≤ q → u2 v3 0 9 (zI t) q = v q := fun q hq => (u2_o (by omega)).trans (q3 q (by omega))
            have hm4 : MI S (u2 v3 0 9 (zI t)) := hm.frame (fun p hp => q4 p (by omega))
            generalize u2 v3 0 9 (zI t) = v4 at hc4 ea hm4 q4
            obtain ⟨v5, e5, f5, g5⟩ := startM v4 w
            have hm5 : MI S v5 := hm4.fr (fun p hp => f5 p (by unfold pM at hp; omega)) (by rw [f5 100 (by decide)]; exact ⟨rfl, rfl, rfl, rfl, rfl⟩)
            obtain ⟨v6, e6, m6, f6, h6⟩ := (M_rd (w := w) hs hk f (nI a) hl hN N 0 FU S.1 v5 (by unfold FU; omega) (by omega) (hm5.2.2.2.2.2.1 k hk) hm5.1 hs.1).2 c ρ' t hr
            have q6 : ∀ q, q ≠ 101 → q ≠ 119 → v6 q = v4 q := fun q a b => (f6 q a).trans (f5 q b)
            have hm6 : MI (ρ', S.2) v6 := MI_rt hm4 m6 (fun q hq => q6 q (by omega) (by omega)) (by rw [q6 100 (by decide) (by decide)]; exact ⟨rfl, rfl, rfl⟩) (fun j hj => by rw [h6 j hj, f5 101 (by decide)])
            refine ⟨_, v4, w, u2 v6 100 38 (zI t), w, (ρ', S.2.1, upX (upX S.2.2 7 0 t) 8 0 t), ea, e5.trans e6, ?_, ?_, ?_⟩
            · exact SOK_torn (S := (ρ', S.2)) (SOK_u hs k2 s2)
            · exact CI_torn8 (S := (ρ', S.2.1, upX S.2.2 7 0 t)) (hc4.frame (fun p hp => (u2_o (by omega)).trans (q6 p (by omega) (by omega))))
            · exact MI_torn (S := (ρ', S.2.1, upX S.2.2 7 0 t)) (MI_torn7 (S := (ρ', S.2)) hm6)
        · rw [if_neg hl] at start
          have h4 : ¬ S.2.2 4 k = -4 := fun q => hl (Or.inl q)
          have hy4 : ¬ zI (S.2.2 4 k) = nI a := fun q => hl (Or.inr q)
          obtain ⟨v3, e3, d3⟩ := C_copyFrom rl3 rl20 (by decide) v1 w
          have r3 := CR_copy r1 hs.1 d3
          have q3 : ∀ q, q < 3 ∨ 37 ≤ q → v3 q = v q := fun q hq => (d3.1 q (by omega)).trans (d1.1 q (by omega))
          have hc3 : CI S v3 := CI_rt hc r3 (fun q hq => q3 q (by omega))
          have hc4 := CI_torn (t := 3) hc3
          have ea : f_Q_read 0 (nI k) (nI a) f (nI N) (bh v w) = some (0, bh (u2 v3 0 9 3) w) := by
            rw [start]
            show f_Q_read_64b (f_Q_read_64 599) 0 f (nI N) (92 + 2 * k) 0 3 0 (bh v1 w) = _
            unfold f_Q_read_64b
            have fin : f_Q_read_141 0 0 3 (bh v1 w) = some (0, bh (u2 v3 0 9 3) w) := by
              simp only [f_Q_read_141, hQ v1 w, hRl rl3 v1 w, bd1_s]
              rw [e3]
              simp only [hQ v3 w, bd1_s]
            rw [if_neg (show ¬ (3 : Int32) = 0 by decide), fin]
            split <;> rfl
          have q4 : ∀ q, 100 ≤ q → u2 v3 0 9 (zI 3) q = v q := fun q hq => (u2_o (by omega)).trans (q3 q (by omega))
          have hm4 : MI S (u2 v3 0 9 (zI 3)) := hm.frame (fun p hp => q4 p (by omega))
          have ea : f_Q_read 0 (nI k) (nI a) f (nI N) (bh v w) = some (0, bh (u2 v3 0 9 (zI 3)) w) := ea
          generalize u2 v3 0 9 (zI 3) = v4 at hc4 ea hm4 q4
          obtain ⟨v5, e5, f5, g5⟩ := startM v4 w
          have hm5 : MI S v5 := hm4.fr (fun p hp => f5 p (by unfold pM at hp; omega)) (by rw [f5 100 (by decide)]; exact ⟨rfl, rfl, rfl, rfl, rfl⟩)
          have em : ∃ t : Int, f_M_read_36 FU 100 (nI k) (nI a) f (nI N) 0 0 0 (bh v5 w) = some (0, bh (u2 v5 100 38 (zI t)) w) := by
            show ∃ t : Int, f_M_read_36b (f_M_read_36 (598 + 1)) 100 (nI k) (nI a) f (nI N) 0 0 (nI 0) (bh v5 w) = _
            unfold f_M_read_36b
            by_cases h0 : nI N ≤ nI 0
            · rw [if_pos h0]
              refine ⟨0, ?_⟩
              simp only [f_M_read_198, hM v5 w, bd1_s]
              rfl
            · rw [if_neg h0, if_pos rfl, M_inn hs hk (hm5.2.2.2.2.2.1 k hk) _ _ _ _ (by omega)]
              have ef : flt S k (nI a) (f.toInt + 2 * ((0 : Nat) : Int)) = 3 := by unfold flt; rw [if_neg h4, if_neg hy4]
              refine ⟨3, ?_⟩
              rw [ef]
              unfold f_M_read_138 f_M_read_192
              rw [if_neg (show ¬ (3 : Int32) = 0 by decide)]
              show f_M_read_36b (f_M_read_36 598) 100 (nI k) (nI a) f (nI N) 3 0 (nI 0 + 1) (bh v5 w) = _
              unfold f_M_read_36b f_M_read_198
              simp only [hM v5 w, bd1_s]
              rw [if_neg (show ¬ (3 : Int32) = 0 by decide)]
              split <;> rfl
          obtain ⟨t, em⟩ := em
          refine ⟨_, v4, w, u2 v5 100 38 (zI t), w, (S.1, S.2.1, upX (upX S.2.2 7 0 3) 8 0 t), ea, e5.trans em, ?_, ?_, ?_⟩
          · exact SOK_torn hs
          · exact CI_torn8 (S := (S.1, S.2.1, upX S.2.2 7 0 3)) (hc4.frame (fun p hp => (u2_o (by omega)).trans (f5 p (by omega))))
          · exact MI_torn (S := (S.1, S.2.1, upX S.2.2 7 0 3)) (MI_torn7 (S := S) hm5)
      · refine Eqv.query (r := -1) hs hc hm ?_ ?_
        · simp only [f_Q_read, f_Q_read_0, f_Q_read_29, Q_isWithin, bd2_s]
          rw [show (3 : Int32).toInt = (nI 3).toInt from rfl, show (2 : Int32).toInt = (nI 2).toInt from rfl, show (20 : Int32).toInt = (nI 20).toInt from rfl, if_pos ((in_rng (by decide)).mpr hx), if_neg (by decide), if_pos ((in_rng (by decide)).mpr hy), if_neg (by decide), if_neg (fun q => hn ((in_rng (by decide)).mp q)), if_pos rfl]
        · simp only [f_M_read, f_M_read_0, f_M_read_21, M_isSheet, M_in, bd2_s]
          rw [if_pos (And.intro hx hy), if_neg (by decide), show (20 : Int64) = (nI 20).toInt64 from rfl, if_neg (fun q => hn ((in_rngL (by decide)).mp q)), if_pos rfl]
    · refine Eqv.query (r := -1) hs hc hm ?_ ?_
      · simp only [f_Q_read, f_Q_read_0, f_Q_read_29, Q_isWithin, bd2_s]
        rw [show (3 : Int32).toInt = (nI 3).toInt from rfl, show (2 : Int32).toInt = (nI 2).toInt from rfl, if_pos ((in_rng (by decide)).mpr hx), if_neg (by decide), if_neg (fun q => hy ((in_rng (by decide)).mp q)), if_pos rfl]
      · simp only [f_M_read, f_M_read_0, f_M_read_21, M_isSheet, bd2_s]
        rw [if_neg (show ¬ ((0 ≤ x.toInt ∧ x.toInt < ((3 + 1 : Nat) : Int)) ∧ (0 ≤ y.toInt ∧ y.toInt < ((2 + 1 : Nat) : Int))) from fun q => hy q.2), if_pos rfl]
  · refine Eqv.query (r := -1) hs hc hm ?_ ?_
    · simp only [f_Q_read, f_Q_read_0, f_Q_read_29, Q_isWithin, bd2_s]
      rw [show (3 : Int32).toInt = (nI 3).toInt from rfl, if_neg (fun q => hx ((in_rng (by decide)).mp q)), if_pos rfl]
    · simp only [f_M_read, f_M_read_0, f_M_read_21, M_isSheet, bd2_s]
      rw [if_neg (show ¬ ((0 ≤ x.toInt ∧ x.toInt < ((3 + 1 : Nat) : Int)) ∧ (0 ≤ y.toInt ∧ y.toInt < ((2 + 1 : Nat) : Int))) from fun q => hx q.1), if_pos rfl]
end
end
/-! 8j.kill.lean.txt -/
section
/-! kill -/
/-- how often all but those of the set can break a LAW -/
def sAble (ρ : Rho) (s l p : Nat) : Nat := sumN (fun q => if bit s q = 0 then sTries ρ q l else 0) p
/-- the least set of fewest, of the sets below n (0 none, else one more than the set) -/
def kst (ρ : Rho) (l : Nat) : Nat → Nat
  | 0 => 0
  | n + 1 => if (sAble ρ n l (ρ 0 1) < sNeed ρ l) ∧ (kst ρ l n = 0 ∨ sumN (bit n) 5 < sumN (bit (kst ρ l n - 1)) 5) then n + 1 else kst ρ l n
theorem kst_le (ρ : Rho) (l : Nat) : ∀ n, kst ρ l n ≤ n
  | 0 => Nat.le_refl _
  | n + 1 => by
    have := kst_le ρ l n
    unfold kst
    split <;> omega
theorem cI_s (m : Nat) : cI (m + 1) = nI m := rfl
theorem cI_n4 {c : Nat} (hc : c ≤ 100) : cI c = (-4 : Int32) ↔ c = 0 := by
  cases c with
  | zero => exact ⟨fun _ => rfl, fun _ => rfl⟩
  | succ m =>
    refine ⟨fun h => ?_, fun h => by cases h⟩
    have := congrArg Int32.toInt h
    rw [cI_s, nI_toInt (by omega)] at this
    have e : (-4 : Int32).toInt = -4 := rfl
    omega
theorem sumbit_le (s : Nat) : sumN (bit s) 5 ≤ 5 := by
  have := sumN_c (f := bit s) (c := 1) (n := 5) (fun i _ => by have := bit_lt s i; omega)
  omega
section
variable {ρ : Rho} {v : Nat → Nat → Int32} {w : Nat → Nat → Int64} {o : Nat}
theorem sAble_le (hk : ROK ρ) {s l p : Nat} (hl : l < ρ 0 0) : sAble ρ s l p ≤ 3 * p := by
  unfold sAble
  refine sumN_c (fun i _ => ?_)
  have := sTries_le hk (p := i) hl
  split <;> omega
theorem C_ableWithout (ho : rl o) (hr : CR o ρ v) (hk : ROK ρ) {s l : Nat} (hs : s < 32) (hl : l < ρ 0 0) : f_Realm_ableWithout o (nI s) (nI l) (bh v w) = some (nI (sAble ρ s l (ρ 0 1)), bh v w) := by
  have h2 := hk.1.2.1
  have key : ∀ (k fuel i : Nat), k < fuel → i + k = ρ 0 1 → f_Realm_ableWithout_5 fuel o (nI s) (nI l) (nI (sAble ρ s l i)) (nI i) (bh v w) = some (nI (sAble ρ s l (ρ 0 1)), bh v w) := by
    intro k
    induction k with
    | zero =>
      intro fuel i hf hi
      obtain ⟨n, rfl⟩ : ∃ n, fuel = n + 1 := ⟨fuel - 1, by omega⟩
      simp only [f_Realm_ableWithout_5, f_Realm_ableWithout_5b, hRl ho v w, bd1_s]
      rw [hr.1.2.1, if_pos (nI_le (by omega) (by omega)), show i = ρ 0 1 by omega]
    | succ k ih =>
      intro fuel i hf hi
      obtain ⟨n, rfl⟩ : ∃ n, fuel = n + 1 := ⟨fuel - 1, by omega⟩
      simp only [f_Realm_ableWithout_5, f_Realm_ableWithout_5b, f_Realm_ableWithout_35, hRl ho v w, bd1_s]
      rw [hr.1.2.1, if_neg (nI_ge (by omega) (by omega)), Q_hasBit (by omega) (by omega), bd2_s]
      have := ih n (i + 1) (by omega) (by omega)
      rw [show sAble ρ s l (i + 1) = sAble ρ s l i + (if bit s i = 0 then sTries ρ i l else 0) from rfl] at this
      rcases bit_01 s i with g | g
      · rw [g, if_pos (show nI 0 = 0 from rfl)]
        simp only [hRl ho v w, bd1_s]
        rw [C_ableAlone ho hr hk (by omega) hl, bd2_s, nI_add, nI_1]
        rw [if_pos g] at this
        exact this
      · rw [g, if_neg (show ¬ nI 1 = 0 by decide), show (0 : Int32) = nI 0 from rfl, nI_add, nI_1]
        rw [if_neg (by omega)] at this
        exact this
  exact key (ρ 0 1) FU 0 (by unfold FU; omega) (by omega)
theorem two_pow_I {P : Nat} (hP : P ≤ 5) : (1 : Int32) <<< (nI P &&& 31) = nI (2 ^ P) := shl_I (by omega)
theorem pw8 {P : Nat} (hP : P ≤ 3) : 2 ^ P ≤ 8 := Nat.le_trans (Nat.pow_le_pow_right (by decide) hP) (by decide)
end
section
variable {S : Sg} {v : Nat → Nat → Int32} {w : Nat → Nat → Int64}
def kans (ρ : Rho) (l : Nat) (x : Int32) : Int32 := if kst ρ l (2 ^ ρ 0 1) = 0 then -4 else if x = 0 then nI (sumN (bit (kst ρ l (2 ^ ρ 0 1) - 1)) 5) else cI (kst ρ l (2 ^ ρ 0 1))
theorem Q_kill_loop (hs : SOK S) (hc : CI S v) {l : Nat} (hl : l < S.1 0 0) (x : Int32) : f_Q_kill_45 FU 0 (nI l) x (-4) 0 (bh v w) = some (kans S.1 l x, bh v w) := by
  have h2 := hs.1.1.2.1
  have h1 := hs.1.1.1
  have hp8 := pw8 h2
  have key : ∀ (k fuel n : Nat), k < fuel → n + k = 2 ^ S.1 0 1 → f_Q_kill_45 fuel 0 (nI l) x (cI (kst S.1 l n)) (nI n) (bh v w) = some (kans S.1 l x, bh v w) := by
    intro k
    induction k with
    | zero =>
      intro fuel n hf hn
      obtain ⟨m, rfl⟩ : ∃ m, fuel = m + 1 := ⟨fuel - 1, by omega⟩
      have kl := kst_le S.1 l n
      simp only [f_Q_kill_45, f_Q_kill_45b, f_Q_kill_136, q_now, hRl rl3 v w, bd1_s]
      rw [hc.1.1.2.1, two_pow_I (by omega), if_pos ((nI_leI (by omega) (by omega)).mpr (by omega))]
      unfold kans
      rw [← hn, Nat.add_zero]
      cases hz : kst S.1 l n with
      | zero =>
        rw [if_pos rfl, if_pos (show cI 0 = -4 from rfl)]
        split <;> rfl
      | succ m =>
        rw [if_neg (show ¬ m + 1 = 0 by omega), if_neg (show ¬ cI (m + 1) = -4 from fun q => by have := (cI_n4 (c := m + 1) (by omega)).mp q; omega), cI_s, bitCount_I _ (by omega), bd2_s]
        split <;> rfl
    | succ k ih =>
      intro fuel n hf hn
      obtain ⟨m, rfl⟩ : ∃ m, fuel = m + 1 := ⟨fuel - 1, by omega⟩
      have kl := kst_le S.1 l n
      have nx := ih m (n + 1) (by omega) (by omega)
      have na := sAble_le hs.1 (s := n) (p := S.1 0 1) hl
      have nn := sNeed_le hs.1 hl
      have go : ∀ (d : Prop) [Decidable d], (d ↔ (kst S.1 l n = 0 ∨ sumN (bit n) 5 < sumN (bit (kst S.1 l n - 1)) 5)) → f_Q_kill_82 (f_Q_kill_45 m) 0 (nI l) x (cI (kst S.1 l n)) (nI n) (if d then 1 else 0) (bh v w) = some (kans S.1 l x, bh v w) := by
        intro d hd1 hd
        unfold f_Q_kill_82 f_Q_kill_113
        rw [show kst S.1 l (n + 1) = if (sAble S.1 n l (S.1 0 1) < sNeed S.1 l) ∧ (kst S.1 l n = 0 ∨ sumN (bit n) 5 < sumN (bit (kst S.1 l n - 1)) 5) then n + 1 else kst S.1 l n from rfl] at nx
        by_cases h : d
        · rw [if_pos h, if_neg (by decide)]
          simp only [q_now, hRl rl3 v w, bd1_s]
          rw [C_ableWithout rl3 hc.1 hs.1 (by omega) hl, bd2_s]
          simp only [q_now, hRl rl3 v w, bd1_s]
          rw [C_needOf rl3 hc.1 hs.1 hl, bd2_s, ite_iff (nI_leI (by omega) (by omega)), nI_1]
          by_cases g : sNeed S.1 l ≤ sAble S.1 n l (S.1 0 1)
          · rw [if_pos g]
            rw [if_neg (fun q => by omega)] at nx
            exact nx
          · rw [if_neg g]
            rw [if_pos ⟨by omega, hd.mp h⟩] at nx
            exact nx
        · rw [if_neg h, if_pos rfl, nI_1]
          rw [if_neg (fun q => h (hd.mpr q.2))] at nx
          exact nx
      simp only [f_Q_kill_45, f_Q_kill_45b, f_Q_kill_77, q_now, hRl rl3 v w, bd1_s]
      rw [hc.1.1.2.1, two_pow_I (by omega), if_neg (fun z => by have := (nI_leI (by omega) (by omega)).mp z; omega)]
      by_cases h0 : kst S.1 l n = 0
      · rw [if_pos ((cI_n4 (by omega)).mpr h0)]
        have := go True (by simp [h0])
        rw [if_pos trivial] at this
        exact this
      · rw [if_neg (fun q => h0 ((cI_n4 (by omega)).mp q))]
        obtain ⟨m2, hm2⟩ : ∃ m2, kst S.1 l n = m2 + 1 := ⟨kst S.1 l n - 1, by omega⟩
        rw [bitCount_I _ (by omega), bd2_s, hm2, cI_s, bitCount_I _ (by omega), bd2_s]
        have b1 := sumbit_le n
        have b2 := sumbit_le m2
        rw [ite_iff (nI_leI (by omega) (by omega))]
        have g1 := go (sumN (bit n) 5 < sumN (bit m2) 5) (by rw [hm2]; simp)
        rw [hm2, cI_s] at g1
        by_cases g : sumN (bit m2) 5 ≤ sumN (bit n) 5
        · rw [if_pos g]
          rw [if_neg (by omega)] at g1
          exact g1
        · rw [if_neg g]
          rw [if_pos (by omega)] at g1
          exact g1
  exact key (2 ^ S.1 0 1) FU 0 (by unfold FU; omega) (by omega)
end
end
/-! 8k.kill2.lean.txt -/
section
section
variable {S : Sg} {v : Nat → Nat → Int32} {w : Nat → Nat → Int64}
def kfew (ρ : Rho) (l n : Nat) : Int32 := if kst ρ l n = 0 then -4 else nI (sumN (bit (kst ρ l n - 1)) 5)
theorem M_kill_loop (hs : SOK S) (hm : MI S v) {l : Nat} (hl : l < S.1 0 0) (x : Int32) : f_M_kill_41 FU 100 (nI l) x (-4) (-4) 0 (bh v w) = some (kans S.1 l x, bh v w) := by
  have h2 := hs.1.1.2.1
  have h1 := hs.1.1.1
  have hp8 := pw8 h2
  have key : ∀ (k fuel n : Nat), k < fuel → n + k = 2 ^ S.1 0 1 → f_M_kill_41 fuel 100 (nI l) x (kfew S.1 l n) (cI (kst S.1 l n)) (nI n) (bh v w) = some (kans S.1 l x, bh v w) := by
    intro k
    induction k with
    | zero =>
      intro fuel n hf hn
      obtain ⟨m, rfl⟩ : ∃ m, fuel = m + 1 := ⟨fuel - 1, by omega⟩
      simp only [f_M_kill_41, f_M_kill_41b, hM v w, bd1_s]
      rw [hm.1.1.2.1, two_pow_I (by omega), if_pos ((nI_leI (by omega) (by omega)).mpr (by omega))]
      unfold kans kfew
      rw [← hn, Nat.add_zero]
      cases hz : kst S.1 l n with
      | zero =>
        rw [if_pos rfl, if_pos rfl]
        split <;> rfl
      | succ m =>
        rw [if_neg (show ¬ m + 1 = 0 by omega), if_neg (show ¬ m + 1 = 0 by omega)]
        split <;> rfl
    | succ k ih =>
      intro fuel n hf hn
      obtain ⟨m, rfl⟩ : ∃ m, fuel = m + 1 := ⟨fuel - 1, by omega⟩
      have kl := kst_le S.1 l n
      have nx := ih m (n + 1) (by omega) (by omega)
      have nn := sNeed_le hs.1 hl
      have inn : ∀ (k fuel p : Nat), k < fuel → p + k = S.1 0 1 → f_M_kill_58 (f_M_kill_41 m) fuel 100 (nI l) x (kfew S.1 l n) (cI (kst S.1 l n)) (nI n) (nI (sAble S.1 n l p)) (nI p) (bh v w) = some (kans S.1 l x, bh v w) := by
        intro k
        induction k with
        | zero =>
          intro fuel p hf hp
          obtain ⟨m2, rfl⟩ : ∃ m2, fuel = m2 + 1 := ⟨fuel - 1, by omega⟩
          obtain rfl : p = S.1 0 1 := by omega
          have na := sAble_le hs.1 (s := n) (p := S.1 0 1) hl
          show f_M_kill_58b (f_M_kill_41 m) (f_M_kill_58 (f_M_kill_41 m) m2) 100 (nI l) x (kfew S.1 l n) (cI (kst S.1 l n)) (nI n) (nI (sAble S.1 n l (S.1 0 1))) (nI (S.1 0 1)) (bh v w) = _
          unfold f_M_kill_58b
          simp only [hM v w, bd1_s]
          rw [hm.1.1.2.1, if_pos (nI_le (by omega) (by omega)), M_needOf hm.1 hs.1 hl, bd2_s, ite_iff (nI_leI (by omega) (by omega))]
          have no : ¬ ((sAble S.1 n l (S.1 0 1) < sNeed S.1 l) ∧ (kst S.1 l n = 0 ∨ sumN (bit n) 5 < sumN (bit (kst S.1 l n - 1)) 5)) → f_M_kill_128 (f_M_kill_41 m) 100 (nI l) x (kfew S.1 l n) (cI (kst S.1 l n)) (nI n) (bh v w) = some (kans S.1 l x, bh v w) := by
            intro hno
            unfold f_M_kill_128 f_M_kill_129 f_M_kill_143 f_M_kill_159
            rw [if_pos rfl, if_pos rfl, nI_1]
            have e : kst S.1 l (n + 1) = kst S.1 l n := by simp only [kst]; rw [if_neg hno]
            unfold kfew at nx ⊢
            rw [e] at nx
            exact nx
          have yes : ((sAble S.1 n l (S.1 0 1) < sNeed S.1 l) ∧ (kst S.1 l n = 0 ∨ sumN (bit n) 5 < sumN (bit (kst S.1 l n - 1)) 5)) → f_M_kill_124 (f_M_kill_41 m) 100 (nI l) x (kfew S.1 l n) (cI (kst S.1 l n)) (nI n) (bh v w) = some (kans S.1 l x, bh v w) := by
            intro hy
            unfold f_M_kill_124 f_M_kill_129 f_M_kill_143 f_M_kill_159
            rw [if_neg (by decide), if_neg (by decide), M_bitsOf (by omega), bd2_s, nI_1]
            have e : kst S.1 l (n + 1) = n + 1 := by simp only [kst]; rw [if_pos hy]
            unfold kfew at nx
            rw [e, if_neg (by omega), cI_s, show n + 1 - 1 = n by omega] at nx
            exact nx
          by_cases g : sNeed S.1 l ≤ sAble S.1 n l (S.1 0 1)
          · rw [if_pos g]
            exact no (fun q => by omega)
          · rw [if_neg g]
            by_cases h0 : kst S.1 l n = 0
            · rw [if_pos (show kfew S.1 l n = -4 by unfold kfew; rw [if_pos h0])]
              exact yes ⟨by omega, Or.inl h0⟩
            · have ek : kfew S.1 l n = nI (sumN (bit (kst S.1 l n - 1)) 5) := by unfold kfew; rw [if_neg h0]
              have b1 := sumbit_le n
              have b2 := sumbit_le (kst S.1 l n - 1)
              have n4 : ¬ kfew S.1 l n = -4 := by
                rw [ek]
                intro q
                have := congrArg Int32.toInt q
                rw [nI_toInt (by omega), show (-4 : Int32).toInt = -4 from rfl] at this
                omega
              rw [if_neg n4, M_bitsOf (by omega), bd2_s]
              by_cases g2 : sumN (bit (kst S.1 l n - 1)) 5 ≤ sumN (bit n) 5
              · rw [if_pos (by rw [ek]; exact (nI_leI (by omega) (by omega)).mpr g2)]
                exact no (fun q => q.2.elim h0 (fun z => by omega))
              · rw [if_neg (by rw [ek]; exact fun z => g2 ((nI_leI (by omega) (by omega)).mp z))]
                exact yes ⟨by omega, Or.inr (by omega)⟩
        | succ k ih2 =>
          intro fuel p hf hp
          obtain ⟨m2, rfl⟩ : ∃ m2, fuel = m2 + 1 := ⟨fuel - 1, by omega⟩
          have nx2 := ih2 m2 (p + 1) (by omega) (by omega)
          rw [show sAble S.1 n l (p + 1) = sAble S.1 n l p + (if bit n p = 0 then sTries S.1 p l else 0) from rfl] at nx2
          show f_M_kill_58b (f_M_kill_41 m) (f_M_kill_58 (f_M_kill_41 m) m2) 100 (nI l) x (kfew S.1 l n) (cI (kst S.1 l n)) (nI n) (nI (sAble S.1 n l p)) (nI p) (bh v w) = _
          unfold f_M_kill_58b f_M_kill_90
          simp only [hM v w, bd1_s]
          rw [hm.1.1.2.1, if_neg (nI_ge (by omega) (by omega)), bit_I (by omega) (by omega)]
          rcases bit_01 n p with g | g
          · rw [g, if_pos (show nI 0 = 0 from rfl)]
            rw [if_pos g] at nx2
            rw [M_triesOf hm.1 hs.1 (by omega) hl, bd2_s, nI_add, nI_1]
            exact nx2
          · rw [g, if_neg (show ¬ nI 1 = 0 by decide)]
            rw [if_neg (by omega)] at nx2
            rw [show (0 : Int32) = nI 0 from rfl, nI_add, nI_1]
            exact nx2
      show f_M_kill_41b (f_M_kill_41 m) 100 (nI l) x (kfew S.1 l n) (cI (kst S.1 l n)) (nI n) (bh v w) = _
      unfold f_M_kill_41b
      simp only [hM v w, bd1_s]
      rw [hm.1.1.2.1, two_pow_I (by omega), if_neg (fun z => by have := (nI_leI (by omega) (by omega)).mp z; omega)]
      exact inn (S.1 0 1) FU 0 (by unfold FU; omega) (by omega)
  exact key (2 ^ S.1 0 1) FU 0 (by unfold FU; omega) (by omega)
theorem E_kill (x y : Int32) (hs : SOK S) (hc : CI S v) (hm : MI S v) : Eqv S v w (f_Q_kill 0 x y) (f_M_kill 100 x y) := by
  have h1 := hs.1.1.1
  have hst := hs.1.st
  by_cases hx : 0 ≤ x.toInt ∧ x.toInt < (S.1 0 0 : Int)
  · by_cases hy : 0 ≤ y.toInt ∧ y.toInt < ((1 + 1 : Nat) : Int)
    · obtain ⟨l, hl, rfl⟩ := ix (by omega) hx
      rcases bit_01 (S.1 0 4) l with g | g
      · refine Eqv.query (r := -2) hs hc hm ?_ ?_
        · simp only [f_Q_kill, f_Q_kill_0, q_now, hRl rl3 v w, bd1_s]
          rw [C_hasLaw rl3 hc.1 h1, bd2_s, if_pos hx, if_neg (by decide), Q_isWithin, bd2_s, show (1 : Int32).toInt = (nI 1).toInt from rfl, if_pos ((in_rng (by decide)).mpr hy), if_neg (by decide)]
          simp only [q_now, hRl rl3 v w, bd1_s]
          rw [hc.1.1.2.2.2.2.1, Q_hasBit (by omega) (by omega), bd2_s, g, if_pos (show nI 0 = 0 from rfl)]
        · simp only [f_M_kill, f_M_kill_0, hM v w, bd1_s]
          rw [M_isLaw hm.1.1 h1, bd2_s, if_pos hx, if_neg (by decide), M_in, bd2_s, show (1 : Int64) = (nI 1).toInt64 from rfl, if_pos ((in_rngL (by decide)).mpr hy), if_neg (by decide)]
          simp only [hM v w, bd1_s]
          rw [M_doesStand hm.1.2 (by omega) (by omega), bd2_s, g, if_pos (show nI 0 = 0 from rfl)]
      · refine Eqv.query (r := kans S.1 l y) hs hc hm ?_ ?_
        · simp only [f_Q_kill, f_Q_kill_0, q_now, hRl rl3 v w, bd1_s]
          rw [C_hasLaw rl3 hc.1 h1, bd2_s, if_pos hx, if_neg (by decide), Q_isWithin, bd2_s, show (1 : Int32).toInt = (nI 1).toInt from rfl, if_pos ((in_rng (by decide)).mpr hy), if_neg (by decide)]
          simp only [q_now, hRl rl3 v w, bd1_s]
          rw [hc.1.1.2.2.2.2.1, Q_hasBit (by omega) (by omega), bd2_s, g, if_neg (show ¬ nI 1 = 0 by decide)]
          exact Q_kill_loop hs hc hl y
        · simp only [f_M_kill, f_M_kill_0, hM v w, bd1_s]
          rw [M_isLaw hm.1.1 h1, bd2_s, if_pos hx, if_neg (by decide), M_in, bd2_s, show (1 : Int64) = (nI 1).toInt64 from rfl, if_pos ((in_rngL (by decide)).mpr hy), if_neg (by decide)]
          simp only [hM v w, bd1_s]
          rw [M_doesStand hm.1.2 (by omega) (by omega), bd2_s, g, if_neg (show ¬ nI 1 = 0 by decide)]
          exact M_kill_loop hs hm hl y
    · refine Eqv.query (r := -1) hs hc hm ?_ ?_
      · simp only [f_Q_kill, f_Q_kill_0, f_Q_kill_20, q_now, hRl rl3 v w, bd1_s]
        rw [C_hasLaw rl3 hc.1 h1, bd2_s, if_pos hx, if_neg (by decide), Q_isWithin, bd2_s, show (1 : Int32).toInt = (nI 1).toInt from rfl, if_neg (fun q => hy ((in_rng (by decide)).mp q)), if_pos rfl]
      · simp only [f_M_kill, f_M_kill_0, f_M_kill_18, hM v w, bd1_s]
        rw [M_isLaw hm.1.1 h1, bd2_s, if_pos hx, if_neg (by decide), M_in, bd2_s, show (1 : Int64) = (nI 1).toInt64 from rfl, if_neg (fun q => hy ((in_rngL (by decide)).mp q)), if_pos rfl]
  · refine Eqv.query (r := -1) hs hc hm ?_ ?_
    · simp only [f_Q_kill, f_Q_kill_0, f_Q_kill_20, q_now, hRl rl3 v w, bd1_s]
      rw [C_hasLaw rl3 hc.1 h1, bd2_s, if_neg hx, if_pos rfl]
    · simp only [f_M_kill, f_M_kill_0, f_M_kill_18, hM v w, bd1_s]
      rw [M_isLaw hm.1.1 h1, bd2_s, if_neg hx, if_pos rfl]
end
end
/-! 8l.wild.lean.txt -/
section
/-! wild years -/
def sd (a : Int32) : Int32 := (a * (1103515245 : Int32)) + (12345 : Int32)
def dr (a : Int32) : Int32 := (a >>> ((16 : Int32) &&& 31)) &&& (32767 : Int32)
theorem dr_bv (b : BitVec 32) : (b >>> (16 : Nat)) &&& 32767#32 = (b.sshiftRight 16) &&& 32767#32 := by
  apply BitVec.eq_of_getLsbD_eq
  intro i hi
  rw [BitVec.getLsbD_and, BitVec.getLsbD_and, BitVec.getLsbD_ushiftRight, BitVec.getLsbD_sshiftRight]
  by_cases h : i < 15
  · have h1 : ¬ 32 ≤ i := by omega
    have h2 : 16 + i < 32 := by omega
    simp [h1, h2]
  · have : ∀ j, j < 32 → 15 ≤ j → (32767#32).getLsbD j = false := by decide
    rw [this i hi (by omega)]
    simp
theorem C_next (a : Int32) (h : mH) : f_Realm_nextSeed a h = some (sd a, h) := by
  unfold f_Realm_nextSeed f_Realm_nextSeed_0 sd
  exact Eq.refl _
theorem C_drawn (a : Int32) (h : mH) : f_Realm_drawn a h = some (dr a, h) := by
  unfold f_Realm_drawn f_Realm_drawn_0 dr
  refine congrArg (fun z => some (z, h)) ?_
  apply Int32.toBitVec_inj.mp
  exact dr_bv a.toBitVec
def wx (g d : Int32 → Int32) (ρ : Rho) (a : Int32) : Int32 := d (g a) - d (g a) / nI (ρ 0 1) * nI (ρ 0 1)
def wy (g d : Int32 → Int32) (ρ : Rho) (a : Int32) : Int32 := d (g (g a)) - d (g (g a)) / nI (ρ 0 0) * nI (ρ 0 0)
theorem M_wild_54b_eq (rec54 : Nat → Int32 → Int32 → Int32 → Int32 → Int32 → mH → Option (Int32 × mH)) (b0 : Nat) (b2 : Int32) (b3 : Int32) (b4 : Int32) (b5 : Int32) (b6 : Int32) (h : mH) : f_M_wild_54b rec54 b0 b2 b3 b4 b5 b6 h =
  if b2 ≤ b6 then
    bd1 (kC h b0 8) fun _ =>
    bd2 (f_M_fallsNow b0 h) fun x23 h21 =>
    bd1 (kC h21 b0 8) fun _ =>
    bd1 (f_M_returns b0 h21) fun h26 =>
    if b3 = 0 then
      some (b5, h26)
    else
      some (x23, h26)
  else
    bd1 (gI h b0 8 3) fun x29 =>
    if x29 = 0 then none else
    bd1 (gI h b0 8 2) fun x32 =>
    if x32 = 0 then none else
    bd1 (kC h b0 8) fun _ =>
    bd2 (f_M_breaks b0 ((dr (sd b4)) - (dr (sd b4)) / x29 * x29) ((dr (sd (sd b4))) - (dr (sd (sd b4))) / x32 * x32) h) fun x39 h37 =>
    if x39 < 0 then
      f_M_wild_130 rec54 b0 b2 b3 (sd (sd b4)) b6 b5 (0 : Int32) h37
    else
      f_M_wild_130 rec54 b0 b2 b3 (sd (sd b4)) b6 b5 (1 : Int32) h37 := by
  unfold f_M_wild_54b sd dr
  exact Eq.refl _
noncomputable def wlr (g d : Int32 → Int32) : Nat → Int32 → Nat → Rho → Nat × Rho
  | 0, _, c, ρ => (c, ρ)
  | n + 1, a, c, ρ => haveI := Classical.propDecidable; wlr g d n (g (g a)) (if gbk ρ (wx g d ρ a) (wy g d ρ a) < 0 then c else c + 1) (gst ρ (wx g d ρ a) (wy g d ρ a))
theorem wlr_le (g d : Int32 → Int32) : ∀ (n : Nat) (a : Int32) (c : Nat) (ρ : Rho), (wlr g d n a c ρ).1 ≤ c + n
  | 0, _, _, _ => Nat.le_refl _
  | n + 1, a, c, ρ => by
    unfold wlr
    have := wlr_le g d n (g (g a)) (@ite _ (gbk ρ (wx g d ρ a) (wy g d ρ a) < 0) (Classical.propDecidable _) c (c + 1)) (gst ρ (wx g d ρ a) (wy g d ρ a))
    refine Nat.le_trans this ?_
    split <;> omega
theorem gst_LP (ρ : Rho) (x y : Int32) : gst ρ x y 0 0 = ρ 0 0 ∧ gst ρ x y 0 1 = ρ 0 1 := by
  have := SAME_gst (SAME.rf ρ) x y
  exact ⟨this.1.symm, this.2.1.symm⟩
section
variable {v : Nat → Nat → Int32} {w : Nat → Nat → Int64}
theorem C_seed {g d : Int32 → Int32} (hn : ∀ a h, f_Realm_nextSeed a h = some (g a, h)) (hd : ∀ a h, f_Realm_drawn a h = some (d a, h)) {N : Nat} (hN : N ≤ 60) : ∀ (n i fuel c : Nat) (a : Int32) (ρ : Rho) (v : Nat → Nat → Int32), n < fuel → i + n = N → CR 20 ρ v → ROK ρ → 0 < ρ 0 1 → 0 < ρ 0 0 → ∃ v', f_Realm_breakBySeed_24 fuel 20 (nI N) (nI c) a (nI i) (bh v w) = some (nI (wlr g d n a c ρ).1, bh v' w) ∧ CR 20 (wlr g d n a c ρ).2 v' ∧ ROK (wlr g d n a c ρ).2 ∧ ∀ q, q < 20 ∨ 37 ≤ q → v' q = v q := by
  intro n
  induction n with
  | zero =>
    intro i fuel c a ρ v hf hi hr hk hP hL
    obtain ⟨m, rfl⟩ : ∃ m, fuel = m + 1 := ⟨fuel - 1, by omega⟩
    simp only [f_Realm_breakBySeed_24, f_Realm_breakBySeed_24b]
    rw [if_pos ((nI_leI (by omega) (by omega)).mpr (by omega))]
    exact ⟨v, rfl, hr, hk, fun _ _ => rfl⟩
  | succ n ih =>
    intro i fuel c a ρ v hf hi hr hk hP hL
    obtain ⟨m, rfl⟩ : ∃ m, fuel = m + 1 := ⟨fuel - 1, by omega⟩
    have h1 := hk.1.1
    have h2 := hk.1.2.1
    obtain ⟨v1, e1, c1, f1⟩ := C_bk (w := w) rl20 hr hk (wx g d ρ a) (wy g d ρ a)
    have gp := gst_LP ρ (wx g d ρ a) (wy g d ρ a)
    simp only [f_Realm_breakBySeed_24, f_Realm_breakBySeed_24b, f_Realm_breakBySeed_85, hn, hd, bd2_s, hRl rl20 v w, bd1_s]
    rw [if_neg (fun z => by have := (nI_leI (by omega) (by omega)).mp z; omega), hr.1.2.1, hr.1.1, if_neg (fun z => by have := (nI_eqI (a := ρ 0 1) (b := 0) (by omega) (by omega)).mp z; omega), if_neg (fun z => by have := (nI_eqI (a := ρ 0 0) (b := 0) (by omega) (by omega)).mp z; omega)]
    have ex : d (g a) - d (g a) / nI (ρ 0 1) * nI (ρ 0 1) = wx g d ρ a := rfl
    have ey : d (g (g a)) - d (g (g a)) / nI (ρ 0 0) * nI (ρ 0 0) = wy g d ρ a := rfl
    rw [ex, ey, e1, bd2_s]
    unfold wlr
    by_cases hg : gbk ρ (wx g d ρ a) (wy g d ρ a) < 0
    · rw [if_pos hg, if_pos hg, show (0 : Int32) = nI 0 from rfl, nI_add, nI_1, Nat.add_zero]
      obtain ⟨v', a1, a2, a3, a4⟩ := ih (i + 1) m c (g (g a)) (gst ρ (wx g d ρ a) (wy g d ρ a)) v1 (by omega) (by omega) c1 (ROK_gst hk _ _) (by rw [gp.2]; exact hP) (by rw [gp.1]; exact hL)
      exact ⟨v', a1, a2, a3, fun q hq => (a4 q hq).trans (f1 q (by omega))⟩
    · rw [if_neg hg, if_neg hg, nI_1, nI_1]
      obtain ⟨v', a1, a2, a3, a4⟩ := ih (i + 1) m (c + 1) (g (g a)) (gst ρ (wx g d ρ a) (wy g d ρ a)) v1 (by omega) (by omega) c1 (ROK_gst hk _ _) (by rw [gp.2]; exact hP) (by rw [gp.1]; exact hL)
      exact ⟨v', a1, a2, a3, fun q hq => (a4 q hq).trans (f1 q (by omega))⟩
theorem M_seed {g d : Int32 → Int32} (hb : ∀ (rec54 : Nat → Int32 → Int32 → Int32 → Int32 → Int32 → mH → Option (Int32 × mH)) (b0 : Nat) (b2 : Int32) (b3 : Int32) (b4 : Int32) (b5 : Int32) (b6 : Int32) (h : mH), f_M_wild_54b rec54 b0 b2 b3 b4 b5 b6 h =
  if b2 ≤ b6 then
    bd1 (kC h b0 8) fun _ =>
    bd2 (f_M_fallsNow b0 h) fun x23 h21 =>
    bd1 (kC h21 b0 8) fun _ =>
    bd1 (f_M_returns b0 h21) fun h26 =>
    if b3 = 0 then
      some (b5, h26)
    else
      some (x23, h26)
  else
    bd1 (gI h b0 8 3) fun x29 =>
    if x29 = 0 then none else
    bd1 (gI h b0 8 2) fun x32 =>
    if x32 = 0 then none else
    bd1 (kC h b0 8) fun _ =>
    bd2 (f_M_breaks b0 ((d (g b4)) - (d (g b4)) / x29 * x29) ((d (g (g b4))) - (d (g (g b4))) / x32 * x32) h) fun x39 h37 =>
    if x39 < 0 then
      f_M_wild_130 rec54 b0 b2 b3 (g (g b4)) b6 b5 (0 : Int32) h37
    else
      f_M_wild_130 rec54 b0 b2 b3 (g (g b4)) b6 b5 (1 : Int32) h37) {N : Nat} (hN : N ≤ 60) (z : Int32) : ∀ (n i fuel c : Nat) (a : Int32) (ρ : Rho) (v : Nat → Nat → Int32), n < fuel → i + n = N → MR ρ v → ROK ρ → 0 < ρ 0 1 → 0 < ρ 0 0 → ∃ v', f_M_wild_54 fuel 100 (nI N) z a (nI c) (nI i) (bh v w) = some (if z = 0 then nI (wlr g d n a c ρ).1 else nI (sFalls (wlr g d n a c ρ).2), bh v' w) ∧ (∀ q, q ≠ 101 → v' q = v q) ∧ (∀ j, j < 66 → v' 101 j = v 119 j) ∧ ∀ j, 66 ≤ j → v' 101 j = v 101 j := by
  intro n
  induction n with
  | zero =>
    intro i fuel c a ρ v hf hi hr hk hP hL
    obtain ⟨m, rfl⟩ : ∃ m, fuel = m + 1 := ⟨fuel - 1, by omega⟩
    obtain ⟨v1, e1, f1, g1, k1⟩ := M_returns v w
    show ∃ v', f_M_wild_54b (f_M_wild_54 m) 100 (nI N) z a (nI c) (nI i) (bh v w) = _ ∧ _
    rw [hb]
    simp only [hM v w, bd1_s]
    rw [if_pos ((nI_leI (by omega) (by omega)).mpr (by omega)), M_fallsNow hr hk, bd2_s]
    simp only [hM v w, bd1_s]
    rw [e1, bd1_s]
    refine ⟨v1, ?_, f1, g1, k1⟩
    split <;> rfl
  | succ n ih =>
    intro i fuel c a ρ v hf hi hr hk hP hL
    obtain ⟨m, rfl⟩ : ∃ m, fuel = m + 1 := ⟨fuel - 1, by omega⟩
    have h1 := hk.1.1
    have h2 := hk.1.2.1
    obtain ⟨v1, e1, c1, f1, k1⟩ := M_bk (w := w) hr hk (wx g d ρ a) (wy g d ρ a)
    have gp := gst_LP ρ (wx g d ρ a) (wy g d ρ a)
    have fl0 : ∀ h : mH, f_M_flag 0 h = some (0, h) := fun _ => rfl
    have fl1 : ∀ h : mH, f_M_flag 1 h = some (1, h) := fun _ => rfl
    show ∃ v', f_M_wild_54b (f_M_wild_54 m) 100 (nI N) z a (nI c) (nI i) (bh v w) = _ ∧ _
    rw [hb]
    simp only [f_M_wild_130, hM v w, bd1_s, fl0, fl1, bd2_s]
    rw [if_neg (fun z => by have := (nI_leI (by omega) (by omega)).mp z; omega), hr.1.2.1, hr.1.1, if_neg (fun z => by have := (nI_eqI (a := ρ 0 1) (b := 0) (by omega) (by omega)).mp z; omega), if_neg (fun z => by have := (nI_eqI (a := ρ 0 0) (b := 0) (by omega) (by omega)).mp z; omega)]
    have ex : d (g a) - d (g a) / nI (ρ 0 1) * nI (ρ 0 1) = wx g d ρ a := rfl
    have ey : d (g (g a)) - d (g (g a)) / nI (ρ 0 0) * nI (ρ 0 0) = wy g d ρ a := rfl
    rw [ex, ey, e1, bd2_s]
    unfold wlr
    by_cases hg : gbk ρ (wx g d ρ a) (wy g d ρ a) < 0
    · rw [if_pos hg, if_pos hg, show nI c + 0 = nI (c + 0) by rw [show (0 : Int32) = nI 0 from rfl, nI_add], nI_1, Nat.add_zero]
      obtain ⟨v', a1, a2, a3, a4⟩ := ih (i + 1) m c (g (g a)) (gst ρ (wx g d ρ a) (wy g d ρ a)) v1 (by omega) (by omega) c1 (ROK_gst hk _ _) (by rw [gp.2]; exact hP) (by rw [gp.1]; exact hL)
      exact ⟨v', a1, fun q hq => (a2 q hq).trans (f1 q hq), fun j hj => (a3 j hj).trans (by rw [f1 119 (by decide)]), fun j hj => (a4 j hj).trans (k1 j hj)⟩
    · rw [if_neg hg, if_neg hg, nI_1, nI_1]
      obtain ⟨v', a1, a2, a3, a4⟩ := ih (i + 1) m (c + 1) (g (g a)) (gst ρ (wx g d ρ a) (wy g d ρ a)) v1 (by omega) (by omega) c1 (ROK_gst hk _ _) (by rw [gp.2]; exact hP) (by rw [gp.1]; exact hL)
      exact ⟨v', a1, fun q hq => (a2 q hq).trans (f1 q hq), fun j hj => (a3 j hj).trans (by rw [f1 119 (by decide)]), fun j hj => (a4 j hj).trans (k1 j hj)⟩
end
section
variable {S : Sg} {v : Nat → Nat → Int32} {w : Nat → Nat → Int64}
/-- the reference's numbers saved, changed and brought back -/
theorem back_same {v1 v2 v3 : Nat → Nat → Int32} (f1 : ∀ q, q ≠ 119 → v2 q = v1 q) (g1 : ∀ j, j < 66 → v2 119 j = v1 101 j) (f2 : ∀ q, q ≠ 101 → v3 q = v2 q) (g2 : ∀ j, j < 66 → v3 101 j = v2 119 j) (k2 : ∀ j, 66 ≤ j → v3 101 j = v2 101 j) : ∀ q, q ≠ 119 → v3 q = v1 q := by
  intro q hq
  by_cases h : q = 101
  · subst h
    funext j
    by_cases hj : j < 66
    · rw [g2 j hj, g1 j hj]
    · rw [k2 j (by omega), f1 101 (by decide)]
  · exact (f2 q h).trans (f1 q hq)
theorem E_wild_of {g d : Int32 → Int32} (hn : ∀ a h, f_Realm_nextSeed a h = some (g a, h)) (hd : ∀ a h, f_Realm_drawn a h = some (d a, h)) (hb : ∀ (rec54 : Nat → Int32 → Int32 → Int32 → Int32 → Int32 → mH → Option (Int32 × mH)) (b0 : Nat) (b2 : Int32) (b3 : Int32) (b4 : Int32) (b5 : Int32) (b6 : Int32) (h : mH), f_M_wild_54b rec54 b0 b2 b3 b4 b5 b6 h =
  if b2 ≤ b6 then
    bd1 (kC h b0 8) fun _ =>
    bd2 (f_M_fallsNow b0 h) fun x23 h21 =>
    bd1 (kC h21 b0 8) fun _ =>
    bd1 (f_M_returns b0 h21) fun h26 =>
    if b3 = 0 then
      some (b5, h26)
    else
      some (x23, h26)
  else
    bd1 (gI h b0 8 3) fun x29 =>
    if x29 = 0 then none else
    bd1 (gI h b0 8 2) fun x32 =>
    if x32 = 0 then none else
    bd1 (kC h b0 8) fun _ =>
    bd2 (f_M_breaks b0 ((d (g b4)) - (d (g b4)) / x29 * x29) ((d (g (g b4))) - (d (g (g b4))) / x32 * x32) h) fun x39 h37 =>
    if x39 < 0 then
      f_M_wild_130 rec54 b0 b2 b3 (g (g b4)) b6 b5 (0 : Int32) h37
    else
      f_M_wild_130 rec54 b0 b2 b3 (g (g b4)) b6 b5 (1 : Int32) h37) (x y z : Int32) (hs : SOK S) (hc : CI S v) (hm : MI S v) : Eqv S v w (f_Q_wild 0 x y z) (f_M_wild 100 x y z) := by
  have h1 := hs.1.1.1
  have h2 := hs.1.1.2.1
  have w1 : (1 : Int64) ≤ y.toInt64 ∧ y.toInt64 ≤ 60 ↔ (1 : Int32).toInt ≤ y.toInt ∧ y.toInt ≤ (60 : Int32).toInt := by
    rw [show (1 : Int64) = (1 : Int32).toInt64 from rfl, show (60 : Int64) = (60 : Int32).toInt64 from rfl, i64_le, i64_le]
  have w2 : (0 : Int64) ≤ z.toInt64 ∧ z.toInt64 ≤ 1 ↔ (0 : Int32).toInt ≤ z.toInt ∧ z.toInt ≤ (1 : Int32).toInt := by
    rw [show (0 : Int64) = (0 : Int32).toInt64 from rfl, show (1 : Int64) = (1 : Int32).toInt64 from rfl, i64_le, i64_le]
  by_cases g1 : (1 : Int32).toInt ≤ y.toInt ∧ y.toInt ≤ (60 : Int32).toInt
  · by_cases g2 : (0 : Int32).toInt ≤ z.toInt ∧ z.toInt ≤ (1 : Int32).toInt
    · by_cases g3 : 0 < S.1 0 1 ∧ 0 < S.1 0 0
      · have e60 : (60 : Int32).toInt = 60 := rfl
        have e01 : (1 : Int32).toInt = 1 := rfl
        obtain ⟨N, hN, rfl⟩ := ix (n := 61) (x := y) (by omega) (by omega)
        obtain ⟨v1, e1, d1⟩ := C_copyFrom rl20 rl3 (by decide) v w
        obtain ⟨v2, e2, c2, k2, f2⟩ := C_seed (w := w) hn hd (show N ≤ 60 by omega) N 0 FU 0 x S.1 v1 (by unfold FU; omega) (by omega) (CR_copy hc.1 hs.1 d1) hs.1 g3.1 g3.2
        have q2 : ∀ q, q < 20 ∨ 37 ≤ q → v2 q = v q := fun q hq => (f2 q hq).trans (d1.1 q (by omega))
        have hm2 : MI S v2 := hm.frame (fun p hp => q2 p (by omega))
        obtain ⟨v3, e3, f3, s3⟩ := M_saves v2 w
        have hm3 : MI S v3 := hm2.fr (fun p hp => f3 p (by unfold pM at hp; omega)) (by rw [f3 100 (by decide)]; exact ⟨rfl, rfl, rfl, rfl, rfl⟩)
        obtain ⟨v4, e4, f4, s4, t4⟩ := M_seed (w := w) hb (show N ≤ 60 by omega) z N 0 FU 0 x S.1 v3 (by unfold FU; omega) (by omega) hm3.1 hs.1 g3.1 g3.2
        have q4 := back_same f3 s3 f4 s4 t4
        refine EqT.q (r := if z = 0 then nI (wlr g d N x 0 S.1).1 else nI (sFalls (wlr g d N x 0 S.1).2)) (v1 := v2) (w1 := w) (v2 := v4) (w2 := w) hs hc hm ?_ (fun p hp => q2 p (by unfold pC at hp; omega)) ?_ (fun p hp => q4 p (by unfold pM at hp; omega))
        · simp only [f_Q_wild, f_Q_wild_0, Q_isWithin, bd2_s]
          rw [if_pos g1, if_neg (by decide), if_pos g2, if_neg (by decide)]
          simp only [q_now, hQ v w, hRl rl3 v w, hRl rl20 v w, bd1_s]
          rw [hc.1.1.2.1, hc.1.1.1, if_neg (fun q => by have := (nI_leI (a := S.1 0 1) (b := 0) (by omega) (by omega)).mp q; omega), if_pos (show (0 : Int32) < nI (S.1 0 0) from (nI_ltI (a := 0) (by omega) (by omega)).mpr g3.2), e1]
          simp only [hQ v1 w, hRl rl20 v1 w, bd1_s, f_Realm_breakBySeed, f_Realm_breakBySeed_0]
          have cr1 := CR_copy hc.1 hs.1 d1
          rw [cr1.1.2.1, cr1.1.1, if_neg (fun q => by have := (nI_leI (a := S.1 0 1) (b := 0) (by omega) (by omega)).mp q; omega), if_pos (show (0 : Int32) < nI (S.1 0 0) from (nI_ltI (a := 0) (by omega) (by omega)).mpr g3.2)]
          have e2' : f_Realm_breakBySeed_24 FU 20 (nI N) 0 x 0 (bh v1 w) = some (nI (wlr g d N x 0 S.1).1, bh v2 w) := e2
          rw [e2', bd2_s]
          simp only [hQ v2 w, hRl rl20 v2 w, bd1_s]
          rw [C_lapsing rl20 c2 k2, bd2_s]
          split <;> rfl
        · simp only [f_M_wild, f_M_wild_0, M_in, bd2_s]
          rw [if_pos (w1.mpr g1), if_neg (by decide), if_pos (w2.mpr g2), if_neg (by decide)]
          simp only [hM v2 w, bd1_s]
          rw [hm2.1.1.2.1, hm2.1.1.1, if_neg (fun q => by have := (nI_eqI (a := S.1 0 1) (b := 0) (by omega) (by omega)).mp q; omega), if_neg (fun q => by have := (nI_eqI (a := S.1 0 0) (b := 0) (by omega) (by omega)).mp q; omega), e3, bd1_s]
          exact e4
      · refine Eqv.query (r := -2) hs hc hm ?_ ?_
        · simp only [f_Q_wild, f_Q_wild_0, f_Q_wild_41, Q_isWithin, bd2_s]
          rw [if_pos g1, if_neg (by decide), if_pos g2, if_neg (by decide)]
          simp only [q_now, hRl rl3 v w, bd1_s]
          rw [hc.1.1.2.1, hc.1.1.1]
          by_cases hP : S.1 0 1 = 0
          · rw [if_pos (by rw [hP]; decide)]
          · rw [if_neg (fun q => by have := (nI_leI (a := S.1 0 1) (b := 0) (by omega) (by omega)).mp q; omega), if_neg (fun q => by have := (nI_ltI (a := 0) (b := S.1 0 0) (by omega) (by omega)).mp q; omega)]
        · simp only [f_M_wild, f_M_wild_0, f_M_wild_38, M_in, bd2_s]
          rw [if_pos (w1.mpr g1), if_neg (by decide), if_pos (w2.mpr g2), if_neg (by decide)]
          simp only [hM v w, bd1_s]
          rw [hm.1.1.2.1, hm.1.1.1]
          by_cases hP : S.1 0 1 = 0
          · rw [if_pos (by rw [hP]; rfl)]
          · rw [if_neg (fun q => by have := (nI_eqI (a := S.1 0 1) (b := 0) (by omega) (by omega)).mp q; omega), if_pos (by rw [show S.1 0 0 = 0 by omega]; rfl)]
    · refine Eqv.query (r := -1) hs hc hm ?_ ?_
      · simp only [f_Q_wild, f_Q_wild_0, f_Q_wild_19, Q_isWithin, bd2_s]
        rw [if_pos g1, if_neg (by decide), if_neg g2, if_pos rfl]
      · simp only [f_M_wild, f_M_wild_0, f_M_wild_22, M_in, bd2_s]
        rw [if_pos (w1.mpr g1), if_neg (by decide), if_neg (fun q => g2 (w2.mp q)), if_pos rfl]
  · refine Eqv.query (r := -1) hs hc hm ?_ ?_
    · simp only [f_Q_wild, f_Q_wild_0, f_Q_wild_19, Q_isWithin, bd2_s]
      rw [if_neg g1, if_pos rfl]
    · simp only [f_M_wild, f_M_wild_0, f_M_wild_22, M_in, bd2_s]
      rw [if_neg (fun q => g1 (w1.mp q)), if_pos rfl]
theorem E_wild (x y z : Int32) (hs : SOK S) (hc : CI S v) (hm : MI S v) : Eqv S v w (f_Q_wild 0 x y z) (f_M_wild 100 x y z) := E_wild_of C_next C_drawn M_wild_54b_eq x y z hs hc hm
end
end
/-! 8m.done.lean.txt -/
section
/-! questions of a realm whose DONE is more by c: printed by wip/gen/gen_d.py -/
def CRq (c o : Nat) (ρ : Rho) (v : Nat → Nat → Int32) : Prop :=
  (v o 0 = nI (ρ 0 0) ∧ v o 1 = nI (ρ 0 1) ∧ v o 2 = nI (ρ 0 2) ∧ v o 3 = nI (ρ 0 3 + c) ∧ v o 4 = nI (ρ 0 4) ∧ v o 5 = nI (ρ 0 5) ∧ v (o + 13) 0 = nI (ρ 0 6)) ∧
  (∀ l, l < ρ 0 0 → v (o + 1) l = nI (ρ 1 l) ∧ v (o + 2) l = nI (ρ 2 l) ∧ v (o + 3) l = nI (ρ 3 l) ∧ v (o + 4) l = nI (ρ 4 l) ∧ v (o + 5) l = cI (ρ 5 l)) ∧
  (∀ p, p < ρ 0 1 → v (o + 6) p = nI (ρ 6 p) ∧ v (o + 7) p = nI (ρ 7 p) ∧ v (o + 8) p = nI (ρ 8 p) ∧ v (o + 9) p = nI (ρ 9 p) ∧ v (o + 10) p = nI (ρ 10 p) ∧ v (o + 11) p = nI (ρ 11 p)) ∧
  (∀ p l, p < ρ 0 1 → l < ρ 0 0 → v (o + 12) (5 * p + l) = nI (ρ 12 (5 * p + l))) ∧
  (∀ i, i < ρ 0 6 → v (o + 14) i = nI (ρ 13 i) ∧ v (o + 15) i = nI (ρ 14 i) ∧ v (o + 16) i = nI (ρ 15 i))
section
variable {ρ : Rho} {v : Nat → Nat → Int32} {w : Nat → Nat → Int64} {o c : Nat}
theorem CRq_of (h : CR o ρ v) : CRq 0 o ρ v := h
theorem D_hasLaw (ho : rl o) (hr : CRq c o ρ v) (hk : ρ 0 0 ≤ 5) (x : Int32) : f_Realm_hasLaw o x (bh v w) = some (if 0 ≤ x.toInt ∧ x.toInt < ρ 0 0 then 1 else 0, bh v w) := by
  simp only [f_Realm_hasLaw, f_Realm_hasLaw_0, f_Realm_hasLaw_16, hRl ho v w, bd1_s, hr.1.1, Int32.lt_iff_toInt_lt, Int32.le_iff_toInt_le, nI_toInt (show ρ 0 0 < 2 ^ 31 by omega)]
  have e : (0 : Int32).toInt = 0 := rfl
  rw [e]
  by_cases h1 : x.toInt < 0
  · rw [if_pos h1, if_neg (by omega)]
  · rw [if_neg h1]
    by_cases h2 : (ρ 0 0 : Int) ≤ x.toInt
    · rw [if_pos h2, if_neg (by omega)]
    · rw [if_neg h2, if_pos (by omega)]
theorem D_hasOne (ho : rl o) (hr : CRq c o ρ v) (hk : ρ 0 1 ≤ 3) (x : Int32) : f_Realm_hasOne o x (bh v w) = some (if 0 ≤ x.toInt ∧ x.toInt < ρ 0 1 then 1 else 0, bh v w) := by
  simp only [f_Realm_hasOne, f_Realm_hasOne_0, f_Realm_hasOne_16, hRl ho v w, bd1_s, hr.1.2.1, Int32.lt_iff_toInt_lt, Int32.le_iff_toInt_le, nI_toInt (show ρ 0 1 < 2 ^ 31 by omega)]
  have e : (0 : Int32).toInt = 0 := rfl
  rw [e]
  by_cases h1 : x.toInt < 0
  · rw [if_pos h1, if_neg (by omega)]
  · rw [if_neg h1]
    by_cases h2 : (ρ 0 1 : Int) ≤ x.toInt
    · rw [if_pos h2, if_neg (by omega)]
    · rw [if_neg h2, if_pos (by omega)]
theorem D_brokenBy (ho : rl o) (hr : CRq c o ρ v) (hk : ROK ρ) {p l : Nat} (hp : p < ρ 0 1) (hl : l < ρ 0 0) : f_Realm_brokenBy o (nI p) (nI l) (bh v w) = some (nI (ρ 12 (5 * p + l)), bh v w) := by
  have h1 := hk.1.1
  have h2 := hk.1.2.1
  simp only [f_Realm_brokenBy, f_Realm_brokenBy_0, hRl ho v w, bd1_s]
  rw [show (5 : Int32) = nI 5 from rfl, pk_mul, nI_add, rd_nI (by omega) (by decide), bd1_s, Nat.mul_comm p 5, hr.2.2.2.1 p l hp hl]
theorem D_brokenByOne (ho : rl o) (hr : CRq c o ρ v) (hk : ROK ρ) {p : Nat} (hp : p < ρ 0 1) : f_Realm_brokenByOne o (nI p) (bh v w) = some (nI (sAll ρ p), bh v w) := by
  have h1 := hk.1.1
  have h2 := hk.1.2.1
  have key : ∀ (k fuel l : Nat), k < fuel → l + k = ρ 0 0 → f_Realm_brokenByOne_4 fuel o (nI p) (nI (sumN (fun l => ρ 12 (5 * p + l)) l)) (nI l) (bh v w) = some (nI (sAll ρ p), bh v w) := by
    intro k
    induction k with
    | zero =>
      intro fuel l hf hl
      obtain ⟨n, rfl⟩ : ∃ n, fuel = n + 1 := ⟨fuel - 1, by omega⟩
      simp only [f_Realm_brokenByOne_4, f_Realm_brokenByOne_4b, hRl ho v w, bd1_s]
      rw [hr.1.1, if_pos (nI_le (by omega) (by omega)), show l = ρ 0 0 by omega]
      rfl
    | succ k ih =>
      intro fuel l hf hl
      obtain ⟨n, rfl⟩ : ∃ n, fuel = n + 1 := ⟨fuel - 1, by omega⟩
      simp only [f_Realm_brokenByOne_4, f_Realm_brokenByOne_4b, hRl ho v w, bd1_s]
      rw [hr.1.1, if_neg (nI_ge (by omega) (by omega)), show (5 : Int32) = nI 5 from rfl, pk_mul, nI_add, rd_nI (by omega) (by decide), bd1_s, Nat.mul_comm p 5, hr.2.2.2.1 p l hp (by omega), nI_add, nI_1]
      exact ih n (l + 1) (by omega) (by omega)
  simp only [f_Realm_brokenByOne, f_Realm_brokenByOne_0]
  exact key (ρ 0 0) FU 0 (by unfold FU; omega) (by omega)
theorem D_needOf (ho : rl o) (hr : CRq c o ρ v) (hk : ROK ρ) {l : Nat} (hl : l < ρ 0 0) : f_Realm_needOf o (nI l) (bh v w) = some (nI (sNeed ρ l), bh v w) := by
  have h1 := hk.1.1
  have h2 := hk.1.2.1
  have hst := hk.st
  have hq : ρ 1 l ≤ 9 := (hk.2.1 l hl).1
  have hB : ∀ p, p < ρ 0 1 → ρ 12 (5 * p + l) ≤ 3 := fun p hp => Nat.le_trans (hk.2.2.2.1 p l hp hl) (hk.2.1 l hl).2.2.1
  have key : ∀ (k fuel p : Nat), k < fuel → p + k = ρ 0 1 → f_Realm_needOf_22 fuel o (nI l) (zI ((ρ 1 l : Int) - sumN (fun p => ρ 12 (5 * p + l)) p)) (nI p) (bh v w) = some (nI (ρ 1 l - sumN (fun p => ρ 12 (5 * p + l)) (ρ 0 1)), bh v w) := by
    intro k
    induction k with
    | zero =>
      intro fuel p hf hp
      obtain ⟨n, rfl⟩ : ∃ n, fuel = n + 1 := ⟨fuel - 1, by omega⟩
      have hs : sumN (fun p => ρ 12 (5 * p + l)) p ≤ 3 * p := sumN_c (fun i hi => hB i (by omega))
      simp only [f_Realm_needOf_22, f_Realm_needOf_22b, hRl ho v w, bd1_s]
      rw [hr.1.2.1, if_pos (nI_le (by omega) (by omega)), show ρ 0 1 = p by omega, max0 (by omega) (by omega)]
      congr 3
      omega
    | succ k ih =>
      intro fuel p hf hp
      obtain ⟨n, rfl⟩ : ∃ n, fuel = n + 1 := ⟨fuel - 1, by omega⟩
      simp only [f_Realm_needOf_22, f_Realm_needOf_22b, hRl ho v w, bd1_s]
      rw [hr.1.2.1, if_neg (nI_ge (by omega) (by omega)), D_brokenBy ho hr hk (by omega) hl, bd2_s, zI_subn, nI_1]
      have := ih n (p + 1) (by omega) (by omega)
      rw [show ((ρ 1 l : Int) - (sumN (fun p => ρ 12 (5 * p + l)) p : Nat)) - (ρ 12 (5 * p + l) : Nat) = (ρ 1 l : Int) - (sumN (fun p => ρ 12 (5 * p + l)) (p + 1) : Nat) by show _ = (ρ 1 l : Int) - ((sumN (fun p => ρ 12 (5 * p + l)) p + ρ 12 (5 * p + l) : Nat) : Int); omega]
      exact this
  simp only [f_Realm_needOf, f_Realm_needOf_0, hRl ho v w, bd1_s]
  rw [hr.1.2.2.2.2.1, Q_hasBit (by omega) (by omega), bd2_s]
  unfold sNeed
  rcases bit_01 (ρ 0 4) l with h | h
  · rw [h, if_pos (show nI 0 = 0 from rfl), if_neg (by decide)]
    rfl
  · rw [h, if_neg (show ¬ nI 1 = 0 by decide), if_pos rfl]
    simp only [hRl ho v w, bd1_s]
    rw [rd_nI (by omega) (by decide), bd1_s, (hr.2.1 l hl).1]
    have := key (ρ 0 1) FU 0 (by unfold FU; omega) (by omega)
    rw [show ((ρ 1 l : Nat) : Int) - (sumN (fun p => ρ 12 (5 * p + l)) 0 : Nat) = ((ρ 1 l : Nat) : Int) by show ((ρ 1 l : Nat) : Int) - ((0 : Nat) : Int) = _; omega, zI_n] at this
    exact this
theorem D_roomOf (ho : rl o) (hr : CRq c o ρ v) (hk : ROK ρ) {p l : Nat} (hp : p < ρ 0 1) (hl : l < ρ 0 0) : f_Realm_roomOf o (nI p) (nI l) (bh v w) = some (nI (sRoom ρ p l), bh v w) := by
  have h1 := hk.1.1
  have h2 := hk.1.2.1
  have hst := hk.st
  have hrf : ρ 10 p < 32 := pw_le h1 (hk.2.2.1 p hp).2.2.2.2.1
  have hB : ρ 12 (5 * p + l) ≤ ρ 2 l := hk.2.2.2.1 p l hp hl
  have hc : ρ 2 l ≤ 3 := (hk.2.1 l hl).2.2.1
  simp only [f_Realm_roomOf, f_Realm_roomOf_0, f_Realm_roomOf_28, f_Realm_roomOf_29, hRl ho v w, bd1_s]
  rw [hr.1.2.2.2.2.1, Q_hasBit (by omega) (by omega), bd2_s]
  unfold sRoom
  rcases bit_01 (ρ 0 4) l with h | h
  · rw [h, if_pos (show nI 0 = 0 from rfl), if_pos trivial, if_neg (fun z => by have := z.1; omega)]
    rfl
  · rw [h, if_neg (show ¬ nI 1 = 0 by decide)]
    simp only [hRl ho v w, bd1_s]
    rw [rd_nI (by omega) (by decide), bd1_s, (hr.2.2.1 p hp).2.2.2.2.1, Q_hasBit (by omega) (by omega), bd2_s]
    rcases bit_01 (ρ 10 p) l with g | g
    · rw [g, if_pos (show nI 0 = 0 from rfl), if_neg (by decide)]
      simp only [hRl ho v w, bd1_s]
      rw [rd_nI (by omega) (by decide), bd1_s, (hr.2.1 l hl).2.1, D_brokenBy ho hr hk hp hl, bd2_s, ← zI_n, zI_subn, max0 (by omega) (by omega)]
      simp only [true_and, if_true]
      congr 3
      omega
    · rw [g, if_neg (show ¬ nI 1 = 0 by decide), if_pos trivial, if_neg (fun z => by have := z.2; omega)]
      rfl
theorem D_timeLeft (ho : rl o) (hr : CRq c o ρ v) (hk : ROK ρ) {p : Nat} (hp : p < ρ 0 1) : f_Realm_timeLeft o (nI p) (bh v w) = some (nI (sLeft ρ p), bh v w) := by
  have h1 := hk.1.1
  have h2 := hk.1.2.1
  have ht := (hk.2.2.1 p hp).1
  have hs : sAll ρ p ≤ 5 := (hk.2.2.1 p hp).2.2.2.2.2.2
  simp only [f_Realm_timeLeft, f_Realm_timeLeft_0, hRl ho v w, bd1_s]
  rw [rd_nI (by omega) (by decide), bd1_s, D_brokenByOne ho hr hk hp, bd2_s, (hr.2.2.1 p hp).1, ← zI_n, zI_subn, max0 (by omega) (by omega)]
  unfold sLeft
  congr 3
  omega
theorem D_ableAlone (ho : rl o) (hr : CRq c o ρ v) (hk : ROK ρ) {p l : Nat} (hp : p < ρ 0 1) (hl : l < ρ 0 0) : f_Realm_ableAlone o (nI p) (nI l) (bh v w) = some (nI (sTries ρ p l), bh v w) := by
  have a1 := sRoom_le hk (p := p) hl
  have a2 := sLeft_le hk hp
  simp only [f_Realm_ableAlone, f_Realm_ableAlone_0, hRl ho v w, bd1_s]
  rw [D_roomOf ho hr hk hp hl, bd2_s]
  simp only [hRl ho v w, bd1_s]
  rw [D_timeLeft ho hr hk hp, bd2_s, ite_iff (nI_ltI (by omega) (by omega))]
  unfold sTries
  by_cases h : sLeft ρ p < sRoom ρ p l
  · rw [if_pos h, if_pos (by omega)]
  · rw [if_neg h]
    by_cases g : sLeft ρ p ≤ sRoom ρ p l
    · rw [if_pos g, show sLeft ρ p = sRoom ρ p l by omega]
    · rw [if_neg g]
theorem D_breakable (ho : rl o) (hr : CRq c o ρ v) (hk : ROK ρ) {p : Nat} (hp : p < ρ 0 1) : f_Realm_breakable o (nI p) (bh v w) = some (nI (sCans ρ p), bh v w) := by
  have h1 := hk.1.1
  have key : ∀ (k fuel l : Nat), k < fuel → l + k = ρ 0 0 → f_Realm_breakable_4 fuel o (nI p) (nI (orN (fun l => if 0 < sTries ρ p l then 2 ^ l else 0) l)) (nI l) (bh v w) = some (nI (sCans ρ p), bh v w) := by
    intro k
    induction k with
    | zero =>
      intro fuel l hf hl
      obtain ⟨n, rfl⟩ : ∃ n, fuel = n + 1 := ⟨fuel - 1, by omega⟩
      simp only [f_Realm_breakable_4, f_Realm_breakable_4b, hRl ho v w, bd1_s]
      rw [hr.1.1, if_pos (nI_le (by omega) (by omega)), show l = ρ 0 0 by omega]
      rfl
    | succ k ih =>
      intro fuel l hf hl
      obtain ⟨n, rfl⟩ : ∃ n, fuel = n + 1 := ⟨fuel - 1, by omega⟩
      have hl2 : l < ρ 0 0 := by omega
      have ht := sTries_le hk (p := p) hl2
      simp only [f_Realm_breakable_4, f_Realm_breakable_4b, f_Realm_breakable_29, hRl ho v w, bd1_s]
      have e2 : orN (fun l => if 0 < sTries ρ p l then 2 ^ l else 0) (l + 1) = orN (fun l => if 0 < sTries ρ p l then 2 ^ l else 0) l ||| (if 0 < sTries ρ p l then 2 ^ l else 0) := rfl
      have ih2 := ih n (l + 1) (by omega) (by omega)
      rw [hr.1.1, if_neg (nI_ge (by omega) (by omega)), D_ableAlone ho hr hk hp hl2, bd2_s, ite_iff (nI_le0 (by omega))]
      by_cases z : sTries ρ p l = 0
      · rw [if_pos z, nI_1, show (0 : Int32) = nI 0 from rfl, or_I]
        rw [e2, if_neg (by omega)] at ih2
        exact ih2
      · rw [if_neg z, nI_1, shl_I (by omega), or_I]
        rw [e2, if_pos (by omega)] at ih2
        exact ih2
  simp only [f_Realm_breakable, f_Realm_breakable_0]
  exact key (ρ 0 0) FU 0 (by unfold FU; omega) (by omega)
end
theorem CRq_broke {o c : Nat} {ρ : Rho} {v : Nat → Nat → Int32} {i j : Nat} {x : Nat} (hi : i < ρ 0 1) (hj : j < ρ 0 0) (h : CRq c o ρ v) (hL : ρ 0 0 ≤ 5) : CRq c o (up2 ρ 12 (5 * i + j) x) (u2 v (o + 12) (5 * i + j) (nI x)) := by
  refine ⟨⟨(congrFun (u2_o (by omega)) 0).trans h.1.1, (congrFun (u2_o (by omega)) 1).trans h.1.2.1, (congrFun (u2_o (by omega)) 2).trans h.1.2.2.1, (congrFun (u2_o (by omega)) 3).trans h.1.2.2.2.1, (congrFun (u2_o (by omega)) 4).trans h.1.2.2.2.2.1, (congrFun (u2_o (by omega)) 5).trans h.1.2.2.2.2.2.1, (congrFun (u2_o (by omega)) 0).trans h.1.2.2.2.2.2.2⟩, fun l hl => ?_, fun p hp => ?_, fun p l hp hl => ?_, fun s hs => ?_⟩
  · have hl : l < ρ 0 0 := hl
    refine ⟨(congrFun (u2_o (by omega)) l).trans (h.2.1 l hl).1, (congrFun (u2_o (by omega)) l).trans (h.2.1 l hl).2.1, (congrFun (u2_o (by omega)) l).trans (h.2.1 l hl).2.2.1, (congrFun (u2_o (by omega)) l).trans (h.2.1 l hl).2.2.2.1, (congrFun (u2_o (by omega)) l).trans (h.2.1 l hl).2.2.2.2⟩
  · have hp : p < ρ 0 1 := hp
    refine ⟨(congrFun (u2_o (by omega)) p).trans (h.2.2.1 p hp).1, (congrFun (u2_o (by omega)) p).trans (h.2.2.1 p hp).2.1, (congrFun (u2_o (by omega)) p).trans (h.2.2.1 p hp).2.2.1, (congrFun (u2_o (by omega)) p).trans (h.2.2.1 p hp).2.2.2.1, (congrFun (u2_o (by omega)) p).trans (h.2.2.1 p hp).2.2.2.2.1, (congrFun (u2_o (by omega)) p).trans (h.2.2.1 p hp).2.2.2.2.2⟩
  · have hp : p < ρ 0 1 := hp; have hl : l < ρ 0 0 := hl
    by_cases e : p = i ∧ l = j
    · obtain ⟨rfl, rfl⟩ := e; rw [up2_at]; exact u2_at _ _ _ _
    · rw [up2_n (by omega)]; exact (u2_n (by omega)).trans (h.2.2.2.1 p l hp hl)
  · have hs : s < ρ 0 6 := hs
    exact ⟨(congrFun (u2_o (by omega)) s).trans (h.2.2.2.2 s hs).1, (congrFun (u2_o (by omega)) s).trans (h.2.2.2.2 s hs).2.1, (congrFun (u2_o (by omega)) s).trans (h.2.2.2.2 s hs).2.2⟩
end
/-! 8n.self.lean.txt -/
section
/-! each for himself -/
theorem bit_tb (s l : Nat) : bit s l = (s.testBit l).toNat := by
  unfold bit
  rw [Nat.testBit_eq_decide_div_mod_eq]
  rcases Nat.mod_two_eq_zero_or_one (s / 2 ^ l) with h | h <;> rw [h] <;> rfl
theorem bit_eq1 {s l : Nat} : bit s l = 1 ↔ s.testBit l = true := by
  rw [bit_tb]
  cases s.testBit l <;> simp
theorem bit_and (a b l : Nat) : bit (a &&& b) l = 1 ↔ bit a l = 1 ∧ bit b l = 1 := by
  rw [bit_eq1, bit_eq1, bit_eq1, Nat.testBit_and, Bool.and_eq_true]
theorem tb_orN {P : Nat → Prop} [DecidablePred P] : ∀ {n l : Nat}, (orN (fun l => if P l then 2 ^ l else 0) n).testBit l = true ↔ l < n ∧ P l
  | 0, l => by simp [orN]
  | n + 1, l => by
    show (orN (fun l => if P l then 2 ^ l else 0) n ||| (if P n then 2 ^ n else 0)).testBit l = true ↔ _
    rw [Nat.testBit_or, Bool.or_eq_true, tb_orN (n := n) (l := l)]
    by_cases h : P n
    · rw [if_pos h, Nat.testBit_two_pow]
      simp only [decide_eq_true_eq]
      constructor
      · rintro (⟨a, b⟩ | rfl)
        · exact ⟨by omega, b⟩
        · exact ⟨by omega, h⟩
      · rintro ⟨a, b⟩
        by_cases e : n = l
        · exact Or.inr e
        · exact Or.inl ⟨by omega, b⟩
    · rw [if_neg h]
      simp only [Nat.zero_testBit, Bool.false_eq_true, or_false]
      constructor
      · rintro ⟨a, b⟩; exact ⟨by omega, b⟩
      · rintro ⟨a, b⟩
        by_cases e : l = n
        · subst e; exact absurd b h
        · exact ⟨by omega, b⟩
theorem orN_and {P : Nat → Prop} [DecidablePred P] {s n : Nat} [DecidablePred (fun l => bit s l = 1 ∧ P l)] : orN (fun l => if P l then 2 ^ l else 0) n &&& s = orN (fun l => if bit s l = 1 ∧ P l then 2 ^ l else 0) n := by
  apply Nat.eq_of_testBit_eq
  intro i
  rw [Nat.testBit_and, Bool.eq_iff_iff, Bool.and_eq_true, tb_orN, tb_orN (P := fun l => bit s l = 1 ∧ P l), ← bit_eq1]
  constructor
  · rintro ⟨⟨a, b⟩, c⟩; exact ⟨a, c, b⟩
  · rintro ⟨a, c, b⟩; exact ⟨⟨a, b⟩, c⟩
def bro (ρ : Rho) (p l : Nat) : Rho := up2 ρ 12 (5 * p + l) (ρ 12 (5 * p + l) + 1)
theorem bro_12 (ρ : Rho) (p l q j : Nat) : bro ρ p l 12 (5 * q + j) = if 5 * q + j = 5 * p + l then ρ 12 (5 * p + l) + 1 else ρ 12 (5 * q + j) := by
  show (va_up (ρ 12) (5 * p + l) (ρ 12 (5 * p + l) + 1)) (5 * q + j) = _
  rfl
theorem bro_all {ρ : Rho} {p l q : Nat} (hL : ρ 0 0 ≤ 5) (hl : l < ρ 0 0) : sAll (bro ρ p l) q = sAll ρ q + (if q = p then 1 else 0) := by
  show sumN (fun j => bro ρ p l 12 (5 * q + j)) (ρ 0 0) = sumN (fun i => ρ 12 (5 * q + i)) (ρ 0 0) + _
  by_cases e : q = p
  · subst e
    rw [if_pos rfl]
    have e3 : sumN (fun j => bro ρ q l 12 (5 * q + j)) (ρ 0 0) = sumN (fun j => if j = l then (fun i => ρ 12 (5 * q + i)) l + 1 else (fun i => ρ 12 (5 * q + i)) j) (ρ 0 0) := by
      refine sumN_congr (fun j hj => ?_)
      rw [bro_12]
      by_cases z : j = l
      · subst z; rw [if_pos rfl, if_pos rfl]
      · rw [if_neg (by omega), if_neg z]
    exact e3.trans (sumN_up (f := fun i => ρ 12 (5 * q + i)) hl)
  · rw [if_neg e, Nat.add_zero]
    refine sumN_congr (fun j hj => ?_)
    rw [bro_12, if_neg (by omega)]
theorem tries_pos {ρ : Rho} {p l : Nat} (h : 0 < sTries ρ p l) : ρ 12 (5 * p + l) < ρ 2 l ∧ sAll ρ p < ρ 6 p := by
  have hc := sCan_iff.mpr h
  refine ⟨?_, ?_⟩
  · have := hc.1
    unfold sRoom at this
    split at this
    · omega
    · omega
  · have := hc.2
    unfold sLeft at this
    omega
theorem ROK_bro {ρ : Rho} {p l : Nat} (hk : ROK ρ) (hp : p < ρ 0 1) (hl : l < ρ 0 0) (ht : 0 < sTries ρ p l) : ROK (bro ρ p l) := by
  have h5 := hk.1.1
  obtain ⟨hroom, hleft⟩ := tries_pos ht
  refine ⟨hk.1, hk.2.1, fun q hq => ?_, fun q j hq hj => ?_, hk.2.2.2.2⟩
  · have hq : q < ρ 0 1 := hq
    have g := hk.2.2.1 q hq
    refine ⟨g.1, g.2.1, g.2.2.1, g.2.2.2.1, g.2.2.2.2.1, g.2.2.2.2.2.1, ?_⟩
    have e := bro_all (p := p) (q := q) h5 hl
    show sAll (bro ρ p l) q ≤ 5
    rw [e]
    have g7 : sAll ρ q ≤ 5 := g.2.2.2.2.2.2
    by_cases z : q = p
    · subst z; rw [if_pos rfl]; have := g.1; omega
    · rw [if_neg z]; omega
  · have hq : q < ρ 0 1 := hq
    have hj : j < ρ 0 0 := hj
    show bro ρ p l 12 (5 * q + j) ≤ ρ 2 j
    rw [bro_12]
    split
    · next z => obtain ⟨rfl, rfl⟩ : q = p ∧ j = l := by omega
                omega
    · exact hk.2.2.2.1 q j hq hj
def sLs (ρ : Rho) : Nat := sumN (sLeft ρ) (ρ 0 1)
theorem sumN_dn {f g : Nat → Nat} {p : Nat} : ∀ {n : Nat}, p < n → g p + 1 = f p → (∀ i, i < n → i ≠ p → g i = f i) → sumN g n + 1 = sumN f n
  | 0, h, _, _ => by omega
  | n + 1, h, hp, ho => by
    show sumN g n + g n + 1 = sumN f n + f n
    by_cases e : n = p
    · subst e
      rw [sumN_congr (g := f) (fun i hi => ho i (by omega) (by omega))]
      omega
    · have := sumN_dn (n := n) (by omega) hp (fun i hi he => ho i (by omega) he)
      have := ho n (by omega) e
      omega
theorem sLs_bro {ρ : Rho} {p l : Nat} (hk : ROK ρ) (hp : p < ρ 0 1) (hl : l < ρ 0 0) (ht : 0 < sTries ρ p l) : sLs (bro ρ p l) + 1 = sLs ρ := by
  have h5 := hk.1.1
  obtain ⟨-, hleft⟩ := tries_pos ht
  refine sumN_dn (f := sLeft ρ) (g := sLeft (bro ρ p l)) hp ?_ (fun i hi he => ?_)
  · show ρ 6 p - sAll (bro ρ p l) p + 1 = ρ 6 p - sAll ρ p
    rw [bro_all h5 hl, if_pos rfl]
    omega
  · show ρ 6 i - sAll (bro ρ p l) i = ρ 6 i - sAll ρ i
    rw [bro_all h5 hl, if_neg he, Nat.add_zero]
theorem sLs_le {ρ : Rho} (hk : ROK ρ) : sLs ρ ≤ 15 := by
  have h2 := hk.1.2.1
  have := sumN_c (f := sLeft ρ) (c := 5) (n := ρ 0 1) (fun i hi => Nat.le_trans (Nat.sub_le _ _) (hk.2.2.1 i hi).1)
  unfold sLs
  omega
/-- which LAW he breaks next, of the first n (0 none, else one more than the LAW) -/
def mnd (ρ : Rho) (p : Nat) : Nat → Nat
  | 0 => 0
  | n + 1 => if (bit (ρ 11 p) n = 1 ∧ 0 < sTries ρ p n ∧ 0 < sNeed ρ n) ∧ (mnd ρ p n = 0 ∨ sNeed ρ (mnd ρ p n - 1) < sNeed ρ n) then n + 1 else mnd ρ p n
theorem mnd_le (ρ : Rho) (p : Nat) : ∀ n, mnd ρ p n ≤ n ∧ (mnd ρ p n ≠ 0 → 0 < sTries ρ p (mnd ρ p n - 1) ∧ 0 < sNeed ρ (mnd ρ p n - 1))
  | 0 => ⟨Nat.le_refl _, fun h => absurd rfl h⟩
  | n + 1 => by
    have ih := mnd_le ρ p n
    unfold mnd
    split
    · next h => exact ⟨Nat.le_refl _, fun _ => ⟨h.1.2.1, h.1.2.2⟩⟩
    · exact ⟨by omega, ih.2⟩
def nIb (ρ : Rho) (c : Nat) : Nat := if c = 0 then 0 else sNeed ρ (c - 1)
section
variable {ρ : Rho} {v : Nat → Nat → Int32} {w : Nat → Nat → Int64} {o c : Nat}
theorem sCans_bit {p l : Nat} (hl : l < ρ 0 0) : bit (sCans ρ p) l = 1 ↔ 0 < sTries ρ p l := by
  unfold sCans
  rw [bit_eq1, tb_orN (P := fun l => 0 < sTries ρ p l)]
  exact ⟨fun h => h.2, fun h => ⟨hl, h⟩⟩
theorem sCans_lt (hk : ROK ρ) (p : Nat) : sCans ρ p < 32 := by
  unfold sCans
  refine orN_lt (fun i hi => ?_)
  have := hk.1.1
  split
  · exact Nat.lt_of_lt_of_le (Nat.pow_lt_pow_right (by decide) (show i < 5 by omega)) (by decide)
  · omega
theorem D_mostNeeded (ho : rl o) (hr : CRq c o ρ v) (hk : ROK ρ) {p : Nat} (hp : p < ρ 0 1) : f_Realm_mostNeeded o (nI p) (bh v w) = some (cI (mnd ρ p (ρ 0 0)), bh v w) := by
  have h1 := hk.1.1
  have h2 := hk.1.2.1
  have hw : ρ 11 p < 32 := pw_le h1 (hk.2.2.1 p hp).2.2.2.2.2.1
  have hs := sCans_lt hk p
  have ha := and_lt _ hs _ hw
  have key : ∀ (k fuel n : Nat), k < fuel → n + k = ρ 0 0 → f_Realm_mostNeeded_22 fuel o (nI (sCans ρ p &&& ρ 11 p)) (cI (mnd ρ p n)) (nI (nIb ρ (mnd ρ p n))) (nI n) (bh v w) = some (cI (mnd ρ p (ρ 0 0)), bh v w) := by
    intro k
    induction k with
    | zero =>
      intro fuel n hf hn
      obtain ⟨m, rfl⟩ : ∃ m, fuel = m + 1 := ⟨fuel - 1, by omega⟩
      simp only [f_Realm_mostNeeded_22, f_Realm_mostNeeded_22b, hRl ho v w, bd1_s]
      rw [hr.1.1, if_pos (nI_le (by omega) (by omega)), show n = ρ 0 0 by omega]
    | succ k ih =>
      intro fuel n hf hn
      obtain ⟨m, rfl⟩ : ∃ m, fuel = m + 1 := ⟨fuel - 1, by omega⟩
      have hl : n < ρ 0 0 := by omega
      have ml := mnd_le ρ p n
      have nx := ih m (n + 1) (by omega) (by omega)
      have nn := sNeed_le hk hl
      have nb : nIb ρ (mnd ρ p n) ≤ 9 := by
        unfold nIb
        split
        · omega
        · exact sNeed_le hk (by omega)
      simp only [f_Realm_mostNeeded_22, f_Realm_mostNeeded_22b, f_Realm_mostNeeded_62, hRl ho v w, bd1_s]
      rw [hr.1.1, if_neg (nI_ge (by omega) (by omega)), Q_hasBit (by omega) (by omega), bd2_s]
      have hb := bit_and (sCans ρ p) (ρ 11 p) n
      rw [sCans_bit hl] at hb
      rcases bit_01 (sCans ρ p &&& ρ 11 p) n with g | g
      · rw [g, if_pos (show nI 0 = 0 from rfl), nI_1]
        have e : mnd ρ p (n + 1) = mnd ρ p n := by
          simp only [mnd]
          rw [if_neg (fun q => by have := hb.mpr ⟨q.1.2.1, q.1.1⟩; omega)]
        rw [e] at nx
        exact nx
      · rw [g, if_neg (show ¬ nI 1 = 0 by decide)]
        have g2 := hb.mp g
        simp only [hRl ho v w, bd1_s]
        rw [D_needOf ho hr hk hl, bd2_s, ite_iff (nI_leI (by omega) (by omega))]
        by_cases z : sNeed ρ n ≤ nIb ρ (mnd ρ p n)
        · rw [if_pos z, nI_1]
          have e : mnd ρ p (n + 1) = mnd ρ p n := by
            simp only [mnd]
            rw [if_neg]
            rintro ⟨q1, q2⟩
            unfold nIb at z
            rcases q2 with q2 | q2
            · rw [if_pos q2] at z; omega
            · by_cases q3 : mnd ρ p n = 0
              · rw [if_pos q3] at z; omega
              · rw [if_neg q3] at z; omega
          rw [e] at nx
          exact nx
        · rw [if_neg z]
          simp only [hRl ho v w, bd1_s]
          rw [D_needOf ho hr hk hl, bd2_s, nI_1]
          have e : mnd ρ p (n + 1) = n + 1 := by
            simp only [mnd]
            rw [if_pos]
            unfold nIb at z
            by_cases q3 : mnd ρ p n = 0
            · rw [if_pos q3] at z; exact ⟨⟨g2.2, g2.1, by omega⟩, Or.inl q3⟩
            · rw [if_neg q3] at z; exact ⟨⟨g2.2, g2.1, by omega⟩, Or.inr (by omega)⟩
          rw [e] at nx
          have e2 : nIb ρ (n + 1) = sNeed ρ n := by unfold nIb; rw [if_neg (by omega)]; rfl
          rw [e2] at nx
          exact nx
  simp only [f_Realm_mostNeeded, f_Realm_mostNeeded_0, hRl ho v w, bd1_s]
  rw [D_breakable ho hr hk hp, bd2_s]
  simp only [hRl ho v w, bd1_s]
  rw [rd_nI (by omega) (by decide), bd1_s, (hr.2.2.1 p hp).2.2.2.2.2, and_I]
  exact key (ρ 0 0) FU 0 (by unfold FU; omega) (by omega)
theorem M_wantedBy (hr : MR ρ v) (hk : ROK ρ) {p : Nat} (hp : p < ρ 0 1) : f_M_wantedBy 100 (nI p) (bh v w) = some (cI (mnd ρ p (ρ 0 0)), bh v w) := by
  have h1 := hk.1.1
  have h2 := hk.1.2.1
  have hw : ρ 11 p < 32 := pw_le h1 (hk.2.2.1 p hp).2.2.2.2.2.1
  have a21 : v 101 (21 + p) = nI (ρ 11 p) := by have := hr.2.2.2.2.2.2.2.2.1 p hp; rwa [show 0 + 21 + p = 21 + p by omega] at this
  have key : ∀ (k fuel n : Nat), k < fuel → n + k = ρ 0 0 → f_M_wantedBy_5 fuel 100 (nI p) (cI (mnd ρ p n)) (nI n) (bh v w) = some (cI (mnd ρ p (ρ 0 0)), bh v w) := by
    intro k
    induction k with
    | zero =>
      intro fuel n hf hn
      obtain ⟨m, rfl⟩ : ∃ m, fuel = m + 1 := ⟨fuel - 1, by omega⟩
      simp only [f_M_wantedBy_5, f_M_wantedBy_5b, hM v w, bd1_s]
      rw [hr.1.1, if_pos (nI_le (by omega) (by omega)), show n = ρ 0 0 by omega]
    | succ k ih =>
      intro fuel n hf hn
      obtain ⟨m, rfl⟩ : ∃ m, fuel = m + 1 := ⟨fuel - 1, by omega⟩
      have hl : n < ρ 0 0 := by omega
      have ml := mnd_le ρ p n
      have nx := ih m (n + 1) (by omega) (by omega)
      have nn := sNeed_le hk hl
      have : Decidable (sCan ρ p n) := inferInstanceAs (Decidable (0 < sRoom ρ p n ∧ 0 < sLeft ρ p))
      have no : ¬ ((bit (ρ 11 p) n = 1 ∧ 0 < sTries ρ p n ∧ 0 < sNeed ρ n) ∧ (mnd ρ p n = 0 ∨ sNeed ρ (mnd ρ p n - 1) < sNeed ρ n)) → f_M_wantedBy_82 (f_M_wantedBy_5 m) 100 (nI p) (cI (mnd ρ p n)) (nI n) (bh v w) = some (cI (mnd ρ p (ρ 0 0)), bh v w) := by
        intro h
        unfold f_M_wantedBy_82 f_M_wantedBy_83
        rw [nI_1]
        have e : mnd ρ p (n + 1) = mnd ρ p n := by simp only [mnd]; rw [if_neg h]
        rw [e] at nx
        exact nx
      have yes : ((bit (ρ 11 p) n = 1 ∧ 0 < sTries ρ p n ∧ 0 < sNeed ρ n) ∧ (mnd ρ p n = 0 ∨ sNeed ρ (mnd ρ p n - 1) < sNeed ρ n)) → f_M_wantedBy_78 (f_M_wantedBy_5 m) 100 (nI p) (nI n) (bh v w) = some (cI (mnd ρ p (ρ 0 0)), bh v w) := by
        intro h
        unfold f_M_wantedBy_78 f_M_wantedBy_83
        rw [nI_1]
        have e : mnd ρ p (n + 1) = n + 1 := by simp only [mnd]; rw [if_pos h]
        rw [e] at nx
        exact nx
      simp only [f_M_wantedBy_5, f_M_wantedBy_5b, f_M_wantedBy_51, f_M_wantedBy_52, hM v w, bd1_s]
      rw [hr.1.1, if_neg (nI_ge (by omega) (by omega)), show (21 : Int32) = nI 21 from rfl, nI_add, rd_nI (by omega) (by decide), bd1_s, a21, bit_I (by omega) (by omega), ite_iff (nI_eq1 (by have := bit_lt (ρ 11 p) n; omega))]
      by_cases b1 : bit (ρ 11 p) n = 1
      · rw [if_pos b1, M_canBreak hr hk hp hl, bd2_s]
        by_cases b2 : sCan ρ p n
        · rw [if_pos b2, if_neg (by decide)]
          try simp only [hM v w, bd1_s]
          rw [M_needOf hr hk hl, bd2_s, ite_iff (nI_le0 (by omega))]
          by_cases b3 : sNeed ρ n = 0
          · rw [if_pos b3, if_pos trivial]
            exact no (fun q => by omega)
          · rw [if_neg b3, if_neg (by decide)]
            by_cases b4 : mnd ρ p n = 0
            · rw [if_pos ((cI_4 (by omega)).mpr b4)]
              exact yes ⟨⟨b1, sCan_iff.mp b2, by omega⟩, Or.inl b4⟩
            · rw [if_neg (fun q => b4 ((cI_4 (by omega)).mp q))]
              simp only [hM v w, bd1_s]
              rw [M_needOf hr hk hl, bd2_s]
              simp only [hM v w, bd1_s]
              obtain ⟨l2, hl2⟩ : ∃ l2, mnd ρ p n = l2 + 1 := ⟨mnd ρ p n - 1, by omega⟩
              have n2 := sNeed_le hk (show l2 < ρ 0 0 by omega)
              rw [hl2] at no yes ⊢
              rw [cI_s] at no ⊢
              rw [M_needOf hr hk (by omega), bd2_s, ite_iff (nI_leI (by omega) (by omega))]
              by_cases b5 : sNeed ρ n ≤ sNeed ρ l2
              · rw [if_pos b5]
                exact no (fun q => q.2.elim (fun z => by omega) (fun z => by rw [show l2 + 1 - 1 = l2 by omega] at z; omega))
              · rw [if_neg b5]
                exact yes ⟨⟨b1, sCan_iff.mp b2, by omega⟩, Or.inr (by rw [show l2 + 1 - 1 = l2 by omega]; omega)⟩
        · rw [if_neg b2, if_pos rfl, if_pos trivial]
          exact no (fun q => b2 (sCan_iff.mpr q.1.2.1))
      · rw [if_neg b1, if_pos trivial]
        exact no (fun q => b1 q.1.1)
  exact key (ρ 0 0) FU 0 (by unfold FU; omega) (by omega)
end
end
