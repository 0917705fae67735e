section
variable {S : Sg} {v : Nat → Nat → Int32} {w : Nat → Nat → Int64} {k : Nat}
def hsh (S : Sg) (k : Nat) (v : Nat → Nat → Int32) : Prop := v 123 k = zI (S.2.2 4 k) ∧ v 124 k = zI (S.2.2 5 k) ∧ ∀ i, i < 40 → v 125 (40 * k + i) = zI (S.2.2 6 (40 * k + i))
/-- the reference's FAULT of a pair -/
noncomputable def flt (S : Sg) (k : Nat) (y : Int32) (t : Int) : Int32 := haveI := Classical.propDecidable; if S.2.2 4 k = -4 then 1 else if zI (S.2.2 4 k) = y then (if 0 ≤ t ∧ t + 1 < S.2.2 5 k then 0 else 2) else 3
theorem M_inn (hs : SOK S) (hk : k < 4) (hv : hsh S k v) (f y N c : Int32) {i : Nat} (hi : i ≤ 20) (rec : Nat → Int32 → Int32 → Int32 → Int32 → Int32 → Int32 → Int32 → mH → Option (Int32 × mH)) : f_M_read_51 rec FU 100 (nI k) y f N 0 c (nI i) 0 (bh v w) = f_M_read_138 rec 100 (nI k) y f N (flt S k y (f.toInt + 2 * i)) c (nI i) (bh v w) := by
  have l4 : zI (S.2.2 4 k) = (-4 : Int32) ↔ S.2.2 4 k = -4 := lane_I hs hk (c := -4) (Or.inl rfl)
  have hz := (hs.2.2.2.2.2 k hk).2
  have eat := at_I f (i := i) (by omega)
  have hf1 := f.toInt_lt
  have hf2 := f.le_toInt
  have e5 : (zI (S.2.2 5 k)).toInt64.toInt = S.2.2 5 k := by rw [Int32.toInt_toInt64, zI_t (by omega) (by omega)]
  have one : ∀ (m d : Nat), d ≤ 1 → f_M_read_51 rec (m + 1) 100 (nI k) y f N 0 c (nI i) (nI d) (bh v w) = f_M_read_51 rec m 100 (nI k) y f N (if S.2.2 4 k = -4 then 1 else if zI (S.2.2 4 k) = y then (if 0 ≤ f.toInt + 2 * i + d ∧ f.toInt + 2 * i + d < S.2.2 5 k then 0 else 2) else 3) c (nI i) (nI d + 1) (bh v w) := by
    intro m d hd
    show f_M_read_51b rec (f_M_read_51 rec m) 100 (nI k) y f N 0 c (nI i) (nI d) (bh v w) = _
    unfold f_M_read_51b f_M_read_130 f_M_read_125
    have ea := at_S (c := d) eat (by omega) hd
    rw [show (2 : Int32) = nI 2 from rfl, if_neg (fun z => by have := (nI_leI (by omega) (by omega)).mp z; omega), show nI 2 = (2 : Int32) from rfl, if_pos rfl]
    simp only [hM v w, bd1_s]
    rw [rd_nI hk (by decide), bd1_s, hv.1]
    by_cases h4 : S.2.2 4 k = -4
    · rw [if_pos (l4.mpr h4), if_pos h4]
    · rw [if_neg (fun q => h4 (l4.mp q)), if_neg h4]
      simp only [bd1_s]
      by_cases hy : zI (S.2.2 4 k) = y
      · rw [if_pos hy, if_pos hy]
        simp only [cmp_lt]
        by_cases h0 : (f.toInt64 + ((2 : Int32) * nI i).toInt64) + (nI d).toInt64 < 0
        · rw [if_pos h0, if_neg (fun q => by rw [Int64.lt_iff_toInt_lt, ea] at h0; have : (0 : Int64).toInt = 0 := rfl; omega)]
          rfl
        · rw [if_neg h0, rd_nI hk (by decide), bd1_s, hv.2.1]
          rw [Int64.lt_iff_toInt_lt, ea, show (0 : Int64).toInt = 0 from rfl] at h0
          by_cases h1 : (f.toInt64 + ((2 : Int32) * nI i).toInt64) + (nI d).toInt64 < (zI (S.2.2 5 k)).toInt64
          · rw [if_pos h1]
            rw [Int64.lt_iff_toInt_lt, ea, e5] at h1
            rw [if_pos (by omega)]
          · rw [if_neg h1]
            rw [Int64.lt_iff_toInt_lt, ea, e5] at h1
            rw [if_neg (by omega)]
            rfl
      · rw [if_neg hy, if_neg hy]
  have halt : ∀ (m : Nat) (x d : Int32), ¬ x = 0 → f_M_read_51 rec (m + 1) 100 (nI k) y f N x c (nI i) d (bh v w) = f_M_read_138 rec 100 (nI k) y f N x c (nI i) (bh v w) := by
    intro m x d hx
    show f_M_read_51b rec (f_M_read_51 rec m) 100 (nI k) y f N x c (nI i) d (bh v w) = _
    unfold f_M_read_51b
    rw [if_neg hx]
    split <;> rfl
  have last : ∀ (m : Nat) (x : Int32), f_M_read_51 rec (m + 1) 100 (nI k) y f N x c (nI i) (nI 1 + 1) (bh v w) = f_M_read_138 rec 100 (nI k) y f N x c (nI i) (bh v w) := by
    intro m x
    show f_M_read_51b rec (f_M_read_51 rec m) 100 (nI k) y f N x c (nI i) (nI 1 + 1) (bh v w) = _
    unfold f_M_read_51b
    rw [if_pos (by decide)]
  show f_M_read_51 rec (597 + 1 + 1 + 1) 100 (nI k) y f N 0 c (nI i) (nI 0) (bh v w) = _
  rw [one (597 + 1 + 1) 0 (by decide)]
  unfold flt
  by_cases h4 : S.2.2 4 k = -4
  · rw [if_pos h4, if_pos h4, halt _ _ _ (by decide)]
  · rw [if_neg h4, if_neg h4]
    by_cases hy : zI (S.2.2 4 k) = y
    · rw [if_pos hy, if_pos hy]
      by_cases h0 : 0 ≤ f.toInt + 2 * i + ((0 : Nat) : Int) ∧ f.toInt + 2 * i + ((0 : Nat) : Int) < S.2.2 5 k
      · rw [if_pos h0, show nI 0 + 1 = nI 1 from rfl, one (597 + 1) 1 (by decide), if_neg h4, if_pos hy, last]
        congr 1
        by_cases h1 : f.toInt + 2 * i + 1 < S.2.2 5 k
        · rw [if_pos (by omega), if_pos (by omega)]
        · rw [if_neg (by omega), if_neg (by omega)]
      · rw [if_neg h0, halt _ _ _ (by decide), if_neg (by omega)]
    · rw [if_neg hy, if_neg hy, halt _ _ _ (by decide)]
theorem M_rd (hs : SOK S) (hk : k < 4) (f y : Int32) (hl : S.2.2 4 k = -4 ∨ zI (S.2.2 4 k) = y) {N : Nat} (hN : N ≤ 20) : ∀ (n i fuel : Nat) (ρ : Rho) (v : Nat → Nat → Int32), n + 1 < fuel → i + n = N → hsh S k v → MR ρ v → ROK ρ →
    (∀ j, rdl S k f.toInt n i ρ = .inl j → ∃ v', f_M_read_36 fuel 100 (nI k) y f (nI N) 0 (nI i) (nI i) (bh v w) = some ((-20) - nI j, bh v' w) ∧ (∀ q, q ≠ 101 → v' q = v q) ∧ (∀ j, j < 66 → v' 101 j = v 119 j) ∧ ∀ j, 66 ≤ j → v' 101 j = v 101 j) ∧
    (∀ c ρ' t, rdl S k f.toInt n i ρ = .inr (c, ρ', t) → ∃ v', f_M_read_36 fuel 100 (nI k) y f (nI N) 0 (nI i) (nI i) (bh v w) = some (nI c, bh (u2 v' 100 38 (zI t)) w) ∧ MR ρ' v' ∧ (∀ q, q ≠ 101 → v' q = v q) ∧ ∀ j, 66 ≤ j → v' 101 j = v 101 j) := by
  intro n
  induction n with
  | zero =>
    intro i fuel ρ v hf hi hv hr hk2
    obtain ⟨m, rfl⟩ : ∃ m, fuel = m + 1 := ⟨fuel - 1, by omega⟩
    refine ⟨fun j z => (by cases z), fun c ρ' t z => ?_⟩
    have z := Sum.inr.inj z
    obtain rfl : i = c := congrArg Prod.fst z
    obtain rfl : ρ = ρ' := congrArg (fun q => q.2.1) z
    obtain rfl : (0 : Int) = t := congrArg (fun q => q.2.2) z
    refine ⟨v, ?_, hr, fun _ _ => rfl, fun _ _ => rfl⟩
    simp only [f_M_read_36, f_M_read_36b, f_M_read_198, hM v w, bd1_s]
    rw [if_pos ((nI_leI (by omega) (by omega)).mpr (by omega))]
    rfl
  | succ n ih =>
    intro i fuel ρ v hf hi hv hr hk2
    obtain ⟨m, rfl⟩ : ∃ m, fuel = m + 1 + 1 := ⟨fuel - 2, by omega⟩
    have hf1 := f.toInt_lt
    have hf2 := f.le_toInt
    have stop : ∀ (t : Int32), ¬ t = 0 → f_M_read_138 (f_M_read_36 (m + 1)) 100 (nI k) y f (nI N) t (nI i) (nI i) (bh v w) = some (nI i, bh (u2 v 100 38 t) w) := by
      intro t ht
      unfold f_M_read_138 f_M_read_192
      rw [if_neg ht]
      simp only [f_M_read_36, f_M_read_36b, f_M_read_198, hM v w, bd1_s]
      rw [if_neg ht]
      split <;> rfl
    have step : f_M_read_36 (m + 1 + 1) 100 (nI k) y f (nI N) 0 (nI i) (nI i) (bh v w) = f_M_read_138 (f_M_read_36 (m + 1)) 100 (nI k) y f (nI N) (flt S k y (f.toInt + 2 * i)) (nI i) (nI i) (bh v w) := by
      show f_M_read_36b (f_M_read_36 (m + 1)) 100 (nI k) y f (nI N) 0 (nI i) (nI i) (bh v w) = _
      unfold f_M_read_36b
      rw [if_neg (fun z => by have := (nI_leI (by omega) (by omega)).mp z; omega), if_pos rfl, M_inn hs hk hv _ _ _ _ (by omega)]
    by_cases h4 : S.2.2 4 k = -4
    · have e : rdl S k f.toInt (n + 1) i ρ = .inr (i, ρ, 1) := by simp only [rdl]; rw [if_pos h4]
      have ef : flt S k y (f.toInt + 2 * i) = 1 := by unfold flt; rw [if_pos h4]
      rw [e]
      refine ⟨fun j z => (by cases z), fun c ρ' t z => ?_⟩
      have z := Sum.inr.inj z
      obtain rfl : i = c := congrArg Prod.fst z
      obtain rfl : ρ = ρ' := congrArg (fun q => q.2.1) z
      obtain rfl : (1 : Int) = t := congrArg (fun q => q.2.2) z
      refine ⟨v, ?_, hr, fun _ _ => rfl, fun _ _ => rfl⟩
      rw [step, ef, stop 1 (by decide)]
      rfl
    · have hy : zI (S.2.2 4 k) = y := hl.resolve_left h4
      by_cases h5 : 0 ≤ f.toInt + 2 * i ∧ f.toInt + 2 * i + 1 < S.2.2 5 k
      · have ef : flt S k y (f.toInt + 2 * i) = 0 := by unfold flt; rw [if_neg h4, if_pos hy, if_pos h5]
        have hz := (hs.2.2.2.2.2 k hk).2.2
        obtain ⟨j, hj⟩ : ∃ j : Nat, f.toInt + 2 * i = (j : Int) := ⟨(f.toInt + 2 * i).toNat, by omega⟩
        have ej : (f.toInt + 2 * i).toNat = j := by omega
        obtain ⟨v1, e1, c1, f1, g1⟩ := M_bk (w := w) hr hk2 (cl S k f.toInt i 0) (cl S k f.toInt i 1)
        have hv1 : hsh S k v1 := by
          unfold hsh
          rw [f1 123 (by decide), f1 124 (by decide), f1 125 (by decide)]
          exact hv
        have eix : (((40 : Int32) * nI k) + f) + ((2 : Int32) * nI i) = nI (40 * k + j) := by
          rw [← zI_toInt f, show (40 : Int32) = nI 40 from rfl, show (2 : Int32) = nI 2 from rfl, pk_mul, pk_mul, ← zI_n, ← zI_n, zI_add, zI_add, ← zI_n]
          congr 1
          omega
        have step2 : f_M_read_36 (m + 1 + 1) 100 (nI k) y f (nI N) 0 (nI i) (nI i) (bh v w) = if 0 ≤ gbk ρ (cl S k f.toInt i 0) (cl S k f.toInt i 1) then f_M_read_36 (m + 1) 100 (nI k) y f (nI N) 0 (nI (i + 1)) (nI (i + 1)) (bh v1 w) else bd1 (f_M_returns 100 (bh v1 w)) fun h48 => some (((-20) : Int32) - nI i, h48) := by
          rw [step, ef]
          unfold f_M_read_138 f_M_read_192
          rw [if_pos rfl]
          simp only [hM v w, bd1_s]
          rw [eix, rd_nI (by omega) (by decide), bd1_s, nI_1, rd_nI (by omega) (by decide), bd1_s]
          have c0 : v 125 (40 * k + j) = cl S k f.toInt i 0 := by unfold cl; rw [ej]; exact hv.2.2 j (by omega)
          have c1 : v 125 (40 * k + j + 1) = cl S k f.toInt i 1 := by unfold cl; rw [ej]; exact hv.2.2 (j + 1) (by omega)
          rw [c0, c1, e1, bd2_s, nI_1]
          simp only [hM v1 w, bd1_s]
        by_cases hg : 0 ≤ gbk ρ (cl S k f.toInt i 0) (cl S k f.toInt i 1)
        · have e : rdl S k f.toInt (n + 1) i ρ = rdl S k f.toInt n (i + 1) (gst ρ (cl S k f.toInt i 0) (cl S k f.toInt i 1)) := by simp only [rdl]; rw [if_neg h4, if_pos h5, if_pos hg]
          rw [e, step2, if_pos hg]
          obtain ⟨a1, a2⟩ := ih (i + 1) (m + 1) _ v1 (by omega) (by omega) hv1 c1 (ROK_gst hk2 _ _)
          refine ⟨fun j z => ?_, fun c ρ' t z => ?_⟩
          · obtain ⟨v', b1, b2, b3, b4⟩ := a1 j z
            exact ⟨v', b1, fun q hq => (b2 q hq).trans (f1 q hq), fun j hj => (b3 j hj).trans (by rw [f1 119 (by decide)]), fun j hj => (b4 j hj).trans (g1 j hj)⟩
          · obtain ⟨v', b1, b2, b3, b4⟩ := a2 c ρ' t z
            exact ⟨v', b1, b2, fun q hq => (b3 q hq).trans (f1 q hq), fun j hj => (b4 j hj).trans (g1 j hj)⟩
        · have e : rdl S k f.toInt (n + 1) i ρ = .inl i := by simp only [rdl]; rw [if_neg h4, if_pos h5, if_neg hg]
          rw [e, step2, if_neg hg]
          refine ⟨fun j z => ?_, fun c ρ' t z => (by cases z)⟩
          obtain rfl : i = j := Sum.inl.inj z
          obtain ⟨v3, e3, f3, g3, h3⟩ := M_returns v1 w
          refine ⟨v3, by rw [e3]; rfl, fun q hq => (f3 q hq).trans (f1 q hq), fun j hj => (g3 j hj).trans (by rw [f1 119 (by decide)]), fun j hj => (h3 j hj).trans (g1 j hj)⟩
      · have e : rdl S k f.toInt (n + 1) i ρ = .inr (i, ρ, 2) := by simp only [rdl]; rw [if_neg h4, if_neg h5]
        have ef : flt S k y (f.toInt + 2 * i) = 2 := by unfold flt; rw [if_neg h4, if_pos hy, if_neg h5]
        rw [e]
        refine ⟨fun j z => (by cases z), fun c ρ' t z => ?_⟩
        have z := Sum.inr.inj z
        obtain rfl : i = c := congrArg Prod.fst z
        obtain rfl : ρ = ρ' := congrArg (fun q => q.2.1) z
        obtain rfl : (2 : Int) = t := congrArg (fun q => q.2.2) z
        refine ⟨v, ?_, hr, fun _ _ => rfl, fun _ _ => rfl⟩
        rw [step, ef, stop 2 (by decide)]
        rfl
theorem C_as (hs : SOK S) (hc : CI S v) (hk : k < 4) {a : Nat} (ha : a < 3) : f_Sheet_faultAs (92 + 2 * k) (nI a) (bh v w) = some (if S.2.2 4 k = -4 ∨ zI (S.2.2 4 k) = nI a then 0 else 3, bh v w) := by
  simp only [f_Sheet_faultAs, f_Sheet_faultAs_0, f_Sheet_faultAs_17, hSh hk v w, bd1_s]
  rw [(hc.2.2.2.2.2.1 k hk).1]
  by_cases h : S.2.2 4 k = -4
  · rw [if_pos h, if_pos (show zI (-4) = -4 from rfl), if_pos (Or.inl h)]
  · rw [if_neg h, if_neg (size_4 hs hk h), (hc.2.2.2.2.2.1 k hk).2.1 h]
    by_cases h2 : zI (S.2.2 4 k) = nI a
    · rw [if_pos h2, if_pos (Or.inr h2)]
    · rw [if_neg h2, if_neg (fun q => q.elim h h2)]
end
