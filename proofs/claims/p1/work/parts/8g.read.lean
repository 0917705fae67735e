/-! BREAKINGS read of a SHEET -/
def cl (S : Sg) (k : Nat) (f : Int) (i c : Nat) : Int32 := zI (S.2.2 6 (40 * k + ((f + 2 * i).toNat + c)))
noncomputable def rdl (S : Sg) (k : Nat) (f : Int) : Nat → Nat → Rho → Nat ⊕ (Nat × Rho × Int)
  | 0, i, ρ => .inr (i, ρ, 0)
  | n + 1, i, ρ => haveI := Classical.propDecidable
    if S.2.2 4 k = -4 then .inr (i, ρ, 1)
    else if 0 ≤ f + 2 * i ∧ f + 2 * i + 1 < S.2.2 5 k then
      (if 0 ≤ gbk ρ (cl S k f i 0) (cl S k f i 1) then rdl S k f n (i + 1) (gst ρ (cl S k f i 0) (cl S k f i 1)) else .inl i)
    else .inr (i, ρ, 2)
theorem at_I (f : Int32) {i : Nat} (hi : i ≤ 40) : (f.toInt64 + ((2 : Int32) * nI i).toInt64).toInt = f.toInt + 2 * i := by
  have h1 := f.toInt_lt
  have h2 := f.le_toInt
  rw [Int64.toInt_add, Int32.toInt_toInt64, Int32.toInt_toInt64, show (2 : Int32) = nI 2 from rfl, pk_mul, nI_toInt (by omega)]
  rw [Int.bmod_eq_of_le (by omega) (by omega)]
  omega
theorem at_S {a : Int64} {t : Int} {c : Nat} (h : a.toInt = t) (hb : -2 ^ 40 ≤ t ∧ t < 2 ^ 40) (hc : c ≤ 1) : (a + (nI c).toInt64).toInt = t + c := by
  rw [Int64.toInt_add, h, Int32.toInt_toInt64, nI_toInt (by omega)]
  rw [Int.bmod_eq_of_le (by omega) (by omega)]
theorem at_32 {a : Int64} {j : Nat} (h : a.toInt = (j : Int)) (hj : j < 2 ^ 31) : a.toInt32 = nI j := by
  apply Int32.toInt_inj.mp
  rw [Int64.toInt_toInt32, h, nI_toInt hj]
  exact Int.bmod_eq_of_le (by omega) (by omega)
section
variable {S : Sg} {v : Nat → Nat → Int32} {w : Nat → Nat → Int64} {k : Nat}
theorem C_pair (hs : SOK S) (hc : CI S v) (hk : k < 4) {a : Int64} {t : Int} (h : a.toInt = t) (hb : -2 ^ 40 ≤ t ∧ t < 2 ^ 40) : f_Sheet_faultOfPair (92 + 2 * k) a (bh v w) = some (if S.2.2 4 k = -4 then 1 else if 0 ≤ t ∧ t + 1 < S.2.2 5 k then 0 else 2, bh v w) := by
  have e1 : (a + 1).toInt = t + 1 := at_S (c := 1) h hb (by decide)
  simp only [f_Sheet_faultOfPair, f_Sheet_faultOfPair_0, hSh hk v w, bd1_s]
  rw [C_faultAt hs hc hk, bd2_s, h]
  by_cases h4 : S.2.2 4 k = -4
  · rw [if_pos h4, if_pos h4, if_neg (by decide)]
  · rw [if_neg h4, if_neg h4]
    by_cases h0 : 0 ≤ t ∧ t < S.2.2 5 k
    · rw [if_pos h0, if_pos rfl]
      simp only [hSh hk v w, bd1_s]
      rw [C_faultAt hs hc hk, bd2_s, e1, if_neg h4]
      by_cases h1 : t + 1 < S.2.2 5 k
      · rw [if_pos (by omega), if_pos (by omega)]
      · rw [if_neg (by omega), if_neg (by omega)]
    · rw [if_neg h0, if_neg (by decide), if_neg (by omega)]
theorem C_cell (hc : CI S v) (hk : k < 4) {a : Int64} {j : Nat} (h : a.toInt = (j : Int)) (hj : j < 40) : f_Sheet_cellAt (92 + 2 * k) a (bh v w) = some (zI (S.2.2 6 (40 * k + j)), bh v w) := by
  simp only [f_Sheet_cellAt, f_Sheet_cellAt_0, hSh hk v w, bd1_s]
  rw [at_32 h (by omega), rd_nI hj (by decide), bd1_s, (hc.2.2.2.2.2.1 k hk).2.2 j hj]
theorem Q_rd (hs : SOK S) (hk : k < 4) (f : Int32) {N : Nat} (hN : N ≤ 20) : ∀ (n i fuel : Nat) (ρ : Rho) (v : Nat → Nat → Int32), n + 1 < fuel → i + n = N → CI S v → CR 20 ρ v → ROK ρ →
    (∀ j, rdl S k f.toInt n i ρ = .inl j → ∃ v', f_Q_read_64 fuel 0 f (nI N) (92 + 2 * k) (nI i) 0 (nI i) (bh v w) = some ((-20) - nI j, bh v' w) ∧ ∀ q, q < 20 ∨ 37 ≤ q → v' q = v q) ∧
    (∀ c ρ' t, rdl S k f.toInt n i ρ = .inr (c, ρ', t) → ∃ v', f_Q_read_64 fuel 0 f (nI N) (92 + 2 * k) (nI i) 0 (nI i) (bh v w) = f_Q_read_141 0 (nI c) (zI t) (bh v' w) ∧ CR 20 ρ' v' ∧ ROK ρ' ∧ (∀ σ, SAME ρ σ → SAME ρ' σ) ∧ ∀ q, q < 20 ∨ 37 ≤ q → v' q = v q) := by
  intro n
  induction n with
  | zero =>
    intro i fuel ρ v hf hi hc hr hk2
    obtain ⟨m, rfl⟩ : ∃ m, fuel = m + 1 := ⟨fuel - 1, by omega⟩
    refine ⟨fun j z => (by cases z), fun c ρ' t z => ?_⟩
    have z := Sum.inr.inj z
    obtain rfl : i = c := congrArg Prod.fst z
    obtain rfl : ρ = ρ' := congrArg (fun q => q.2.1) z
    obtain rfl : (0 : Int) = t := congrArg (fun q => q.2.2) z
    refine ⟨v, ?_, hr, hk2, fun _ h => h, fun _ _ => rfl⟩
    simp only [f_Q_read_64, f_Q_read_64b]
    rw [if_pos ((nI_leI (by omega) (by omega)).mpr (by omega))]
    rfl
  | succ n ih =>
    intro i fuel ρ v hf hi hc hr hk2
    obtain ⟨m, rfl⟩ : ∃ m, fuel = m + 1 + 1 := ⟨fuel - 2, by omega⟩
    have hf1 := f.toInt_lt
    have hf2 := f.le_toInt
    have eat := at_I f (i := i) (by omega)
    have stop : ∀ (t : Int32), ¬ t = 0 → f_Q_read_64 (m + 1) 0 f (nI N) (92 + 2 * k) (nI i) t (nI i + 1) (bh v w) = f_Q_read_141 0 (nI i) t (bh v w) := by
      intro t ht
      simp only [f_Q_read_64, f_Q_read_64b]
      rw [if_neg ht]
      split <;> rfl
    have step : f_Q_read_64 (m + 1 + 1) 0 f (nI N) (92 + 2 * k) (nI i) 0 (nI i) (bh v w) = (if (if S.2.2 4 k = -4 then (1 : Int32) else if 0 ≤ f.toInt + 2 * i ∧ f.toInt + 2 * i + 1 < S.2.2 5 k then 0 else 2) = 0 then
        bd1 (gR (bh v w) 0 0 2) fun x35 => bd1 (kC (bh v w) (92 + 2 * k) 5) fun _ => bd2 (f_Sheet_cellAt (92 + 2 * k) (f.toInt64 + (((2 : Int32) * nI i).toInt64)) (bh v w)) fun x41 h39 => bd1 (kC h39 (92 + 2 * k) 5) fun _ => bd2 (f_Sheet_cellAt (92 + 2 * k) ((f.toInt64 + (((2 : Int32) * nI i).toInt64)) + (1 : Int64)) h39) fun x46 h44 => bd1 (kC h44 x35 4) fun _ => bd2 (f_Realm_breakOnce x35 x41 x46 h44) fun x51 h49 => if 0 ≤ x51 then f_Q_read_135 (f_Q_read_64 (m + 1)) 0 f (nI N) (92 + 2 * k) (nI i + (1 : Int32)) (if S.2.2 4 k = -4 then (1 : Int32) else if 0 ≤ f.toInt + 2 * i ∧ f.toInt + 2 * i + 1 < S.2.2 5 k then 0 else 2) (nI i) h49 else some (((-20) : Int32) - nI i, h49)
        else f_Q_read_64 (m + 1) 0 f (nI N) (92 + 2 * k) (nI i) (if S.2.2 4 k = -4 then (1 : Int32) else if 0 ≤ f.toInt + 2 * i ∧ f.toInt + 2 * i + 1 < S.2.2 5 k then 0 else 2) (nI i + 1) (bh v w)) := by
      show f_Q_read_64b (f_Q_read_64 (m + 1)) 0 f (nI N) (92 + 2 * k) (nI i) 0 (nI i) (bh v w) = _
      unfold f_Q_read_64b
      rw [if_neg (fun z => by have := (nI_leI (by omega) (by omega)).mp z; omega), if_pos rfl]
      simp only [hSh hk v w, bd1_s]
      rw [C_pair hs hc hk eat (by omega), bd2_s]
      simp only [hSh hk v w, bd1_s]
      rfl
    by_cases h4 : S.2.2 4 k = -4
    · have e : rdl S k f.toInt (n + 1) i ρ = .inr (i, ρ, 1) := by simp only [rdl]; rw [if_pos h4]
      rw [e]
      refine ⟨fun j z => (by cases z), fun c ρ' t z => ?_⟩
      have z := Sum.inr.inj z
      obtain rfl : i = c := congrArg Prod.fst z
      obtain rfl : ρ = ρ' := congrArg (fun q => q.2.1) z
      obtain rfl : (1 : Int) = t := congrArg (fun q => q.2.2) z
      refine ⟨v, ?_, hr, hk2, fun _ h => h, fun _ _ => rfl⟩
      rw [step, if_pos h4, if_neg (by decide), stop 1 (by decide)]
      rfl
    · by_cases h5 : 0 ≤ f.toInt + 2 * i ∧ f.toInt + 2 * i + 1 < S.2.2 5 k
      · have hz := (hs.2.2.2.2.2 k hk).2.2
        obtain ⟨j, hj⟩ : ∃ j : Nat, f.toInt + 2 * i = (j : Int) := ⟨(f.toInt + 2 * i).toNat, by omega⟩
        have ej : (f.toInt + 2 * i).toNat = j := by omega
        obtain ⟨v1, e1, c1, f1⟩ := C_bk (w := w) rl20 hr hk2 (cl S k f.toInt i 0) (cl S k f.toInt i 1)
        have hc1 : CI S v1 := hc.fr (fun p hp => f1 p (by unfold pC at hp; omega))
        have step2 : f_Q_read_64 (m + 1 + 1) 0 f (nI N) (92 + 2 * k) (nI i) 0 (nI i) (bh v w) = if 0 ≤ gbk ρ (cl S k f.toInt i 0) (cl S k f.toInt i 1) then f_Q_read_64 (m + 1) 0 f (nI N) (92 + 2 * k) (nI (i + 1)) 0 (nI (i + 1)) (bh v1 w) else some (((-20) : Int32) - nI i, bh v1 w) := by
          rw [step, if_neg h4, if_pos h5, if_pos rfl]
          simp only [hQ v w, hSh hk v w, bd1_s]
          rw [C_cell hc hk (eat.trans hj) (by omega), bd2_s]
          simp only [hSh hk v w, bd1_s]
          have ea1 : ((f.toInt64 + ((2 : Int32) * nI i).toInt64) + 1).toInt = ((j + 1 : Nat) : Int) := (at_S (c := 1) (eat.trans hj) (by omega) (by decide)).trans (by omega)
          rw [C_cell hc hk ea1 (by omega), bd2_s]
          simp only [hRl rl20 v w, bd1_s]
          have c0 : zI (S.2.2 6 (40 * k + j)) = cl S k f.toInt i 0 := by unfold cl; rw [ej]; rfl
          have c1 : zI (S.2.2 6 (40 * k + (j + 1))) = cl S k f.toInt i 1 := by unfold cl; rw [ej]
          rw [c0, c1, e1, bd2_s, nI_1]
          unfold f_Q_read_135
          rw [nI_1]
        by_cases hg : 0 ≤ gbk ρ (cl S k f.toInt i 0) (cl S k f.toInt i 1)
        · have e : rdl S k f.toInt (n + 1) i ρ = rdl S k f.toInt n (i + 1) (gst ρ (cl S k f.toInt i 0) (cl S k f.toInt i 1)) := by simp only [rdl]; rw [if_neg h4, if_pos h5, if_pos hg]
          rw [e, step2, if_pos hg]
          obtain ⟨a1, a2⟩ := ih (i + 1) (m + 1) _ v1 (by omega) (by omega) hc1 c1 (ROK_gst hk2 _ _)
          refine ⟨fun j z => ?_, fun c ρ' t z => ?_⟩
          · obtain ⟨v', b1, b2⟩ := a1 j z
            exact ⟨v', b1, fun q hq => (b2 q hq).trans (f1 q (by omega))⟩
          · obtain ⟨v', b1, b2, b3, b4, b5⟩ := a2 c ρ' t z
            exact ⟨v', b1, b2, b3, fun σ h => b4 σ (SAME_gst h _ _), fun q hq => (b5 q hq).trans (f1 q (by omega))⟩
        · have e : rdl S k f.toInt (n + 1) i ρ = .inl i := by simp only [rdl]; rw [if_neg h4, if_pos h5, if_neg hg]
          rw [e, step2, if_neg hg]
          refine ⟨fun j z => ?_, fun c ρ' t z => by cases z⟩
          obtain rfl : i = j := Sum.inl.inj z
          exact ⟨v1, rfl, fun q hq => f1 q (by omega)⟩
      · have e : rdl S k f.toInt (n + 1) i ρ = .inr (i, ρ, 2) := by simp only [rdl]; rw [if_neg h4, if_neg h5]
        rw [e]
        refine ⟨fun j z => (by cases z), fun c ρ' t z => ?_⟩
        have z := Sum.inr.inj z
        obtain rfl : i = c := congrArg Prod.fst z
        obtain rfl : ρ = ρ' := congrArg (fun q => q.2.1) z
        obtain rfl : (2 : Int) = t := congrArg (fun q => q.2.2) z
        refine ⟨v, ?_, hr, hk2, fun _ h => h, fun _ _ => rfl⟩
        rw [step, if_neg h4, if_neg h5, if_neg (by decide), stop 2 (by decide)]
        rfl
end
