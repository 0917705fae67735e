theorem or_I (a b : Nat) : nI a ||| nI b = nI (a ||| b) := by
  apply Int32.toBitVec_inj.mp
  rw [Int32.toBitVec_or]
  show BitVec.ofNat 32 a ||| BitVec.ofNat 32 b = BitVec.ofNat 32 (a ||| b)
  exact (BitVec.ofNat_or).symm
theorem and_I (a b : Nat) : nI a &&& nI b = nI (a &&& b) := by
  apply Int32.toBitVec_inj.mp
  rw [Int32.toBitVec_and]
  show BitVec.ofNat 32 a &&& BitVec.ofNat 32 b = BitVec.ofNat 32 (a &&& b)
  exact (BitVec.ofNat_and).symm
theorem ite_iff {α : Type} {c d : Prop} [Decidable c] [Decidable d] (h : c ↔ d) {a b : α} : (if c then a else b) = if d then a else b := by
  by_cases z : c
  · rw [if_pos z, if_pos (h.mp z)]
  · rw [if_neg z, if_neg (fun q => z (h.mpr q))]
theorem nI_le0 {n : Nat} (h : n < 2 ^ 31) : nI n ≤ 0 ↔ n = 0 := by
  rw [show (0 : Int32) = nI 0 from rfl, nI_leI h (by decide)]
  omega
theorem nI_eq0 {n : Nat} (h : n < 2 ^ 31) : nI n = 0 ↔ n = 0 := by
  rw [show (0 : Int32) = nI 0 from rfl, nI_eq h (by decide)]
theorem nI_eq1 {n : Nat} (h : n < 2 ^ 31) : nI n = 1 ↔ n = 1 := by
  rw [show (1 : Int32) = nI 1 from rfl, nI_eq h (by decide)]
theorem pw_le {L : Nat} (h : L ≤ 5) {x : Nat} (hx : x < 2 ^ L) : x < 32 := Nat.lt_of_lt_of_le hx (Nat.le_trans (Nat.pow_le_pow_right (by decide) h) (by decide))
/-- chains -/
def chn (ρ : Rho) : Nat → Nat → Nat → Nat
  | 0, acc, _ => acc
  | _ + 1, acc, 0 => acc
  | n + 1, acc, m + 1 => if bit acc m = 1 then acc else chn ρ n (acc ||| 2 ^ m) (ρ 5 m)
def sChain (ρ : Rho) (l : Nat) : Nat := chn ρ 6 0 (l + 1)
def mu5 (a : Nat) : Nat := sumN (fun m => 1 - bit a m) 5
theorem mu5_step : ∀ a, a < 32 → ∀ m, m < 5 → bit a m = 0 → a ||| 2 ^ m < 32 ∧ mu5 (a ||| 2 ^ m) + 1 = mu5 a := by decide +kernel
def orN (f : Nat → Nat) : Nat → Nat
  | 0 => 0
  | n + 1 => orN f n ||| f n
theorem or_lt : ∀ a, a < 32 → ∀ b, b < 32 → a ||| b < 32 := by decide +kernel
theorem orN_lt {f : Nat → Nat} : ∀ {n : Nat}, (∀ i, i < n → f i < 32) → orN f n < 32
  | 0, _ => Nat.zero_lt_succ _
  | n + 1, h => or_lt _ (orN_lt (fun i hi => h i (by omega))) _ (h n (by omega))
def sFalls (ρ : Rho) : Nat := orN (fun l => if 0 < sNeed ρ l then sChain ρ l else 0) (ρ 0 0) &&& ρ 0 4
def sCan (ρ : Rho) (p l : Nat) : Prop := 0 < sRoom ρ p l ∧ 0 < sLeft ρ p
def sTries (ρ : Rho) (p l : Nat) : Nat := if sLeft ρ p ≤ sRoom ρ p l then sLeft ρ p else sRoom ρ p l
theorem chn_lt (ρ : Rho) (hL : ρ 0 0 ≤ 5) (hc : ∀ l, l < ρ 0 0 → ρ 5 l ≤ ρ 0 0) : ∀ (n acc c : Nat), acc < 32 → c ≤ ρ 0 0 → chn ρ n acc c < 32
  | 0, acc, _, h, _ => h
  | _ + 1, acc, 0, h, _ => h
  | n + 1, acc, m + 1, h, hm => by
    show (if bit acc m = 1 then acc else chn ρ n (acc ||| 2 ^ m) (ρ 5 m)) < 32
    split
    · exact h
    · next z => exact chn_lt ρ hL hc n _ _ (mu5_step acc h m (by omega) (by rcases bit_01 acc m with q | q <;> omega)).1 (hc m (by omega))
section
variable {ρ : Rho} {v : Nat → Nat → Int32} {w : Nat → Nat → Int64}
theorem ROK.st (hk : ROK ρ) : ρ 0 4 < 32 := pw_le hk.1.1 hk.1.2.2.2.2.1
theorem M_roomOf (hr : MR ρ v) (hk : ROK ρ) {p l : Nat} (hp : p < ρ 0 1) (hl : l < ρ 0 0) : f_M_roomOf 100 (nI p) (nI l) (bh v w) = some (nI (sRoom ρ p l), bh v w) := by
  have h1 := hk.1.1
  have h2 := hk.1.2.1
  have hst := hk.st
  have hrf : ρ 10 p < 32 := pw_le h1 (hk.2.2.1 p hp).2.2.2.2.1
  have hB : ρ 12 (5 * p + l) ≤ ρ 2 l := hk.2.2.2.1 p l hp hl
  have hc : ρ 2 l ≤ 3 := (hk.2.1 l hl).2.2.1
  simp only [f_M_roomOf, f_M_roomOf_0, f_M_roomOf_28, f_M_roomOf_29, f_M_roomOf_51, hM v w, bd1_s]
  rw [M_doesStand hr.2 (by omega) (by omega), bd2_s]
  unfold sRoom
  rcases bit_01 (ρ 0 4) l with h | h
  · simp [h]
    rfl
  · rw [h, if_neg (show ¬ nI 1 = 0 by decide)]
    simp only [hM v w, bd1_s]
    rw [show (18 : Int32) = nI 18 from rfl, nI_add, rd_nI (by omega) (by decide), bd1_s]
    have e1 := hr.2.2.2.2.2.2.2.1 p hp
    rw [show 0 + 18 + p = 18 + p by omega] at e1
    rw [e1, bit_I (by omega) (by omega), ite_iff (nI_eq0 (by have := bit_lt (ρ 10 p) l; omega))]
    rcases bit_01 (ρ 10 p) l with g | g
    · rw [if_pos g, if_neg (by decide), rd_nI (by omega) (by decide), bd1_s, (hr.1.2.2.1 l hl).1, M_brokenBy hr.2 hk hp hl, bd2_s, pk_sub hB, if_pos (nI_pos' (by omega)), if_pos ⟨trivial, g⟩]
    · rw [if_neg (by omega), if_pos trivial, if_pos (by decide), if_neg (fun z => by have := z.2; omega)]
      rfl
theorem M_timeLeft (hr : MR ρ v) (hk : ROK ρ) {p : Nat} (hp : p < ρ 0 1) : f_M_timeLeft 100 (nI p) (bh v w) = some (nI (sLeft ρ p), bh v w) := by
  have h1 := hk.1.1
  have h2 := hk.1.2.1
  have ht := (hk.2.2.1 p hp).1
  have hs : sAll ρ p ≤ 5 := (hk.2.2.1 p hp).2.2.2.2.2.2
  simp only [f_M_timeLeft, f_M_timeLeft_0, hM v w, bd1_s]
  rw [show (12 : Int32) = nI 12 from rfl, nI_add, rd_nI (by omega) (by decide), bd1_s, M_allBy hr hk hp, bd2_s]
  have e1 := hr.2.2.2.2.2.1 p hp
  rw [show 0 + 12 + p = 12 + p by omega] at e1
  rw [e1, ← zI_n, zI_subn]
  unfold sLeft
  by_cases hc : sAll ρ p ≤ ρ 6 p
  · rw [if_pos ((zI_ge (by omega) (by omega)).mpr (by omega)), show ((ρ 6 p : Nat) : Int) - (sAll ρ p : Nat) = ((ρ 6 p - sAll ρ p : Nat) : Int) by omega, zI_n]
  · rw [if_neg (fun z => hc (by have := (zI_ge (by omega) (by omega)).mp z; omega)), show ρ 6 p - sAll ρ p = 0 by omega]
    rfl
theorem sLeft_le (hk : ROK ρ) {p : Nat} (hp : p < ρ 0 1) : sLeft ρ p ≤ 5 := Nat.le_trans (Nat.sub_le _ _) (hk.2.2.1 p hp).1
theorem sRoom_le (hk : ROK ρ) {p l : Nat} (hl : l < ρ 0 0) : sRoom ρ p l ≤ 3 := by
  unfold sRoom
  split
  · exact Nat.le_trans (Nat.sub_le _ _) (hk.2.1 l hl).2.2.1
  · omega
theorem sNeed_le (hk : ROK ρ) {l : Nat} (hl : l < ρ 0 0) : sNeed ρ l ≤ 9 := by
  unfold sNeed
  split
  · exact Nat.le_trans (Nat.sub_le _ _) (hk.2.1 l hl).1
  · omega
theorem M_canBreak (hr : MR ρ v) (hk : ROK ρ) {p l : Nat} (hp : p < ρ 0 1) (hl : l < ρ 0 0) [Decidable (sCan ρ p l)] : f_M_canBreak 100 (nI p) (nI l) (bh v w) = some (if sCan ρ p l then 1 else 0, bh v w) := by
  have a1 := sRoom_le hk (p := p) hl
  have a2 := sLeft_le hk hp
  simp only [f_M_canBreak, f_M_canBreak_0, f_M_canBreak_21, hM v w, bd1_s]
  rw [M_roomOf hr hk hp hl, bd2_s, ite_iff (nI_le0 (by omega))]
  by_cases h : sRoom ρ p l = 0
  · rw [if_pos h, if_neg (by unfold sCan; omega)]
  · rw [if_neg h]
    simp only [hM v w, bd1_s]
    rw [M_timeLeft hr hk hp, bd2_s, ite_iff (nI_le0 (by omega))]
    by_cases g : sLeft ρ p = 0
    · rw [if_pos g, if_neg (by unfold sCan; omega)]
    · rw [if_neg g, if_pos (by unfold sCan; omega)]
theorem M_triesOf (hr : MR ρ v) (hk : ROK ρ) {p l : Nat} (hp : p < ρ 0 1) (hl : l < ρ 0 0) : f_M_triesOf 100 (nI p) (nI l) (bh v w) = some (nI (sTries ρ p l), bh v w) := by
  have a1 := sRoom_le hk (p := p) hl
  have a2 := sLeft_le hk hp
  simp only [f_M_triesOf, f_M_triesOf_0, hM v w, bd1_s]
  rw [M_roomOf hr hk hp hl, bd2_s]
  simp only [hM v w, bd1_s]
  rw [M_timeLeft hr hk hp, bd2_s, ite_iff (nI_leI (by omega) (by omega))]
  unfold sTries
  by_cases h : sLeft ρ p ≤ sRoom ρ p l
  · rw [if_pos h, if_pos h]
    simp only [hM v w, bd1_s]
    rw [M_timeLeft hr hk hp, bd2_s]
  · rw [if_neg h, if_neg h]
theorem M_bitsOf {s : Nat} (hs : s < 2 ^ 31) (h : mH) : f_M_bitsOf (nI s) h = some (nI (sumN (bit s) 5), h) := by
  have key : ∀ (k fuel i : Nat), k < fuel → i + k = 5 → f_M_bitsOf_4 fuel (nI s) (nI (sumN (bit s) i)) (nI i) h = some (nI (sumN (bit s) 5), h) := by
    intro k
    induction k with
    | zero =>
      intro fuel i hf hi
      obtain ⟨n, rfl⟩ : ∃ n, fuel = n + 1 := ⟨fuel - 1, by omega⟩
      simp only [f_M_bitsOf_4, f_M_bitsOf_4b]
      rw [show (5 : Int32) = nI 5 from rfl, if_pos (nI_le (by omega) (by omega)), show i = 5 by omega]
    | succ k ih =>
      intro fuel i hf hi
      obtain ⟨n, rfl⟩ : ∃ n, fuel = n + 1 := ⟨fuel - 1, by omega⟩
      simp only [f_M_bitsOf_4, f_M_bitsOf_4b]
      rw [show (5 : Int32) = nI 5 from rfl, if_neg (nI_ge (by omega) (by omega)), bit_I hs (by omega), nI_add, nI_1]
      exact ih n (i + 1) (by omega) (by omega)
  simp only [f_M_bitsOf, f_M_bitsOf_0]
  exact key 5 FU 0 (by unfold FU; omega) (by omega)
theorem M_chainOf (hr : MR ρ v) (hk : ROK ρ) {l : Nat} (hl : l < ρ 0 0) : f_M_chainOf 100 (nI l) (bh v w) = some (nI (sChain ρ l), bh v w) := by
  have h1 := hk.1.1
  have key : ∀ (k fuel acc c : Nat), acc < 32 → c ≤ ρ 0 0 → mu5 acc < k → k < fuel → f_M_chainOf_4 fuel 100 (nI acc) (cI c) (bh v w) = some (nI (chn ρ k acc c), bh v w) := by
    intro k
    induction k with
    | zero => intro fuel acc c _ _ h; omega
    | succ k ih =>
      intro fuel acc c ha hc hm hf
      obtain ⟨n, rfl⟩ : ∃ n, fuel = n + 1 := ⟨fuel - 1, by omega⟩
      simp only [f_M_chainOf_4, f_M_chainOf_4b, f_M_chainOf_36]
      cases c with
      | zero => rw [if_pos (show cI 0 = -4 from rfl)]; rfl
      | succ m =>
        have hne : ¬ cI (m + 1) = -4 := by
          show ¬ nI m = -4
          intro e
          have := congrArg Int32.toInt e
          rw [nI_toInt (by omega)] at this
          have e4 : (-4 : Int32).toInt = -4 := rfl
          rw [e4] at this
          omega
        rw [if_neg hne]
        show (if (nI acc >>> (nI m &&& 31)) &&& 1 = 0 then _ else _) = _
        rw [bit_I (by omega) (by omega), ite_iff (nI_eq0 (by have := bit_lt acc m; omega))]
        show _ = some (nI (if bit acc m = 1 then acc else chn ρ k (acc ||| 2 ^ m) (ρ 5 m)), bh v w)
        rcases bit_01 acc m with g | g
        · have st := mu5_step acc ha m (by omega) g
          rw [if_pos g, if_neg (by omega)]
          simp only [hM v w, bd1_s]
          show (bd1 (rd (v 101) 198 (5 + nI m)) fun x3 => f_M_chainOf_4 n 100 (nI acc ||| 1 <<< (nI m &&& 31)) x3 (bh v w)) = _
          rw [show (5 : Int32) = nI 5 from rfl, nI_add, rd_nI (by omega) (by decide), bd1_s, shl_I (by omega), or_I]
          have e1 := hr.2.2.1 m (by omega)
          rw [show 0 + 5 + m = 5 + m by omega] at e1
          rw [e1]
          exact ih n _ _ st.1 (hk.2.1 m (by omega)).2.2.2.2.2.1 (by omega) (by omega)
        · rw [if_neg (by omega), if_pos g]
  simp only [f_M_chainOf, f_M_chainOf_0]
  exact key 6 FU 0 (l + 1) (by decide) (by omega) (by decide) (by unfold FU; omega)
theorem sChain_lt (hk : ROK ρ) {l : Nat} (hl : l < ρ 0 0) : sChain ρ l < 32 := chn_lt ρ hk.1.1 (fun l hl => (hk.2.1 l hl).2.2.2.2.2.1) 6 0 (l + 1) (by decide) (by omega)
theorem M_fallsNow (hr : MR ρ v) (hk : ROK ρ) : f_M_fallsNow 100 (bh v w) = some (nI (sFalls ρ), bh v w) := by
  have h1 := hk.1.1
  have hst := hk.st
  have key : ∀ (k fuel l : Nat), k < fuel → l + k = ρ 0 0 → f_M_fallsNow_4 fuel 100 (nI (orN (fun l => if 0 < sNeed ρ l then sChain ρ l else 0) l)) (nI l) (bh v w) = some (nI (sFalls ρ), bh v w) := by
    intro k
    induction k with
    | zero =>
      intro fuel l hf hl
      obtain ⟨n, rfl⟩ : ∃ n, fuel = n + 1 := ⟨fuel - 1, by omega⟩
      simp only [f_M_fallsNow_4, f_M_fallsNow_4b, hM v w, bd1_s]
      have e1 : rd (v 101) 198 (10 : Int32) = some (nI (ρ 0 4)) := by rw [← hr.2.2.2.1]; rfl
      rw [hr.1.1, if_pos (nI_le (by omega) (by omega)), e1, bd1_s, and_I, show l = ρ 0 0 by omega]
      rfl
    | succ k ih =>
      intro fuel l hf hl
      obtain ⟨n, rfl⟩ : ∃ n, fuel = n + 1 := ⟨fuel - 1, by omega⟩
      have hl2 : l < ρ 0 0 := by omega
      have hn := sNeed_le hk hl2
      simp only [f_M_fallsNow_4, f_M_fallsNow_4b, f_M_fallsNow_37, f_M_fallsNow_38, hM v w, bd1_s]
      rw [hr.1.1, if_neg (nI_ge (by omega) (by omega)), M_doesStand hr.2 (by omega) (by omega), bd2_s]
      have e2 : orN (fun l => if 0 < sNeed ρ l then sChain ρ l else 0) (l + 1) = orN (fun l => if 0 < sNeed ρ l then sChain ρ l else 0) l ||| (if 0 < sNeed ρ l then sChain ρ l else 0) := rfl
      have ih2 := ih n (l + 1) (by omega) (by omega)
      rcases bit_01 (ρ 0 4) l with g | g
      · have hz : sNeed ρ l = 0 := by unfold sNeed; rw [if_neg (by omega)]
        rw [g, if_pos (show nI 0 = 0 from rfl), nI_1, show (0 : Int32) = nI 0 from rfl, or_I]
        rw [e2, if_neg (by omega)] at ih2
        exact ih2
      · rw [g, if_neg (show ¬ nI 1 = 0 by decide)]
        simp only [hM v w, bd1_s]
        rw [M_needOf hr hk hl2, bd2_s, ite_iff (nI_le0 (by omega))]
        by_cases z : sNeed ρ l = 0
        · rw [if_pos z, nI_1, show (0 : Int32) = nI 0 from rfl, or_I]
          rw [e2, if_neg (by omega)] at ih2
          exact ih2
        · rw [if_neg z]
          simp only [hM v w, bd1_s]
          rw [M_chainOf hr hk hl2, bd2_s, nI_1, or_I]
          rw [e2, if_pos (by omega)] at ih2
          exact ih2
  simp only [f_M_fallsNow, f_M_fallsNow_0]
  exact key (ρ 0 0) FU 0 (by unfold FU; omega) (by omega)
end
