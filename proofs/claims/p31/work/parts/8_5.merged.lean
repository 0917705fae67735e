/-! 8_13.joined -/
section
/-! 8zt1.conv.lean.txt -/
section
/-! counting tables: sums -/
theorem sumN_add (f g : Nat → Nat) : ∀ n, sumN (fun i => f i + g i) n = sumN f n + sumN g n
  | 0 => rfl
  | n + 1 => by
    have ih := sumN_add f g n
    show sumN (fun i => f i + g i) n + (f n + g n) = (sumN f n + f n) + (sumN g n + g n)
    omega
theorem sumN_comm (f : Nat → Nat → Nat) (m : Nat) : ∀ n, sumN (fun i => sumN (fun j => f i j) m) n = sumN (fun j => sumN (fun i => f i j) n) m
  | 0 => by
    show 0 = sumN (fun _ => 0) m
    exact (sumN_0 m).symm
  | n + 1 => by
    have ih := sumN_comm f m n
    show sumN (fun i => sumN (fun j => f i j) m) n + sumN (fun j => f n j) m = sumN (fun j => sumN (fun i => f i j) n + f n j) m
    rw [sumN_add, ih]
theorem sumN_mul (c : Nat) (f : Nat → Nat) : ∀ n, sumN (fun i => c * f i) n = c * sumN f n
  | 0 => rfl
  | n + 1 => by
    have ih := sumN_mul c f n
    show sumN (fun i => c * f i) n + c * f n = c * (sumN f n + f n)
    rw [ih, Nat.mul_add]
theorem sumN_if (P : Prop) [Decidable P] (f : Nat → Nat) (n : Nat) : (if P then sumN f n else 0) = sumN (fun i => if P then f i else 0) n := by
  by_cases h : P
  · rw [if_pos h]
    exact sumN_congr (fun i _ => (if_pos h).symm)
  · rw [if_neg h]
    refine ((sumN_congr (g := fun _ => 0) (fun i _ => ?_)).trans (sumN_0 n)).symm
    show (if P then f i else 0) = 0
    exact if_neg h
/-- what lies behind n is nothing -/
theorem sumN_cut {f : Nat → Nat} {n : Nat} : ∀ {m : Nat}, n ≤ m → (∀ i, n ≤ i → i < m → f i = 0) → sumN f m = sumN f n
  | 0, h, _ => by rw [Nat.le_zero.mp h]
  | m + 1, h, z => by
    by_cases e : n = m + 1
    · rw [e]
    · show sumN f m + f m = sumN f n
      rw [z m (by omega) (by omega), sumN_cut (by omega) (fun i a b => z i a (by omega))]
      rfl
/-- one of them alone -/
theorem sumN_pick {f : Nat → Nat} {k : Nat} : ∀ {m : Nat}, k < m → (∀ i, i < m → i ≠ k → f i = 0) → sumN f m = f k
  | 0, h, _ => (Nat.not_lt_zero _ h).elim
  | m + 1, h, z => by
    show sumN f m + f m = f k
    by_cases e : k = m
    · rw [e, sumN_cut (n := 0) (Nat.zero_le m) (fun i _ b => z i (by omega) (by omega))]
      exact Nat.zero_add _
    · rw [z m (by omega) (by omega), sumN_pick (by omega) (fun i a b => z i (by omega) b)]
      rfl
theorem sumN_none {f : Nat → Nat} {m : Nat} (z : ∀ i, i < m → f i = 0) : sumN f m = 0 := (sumN_congr (g := fun _ => 0) z).trans (sumN_0 m)
/-- row by row -/
theorem sumN_grid (G : Nat → Nat → Nat) {m : Nat} (hm : 0 < m) : ∀ n, sumN (fun k => G (k / m) (k % m)) (n * m) = sumN (fun a => sumN (fun b => G a b) m) n
  | 0 => by rw [Nat.zero_mul]; rfl
  | n + 1 => by
    have ih := sumN_grid G hm n
    have e := sumN_sh (f := fun k => G (k / m) (k % m)) (n * m) m
    rw [show (n + 1) * m = n * m + m from Nat.succ_mul n m, ← e, ih]
    show _ = sumN (fun a => sumN (fun b => G a b) m) n + sumN (fun b => G n b) m
    congr 1
    refine sumN_congr (fun i hi => ?_)
    show G ((n * m + i) / m) ((n * m + i) % m) = G n i
    rw [Nat.mul_comm n m, Nat.mul_add_div hm, Nat.mul_add_mod, Nat.div_eq_of_lt hi, Nat.mod_eq_of_lt hi]
    rfl
/-- a sum over three, each below n -/
def S3 (n : Nat) (f : Nat → Nat → Nat → Nat) : Nat := sumN (fun x => sumN (fun y => sumN (fun z => f x y z) n) n) n
theorem S3_congr {n : Nat} {f g : Nat → Nat → Nat → Nat} (h : ∀ x y z, x < n → y < n → z < n → f x y z = g x y z) : S3 n f = S3 n g :=
  sumN_congr (fun x hx => sumN_congr (fun y hy => sumN_congr (fun z hz => h x y z hx hy hz)))
theorem S3_sum (n m : Nat) (f : Nat → Nat → Nat → Nat → Nat) : sumN (fun i => S3 n (f i)) m = S3 n (fun x y z => sumN (fun i => f i x y z) m) := by
  unfold S3
  rw [sumN_comm (fun i x => sumN (fun y => sumN (fun z => f i x y z) n) n)]
  refine sumN_congr (fun x _ => ?_)
  show sumN (fun i => sumN (fun y => sumN (fun z => f i x y z) n) n) m = sumN (fun y => sumN (fun z => sumN (fun i => f i x y z) m) n) n
  rw [sumN_comm (fun i y => sumN (fun z => f i x y z) n)]
  refine sumN_congr (fun y _ => ?_)
  show sumN (fun i => sumN (fun z => f i x y z) n) m = sumN (fun z => sumN (fun i => f i x y z) m) n
  exact sumN_comm (fun i z => f i x y z) n m
theorem S3_comm (n m : Nat) (f : Nat → Nat → Nat → Nat → Nat → Nat → Nat) : S3 n (fun x y z => S3 m (fun a b c => f x y z a b c)) = S3 m (fun a b c => S3 n (fun x y z => f x y z a b c)) := by
  show sumN (fun x => sumN (fun y => sumN (fun z => S3 m (fun a b c => f x y z a b c)) n) n) n = _
  have e1 : ∀ x y, sumN (fun z => S3 m (fun a b c => f x y z a b c)) n = S3 m (fun a b c => sumN (fun z => f x y z a b c) n) := fun x y => S3_sum m n (fun z a b c => f x y z a b c)
  have e2 : ∀ x, sumN (fun y => sumN (fun z => S3 m (fun a b c => f x y z a b c)) n) n = S3 m (fun a b c => sumN (fun y => sumN (fun z => f x y z a b c) n) n) := fun x => (sumN_congr (fun y _ => e1 x y)).trans (S3_sum m n (fun y a b c => sumN (fun z => f x y z a b c) n))
  exact (sumN_congr (fun x _ => e2 x)).trans (S3_sum m n (fun x a b c => sumN (fun y => sumN (fun z => f x y z a b c) n) n))
theorem S3_if (P : Prop) [Decidable P] (n : Nat) (f : Nat → Nat → Nat → Nat) : (if P then S3 n f else 0) = S3 n (fun x y z => if P then f x y z else 0) := by
  unfold S3
  rw [sumN_if]
  refine sumN_congr (fun x _ => ?_)
  show (if P then sumN (fun y => sumN (fun z => f x y z) n) n else 0) = _
  rw [sumN_if]
  refine sumN_congr (fun y _ => ?_)
  show (if P then sumN (fun z => f x y z) n else 0) = _
  exact sumN_if P _ n
theorem S3_mul (n : Nat) (f g h : Nat → Nat) : S3 n (fun x y z => f x * g y * h z) = sumN f n * sumN g n * sumN h n := by
  unfold S3
  have e1 : ∀ x y, sumN (fun z => f x * g y * h z) n = f x * g y * sumN h n := fun x y => sumN_mul (f x * g y) h n
  have e2 : ∀ x, sumN (fun y => sumN (fun z => f x * g y * h z) n) n = f x * (sumN g n * sumN h n) := fun x => by
    refine (sumN_congr (g := fun y => f x * sumN h n * g y) (fun y _ => ?_)).trans ?_
    · show sumN (fun z => f x * g y * h z) n = f x * sumN h n * g y
      rw [e1, Nat.mul_right_comm]
    · rw [sumN_mul, Nat.mul_assoc, Nat.mul_comm (sumN h n)]
  refine (sumN_congr (g := fun x => sumN g n * sumN h n * f x) (fun x _ => ?_)).trans ?_
  · show sumN (fun y => sumN (fun z => f x * g y * h z) n) n = sumN g n * sumN h n * f x
    rw [e2, Nat.mul_comm]
  · rw [sumN_mul, Nat.mul_comm, Nat.mul_assoc]
/-- one law: those of its breakings that K lets -/
def cvo (K : Nat → Nat → Nat → Bool) (W : Nat → Nat → Nat → Nat) (a b c : Nat) : Nat := S3 4 (fun x y z => if K x y z = true ∧ x ≤ a ∧ y ≤ b ∧ z ≤ c then W (a - x) (b - y) (c - z) else 0)
theorem cv_congr {K : Nat → Nat → Nat → Bool} {W W' : Nat → Nat → Nat → Nat} {a b c : Nat} (h : ∀ x y z, x ≤ a → y ≤ b → z ≤ c → W x y z = W' x y z) : cvo K W a b c = cvo K W' a b c := by
  refine S3_congr (fun x y z _ _ _ => ?_)
  by_cases d : K x y z = true ∧ x ≤ a ∧ y ≤ b ∧ z ≤ c
  · rw [if_pos d, if_pos d, h _ _ _ (Nat.sub_le _ _) (Nat.sub_le _ _) (Nat.sub_le _ _)]
  · rw [if_neg d, if_neg d]
theorem cv_comm (K K' : Nat → Nat → Nat → Bool) (W : Nat → Nat → Nat → Nat) (a b c : Nat) : cvo K (cvo K' W) a b c = cvo K' (cvo K W) a b c := by
  have one : ∀ (K K' : Nat → Nat → Nat → Bool), cvo K (cvo K' W) a b c = S3 4 (fun x y z => S3 4 (fun x' y' z' => if K x y z = true ∧ K' x' y' z' = true ∧ x + x' ≤ a ∧ y + y' ≤ b ∧ z + z' ≤ c then W (a - (x + x')) (b - (y + y')) (c - (z + z')) else 0)) := by
    intro K K'
    refine S3_congr (fun x y z _ _ _ => ?_)
    unfold cvo
    rw [S3_if]
    refine S3_congr (fun x' y' z' _ _ _ => ?_)
    by_cases d : K x y z = true ∧ x ≤ a ∧ y ≤ b ∧ z ≤ c
    · rw [if_pos d]
      by_cases e : K' x' y' z' = true ∧ x' ≤ a - x ∧ y' ≤ b - y ∧ z' ≤ c - z
      · rw [if_pos e, if_pos ⟨d.1, e.1, by omega, by omega, by omega⟩, Nat.sub_sub, Nat.sub_sub, Nat.sub_sub]
      · rw [if_neg e, if_neg (fun q => e ⟨q.2.1, by omega, by omega, by omega⟩)]
    · rw [if_neg d, if_neg (fun q => d ⟨q.1, by omega, by omega, by omega⟩)]
  rw [one K K', one K' K, S3_comm]
  refine S3_congr (fun x y z _ _ _ => S3_congr (fun x' y' z' _ _ _ => ?_))
  rw [Nat.add_comm x' x, Nat.add_comm y' y, Nat.add_comm z' z]
  by_cases d : K x' y' z' = true ∧ K' x y z = true ∧ x + x' ≤ a ∧ y + y' ≤ b ∧ z + z' ≤ c
  · rw [if_pos d, if_pos ⟨d.2.1, d.1, d.2.2⟩]
  · rw [if_neg d, if_neg (fun q => d ⟨q.2.1, q.1, q.2.2⟩)]
/-- one law, one person -/
def c1 (k : Nat → Bool) (f : Nat → Nat) (s : Nat) : Nat := sumN (fun n => if k n = true ∧ n ≤ s then f (s - n) else 0) 4
def pr3 (f g h : Nat → Nat) : Nat → Nat → Nat → Nat := fun a b c => f a * g b * h c
theorem cv_pr {K : Nat → Nat → Nat → Bool} {k0 k1 k2 : Nat → Bool} (hK : ∀ x y z, K x y z = (k0 x && k1 y && k2 z)) (f g h : Nat → Nat) (a b c : Nat) : cvo K (pr3 f g h) a b c = pr3 (c1 k0 f) (c1 k1 g) (c1 k2 h) a b c := by
  unfold cvo pr3 c1
  rw [← S3_mul]
  refine S3_congr (fun x y z _ _ _ => ?_)
  rw [hK]
  by_cases d0 : k0 x = true ∧ x ≤ a
  · by_cases d1 : k1 y = true ∧ y ≤ b
    · by_cases d2 : k2 z = true ∧ z ≤ c
      · rw [if_pos d0, if_pos d1, if_pos d2, if_pos ⟨by rw [d0.1, d1.1, d2.1]; rfl, d0.2, d1.2, d2.2⟩]
      · rw [if_neg d2, Nat.mul_zero, if_neg (fun q => d2 ⟨by have := q.1; rw [Bool.and_eq_true] at this; exact this.2, q.2.2.2⟩)]
    · rw [if_neg d1, Nat.mul_zero, Nat.zero_mul, if_neg (fun q => d1 ⟨by have := q.1; rw [Bool.and_eq_true, Bool.and_eq_true] at this; exact this.1.2, q.2.2.1⟩)]
  · rw [if_neg d0, Nat.zero_mul, Nat.zero_mul, if_neg (fun q => d0 ⟨by have := q.1; rw [Bool.and_eq_true, Bool.and_eq_true] at this; exact this.1.1, q.2.1⟩)]
/-- all laws, in their order -/
def cvs (K : Nat → Nat → Nat → Nat → Bool) (W : Nat → Nat → Nat → Nat) : Nat → Nat → Nat → Nat → Nat
  | 0 => W
  | n + 1 => cvo (K n) (cvs K W n)
/-- those that are bound alone -/
def cvB (B : Nat → Bool) (K : Nat → Nat → Nat → Nat → Bool) (W : Nat → Nat → Nat → Nat) : Nat → Nat → Nat → Nat → Nat
  | 0 => W
  | n + 1 => if B n = true then cvo (K n) (cvB B K W n) else cvB B K W n
/-- one person's, the free ones alone -/
def c1F (B : Nat → Bool) (k : Nat → Nat → Bool) (f : Nat → Nat) : Nat → Nat → Nat
  | 0 => f
  | n + 1 => if B n = true then c1F B k f n else c1 (k n) (c1F B k f n)
theorem cv_ext {K : Nat → Nat → Nat → Bool} {W W' : Nat → Nat → Nat → Nat} (h : W = W') : cvo K W = cvo K W' := by rw [h]
theorem cvB_comm (B : Nat → Bool) (K : Nat → Nat → Nat → Nat → Bool) (J : Nat → Nat → Nat → Bool) (W : Nat → Nat → Nat → Nat) : ∀ n, cvo J (cvB B K W n) = cvB B K (cvo J W) n
  | 0 => rfl
  | n + 1 => by
    have ih := cvB_comm B K J W n
    unfold cvB
    by_cases d : B n = true
    · rw [if_pos d, if_pos d, ← ih]
      funext a b c
      exact cv_comm J (K n) _ a b c
    · rw [if_neg d, if_neg d]
      exact ih
/-- the order doesn't matter -/
theorem cvs_two (B : Nat → Bool) (K : Nat → Nat → Nat → Nat → Bool) (k : Nat → Nat → Nat → Bool) (f : Nat → Nat → Nat) (hK : ∀ n, B n = false → ∀ x y z, K n x y z = (k 0 n x && k 1 n y && k 2 n z)) : ∀ n, cvs K (pr3 (f 0) (f 1) (f 2)) n = cvB B K (pr3 (c1F B (k 0) (f 0) n) (c1F B (k 1) (f 1) n) (c1F B (k 2) (f 2) n)) n
  | 0 => rfl
  | n + 1 => by
    have ih := cvs_two B K k f hK n
    unfold cvs cvB c1F
    by_cases d : B n = true
    · rw [if_pos d, if_pos d, if_pos d, if_pos d, ih]
    · rw [if_neg d, if_neg d, if_neg d, if_neg d, ih, cvB_comm]
      congr 1
      funext a b c
      exact cv_pr (hK n (Bool.not_eq_true _ ▸ d)) _ _ _ a b c
end
/-! 8zt2.due.lean.txt -/
section
/-! what was seen: both sides exactly -/
theorem if01 : (if false = true then (1 : Int32) else 0) = 0 := rfl
/-- 0: nothing seen; n + 1: n times; 100: never -/
def du (ρ : Rho) (kd who : Nat) : Nat → Nat
  | 0 => 0
  | k + 1 => if ρ 13 k = kd ∧ ρ 14 k = who then (if du ρ kd who k = 0 ∨ du ρ kd who k = ρ 15 k + 1 then ρ 15 k + 1 else 100) else du ρ kd who k
def dI (d : Nat) : Int32 := if d = 0 then -1 else nI (d - 1)
def bSo (ρ : Rho) (kd who n : Nat) : Nat → Bool
  | 0 => true
  | k + 1 => bSo ρ kd who n k && (decide (¬ ρ 13 k = kd) || decide (¬ ρ 14 k = who) || decide (ρ 15 k = n))
theorem dI_free : ∀ d, d ≤ 100 → (dI d = -1 ↔ d = 0) := by decide +kernel
theorem dI_eq : ∀ d, d ≤ 100 → ∀ n, n ≤ 20 → (dI d = nI n ↔ d = n + 1) := by decide +kernel
theorem dI_s (n : Nat) : dI (n + 1) = nI n := by
  unfold dI
  rw [if_neg (Nat.succ_ne_zero n)]
  rfl
section
variable {ρ : Rho} {v : Nat → Nat → Int32} {w : Nat → Nat → Int64}
theorem du_le {kd who : Nat} : ∀ k, (∀ j, j < k → ρ 15 j ≤ 20) → du ρ kd who k ≤ 100
  | 0, _ => Nat.zero_le _
  | k + 1, h => by
    have ih := du_le (kd := kd) (who := who) k (fun j hj => h j (by omega))
    have := h k (by omega)
    unfold du
    split
    · split <;> omega
    · exact ih
theorem so_du {kd who n : Nat} (hn : n ≤ 20) : ∀ k, (bSo ρ kd who n k = true ↔ du ρ kd who k = 0 ∨ du ρ kd who k = n + 1)
  | 0 => ⟨fun _ => Or.inl rfl, fun _ => rfl⟩
  | k + 1 => by
    have ih := so_du (kd := kd) (who := who) hn k
    unfold bSo du
    rw [Bool.and_eq_true, Bool.or_eq_true, Bool.or_eq_true, decide_eq_true_iff, decide_eq_true_iff, decide_eq_true_iff, ih]
    by_cases c : ρ 13 k = kd ∧ ρ 14 k = who
    · rw [if_pos c]
      by_cases d : du ρ kd who k = 0 ∨ du ρ kd who k = ρ 15 k + 1
      · rw [if_pos d]
        omega
      · rw [if_neg d]
        omega
    · rw [if_neg c]
      omega
theorem T_sumDueX (hr : CR 3 ρ v) (hk : ROK ρ) {kd who : Nat} (h1 : kd < 10) (h2 : who < 10) : f_Sightings_sumDue 16 (nI kd) (nI who) (bh v w) = some (dI (du ρ kd who (ρ 0 6)), bh v w) := by
  have h6 := hk.1.2.2.2.2.2.2
  have e0 : v 16 0 = nI (ρ 0 6) := hr.1.2.2.2.2.2.2
  have key : ∀ (n fuel k : Nat), n < fuel → k + n = ρ 0 6 → f_Sightings_sumDue_5 fuel 16 (nI kd) (nI who) (dI (du ρ kd who k)) (nI k) (bh v w) = some (dI (du ρ kd who (ρ 0 6)), bh v w) := by
    intro n
    induction n with
    | zero =>
      intro fuel k hf hk2
      obtain ⟨m, rfl⟩ : ∃ m, fuel = m + 1 := ⟨fuel - 1, by omega⟩
      show f_Sightings_sumDue_5b (f_Sightings_sumDue_5 m) 16 (nI kd) (nI who) _ (nI k) (bh v w) = _
      unfold f_Sightings_sumDue_5b
      simp only [hS0, bd1_q]
      rw [e0, if_pos ((nI_leI (by omega) (by omega)).mpr (by omega)), show k = ρ 0 6 by omega]
    | succ n ih =>
      intro fuel k hf hk2
      obtain ⟨m, rfl⟩ : ∃ m, fuel = m + 1 := ⟨fuel - 1, by omega⟩
      have nx := ih m (k + 1) (by omega) (by omega)
      have e : du ρ kd who (k + 1) = if ρ 13 k = kd ∧ ρ 14 k = who then (if du ρ kd who k = 0 ∨ du ρ kd who k = ρ 15 k + 1 then ρ 15 k + 1 else 100) else du ρ kd who k := rfl
      rw [e] at nx
      have q := hk.2.2.2.2 k (by omega)
      have c17 : v 17 k = nI (ρ 13 k) := (hr.2.2.2.2 k (by omega)).1
      have c18 : v 18 k = nI (ρ 14 k) := (hr.2.2.2.2 k (by omega)).2.1
      have c19 : v 19 k = nI (ρ 15 k) := (hr.2.2.2.2 k (by omega)).2.2
      have dl := du_le (ρ := ρ) (kd := kd) (who := who) k (fun j hj => (hk.2.2.2.2 j (by omega)).2)
      have q1 : ρ 13 k < 2 ^ 31 := by omega
      have q2 : ρ 14 k < 2 ^ 31 := by have := hk.1.1; have := hk.1.2.1; omega
      show f_Sightings_sumDue_5b (f_Sightings_sumDue_5 m) 16 (nI kd) (nI who) _ (nI k) (bh v w) = _
      unfold f_Sightings_sumDue_5b f_Sightings_sumDue_52 f_Sightings_sumDue_64 f_Sightings_sumDue_65
      simp only [hS0, bd1_q]
      rw [e0, if_neg (fun z => by have := (nI_leI (by omega) (by omega)).mp z; omega), rd_nI (by omega) (by decide), bd1_s, rd_nI (by omega) (by decide), bd1_s, rd_nI (by omega) (by decide), bd1_s, bd1_s, nI_1, c17, c18, c19, ite_iff (nI_eqI q1 (by omega)), ite_iff (nI_eqI q2 (by omega)), ite_iff (dI_free _ dl), ite_iff (dI_eq _ dl _ q.2)]
      by_cases g1 : ρ 13 k = kd
      · rw [if_pos g1]
        by_cases g2 : ρ 14 k = who
        · rw [if_pos g2]
          rw [if_pos ⟨g1, g2⟩] at nx
          by_cases g3 : du ρ kd who k = 0
          · rw [if_pos g3]
            rw [if_pos (Or.inl g3), dI_s] at nx
            exact nx
          · rw [if_neg g3]
            by_cases g4 : du ρ kd who k = ρ 15 k + 1
            · rw [if_pos g4]
              rw [if_pos (Or.inr g4), dI_s] at nx
              exact nx
            · rw [if_neg g4]
              rw [if_neg (fun z => z.elim g3 g4)] at nx
              exact nx
        · rw [if_neg g2]
          rw [if_neg (fun z => g2 z.2)] at nx
          exact nx
      · rw [if_neg g1]
        rw [if_neg (fun z => g1 z.1)] at nx
        exact nx
  unfold f_Sightings_sumDue f_Sightings_sumDue_0
  rw [show (0 : Int32) = nI 0 from rfl]
  exact key (ρ 0 6) FU 0 (by unfold FU; omega) (by omega)
theorem M_isSoX (hr : MR ρ v) (hk : ROK ρ) {kd who t : Nat} (h1 : kd < 10) (h2 : who < 10) (h3 : t ≤ 20) : f_M_isSo 100 (nI kd) (nI who) (nI t) (bh v w) = some (if bSo ρ kd who t (ρ 0 6) = true then 1 else 0, bh v w) := by
  have h6 := hk.1.2.2.2.2.2.2
  have e41 : v 101 41 = nI (ρ 0 6) := hr.2.2.2.2.2.2.2.2.2.2.2.2.1
  have key : ∀ (n fuel k : Nat), n < fuel → k + n = ρ 0 6 → f_M_isSo_6 fuel 100 (nI kd) (nI who) (nI t) (if bSo ρ kd who t k = true then 1 else 0) (nI k) (bh v w) = some (if bSo ρ kd who t (ρ 0 6) = true then 1 else 0, bh v w) := by
    intro n
    induction n with
    | zero =>
      intro fuel k hf hk2
      obtain ⟨m, rfl⟩ : ∃ m, fuel = m + 1 := ⟨fuel - 1, by omega⟩
      show f_M_isSo_6b (f_M_isSo_6 m) 100 (nI kd) (nI who) (nI t) _ (nI k) (bh v w) = _
      unfold f_M_isSo_6b
      simp only [hJ0, bd1_q]
      rw [show (41 : Int32) = nI 41 from rfl, rd_nI (by decide) (by decide), bd1_s, e41, if_pos ((nI_leI (by omega) (by omega)).mpr (by omega)), if_pos (by split; exact Or.inr rfl; exact Or.inl rfl), show k = ρ 0 6 by omega]
    | succ n ih =>
      intro fuel k hf hk2
      obtain ⟨m, rfl⟩ : ∃ m, fuel = m + 1 := ⟨fuel - 1, by omega⟩
      have nx := ih m (k + 1) (by omega) (by omega)
      have e : bSo ρ kd who t (k + 1) = (bSo ρ kd who t k && (decide (¬ ρ 13 k = kd) || decide (¬ ρ 14 k = who) || decide (ρ 15 k = t))) := rfl
      rw [e] at nx
      have q := hk.2.2.2.2 k (by omega)
      have a := hr.2.2.2.2.2.2.2.2.2.2.2.2.2 k (by omega)
      rw [show 0 + 42 + 3 * k = 42 + 3 * k by omega] at a
      have q1 : ρ 13 k < 2 ^ 31 := by omega
      have q2 : ρ 14 k < 2 ^ 31 := by have := hk.1.1; have := hk.1.2.1; omega
      have q3 : ρ 15 k < 2 ^ 31 := by omega
      show f_M_isSo_6b (f_M_isSo_6 m) 100 (nI kd) (nI who) (nI t) _ (nI k) (bh v w) = _
      unfold f_M_isSo_6b f_M_isSo_73 f_M_isSo_69 f_M_isSo_74
      simp only [hJ0, bd1_q]
      rw [show (41 : Int32) = nI 41 from rfl, rd_nI (by decide) (by decide), bd1_s, e41, if_neg (fun z => by have := (nI_leI (by omega) (by omega)).mp z; omega), nI_1, show (42 : Int32) = nI 42 from rfl, show (3 : Int32) = nI 3 from rfl, pk_mul, nI_add, rd_nI (by omega) (by decide), bd1_s, nI_1, rd_nI (by omega) (by decide), bd1_s, show nI (42 + 3 * k) + (2 : Int32) = nI (42 + 3 * k + 2) from nI_add _ 2, rd_nI (by omega) (by decide), bd1_s, a.1, a.2.1, a.2.2, ite_iff (nI_eqI q1 (by omega)), ite_iff (nI_eqI q2 (by omega)), ite_iff (nI_eqI q3 (by omega))]
      cases g0 : bSo ρ kd who t k
      · rw [g0] at nx
        rw [if_pos (show (if false = true then (1 : Int32) else 0) = 0 from rfl)]
        rw [Bool.false_and, if_neg (by decide)] at nx
        exact nx
      · rw [g0] at nx
        rw [if_pos rfl, if_neg (by decide)]
        rw [Bool.true_and] at nx
        by_cases g1 : ρ 13 k = kd
        · rw [if_pos g1]
          by_cases g2 : ρ 14 k = who
          · rw [if_pos g2]
            by_cases g3 : ρ 15 k = t
            · rw [if_pos g3]
              rw [if_pos (by simp [g3])] at nx
              exact nx
            · rw [if_neg g3]
              rw [if_neg (by simp [g1, g2, g3])] at nx
              exact nx
          · rw [if_neg g2]
            rw [if_pos (by simp [g2])] at nx
            exact nx
        · rw [if_neg g1]
          rw [if_pos (by simp [g1])] at nx
          exact nx
  unfold f_M_isSo f_M_isSo_0
  exact key (ρ 0 6) FU 0 (by unfold FU; omega) (by omega)
/-- n is a time that p can have spent -/
def bTm (ρ : Rho) (p n : Nat) : Bool := if p < ρ 0 1 then decide (n ≤ ρ 6 p) && bSo ρ 0 p n (ρ 0 6) else decide (n = 0)
theorem M_isTimeX (hr : MR ρ v) (hk : ROK ρ) {p n : Nat} (hp : p < 3) (hn : n ≤ 20) : f_M_isTime 100 (nI p) (nI n) (bh v w) = some (if bTm ρ p n = true then 1 else 0, bh v w) := by
  have h1 := hk.1.2.1
  have e : f_M_isSo 100 (0 : Int32) (nI p) (nI n) (bh v w) = some (if bSo ρ 0 p n (ρ 0 6) = true then 1 else 0, bh v w) := M_isSoX (w := w) (kd := 0) hr hk (by decide) (by omega) hn
  unfold f_M_isTime f_M_isTime_0 f_M_isTime_47 bTm
  simp only [hJ0, bd1_q]
  rw [hr.1.2.1, ite_iff (nI_ltI (by omega) (by omega))]
  by_cases c : p < ρ 0 1
  · have t5 : ρ 6 p ≤ 5 := (hk.2.2.1 p c).1
    have a12 : v 101 (12 + p) = nI (ρ 6 p) := by have := hr.2.2.2.2.2.1 p c; rwa [show 0 + 12 + p = 12 + p by omega] at this
    rw [if_pos c, if_pos c, show (12 : Int32) = nI 12 from rfl, nI_add, rd_nI (by omega) (by decide), bd1_s, a12, ite_iff (nI_ltI (by omega) (by omega))]
    by_cases d : ρ 6 p < n
    · rw [if_pos d, if_neg (by simp; omega)]
    · rw [if_neg d, e, bd2_s]
      cases g : bSo ρ 0 p n (ρ 0 6)
      · rw [if_pos if01, Bool.and_false, if_neg (by decide)]
      · rw [if_pos rfl, if_neg (by decide), Bool.and_true, if_pos (by simp; omega)]
  · rw [if_neg c, if_neg c, ite_iff (nI_eq0 (by omega))]
    by_cases d : n = 0
    · rw [if_pos d, if_pos (by simp [d])]
    · rw [if_neg d, if_neg (by simp [d])]
theorem T_isDueX {p n d : Nat} (hp : p < 3) (hn : n ≤ 20) (hd : d ≤ 100) (e : v 52 p = dI d) : f_Tables_isDueOf 48 (nI p) (nI n) (bh v w) = some (if d = 0 ∨ d = n + 1 then 1 else 0, bh v w) := by
  unfold f_Tables_isDueOf f_Tables_isDueOf_0 f_Tables_isDueOf_20
  simp only [hB0, bd1_q]
  rw [rd_nI hp (by decide), bd1_s, bd1_s, e, ite_iff (dI_free d hd), ite_iff (dI_eq d hd n hn)]
  by_cases g : d = 0
  · rw [if_pos g, if_pos (Or.inl g)]
  · rw [if_neg g]
    by_cases f : d = n + 1
    · rw [if_pos f, if_pos (Or.inr f)]
    · rw [if_neg f, if_neg (fun z => z.elim g f)]
end
end
/-! 8zt3.mtab.lean.txt -/
section
/-! the reference's tables, exactly -/
def tW (q : Nat) (w : Nat → Nat → Int64) (W : Nat → Nat → Nat → Nat) : Prop := ∀ a b c, a < 6 → b < 6 → c < 6 → w q (36 * a + 6 * b + c) = nL (W a b c)
theorem tW.to {q : Nat} {w : Nat → Nat → Int64} {W W' : Nat → Nat → Nat → Nat} (h : tW q w W) (e : ∀ a b c, a < 6 → b < 6 → c < 6 → W a b c = W' a b c) : tW q w W' := fun a b c ha hb hc => by rw [h a b c ha hb hc, e a b c ha hb hc]
theorem S3_box {n m0 m1 m2 : Nat} (h0 : m0 < n) (h1 : m1 < n) (h2 : m2 < n) {f g : Nat → Nat → Nat → Nat} (hin : ∀ x y z, x ≤ m0 → y ≤ m1 → z ≤ m2 → f x y z = g x y z) (hout : ∀ x y z, ¬ (x ≤ m0 ∧ y ≤ m1 ∧ z ≤ m2) → f x y z = 0) : S3 n f = sumN (fun x => sumN (fun y => sumN (fun z => g x y z) (m2 + 1)) (m1 + 1)) (m0 + 1) := by
  unfold S3
  rw [sumN_cut (n := m0 + 1) (m := n) (by omega) (fun x a _ => sumN_none (fun y _ => sumN_none (fun z _ => hout x y z (by omega))))]
  refine sumN_congr (fun x hx => ?_)
  show sumN (fun y => sumN (fun z => f x y z) n) n = sumN (fun y => sumN (fun z => g x y z) (m2 + 1)) (m1 + 1)
  rw [sumN_cut (n := m1 + 1) (m := n) (by omega) (fun y a _ => sumN_none (fun z _ => hout x y z (by omega)))]
  refine sumN_congr (fun y hy => ?_)
  show sumN (fun z => f x y z) n = sumN (fun z => g x y z) (m2 + 1)
  rw [sumN_cut (n := m2 + 1) (m := n) (by omega) (fun z a _ => hout x y z (by omega))]
  exact sumN_congr (fun z hz => hin x y z (by omega) (by omega) (by omega))
def aT (x y z k : Nat) (A B : Nat → Nat → Nat → Nat) (a b c : Nat) : Nat := B a b c + if x ≤ a ∧ y ≤ b ∧ z ≤ c ∧ 36 * (a - x) + 6 * (b - y) + (c - z) < k then A (a - x) (b - y) (c - z) else 0
def bAs (b2 b3 b4 : Int32) (p l x : Nat) : Bool := decide (¬ nI p = b2) || decide (¬ nI l = b3) || decide (nI x = b4)
theorem M_isAskedX (a b c d e f : Int32) (h : mH) : f_M_isAsked 100 a b c d e f h = some (if (decide (¬ a = d) || decide (¬ b = e) || decide (c = f)) = true then 1 else 0, h) := by
  unfold f_M_isAsked f_M_isAsked_0 f_M_isAsked_18
  by_cases c1 : a = d
  · by_cases c2 : b = e
    · by_cases c3 : c = f
      · rw [if_pos c1, if_pos c2, if_pos c3, if_pos (by simp [c3])]
      · rw [if_pos c1, if_pos c2, if_neg c3, if_neg (by simp [c1, c2, c3])]
    · rw [if_pos c1, if_neg c2, if_pos (by simp [c2])]
  · rw [if_neg c1, if_pos (by simp [c1])]
section
variable {ρ : Rho} {v : Nat → Nat → Int32} {w : Nat → Nat → Int64} {A B : Nat → Nat → Nat → Nat}
theorem M_addsTablesX {x y z : Nat} (hx : x ≤ 3) (hy : y ≤ 3) (hz : z ≤ 3) (w : Nat → Nat → Int64) (hA : tW 121 w A) (hB : tW 122 w B) : ∃ w', f_M_addsTables 100 (nI x) (nI y) (nI z) (bh v w) = some (bh v w') ∧ tW 121 w' A ∧ tW 122 w' (fun a b c => B a b c + if x ≤ a ∧ y ≤ b ∧ z ≤ c then A (a - x) (b - y) (c - z) else 0) := by
  have key : ∀ (n fuel k : Nat) (w : Nat → Nat → Int64), n < fuel → k + n = 216 → tW 121 w A → tW 122 w (aT x y z k A B) → ∃ w', f_M_addsTables_3 fuel 100 (nI x) (nI y) (nI z) (nI k) (bh v w) = some (bh v w') ∧ tW 121 w' A ∧ tW 122 w' (aT x y z 216 A B) := by
    intro n
    induction n with
    | zero =>
      intro fuel k w hf hk hA hB
      obtain ⟨m, rfl⟩ : ∃ m, fuel = m + 1 := ⟨fuel - 1, by omega⟩
      refine ⟨w, ?_, hA, by rw [show (216 : Nat) = k by omega]; exact hB⟩
      show f_M_addsTables_3b (f_M_addsTables_3 m) 100 (nI x) (nI y) (nI z) (nI k) (bh v w) = some (bh v w)
      unfold f_M_addsTables_3b
      rw [show (216 : Int32) = nI 216 from rfl, if_pos ((nI_leI (by omega) (by omega)).mpr (by omega))]
    | succ n ih =>
      intro fuel k w hf hk hA hB
      obtain ⟨m, rfl⟩ : ∃ m, fuel = m + 1 := ⟨fuel - 1, by omega⟩
      obtain ⟨d1, d2, d3⟩ := div_I k (by omega)
      have b1 : k / 36 < 6 := by omega
      have b2 : k / 6 % 6 < 6 := by omega
      have b3 : k % 6 < 6 := by omega
      have ek : 36 * (k / 36) + 6 * (k / 6 % 6) + k % 6 = k := by omega
      have skip : ¬ (k / 36 + x < 6 ∧ k / 6 % 6 + y < 6 ∧ k % 6 + z < 6) → ∃ w', f_M_addsTables_3 m 100 (nI x) (nI y) (nI z) (nI (k + 1)) (bh v w) = some (bh v w') ∧ tW 121 w' A ∧ tW 122 w' (aT x y z 216 A B) := fun q => ih m (k + 1) w (by omega) (by omega) hA (hB.to (fun a b c ha hb hc => by
        unfold aT
        congr 1
        by_cases g : x ≤ a ∧ y ≤ b ∧ z ≤ c ∧ 36 * (a - x) + 6 * (b - y) + (c - z) < k
        · rw [if_pos g, if_pos ⟨g.1, g.2.1, g.2.2.1, by omega⟩]
        · rw [if_neg g, if_neg (fun r => by
            by_cases e : 36 * (a - x) + 6 * (b - y) + (c - z) = k
            · exact q ⟨by omega, by omega, by omega⟩
            · exact g ⟨r.1, r.2.1, r.2.2.1, by omega⟩)]))
      show ∃ w', f_M_addsTables_3b (f_M_addsTables_3 m) 100 (nI x) (nI y) (nI z) (nI k) (bh v w) = some (bh v w') ∧ _
      unfold f_M_addsTables_3b f_M_addsTables_91
      rw [show (216 : Int32) = nI 216 from rfl, if_neg (fun q => by have := (nI_leI (by omega) (by omega)).mp q; omega), d1, d2, d3, nI_add, nI_add, nI_add, nI_1]
      have q6 : ∀ t : Nat, t < 100 → ((6 : Int32) ≤ nI t ↔ 6 ≤ t) := fun t ht => nI_leI (a := 6) (by decide) (by omega)
      generalize hka : k / 36 = ka at *
      generalize hkb : k / 6 % 6 = kb at *
      generalize hkc : k % 6 = kc at *
      rw [ite_iff (q6 (ka + x) (by omega)), ite_iff (q6 (kb + y) (by omega)), ite_iff (q6 (kc + z) (by omega))]
      by_cases c1 : 6 ≤ ka + x
      · rw [if_pos c1]; exact skip (by omega)
      · rw [if_neg c1]
        by_cases c2 : 6 ≤ kb + y
        · rw [if_pos c2]; exact skip (by omega)
        · rw [if_neg c2]
          by_cases c3 : 6 ≤ kc + z
          · rw [if_pos c3]; exact skip (by omega)
          · rw [if_neg c3]
            have rB := hB (ka + x) (kb + y) (kc + z) (by omega) (by omega) (by omega)
            have rA := hA ka kb kc b1 b2 b3
            rw [ek] at rA
            simp only [hJ0, bd1_q]
            rw [show (36 : Int32) = nI 36 from rfl, show (6 : Int32) = nI 6 from rfl, pk_mul, pk_mul, nI_add, nI_add, rd_nI (by omega) (by decide), bd1_s, rd_nI (by omega) (by decide), bd1_s, wrL_nI (by omega) (by decide), bd1_s, rB, rA, nL_add]
            refine ih m (k + 1) _ (by omega) (by omega) (fun a b c ha hb hc => by rw [u2L_o (by decide)]; exact hA a b c ha hb hc) (fun a b c ha hb hc => ?_)
            by_cases e : a = ka + x ∧ b = kb + y ∧ c = kc + z
            · rw [e.1, e.2.1, e.2.2, u2L_at]
              unfold aT
              rw [if_neg (fun r => by omega), if_pos ⟨by omega, by omega, by omega, by omega⟩, Nat.add_sub_cancel, Nat.add_sub_cancel, Nat.add_sub_cancel, Nat.add_zero]
            · rw [u2L_n (by omega), hB a b c ha hb hc]
              unfold aT
              congr 2
              by_cases g : x ≤ a ∧ y ≤ b ∧ z ≤ c ∧ 36 * (a - x) + 6 * (b - y) + (c - z) < k
              · rw [if_pos g, if_pos ⟨g.1, g.2.1, g.2.2.1, by omega⟩]
              · rw [if_neg g, if_neg (fun r => by
                  by_cases e2 : 36 * (a - x) + 6 * (b - y) + (c - z) = k
                  · exact e ⟨by omega, by omega, by omega⟩
                  · exact g ⟨r.1, r.2.1, r.2.2.1, by omega⟩)]
  obtain ⟨w', e1, e2, e3⟩ := key 216 FU 0 w (by decide) (by decide) hA (hB.to (fun a b c _ _ _ => by
    unfold aT
    rw [if_neg (fun r => by omega), Nat.add_zero]))
  refine ⟨w', ?_, e2, e3.to (fun a b c ha hb hc => ?_)⟩
  · unfold f_M_addsTables f_M_addsTables_0
    rw [show (0 : Int32) = nI 0 from rfl]
    exact e1
  · unfold aT
    congr 1
    by_cases g : x ≤ a ∧ y ≤ b ∧ z ≤ c
    · rw [if_pos g, if_pos ⟨g.1, g.2.1, g.2.2, by omega⟩]
    · rw [if_neg g, if_neg (fun r => g ⟨r.1, r.2.1, r.2.2.1⟩)]
theorem M_al172X : ∀ (n fuel k : Nat) (w : Nat → Nat → Int64), n < fuel → k + n = 216 → (∀ j, j < k → w 121 j = w 122 j) → ∃ w', f_M_addsLaw_172 fuel 100 (nI k) (bh v w) = some (bh v w') ∧ w' 122 = w 122 ∧ ∀ j, j < 216 → w' 121 j = w 122 j := by
  intro n
  induction n with
  | zero =>
    intro fuel k w hf hk hj
    obtain ⟨m, rfl⟩ : ∃ m, fuel = m + 1 := ⟨fuel - 1, by omega⟩
    refine ⟨w, ?_, rfl, fun j h => hj j (by omega)⟩
    show f_M_addsLaw_172b (f_M_addsLaw_172 m) 100 (nI k) (bh v w) = some (bh v w)
    unfold f_M_addsLaw_172b
    rw [show (216 : Int32) = nI 216 from rfl, if_pos ((nI_leI (by omega) (by omega)).mpr (by omega))]
  | succ n ih =>
    intro fuel k w hf hk hj
    obtain ⟨m, rfl⟩ : ∃ m, fuel = m + 1 := ⟨fuel - 1, by omega⟩
    obtain ⟨w', e1, e2, e3⟩ := ih m (k + 1) (u2L w 121 k (w 122 k)) (by omega) (by omega) (fun j h => by
      rw [u2L_o (q := 122) (by decide)]
      by_cases z : j = k
      · rw [z, u2L_at]
      · rw [u2L_n z]; exact hj j (by omega))
    rw [u2L_o (q := 122) (by decide)] at e2 e3
    refine ⟨w', ?_, e2, e3⟩
    show f_M_addsLaw_172b (f_M_addsLaw_172 m) 100 (nI k) (bh v w) = some (bh v w')
    unfold f_M_addsLaw_172b
    rw [show (216 : Int32) = nI 216 from rfl, if_neg (fun q => by have := (nI_leI (by omega) (by omega)).mp q; omega)]
    simp only [hJ0, bd1_q]
    rw [rd_nI (by omega) (by decide), bd1_s, wrL_nI (by omega) (by decide), bd1_s, nI_1]
    exact e1
/-- what was seen of the law and what is asked for let it -/
def kk (ρ : Rho) (b2 b3 b4 : Int32) (l x y z : Nat) : Bool := bSo ρ 1 l (x + y + z) (ρ 0 6) && bAs b2 b3 b4 0 l x && bAs b2 b3 b4 1 l y && bAs b2 b3 b4 2 l z
def tt (ρ : Rho) (b2 b3 b4 : Int32) (l : Nat) (A : Nat → Nat → Nat → Nat) (a b c x y z : Nat) : Nat := if kk ρ b2 b3 b4 l x y z = true ∧ x ≤ a ∧ y ≤ b ∧ z ≤ c then A (a - x) (b - y) (c - z) else 0
theorem M_al56X (hr : MR ρ v) (hk : ROK ρ) {l : Nat} (hl : l < ρ 0 0) (b2 b3 b4 : Int32) (rec28 : Nat → Int32 → Int32 → Int32 → Int32 → Int32 → mH → Option mH) (rec42 : Nat → Int32 → Int32 → Int32 → Int32 → Int32 → Int32 → mH → Option mH) {x y : Nat} (hx : x ≤ 3) (hy : y ≤ 3) : ∀ (n fuel z : Nat) (w : Nat → Nat → Int64), n < fuel → z + n = mo ρ 2 l + 1 → tW 121 w A → tW 122 w (fun a b c => B a b c + sumN (fun z => tt ρ b2 b3 b4 l A a b c x y z) z) → ∃ w', f_M_addsLaw_56 rec28 rec42 fuel 100 (nI l) b2 b3 b4 (nI x) (nI y) (nI z) (bh v w) = rec42 100 (nI l) b2 b3 b4 (nI x) (nI (y + 1)) (bh v w') ∧ tW 121 w' A ∧ tW 122 w' (fun a b c => B a b c + sumN (fun z => tt ρ b2 b3 b4 l A a b c x y z) (mo ρ 2 l + 1)) := by
  have h0 := hk.1.1
  have hm := mo_le hk (p := 2) hl
  have q2 : ∀ w, f_M_mostOf 100 (2 : Int32) (nI l) (bh v w) = some (nI (mo ρ 2 l), bh v w) := fun w => M_mostOf (w := w) (p := 2) hr hk (by decide) hl
  intro n
  induction n with
  | zero =>
    intro fuel z w hf hz hA hB
    obtain ⟨m, rfl⟩ : ∃ m, fuel = m + 1 := ⟨fuel - 1, by omega⟩
    refine ⟨w, ?_, hA, by rw [show mo ρ 2 l + 1 = z by omega]; exact hB⟩
    show f_M_addsLaw_56b rec28 rec42 (f_M_addsLaw_56 rec28 rec42 m) 100 (nI l) b2 b3 b4 (nI x) (nI y) (nI z) (bh v w) = _
    unfold f_M_addsLaw_56b
    simp only [hJ0, bd1_q]
    rw [q2, bd2_s, if_pos ((nI_ltI (by omega) (by omega)).mpr (by omega)), nI_1]
  | succ n ih =>
    intro fuel z w hf hz hA hB
    obtain ⟨m, rfl⟩ : ∃ m, fuel = m + 1 := ⟨fuel - 1, by omega⟩
    have s1 : f_M_isSo 100 (1 : Int32) (nI l) ((nI x + nI y) + nI z) (bh v w) = some (if bSo ρ 1 l (x + y + z) (ρ 0 6) = true then 1 else 0, bh v w) := by
      rw [nI_add, nI_add]
      exact M_isSoX (w := w) (kd := 1) hr hk (by decide) (by omega) (by omega)
    have s2 : f_M_isAsked 100 (0 : Int32) (nI l) (nI x) b2 b3 b4 (bh v w) = some (if bAs b2 b3 b4 0 l x = true then 1 else 0, bh v w) := M_isAskedX _ _ _ _ _ _ _
    have s3 : f_M_isAsked 100 (1 : Int32) (nI l) (nI y) b2 b3 b4 (bh v w) = some (if bAs b2 b3 b4 1 l y = true then 1 else 0, bh v w) := M_isAskedX _ _ _ _ _ _ _
    have s4 : f_M_isAsked 100 (2 : Int32) (nI l) (nI z) b2 b3 b4 (bh v w) = some (if bAs b2 b3 b4 2 l z = true then 1 else 0, bh v w) := M_isAskedX _ _ _ _ _ _ _
    obtain ⟨w2, e2, hA2, hB2⟩ := M_addsTablesX (v := v) hx hy (show z ≤ 3 by omega) w hA hB
    have no : kk ρ b2 b3 b4 l x y z = false → ∃ w', f_M_addsLaw_56 rec28 rec42 m 100 (nI l) b2 b3 b4 (nI x) (nI y) (nI (z + 1)) (bh v w) = rec42 100 (nI l) b2 b3 b4 (nI x) (nI (y + 1)) (bh v w') ∧ tW 121 w' A ∧ tW 122 w' (fun a b c => B a b c + sumN (fun z => tt ρ b2 b3 b4 l A a b c x y z) (mo ρ 2 l + 1)) := fun q => ih m (z + 1) w (by omega) (by omega) hA (hB.to (fun a b c _ _ _ => by
      show B a b c + sumN (fun z => tt ρ b2 b3 b4 l A a b c x y z) z = B a b c + (sumN (fun z => tt ρ b2 b3 b4 l A a b c x y z) z + tt ρ b2 b3 b4 l A a b c x y z)
      have e : tt ρ b2 b3 b4 l A a b c x y z = 0 := by
        unfold tt
        rw [q]
        exact if_neg (fun r => by cases r.1)
      rw [e, Nat.add_zero]))
    have yes : kk ρ b2 b3 b4 l x y z = true → ∃ w', f_M_addsLaw_56 rec28 rec42 m 100 (nI l) b2 b3 b4 (nI x) (nI y) (nI (z + 1)) (bh v w2) = rec42 100 (nI l) b2 b3 b4 (nI x) (nI (y + 1)) (bh v w') ∧ tW 121 w' A ∧ tW 122 w' (fun a b c => B a b c + sumN (fun z => tt ρ b2 b3 b4 l A a b c x y z) (mo ρ 2 l + 1)) := fun q => ih m (z + 1) w2 (by omega) (by omega) hA2 (hB2.to (fun a b c _ _ _ => by
      show (B a b c + sumN (fun z => tt ρ b2 b3 b4 l A a b c x y z) z) + _ = B a b c + (sumN (fun z => tt ρ b2 b3 b4 l A a b c x y z) z + tt ρ b2 b3 b4 l A a b c x y z)
      rw [Nat.add_assoc]
      congr 2
      unfold tt
      by_cases g : x ≤ a ∧ y ≤ b ∧ z ≤ c
      · rw [if_pos g, if_pos ⟨q, g⟩]
      · rw [if_neg g, if_neg (fun r => g r.2)]))
    show ∃ w', f_M_addsLaw_56b rec28 rec42 (f_M_addsLaw_56 rec28 rec42 m) 100 (nI l) b2 b3 b4 (nI x) (nI y) (nI z) (bh v w) = _ ∧ _
    unfold f_M_addsLaw_56b f_M_addsLaw_133 f_M_addsLaw_134 f_M_addsLaw_151
    simp only [hJ0, bd1_q]
    rw [q2, bd2_s, if_neg (fun q => by have := (nI_ltI (by omega) (by omega)).mp q; omega), nI_1]
    simp only [hJ0, bd1_q]
    rw [s1, bd2_s]
    unfold kk at no yes
    cases g1 : bSo ρ 1 l (x + y + z) (ρ 0 6)
    · rw [if_pos if01, if_pos trivial]
      exact no (by rw [g1]; rfl)
    · rw [if_pos rfl, if_neg (by decide)]
      simp only [hJ0, bd1_q]
      rw [s2, bd2_s]
      cases g2 : bAs b2 b3 b4 0 l x
      · rw [if_pos if01, if_pos trivial]
        exact no (by rw [g1, g2]; rfl)
      · rw [if_pos rfl, if_neg (by decide)]
        simp only [hJ0, bd1_q]
        rw [s3, bd2_s]
        cases g3 : bAs b2 b3 b4 1 l y
        · rw [if_pos if01, if_pos trivial]
          exact no (by rw [g1, g2, g3]; rfl)
        · rw [if_pos rfl, if_neg (by decide)]
          simp only [hJ0, bd1_q]
          rw [s4, bd2_s]
          cases g4 : bAs b2 b3 b4 2 l z
          · rw [if_pos if01, if_pos trivial]
            exact no (by rw [g1, g2, g3, g4]; rfl)
          · rw [if_pos rfl, if_neg (by decide), if_neg (by decide)]
            simp only [hJ0, bd1_q]
            rw [e2, bd1_s]
            exact yes (by rw [g1, g2, g3, g4]; rfl)
theorem M_al42X (hr : MR ρ v) (hk : ROK ρ) {l : Nat} (hl : l < ρ 0 0) (b2 b3 b4 : Int32) (rec28 : Nat → Int32 → Int32 → Int32 → Int32 → Int32 → mH → Option mH) {x : Nat} (hx : x ≤ 3) : ∀ (n fuel y : Nat) (w : Nat → Nat → Int64), n < fuel → y + n = mo ρ 1 l + 1 → tW 121 w A → tW 122 w (fun a b c => B a b c + sumN (fun y => sumN (fun z => tt ρ b2 b3 b4 l A a b c x y z) (mo ρ 2 l + 1)) y) → ∃ w', f_M_addsLaw_42 rec28 fuel 100 (nI l) b2 b3 b4 (nI x) (nI y) (bh v w) = rec28 100 (nI l) b2 b3 b4 (nI (x + 1)) (bh v w') ∧ tW 121 w' A ∧ tW 122 w' (fun a b c => B a b c + sumN (fun y => sumN (fun z => tt ρ b2 b3 b4 l A a b c x y z) (mo ρ 2 l + 1)) (mo ρ 1 l + 1)) := by
  have hm := mo_le hk (p := 1) hl
  have q2 : ∀ w, f_M_mostOf 100 (1 : Int32) (nI l) (bh v w) = some (nI (mo ρ 1 l), bh v w) := fun w => M_mostOf (w := w) (p := 1) hr hk (by decide) hl
  intro n
  induction n with
  | zero =>
    intro fuel y w hf hy hA hB
    obtain ⟨m, rfl⟩ : ∃ m, fuel = m + 1 := ⟨fuel - 1, by omega⟩
    refine ⟨w, ?_, hA, by rw [show mo ρ 1 l + 1 = y by omega]; exact hB⟩
    show f_M_addsLaw_42b rec28 (f_M_addsLaw_42 rec28 m) 100 (nI l) b2 b3 b4 (nI x) (nI y) (bh v w) = _
    unfold f_M_addsLaw_42b
    simp only [hJ0, bd1_q]
    rw [q2, bd2_s, if_pos ((nI_ltI (by omega) (by omega)).mpr (by omega)), nI_1]
  | succ n ih =>
    intro fuel y w hf hy hA hB
    obtain ⟨m, rfl⟩ : ∃ m, fuel = m + 1 := ⟨fuel - 1, by omega⟩
    have hm2 := mo_le hk (p := 2) hl
    obtain ⟨w1, e1, a1, b1⟩ := M_al56X (A := A) (B := fun a b c => B a b c + sumN (fun y => sumN (fun z => tt ρ b2 b3 b4 l A a b c x y z) (mo ρ 2 l + 1)) y) hr hk hl b2 b3 b4 rec28 (f_M_addsLaw_42 rec28 m) hx (show y ≤ 3 by omega) (mo ρ 2 l + 1) FU 0 w (by unfold FU; omega) (by omega) hA hB
    obtain ⟨w2, e2, a2, b2'⟩ := ih m (y + 1) w1 (by omega) (by omega) a1 (b1.to (fun a b c _ _ _ => Nat.add_assoc _ _ _))
    refine ⟨w2, ?_, a2, b2'⟩
    show f_M_addsLaw_42b rec28 (f_M_addsLaw_42 rec28 m) 100 (nI l) b2 b3 b4 (nI x) (nI y) (bh v w) = _
    unfold f_M_addsLaw_42b
    simp only [hJ0, bd1_q]
    rw [q2, bd2_s, if_neg (fun q => by have := (nI_ltI (by omega) (by omega)).mp q; omega)]
    exact e1.trans e2
def bx (ρ : Rho) (b2 b3 b4 : Int32) (l : Nat) (A : Nat → Nat → Nat → Nat) (n a b c : Nat) : Nat := sumN (fun x => sumN (fun y => sumN (fun z => tt ρ b2 b3 b4 l A a b c x y z) (mo ρ 2 l + 1)) (mo ρ 1 l + 1)) n
theorem M_al28X (hr : MR ρ v) (hk : ROK ρ) {l : Nat} (hl : l < ρ 0 0) (b2 b3 b4 : Int32) : ∀ (n fuel x : Nat) (w : Nat → Nat → Int64), n < fuel → x + n = mo ρ 0 l + 1 → tW 121 w A → tW 122 w (bx ρ b2 b3 b4 l A x) → ∃ w', f_M_addsLaw_28 fuel 100 (nI l) b2 b3 b4 (nI x) (bh v w) = some (bh v w') ∧ tW 121 w' (bx ρ b2 b3 b4 l A (mo ρ 0 l + 1)) := by
  have hm := mo_le hk (p := 0) hl
  have q2 : ∀ w, f_M_mostOf 100 (0 : Int32) (nI l) (bh v w) = some (nI (mo ρ 0 l), bh v w) := fun w => M_mostOf (w := w) (p := 0) hr hk (by decide) hl
  intro n
  induction n with
  | zero =>
    intro fuel x w hf hx hA hB
    obtain ⟨m, rfl⟩ : ∃ m, fuel = m + 1 := ⟨fuel - 1, by omega⟩
    obtain ⟨w1, e1, c1, d1⟩ := M_al172X (v := v) 216 FU 0 w (by decide) (by decide) (fun j h => by omega)
    have e1 : f_M_addsLaw_172 FU 100 0 (bh v w) = some (bh v w1) := e1
    refine ⟨w1, ?_, fun a b c ha hb hc => ?_⟩
    · show f_M_addsLaw_28b (f_M_addsLaw_28 m) 100 (nI l) b2 b3 b4 (nI x) (bh v w) = _
      unfold f_M_addsLaw_28b
      simp only [hJ0, bd1_q]
      rw [q2, bd2_s, if_pos ((nI_ltI (by omega) (by omega)).mpr (by omega))]
      exact e1
    · rw [d1 _ (by omega), show mo ρ 0 l + 1 = x by omega]
      exact hB a b c ha hb hc
  | succ n ih =>
    intro fuel x w hf hx hA hB
    obtain ⟨m, rfl⟩ : ∃ m, fuel = m + 1 := ⟨fuel - 1, by omega⟩
    have hm2 := mo_le hk (p := 1) hl
    obtain ⟨w1, e1, a1, b1⟩ := M_al42X (A := A) (B := bx ρ b2 b3 b4 l A x) hr hk hl b2 b3 b4 (f_M_addsLaw_28 m) (show x ≤ 3 by omega) (mo ρ 1 l + 1) FU 0 w (by unfold FU; omega) (by omega) hA (hB.to (fun a b c _ _ _ => (Nat.add_zero _).symm))
    obtain ⟨w2, e2, a2⟩ := ih m (x + 1) w1 (by omega) (by omega) a1 b1
    refine ⟨w2, ?_, a2⟩
    show f_M_addsLaw_28b (f_M_addsLaw_28 m) 100 (nI l) b2 b3 b4 (nI x) (bh v w) = _
    unfold f_M_addsLaw_28b
    simp only [hJ0, bd1_q]
    rw [q2, bd2_s, if_neg (fun q => by have := (nI_ltI (by omega) (by omega)).mp q; omega)]
    exact e1.trans e2
/-- the reference's law: what it lets -/
def mK (ρ : Rho) (b2 b3 b4 : Int32) (l x y z : Nat) : Bool := decide (x ≤ mo ρ 0 l ∧ y ≤ mo ρ 1 l ∧ z ≤ mo ρ 2 l) && kk ρ b2 b3 b4 l x y z
theorem bx_cv (hk : ROK ρ) {l : Nat} (hl : l < ρ 0 0) (b2 b3 b4 : Int32) (A : Nat → Nat → Nat → Nat) (a b c : Nat) : bx ρ b2 b3 b4 l A (mo ρ 0 l + 1) a b c = cvo (mK ρ b2 b3 b4 l) A a b c := by
  unfold cvo bx
  refine (S3_box (Nat.lt_succ_of_le (mo_le hk hl)) (Nat.lt_succ_of_le (mo_le hk hl)) (Nat.lt_succ_of_le (mo_le hk hl)) (fun x y z hx hy hz => ?_) (fun x y z h => ?_)).symm
  · unfold tt mK
    rw [decide_eq_true (show x ≤ mo ρ 0 l ∧ y ≤ mo ρ 1 l ∧ z ≤ mo ρ 2 l from ⟨hx, hy, hz⟩), Bool.true_and]
  · refine if_neg (fun q => h ?_)
    have := q.1
    unfold mK at this
    rw [Bool.and_eq_true, decide_eq_true_iff] at this
    exact this.1
theorem M_addsLawX (hr : MR ρ v) (hk : ROK ρ) {l : Nat} (hl : l < ρ 0 0) (b2 b3 b4 : Int32) (w : Nat → Nat → Int64) (hA : tW 121 w A) : ∃ w', f_M_addsLaw 100 (nI l) b2 b3 b4 (bh v w) = some (bh v w') ∧ tW 121 w' (cvo (mK ρ b2 b3 b4 l) A) := by
  have hm := mo_le hk (p := 0) hl
  have key : ∀ (n fuel k : Nat) (w : Nat → Nat → Int64), n < fuel → k + n = 216 → tW 121 w A → (∀ j, j < k → w 122 j = 0) → ∃ w', f_M_addsLaw_3 fuel 100 (nI l) b2 b3 b4 (nI k) (bh v w) = some (bh v w') ∧ tW 121 w' (cvo (mK ρ b2 b3 b4 l) A) := by
    intro n
    induction n with
    | zero =>
      intro fuel k w hf hk2 hA hj
      obtain ⟨m, rfl⟩ : ∃ m, fuel = m + 1 := ⟨fuel - 1, by omega⟩
      obtain ⟨w1, e1, a1⟩ := M_al28X (A := A) hr hk hl b2 b3 b4 (mo ρ 0 l + 1) FU 0 w (by unfold FU; omega) (by omega) hA (fun a b c ha hb hc => hj _ (by omega))
      have e1 : f_M_addsLaw_28 FU 100 (nI l) b2 b3 b4 0 (bh v w) = some (bh v w1) := e1
      refine ⟨w1, ?_, a1.to (fun a b c _ _ _ => bx_cv hk hl b2 b3 b4 A a b c)⟩
      show f_M_addsLaw_3b (f_M_addsLaw_3 m) 100 (nI l) b2 b3 b4 (nI k) (bh v w) = _
      unfold f_M_addsLaw_3b
      rw [show (216 : Int32) = nI 216 from rfl, if_pos ((nI_leI (by omega) (by omega)).mpr (by omega))]
      exact e1
    | succ n ih =>
      intro fuel k w hf hk2 hA hj
      obtain ⟨m, rfl⟩ : ∃ m, fuel = m + 1 := ⟨fuel - 1, by omega⟩
      show ∃ w', f_M_addsLaw_3b (f_M_addsLaw_3 m) 100 (nI l) b2 b3 b4 (nI k) (bh v w) = some (bh v w') ∧ _
      unfold f_M_addsLaw_3b
      rw [show (216 : Int32) = nI 216 from rfl, if_neg (fun q => by have := (nI_leI (by omega) (by omega)).mp q; omega)]
      simp only [hJ0, bd1_q]
      rw [wrL_nI (by omega) (by decide), bd1_s, nI_1]
      exact ih m (k + 1) _ (by omega) (by omega) (fun a b c ha hb hc => by rw [u2L_o (by decide)]; exact hA a b c ha hb hc) (fun j h => by
        by_cases z : j = k
        · rw [z, u2L_at]
        · rw [u2L_n z]; exact hj j (by omega))
  unfold f_M_addsLaw f_M_addsLaw_0
  rw [show (0 : Int32) = nI 0 from rfl]
  exact key 216 FU 0 w (by decide) (by decide) hA (fun j h => by omega)
def e0 (s : Nat) : Nat := if s = 0 then 1 else 0
def mW (ρ : Rho) (b2 b3 b4 : Int32) (a b c : Nat) : Nat := if (bTm ρ 0 a && bTm ρ 1 b && bTm ρ 2 c) = true then cvs (mK ρ b2 b3 b4) (pr3 e0 e0 e0) (ρ 0 0) a b c else 0
/-- how many tables there are by the reference -/
def mTot (ρ : Rho) (b2 b3 b4 : Int32) : Nat := sumN (fun k => mW ρ b2 b3 b4 (k / 36) (k / 6 % 6) (k % 6)) 216
theorem M_tablesByX (hr : MR ρ v) (hk : ROK ρ) (b2 b3 b4 : Int32) (w : Nat → Nat → Int64) : ∃ w', f_M_tablesBy 100 b2 b3 b4 (bh v w) = some (nL (mTot ρ b2 b3 b4), bh v w') := by
  have h0 := hk.1.1
  have k67 : ∀ (w : Nat → Nat → Int64), tW 121 w (cvs (mK ρ b2 b3 b4) (pr3 e0 e0 e0) (ρ 0 0)) → ∀ (n fuel k : Nat), n < fuel → k + n = 216 → f_M_tablesBy_67 fuel 100 (nL (sumN (fun k => mW ρ b2 b3 b4 (k / 36) (k / 6 % 6) (k % 6)) k)) (nI k) (bh v w) = some (nL (mTot ρ b2 b3 b4), bh v w) := by
    intro w hA n
    induction n with
    | zero =>
      intro fuel k hf hk2
      obtain ⟨m, rfl⟩ : ∃ m, fuel = m + 1 := ⟨fuel - 1, by omega⟩
      show f_M_tablesBy_67b (f_M_tablesBy_67 m) 100 _ (nI k) (bh v w) = _
      unfold f_M_tablesBy_67b mTot
      rw [show (216 : Int32) = nI 216 from rfl, if_pos ((nI_leI (by omega) (by omega)).mpr (by omega)), show k = 216 by omega]
    | succ n ih =>
      intro fuel k hf hk2
      obtain ⟨m, rfl⟩ : ∃ m, fuel = m + 1 := ⟨fuel - 1, by omega⟩
      have nx := ih m (k + 1) (by omega) (by omega)
      have es : sumN (fun k => mW ρ b2 b3 b4 (k / 36) (k / 6 % 6) (k % 6)) (k + 1) = sumN (fun k => mW ρ b2 b3 b4 (k / 36) (k / 6 % 6) (k % 6)) k + mW ρ b2 b3 b4 (k / 36) (k / 6 % 6) (k % 6) := rfl
      rw [es, ← nL_add] at nx
      obtain ⟨d1, d2, d3⟩ := div_I k (by omega)
      have r := hA (k / 36) (k / 6 % 6) (k % 6) (by omega) (by omega) (by omega)
      rw [show 36 * (k / 36) + 6 * (k / 6 % 6) + k % 6 = k by omega] at r
      have e1 : f_M_isTime 100 (0 : Int32) (nI (k / 36)) (bh v w) = some (if bTm ρ 0 (k / 36) = true then 1 else 0, bh v w) := M_isTimeX (w := w) (p := 0) hr hk (by decide) (by omega)
      have e2 : f_M_isTime 100 (1 : Int32) (nI (k / 6 % 6)) (bh v w) = some (if bTm ρ 1 (k / 6 % 6) = true then 1 else 0, bh v w) := M_isTimeX (w := w) (p := 1) hr hk (by decide) (by omega)
      have e3 : f_M_isTime 100 (2 : Int32) (nI (k % 6)) (bh v w) = some (if bTm ρ 2 (k % 6) = true then 1 else 0, bh v w) := M_isTimeX (w := w) (p := 2) hr hk (by decide) (by omega)
      show f_M_tablesBy_67b (f_M_tablesBy_67 m) 100 _ (nI k) (bh v w) = _
      unfold f_M_tablesBy_67b f_M_tablesBy_129 f_M_tablesBy_130
      rw [show (216 : Int32) = nI 216 from rfl, if_neg (fun q => by have := (nI_leI (by omega) (by omega)).mp q; omega)]
      simp only [hJ0, bd1_q]
      rw [d1, d2, d3, e1, bd2_s, nI_1]
      unfold mW at nx
      unfold mW
      cases g1 : bTm ρ 0 (k / 36)
      · rw [if_pos if01]
        rw [g1, Bool.false_and, Bool.false_and, if_neg (by decide)] at nx
        exact nx
      · rw [if_pos rfl, if_neg (by decide)]
        simp only [hJ0, bd1_q]
        rw [e2, bd2_s]
        cases g2 : bTm ρ 1 (k / 6 % 6)
        · rw [if_pos if01]
          rw [g1, g2, Bool.and_false, Bool.false_and, if_neg (by decide)] at nx
          exact nx
        · rw [if_pos rfl, if_neg (by decide)]
          simp only [hJ0, bd1_q]
          rw [e3, bd2_s]
          cases g3 : bTm ρ 2 (k % 6)
          · rw [if_pos if01]
            rw [g1, g2, g3, Bool.and_false, if_neg (by decide)] at nx
            exact nx
          · rw [if_pos rfl, if_neg (by decide)]
            simp only [hJ0, bd1_q]
            rw [rd_nI (by omega) (by decide), bd1_s, r]
            rw [g1, g2, g3, if_pos (by decide)] at nx
            exact nx
  have k37 : ∀ (n fuel l : Nat) (w : Nat → Nat → Int64), n < fuel → l + n = ρ 0 0 → tW 121 w (cvs (mK ρ b2 b3 b4) (pr3 e0 e0 e0) l) → ∃ w', f_M_tablesBy_37 fuel 100 b2 b3 b4 (nI l) (bh v w) = some (nL (mTot ρ b2 b3 b4), bh v w') := by
    intro n
    induction n with
    | zero =>
      intro fuel l w hf hl hA
      obtain ⟨m, rfl⟩ : ∃ m, fuel = m + 1 := ⟨fuel - 1, by omega⟩
      have el : l = ρ 0 0 := by omega
      rw [el] at hA
      have e1 := k67 w hA 216 FU 0 (by decide) (by decide)
      have e1 : f_M_tablesBy_67 FU 100 0 0 (bh v w) = some (nL (mTot ρ b2 b3 b4), bh v w) := e1
      refine ⟨w, ?_⟩
      show f_M_tablesBy_37b (f_M_tablesBy_37 m) 100 b2 b3 b4 (nI l) (bh v w) = _
      unfold f_M_tablesBy_37b
      simp only [hJ0, bd1_q]
      rw [hr.1.1, if_pos ((nI_leI (by omega) (by omega)).mpr (by omega))]
      exact e1
    | succ n ih =>
      intro fuel l w hf hl hA
      obtain ⟨m, rfl⟩ : ∃ m, fuel = m + 1 := ⟨fuel - 1, by omega⟩
      obtain ⟨w1, e1, a1⟩ := M_addsLawX hr hk (show l < ρ 0 0 by omega) b2 b3 b4 w hA
      show ∃ w', f_M_tablesBy_37b (f_M_tablesBy_37 m) 100 b2 b3 b4 (nI l) (bh v w) = some (_, bh v w')
      unfold f_M_tablesBy_37b
      simp only [hJ0, bd1_q]
      rw [hr.1.1, if_neg (fun q => by have := (nI_leI (by omega) (by omega)).mp q; omega), e1, bd1_s, nI_1]
      exact ih m (l + 1) w1 (by omega) (by omega) a1
  have k3 : ∀ (n fuel k : Nat) (w : Nat → Nat → Int64), n < fuel → k + n = 216 → (∀ j, j < k → w 121 j = if j = 0 then 1 else 0) → ∃ w', f_M_tablesBy_3 fuel 100 b2 b3 b4 (nI k) (bh v w) = some (nL (mTot ρ b2 b3 b4), bh v w') := by
    intro n
    induction n with
    | zero =>
      intro fuel k w hf hk2 hj
      obtain ⟨m, rfl⟩ : ∃ m, fuel = m + 1 := ⟨fuel - 1, by omega⟩
      obtain ⟨w1, e1⟩ := k37 (ρ 0 0) FU 0 w (by unfold FU; omega) (by omega) (fun a b c ha hb hc => by
        rw [hj _ (by omega)]
        unfold cvs pr3 e0
        by_cases z : 36 * a + 6 * b + c = 0
        · rw [if_pos z, if_pos (by omega), if_pos (by omega), if_pos (by omega)]
          rfl
        · rw [if_neg z]
          by_cases z1 : a = 0
          · by_cases z2 : b = 0
            · rw [if_neg (show ¬ c = 0 by omega), Nat.mul_zero]; rfl
            · rw [if_neg z2, Nat.mul_zero, Nat.zero_mul]; rfl
          · rw [if_neg z1, Nat.zero_mul, Nat.zero_mul]; rfl)
      have e1 : f_M_tablesBy_37 FU 100 b2 b3 b4 0 (bh v w) = some (nL (mTot ρ b2 b3 b4), bh v w1) := e1
      refine ⟨w1, ?_⟩
      show f_M_tablesBy_3b (f_M_tablesBy_3 m) 100 b2 b3 b4 (nI k) (bh v w) = _
      unfold f_M_tablesBy_3b
      rw [show (216 : Int32) = nI 216 from rfl, if_pos ((nI_leI (by omega) (by omega)).mpr (by omega))]
      exact e1
    | succ n ih =>
      intro fuel k w hf hk2 hj
      obtain ⟨m, rfl⟩ : ∃ m, fuel = m + 1 := ⟨fuel - 1, by omega⟩
      have nx := fun x : Int64 => fun hx : x = (if k = 0 then 1 else 0) => ih m (k + 1) (u2L w 121 k x) (by omega) (by omega) (fun j h => by
        by_cases z : j = k
        · rw [z, u2L_at]; exact hx
        · rw [u2L_n z]; exact hj j (by omega))
      show ∃ w', f_M_tablesBy_3b (f_M_tablesBy_3 m) 100 b2 b3 b4 (nI k) (bh v w) = some (_, bh v w')
      unfold f_M_tablesBy_3b f_M_tablesBy_27
      rw [show (216 : Int32) = nI 216 from rfl, if_neg (fun q => by have := (nI_leI (by omega) (by omega)).mp q; omega)]
      simp only [hJ0, bd1_q]
      rw [wrL_nI (by omega) (by decide), wrL_nI (by omega) (by decide), bd1_s, bd1_s, nI_1, ite_iff (nI_eq0 (by omega))]
      by_cases z : k = 0
      · rw [if_pos z]; exact nx 1 (if_pos z).symm
      · rw [if_neg z]; exact nx 0 (if_neg z).symm
  unfold f_M_tablesBy f_M_tablesBy_0
  rw [show (0 : Int32) = nI 0 from rfl]
  exact k3 216 FU 0 w (by decide) (by decide) (fun j h => by omega)
end
end
/-! 8zt4.ctab.lean.txt -/
section
/-! the class's tables, exactly: each alone, and joined -/
def tX (L : Nat) (lo hi : Nat → Nat → Nat) (dL dP tm : Nat → Nat) (v : Nat → Nat → Int32) : Prop :=
  L ≤ 5 ∧ v 48 0 = nI L ∧ (∀ p l, p < 3 → l < L → v 49 (5 * p + l) = nI (lo p l) ∧ lo p l ≤ 3) ∧ (∀ p l, p < 3 → l < L → v 50 (5 * p + l) = nI (hi p l) ∧ hi p l ≤ 3) ∧ (∀ l, l < L → v 51 l = dI (dL l) ∧ dL l ≤ 100) ∧ (∀ p, p < 3 → v 52 p = dI (dP p) ∧ dP p ≤ 100) ∧ ∀ p, p < 3 → v 53 p = nI (tm p) ∧ tm p ≤ 5
/-- what one has spent on the free laws -/
def alo (tm : Nat → Nat) (w : Nat → Nat → Int64) (g : Nat → Nat → Nat) : Prop := ∀ p s, p < 3 → s ≤ tm p → w 54 (6 * p + s) = nL (g p s)
def kB (lo hi : Nat → Nat → Nat) (p l n : Nat) : Bool := decide (lo p l ≤ n ∧ n ≤ hi p l)
theorem alo.to {tm : Nat → Nat} {w : Nat → Nat → Int64} {g g' : Nat → Nat → Nat} (h : alo tm w g) (e : ∀ p s, p < 3 → s ≤ tm p → g p s = g' p s) : alo tm w g' := fun p s hp hs => by rw [h p s hp hs, e p s hp hs]
section
variable {L : Nat} {lo hi : Nat → Nat → Nat} {dL dP tm : Nat → Nat} {v : Nat → Nat → Int32} {w : Nat → Nat → Int64} {g : Nat → Nat → Nat} {W : Nat → Nat → Nat → Nat}
def saT (f : Nat → Nat) (a b s n : Nat) : Nat := if (a ≤ n ∧ n ≤ b) ∧ n ≤ s then f (s - n) else 0
theorem T_sa42X {p a b s : Nat} (hp : p < 3) (ha : a ≤ 3) (hb : b ≤ 3) (hs : s ≤ 5) {f : Nat → Nat} (hw : ∀ j, j ≤ s → w 54 (6 * p + j) = nL (f j)) (rec31 : Nat → Int32 → Int32 → Int32 → Int32 → mH → Option mH) : ∀ (k fuel n : Nat), k < fuel → 4 ≤ n + k → n ≤ 4 → a ≤ n → f_Tables_spendAlone_42 rec31 fuel 48 (nI p) (nI a) (nI b) (nI s) (nL (sumN (saT f a b s) n)) (nI n) (bh v w) = rec31 48 (nI p) (nI a) (nI b) (nI s + -1) (bh v (u2L w 54 (6 * p + s) (nL (sumN (saT f a b s) 4)))) := by
  have e82 : ∀ x : Int64, f_Tables_spendAlone_82 rec31 48 (nI p) (nI a) (nI b) (nI s) x (bh v w) = rec31 48 (nI p) (nI a) (nI b) (nI s + -1) (bh v (u2L w 54 (6 * p + s) x)) := by
    intro x
    unfold f_Tables_spendAlone_82
    simp only [hB0, bd1_q]
    rw [show (6 : Int32) = nI 6 from rfl, pk_mul, nI_add, wrL_nI (by omega) (by decide), bd1_s, Nat.mul_comm p 6]
  have fin : ∀ n, n ≤ 4 → (b < n ∨ s < n) → sumN (saT f a b s) n = sumN (saT f a b s) 4 := fun n h4 h => (sumN_cut (n := n) h4 (fun i h1 _ => if_neg (fun q => by omega))).symm
  intro k
  induction k with
  | zero =>
    intro fuel n hf hn hn2 hn3
    obtain ⟨m, rfl⟩ : ∃ m, fuel = m + 1 := ⟨fuel - 1, by omega⟩
    show f_Tables_spendAlone_42b rec31 (f_Tables_spendAlone_42 rec31 m) 48 (nI p) (nI a) (nI b) (nI s) _ (nI n) (bh v w) = _
    unfold f_Tables_spendAlone_42b
    rw [if_pos (show nI b < nI n from nI_lt (by omega) (by omega)), e82, fin n hn2 (Or.inl (by omega))]
  | succ k ih =>
    intro fuel n hf hn hn2 hn3
    obtain ⟨m, rfl⟩ : ∃ m, fuel = m + 1 := ⟨fuel - 1, by omega⟩
    show f_Tables_spendAlone_42b rec31 (f_Tables_spendAlone_42 rec31 m) 48 (nI p) (nI a) (nI b) (nI s) _ (nI n) (bh v w) = _
    unfold f_Tables_spendAlone_42b
    rw [ite_iff (nI_ltI (a := b) (b := n) (by omega) (by omega)), ite_iff (nI_ltI (a := s) (b := n) (by omega) (by omega))]
    by_cases c1 : b < n
    · rw [if_pos c1, e82, fin n hn2 (Or.inl c1)]
    · rw [if_neg c1]
      by_cases c2 : s < n
      · rw [if_pos c2, e82, fin n hn2 (Or.inr c2)]
      · rw [if_neg c2]
        have nx := ih m (n + 1) (by omega) (by omega) (by omega) (by omega)
        have es : sumN (saT f a b s) (n + 1) = sumN (saT f a b s) n + f (s - n) := by
          show sumN (saT f a b s) n + saT f a b s n = _
          unfold saT
          rw [if_pos ⟨⟨hn3, by omega⟩, by omega⟩]
        have r := hw (s - n) (by omega)
        simp only [hB0, bd1_q]
        rw [show (6 : Int32) = nI 6 from rfl, pk_mul, nI_add, pk_sub (by omega), rd_nI (by omega) (by decide), bd1_s, nI_1, show p * 6 + s - n = 6 * p + (s - n) by omega, r, nL_add, ← es]
        exact nx
theorem T_spendAloneX (h : tX L lo hi dL dP tm v) {p l : Nat} (hp : p < 3) (hl : l < L) (w : Nat → Nat → Int64) (ha : alo tm w g) : ∃ w', f_Tables_spendAlone 48 (nI p) (nI l) (bh v w) = some (bh v w') ∧ alo tm w' (fun q s => if q = p then c1 (kB lo hi p l) (g p) s else g q s) := by
  obtain ⟨h5, h0, hlo, hhi, -, -, htm⟩ := h
  obtain ⟨ea, a3⟩ := hlo p l hp hl
  obtain ⟨eb, b3⟩ := hhi p l hp hl
  obtain ⟨et, t5⟩ := htm p hp
  have c1e : ∀ s, sumN (saT (g p) (lo p l) (hi p l) s) 4 = c1 (kB lo hi p l) (g p) s := fun s => sumN_congr (fun n _ => by
    unfold saT kB
    by_cases q : (lo p l ≤ n ∧ n ≤ hi p l) ∧ n ≤ s
    · rw [if_pos q]
      exact (if_pos ⟨decide_eq_true q.1, q.2⟩).symm
    · rw [if_neg q]
      exact (if_neg (fun r => q ⟨of_decide_eq_true r.1, r.2⟩)).symm)
  have s0 : sumN (saT (g p) (lo p l) (hi p l) 0) 0 = 0 := rfl
  have z : ∀ (m : Nat) (w : Nat → Nat → Int64), f_Tables_spendAlone_31 (m + 1) 48 (nI p) (nI (lo p l)) (nI (hi p l)) (-1) (bh v w) = some (bh v w) := by
    intro m w
    show f_Tables_spendAlone_31b (f_Tables_spendAlone_31 m) 48 (nI p) (nI (lo p l)) (nI (hi p l)) (-1) (bh v w) = _
    unfold f_Tables_spendAlone_31b
    rw [if_pos (by decide)]
  have one : ∀ (s m : Nat) (w : Nat → Nat → Int64), s ≤ tm p → alo tm w (fun q j => if q = p ∧ s < j then c1 (kB lo hi p l) (g p) j else g q j) → ∃ w', f_Tables_spendAlone_31 (m + 1) 48 (nI p) (nI (lo p l)) (nI (hi p l)) (nI s) (bh v w) = f_Tables_spendAlone_31 m 48 (nI p) (nI (lo p l)) (nI (hi p l)) (nI s + -1) (bh v w') ∧ alo tm w' (fun q j => if q = p ∧ s ≤ j then c1 (kB lo hi p l) (g p) j else g q j) := by
    intro s m w hs hi2
    have r := T_sa42X (v := v) (w := w) (f := g p) hp a3 b3 (show s ≤ 5 by omega) (fun j hj => (hi2 p j hp (by omega)).trans (congrArg nL (if_neg (fun q => by omega)))) (f_Tables_spendAlone_31 m) 4 FU (lo p l) (by decide) (by omega) (by omega) (Nat.le_refl _)
    have sz : sumN (saT (g p) (lo p l) (hi p l) s) (lo p l) = 0 := sumN_none (fun i hi => if_neg (fun q => by omega))
    rw [sz, c1e] at r
    refine ⟨u2L w 54 (6 * p + s) (nL (c1 (kB lo hi p l) (g p) s)), ?_, fun q j hq hj => ?_⟩
    · show f_Tables_spendAlone_31b (f_Tables_spendAlone_31 m) 48 (nI p) (nI (lo p l)) (nI (hi p l)) (nI s) (bh v w) = _
      unfold f_Tables_spendAlone_31b
      rw [if_neg (nI_pos (by omega))]
      exact r
    · have h2 : w 54 (6 * q + j) = nL (if q = p ∧ s < j then c1 (kB lo hi p l) (g p) j else g q j) := hi2 q j hq hj
      show u2L w 54 (6 * p + s) (nL (c1 (kB lo hi p l) (g p) s)) 54 (6 * q + j) = nL (if q = p ∧ s ≤ j then c1 (kB lo hi p l) (g p) j else g q j)
      by_cases e : q = p ∧ j = s
      · rw [e.1, e.2, u2L_at, if_pos ⟨rfl, Nat.le_refl _⟩]
      · have tq := (htm q hq).2
        rw [u2L_n (by omega), h2]
        by_cases c : q = p ∧ s < j
        · rw [if_pos c, if_pos ⟨c.1, by omega⟩]
        · rw [if_neg c, if_neg (fun r => c ⟨r.1, by omega⟩)]
  have key : ∀ (s fuel : Nat) (w : Nat → Nat → Int64), s + 1 < fuel → s ≤ tm p → alo tm w (fun q j => if q = p ∧ s < j then c1 (kB lo hi p l) (g p) j else g q j) → ∃ w', f_Tables_spendAlone_31 fuel 48 (nI p) (nI (lo p l)) (nI (hi p l)) (nI s) (bh v w) = some (bh v w') ∧ alo tm w' (fun q j => if q = p then c1 (kB lo hi p l) (g p) j else g q j) := by
    intro s
    induction s with
    | zero =>
      intro fuel w hf hs hi2
      obtain ⟨m, rfl⟩ : ∃ m, fuel = m + 1 + 1 := ⟨fuel - 2, by omega⟩
      obtain ⟨w1, e1, i1⟩ := one 0 (m + 1) w hs hi2
      rw [m1_0, z] at e1
      refine ⟨w1, e1, i1.to (fun q j _ _ => ?_)⟩
      by_cases c : q = p
      · rw [if_pos c, if_pos ⟨c, Nat.zero_le _⟩]
      · rw [if_neg c, if_neg (fun r => c r.1)]
    | succ s ih =>
      intro fuel w hf hs hi2
      obtain ⟨m, rfl⟩ : ∃ m, fuel = m + 1 := ⟨fuel - 1, by omega⟩
      obtain ⟨w1, e1, i1⟩ := one (s + 1) m w hs hi2
      obtain ⟨w2, e2, i2⟩ := ih m w1 (by omega) (by omega) (i1.to (fun q j _ _ => by
        by_cases c : q = p ∧ s < j
        · rw [if_pos c, if_pos ⟨c.1, by omega⟩]
        · rw [if_neg c, if_neg (fun r => c ⟨r.1, by omega⟩)]))
      rw [m1_I s (by omega), e2] at e1
      exact ⟨w2, e1, i2⟩
  obtain ⟨w', e, i⟩ := key (tm p) FU w (by unfold FU; omega) (Nat.le_refl _) (ha.to (fun q j _ hj => by
    by_cases c : q = p ∧ tm p < j
    · rw [c.1] at hj; omega
    · rw [if_neg c]))
  refine ⟨w', ?_, i⟩
  unfold f_Tables_spendAlone f_Tables_spendAlone_0
  simp only [hB0, bd1_q]
  rw [show (5 : Int32) = nI 5 from rfl, pk_mul, nI_add, Nat.mul_comm p 5, rd_nI (by omega) (by decide), bd1_s, rd_nI (by omega) (by decide), bd1_s, rd_nI hp (by decide), bd1_s, ea, eb, et]
  exact e
/-- the ways to each state within the times -/
def wys (tm : Nat → Nat) (w : Nat → Nat → Int64) (W : Nat → Nat → Nat → Nat) : Prop := ∀ a b c, a ≤ tm 0 → b ≤ tm 1 → c ≤ tm 2 → w 55 ((a * 6 + b) * 6 + c) = nL (W a b c)
theorem T_joinAllX (h : tX L lo hi dL dP tm v) (w : Nat → Nat → Int64) (ha : alo tm w g) : ∃ w', f_Tables_joinAll 48 (bh v w) = some (bh v w') ∧ wys tm w' (pr3 (g 0) (g 1) (g 2)) := by
  obtain ⟨h5, h0, -, -, -, -, htm⟩ := h
  obtain ⟨e0, q0⟩ := htm 0 (by decide)
  obtain ⟨e1, q1⟩ := htm 1 (by decide)
  obtain ⟨e2, q2⟩ := htm 2 (by decide)
  have k26 : ∀ (rec2 : Nat → Int32 → mH → Option mH) (rec14 : Nat → Int32 → Int32 → mH → Option mH) (a b : Nat), a ≤ tm 0 → b ≤ tm 1 → ∀ (k fuel c : Nat) (w : Nat → Nat → Int64), k < fuel → c + k = tm 2 + 1 → alo tm w g → (∀ x y z, x ≤ tm 0 → y ≤ tm 1 → z ≤ tm 2 → (x * 6 + y) * 6 + z < (a * 6 + b) * 6 + c → w 55 ((x * 6 + y) * 6 + z) = nL (pr3 (g 0) (g 1) (g 2) x y z)) → ∃ w', f_Tables_joinAll_26 rec2 rec14 fuel 48 (nI a) (nI b) (nI c) (bh v w) = rec14 48 (nI a) (nI (b + 1)) (bh v w') ∧ alo tm w' g ∧ (∀ x y z, x ≤ tm 0 → y ≤ tm 1 → z ≤ tm 2 → (x * 6 + y) * 6 + z < (a * 6 + (b + 1)) * 6 → w' 55 ((x * 6 + y) * 6 + z) = nL (pr3 (g 0) (g 1) (g 2) x y z)) := by
    intro rec2 rec14 a b ha1 hb1 k
    induction k with
    | zero =>
      intro fuel c w hf hc hA hD
      obtain ⟨m, rfl⟩ : ∃ m, fuel = m + 1 := ⟨fuel - 1, by omega⟩
      refine ⟨w, ?_, hA, fun x y z hx hy hz hlt => hD x y z hx hy hz (by omega)⟩
      show f_Tables_joinAll_26b rec2 rec14 (f_Tables_joinAll_26 rec2 rec14 m) 48 (nI a) (nI b) (nI c) (bh v w) = _
      unfold f_Tables_joinAll_26b
      simp only [hB0, bd1_q]
      rw [rd3.2.2, bd1_s, e2, if_pos (nI_lt (by omega) (by omega)), nI_1]
    | succ k ih =>
      intro fuel c w hf hc hA hD
      obtain ⟨m, rfl⟩ : ∃ m, fuel = m + 1 := ⟨fuel - 1, by omega⟩
      have r0 := hA 0 a (by decide) ha1
      have r1 := hA 1 b (by decide) hb1
      have r2 := hA 2 c (by decide) (by omega)
      rw [show 6 * 0 + a = a by omega] at r0
      rw [show 6 * 1 + b = 6 + b by omega] at r1
      rw [show 6 * 2 + c = 12 + c by omega] at r2
      show ∃ w', f_Tables_joinAll_26b rec2 rec14 (f_Tables_joinAll_26 rec2 rec14 m) 48 (nI a) (nI b) (nI c) (bh v w) = _ ∧ _
      unfold f_Tables_joinAll_26b
      simp only [hB0, bd1_q]
      rw [rd3.2.2, bd1_s, e2, if_neg (nI_nlt (by omega) (by omega)), st_I, bd2_s]
      simp only [hB0, bd1_q]
      rw [show (6 : Int32) = nI 6 from rfl, show (12 : Int32) = nI 12 from rfl, nI_add, nI_add, rd_nI (by omega) (by decide), bd1_s, rd_nI (by omega) (by decide), bd1_s, rd_nI (by omega) (by decide), bd1_s, wrL_nI (by omega) (by decide), bd1_s, nI_1, r0, r1, r2, nL_mul, nL_mul]
      refine ih m (c + 1) _ (by omega) (by omega) (fun p s hp hs => by rw [u2L_o (by decide)]; exact hA p s hp hs) (fun x y z hx hy hz hlt => ?_)
      by_cases e : x = a ∧ y = b ∧ z = c
      · rw [e.1, e.2.1, e.2.2, u2L_at]
        rfl
      · rw [u2L_n (by omega)]
        exact hD x y z hx hy hz (by omega)
  have k14 : ∀ (rec2 : Nat → Int32 → mH → Option mH) (a : Nat), a ≤ tm 0 → ∀ (k fuel b : Nat) (w : Nat → Nat → Int64), k < fuel → b + k = tm 1 + 1 → alo tm w g → (∀ x y z, x ≤ tm 0 → y ≤ tm 1 → z ≤ tm 2 → (x * 6 + y) * 6 + z < (a * 6 + b) * 6 → w 55 ((x * 6 + y) * 6 + z) = nL (pr3 (g 0) (g 1) (g 2) x y z)) → ∃ w', f_Tables_joinAll_14 rec2 fuel 48 (nI a) (nI b) (bh v w) = rec2 48 (nI (a + 1)) (bh v w') ∧ alo tm w' g ∧ (∀ x y z, x ≤ tm 0 → y ≤ tm 1 → z ≤ tm 2 → x < a + 1 → w' 55 ((x * 6 + y) * 6 + z) = nL (pr3 (g 0) (g 1) (g 2) x y z)) := by
    intro rec2 a ha1 k
    induction k with
    | zero =>
      intro fuel b w hf hc hA hD
      obtain ⟨m, rfl⟩ : ∃ m, fuel = m + 1 := ⟨fuel - 1, by omega⟩
      refine ⟨w, ?_, hA, fun x y z hx hy hz hlt => hD x y z hx hy hz (by omega)⟩
      show f_Tables_joinAll_14b rec2 (f_Tables_joinAll_14 rec2 m) 48 (nI a) (nI b) (bh v w) = _
      unfold f_Tables_joinAll_14b
      simp only [hB0, bd1_q]
      rw [rd3.2.1, bd1_s, e1, if_pos (nI_lt (by omega) (by omega)), nI_1]
    | succ k ih =>
      intro fuel b w hf hc hA hD
      obtain ⟨m, rfl⟩ : ∃ m, fuel = m + 1 := ⟨fuel - 1, by omega⟩
      obtain ⟨w1, g1, a1, d1⟩ := k26 rec2 (f_Tables_joinAll_14 rec2 m) a b ha1 (by omega) (tm 2 + 1) FU 0 w (by unfold FU; omega) (by omega) hA hD
      obtain ⟨w2, g2, a2, d2⟩ := ih m (b + 1) w1 (by omega) (by omega) a1 d1
      refine ⟨w2, ?_, a2, d2⟩
      show f_Tables_joinAll_14b rec2 (f_Tables_joinAll_14 rec2 m) 48 (nI a) (nI b) (bh v w) = _
      unfold f_Tables_joinAll_14b
      simp only [hB0, bd1_q]
      rw [rd3.2.1, bd1_s, e1, if_neg (nI_nlt (by omega) (by omega))]
      exact g1.trans g2
  have k2 : ∀ (k fuel a : Nat) (w : Nat → Nat → Int64), k < fuel → a + k = tm 0 + 1 → alo tm w g → (∀ x y z, x ≤ tm 0 → y ≤ tm 1 → z ≤ tm 2 → x < a → w 55 ((x * 6 + y) * 6 + z) = nL (pr3 (g 0) (g 1) (g 2) x y z)) → ∃ w', f_Tables_joinAll_2 fuel 48 (nI a) (bh v w) = some (bh v w') ∧ wys tm w' (pr3 (g 0) (g 1) (g 2)) := by
    intro k
    induction k with
    | zero =>
      intro fuel a w hf hc hA hD
      obtain ⟨m, rfl⟩ : ∃ m, fuel = m + 1 := ⟨fuel - 1, by omega⟩
      refine ⟨w, ?_, fun x y z hx hy hz => hD x y z hx hy hz (by omega)⟩
      show f_Tables_joinAll_2b (f_Tables_joinAll_2 m) 48 (nI a) (bh v w) = _
      unfold f_Tables_joinAll_2b
      simp only [hB0, bd1_q]
      rw [rd3.1, bd1_s, e0, if_pos (nI_lt (by omega) (by omega))]
    | succ k ih =>
      intro fuel a w hf hc hA hD
      obtain ⟨m, rfl⟩ : ∃ m, fuel = m + 1 := ⟨fuel - 1, by omega⟩
      obtain ⟨w1, g1, a1, d1⟩ := k14 (f_Tables_joinAll_2 m) a (by omega) (tm 1 + 1) FU 0 w (by unfold FU; omega) (by omega) hA (fun x y z hx hy hz hlt => hD x y z hx hy hz (by omega))
      obtain ⟨w2, g2, d2⟩ := ih m (a + 1) w1 (by omega) (by omega) a1 d1
      refine ⟨w2, ?_, d2⟩
      show f_Tables_joinAll_2b (f_Tables_joinAll_2 m) 48 (nI a) (bh v w) = _
      unfold f_Tables_joinAll_2b
      simp only [hB0, bd1_q]
      rw [rd3.1, bd1_s, e0, if_neg (nI_nlt (by omega) (by omega))]
      exact g1.trans g2
  exact k2 (tm 0 + 1) FU 0 w (by unfold FU; omega) (by omega) ha (fun x y z _ _ _ hlt => by omega)
end
end
/-! 8zt5.cfit.lean.txt -/
section
/-! the class's tables, exactly: together, and how many fit -/
def cK (lo hi : Nat → Nat → Nat) (dL : Nat → Nat) (l x y z : Nat) : Bool := kB lo hi 0 l x && kB lo hi 1 l y && kB lo hi 2 l z && (decide (dL l = 0) || decide (dL l = x + y + z + 1))
theorem cK_iff (lo hi : Nat → Nat → Nat) (dL : Nat → Nat) (l x y z : Nat) : cK lo hi dL l x y z = true ↔ ((lo 0 l ≤ x ∧ x ≤ hi 0 l) ∧ (lo 1 l ≤ y ∧ y ≤ hi 1 l) ∧ (lo 2 l ≤ z ∧ z ≤ hi 2 l)) ∧ (dL l = 0 ∨ dL l = x + y + z + 1) := by
  unfold cK kB
  rw [Bool.and_eq_true, Bool.and_eq_true, Bool.and_eq_true, Bool.or_eq_true, decide_eq_true_iff, decide_eq_true_iff, decide_eq_true_iff, decide_eq_true_iff, decide_eq_true_iff]
  exact ⟨fun ⟨⟨⟨a, b⟩, c⟩, d⟩ => ⟨⟨a, b, c⟩, d⟩, fun ⟨⟨a, b, c⟩, d⟩ => ⟨⟨⟨a, b⟩, c⟩, d⟩⟩
/-- the third is what is left of d - 1 -/
def pW (W : Nat → Nat → Nat → Nat) (lo2 m2 d a b c x y : Nat) : Nat := if x + y + 1 + lo2 ≤ d ∧ d ≤ x + y + 1 + m2 then W (a - x) (b - y) (c - (d - (x + y + 1))) else 0
def qW (W : Nat → Nat → Nat → Nat) (lo1 m1 lo2 m2 d a b c x y : Nat) : Nat := if lo1 ≤ y ∧ y ≤ m1 then pW W lo2 m2 d a b c x y else 0
def rW (W : Nat → Nat → Nat → Nat) (lo0 m0 lo1 m1 lo2 m2 d a b c x : Nat) : Nat := if lo0 ≤ x ∧ x ≤ m0 then sumN (qW W lo1 m1 lo2 m2 d a b c x) 4 else 0
theorem rW_cv {lo hi : Nat → Nat → Nat} {dL : Nat → Nat} {l a b c m0 m1 m2 : Nat} (W : Nat → Nat → Nat → Nat) (hd : dL l ≠ 0) (h0 : m0 ≤ 3) (h1 : m1 ≤ 3) (h2 : m2 ≤ 3) (g0 : ∀ x, x ≤ m0 ↔ x ≤ a ∧ x ≤ hi 0 l) (g1 : ∀ x, x ≤ m1 ↔ x ≤ b ∧ x ≤ hi 1 l) (g2 : ∀ x, x ≤ m2 ↔ x ≤ c ∧ x ≤ hi 2 l) : sumN (rW W (lo 0 l) m0 (lo 1 l) m1 (lo 2 l) m2 (dL l) a b c) 4 = cvo (cK lo hi dL l) W a b c := by
  unfold cvo S3
  refine sumN_congr (fun x _ => ?_)
  unfold rW
  have gx := g0 x
  by_cases c0 : lo 0 l ≤ x ∧ x ≤ m0
  · rw [if_pos c0]
    refine sumN_congr (fun y _ => ?_)
    unfold qW
    have gy := g1 y
    by_cases c1 : lo 1 l ≤ y ∧ y ≤ m1
    · rw [if_pos c1]
      unfold pW
      by_cases c2 : x + y + 1 + lo 2 l ≤ dL l ∧ dL l ≤ x + y + 1 + m2
      · rw [if_pos c2]
        have gz := g2 (dL l - (x + y + 1))
        refine ((sumN_pick (k := dL l - (x + y + 1)) (by omega) (fun z _ hz => ?_)).trans ?_).symm
        · refine if_neg (fun q => ?_)
          have := (cK_iff lo hi dL l x y z).mp q.1
          omega
        · exact if_pos ⟨(cK_iff lo hi dL l x y _).mpr ⟨⟨by omega, by omega, by omega⟩, Or.inr (by omega)⟩, by omega, by omega, by omega⟩
      · rw [if_neg c2]
        refine (sumN_none (fun z _ => if_neg (fun q => ?_))).symm
        have := (cK_iff lo hi dL l x y z).mp q.1
        have gz := g2 z
        omega
    · rw [if_neg c1]
      refine (sumN_none (fun z _ => if_neg (fun q => ?_))).symm
      have := (cK_iff lo hi dL l x y z).mp q.1
      omega
  · rw [if_neg c0]
    refine (sumN_none (fun y _ => sumN_none (fun z _ => if_neg (fun q => ?_)))).symm
    have := (cK_iff lo hi dL l x y z).mp q.1
    omega
def x_in (lo2 m2 d n j : Nat) : Prop := n + j + 1 + lo2 ≤ d ∧ d ≤ n + j + 1 + m2
section
variable {L : Nat} {lo hi : Nat → Nat → Nat} {dL dP tm : Nat → Nat} {v : Nat → Nat → Int32} {w : Nat → Nat → Int64} {g : Nat → Nat → Nat} {W : Nat → Nat → Nat → Nat}
theorem dI_toInt {d : Nat} (h0 : d ≠ 0) (h : d ≤ 100) : dI d = nI (d - 1) := by
  unfold dI
  rw [if_neg h0]
theorem T_waysToX (h : tX L lo hi dL dP tm v) {a b c l : Nat} (ha : a ≤ 5) (hb : b ≤ 5) (hc : c ≤ 5) (hl : l < L) (hd : dL l ≠ 0) (hO : ∀ x y z, x ≤ a → y ≤ b → z ≤ c → w 55 ((x * 6 + y) * 6 + z) = nL (W x y z)) : f_Tables_waysTo 48 (nI a) (nI b) (nI c) (nI l) (bh v w) = some (nL (cvo (cK lo hi dL l) W a b c), bh v w) := by
  obtain ⟨h5, h0, hlo, hhi, hdL, -, -⟩ := h
  obtain ⟨c0, b0⟩ := hlo 0 l (by decide) hl
  obtain ⟨c1, b1⟩ := hlo 1 l (by decide) hl
  obtain ⟨c2, b2⟩ := hlo 2 l (by decide) hl
  obtain ⟨i0, g0⟩ := hhi 0 l (by decide) hl
  obtain ⟨i1, g1⟩ := hhi 1 l (by decide) hl
  obtain ⟨i2, g2⟩ := hhi 2 l (by decide) hl
  rw [show 5 * 0 + l = l by omega] at c0 i0
  rw [show 5 * 1 + l = 5 + l by omega] at c1 i1
  rw [show 5 * 2 + l = 10 + l by omega] at c2 i2
  obtain ⟨ed, d100⟩ := hdL l hl
  rw [dI_toInt hd d100] at ed
  have m0 : ∀ x, x ≤ (if a < hi 0 l then a else hi 0 l) ↔ x ≤ a ∧ x ≤ hi 0 l := fun x => by split <;> omega
  have m1 : ∀ x, x ≤ (if b < hi 1 l then b else hi 1 l) ↔ x ≤ b ∧ x ≤ hi 1 l := fun x => by split <;> omega
  have m2 : ∀ x, x ≤ (if c < hi 2 l then c else hi 2 l) ↔ x ≤ c ∧ x ≤ hi 2 l := fun x => by split <;> omega
  generalize hM0 : (if a < hi 0 l then a else hi 0 l) = M0 at m0
  generalize hM1 : (if b < hi 1 l then b else hi 1 l) = M1 at m1
  generalize hM2 : (if c < hi 2 l then c else hi 2 l) = M2 at m2
  have n0 := (m0 M0).mp (Nat.le_refl _)
  have n1 := (m1 M1).mp (Nat.le_refl _)
  have n2 := (m2 M2).mp (Nat.le_refl _)
  rw [← rW_cv (lo := lo) (hi := hi) (dL := dL) W hd (show M0 ≤ 3 by omega) (show M1 ≤ 3 by omega) (show M2 ≤ 3 by omega) m0 m1 m2]
  have k74 : ∀ (rec56 : Nat → Int32 → Int32 → Int32 → Int32 → Int32 → Int32 → Int32 → Int64 → Int32 → mH → Option (Int64 × mH)) (S n : Nat), n ≤ M0 → ∀ (k fuel j : Nat), k < fuel → 4 ≤ j + k → j ≤ 4 → lo 1 l ≤ j → f_Tables_waysTo_74 rec56 fuel 48 (nI a) (nI b) (nI c) (nI l) (nI M0) (nI M1) (nI M2) (nL (S + sumN (qW W (lo 1 l) M1 (lo 2 l) M2 (dL l) a b c n) j)) (nI n) (nI j) (bh v w) = rec56 48 (nI a) (nI b) (nI c) (nI l) (nI M0) (nI M1) (nI M2) (nL (S + sumN (qW W (lo 1 l) M1 (lo 2 l) M2 (dL l) a b c n) 4)) (nI (n + 1)) (bh v w) := by
    intro rec56 S n hn k
    have fin : ∀ j, j ≤ 4 → M1 < j → sumN (qW W (lo 1 l) M1 (lo 2 l) M2 (dL l) a b c n) j = sumN (qW W (lo 1 l) M1 (lo 2 l) M2 (dL l) a b c n) 4 := fun j h4 hj => (sumN_cut (n := j) h4 (fun i h1 _ => if_neg (fun q => by omega))).symm
    induction k with
    | zero =>
      intro fuel j hf hj hj2 hj3
      obtain ⟨m, rfl⟩ : ∃ m, fuel = m + 1 := ⟨fuel - 1, by omega⟩
      show f_Tables_waysTo_74b rec56 (f_Tables_waysTo_74 rec56 m) 48 (nI a) (nI b) (nI c) (nI l) (nI M0) (nI M1) (nI M2) _ (nI n) (nI j) (bh v w) = _
      unfold f_Tables_waysTo_74b
      rw [if_pos (nI_lt (by omega) (by omega)), nI_1, fin j hj2 (by omega)]
    | succ k ih =>
      intro fuel j hf hj hj2 hj3
      obtain ⟨m, rfl⟩ : ∃ m, fuel = m + 1 := ⟨fuel - 1, by omega⟩
      show f_Tables_waysTo_74b rec56 (f_Tables_waysTo_74 rec56 m) 48 (nI a) (nI b) (nI c) (nI l) (nI M0) (nI M1) (nI M2) _ (nI n) (nI j) (bh v w) = _
      unfold f_Tables_waysTo_74b f_Tables_waysTo_141
      by_cases z : M1 < j
      · rw [if_pos (nI_lt z (by omega)), nI_1, fin j hj2 z]
      · have nx := ih m (j + 1) (by omega) (by omega) (by omega) (by omega)
        have es : sumN (qW W (lo 1 l) M1 (lo 2 l) M2 (dL l) a b c n) (j + 1) = sumN (qW W (lo 1 l) M1 (lo 2 l) M2 (dL l) a b c n) j + pW W (lo 2 l) M2 (dL l) a b c n j := by
          show sumN (qW W (lo 1 l) M1 (lo 2 l) M2 (dL l) a b c n) j + qW W (lo 1 l) M1 (lo 2 l) M2 (dL l) a b c n j = _
          unfold qW
          rw [if_pos ⟨hj3, by omega⟩]
        rw [es] at nx
        rw [if_neg (nI_nlt (by omega) (by omega))]
        simp only [hB0, bd1_q]
        rw [rd_nI (by omega) (by decide), bd1_s, show (10 : Int32) = nI 10 from rfl, nI_add, rd_nI (by omega) (by decide), bd1_s, c2, ed, Q_isWithin, bd2_s, nI_1]
        have yI : (nI (dL l - 1) - nI n - nI j).toInt = (dL l : Int) - 1 - n - j := by
          have : nI (dL l - 1) - nI n - nI j = zI ((dL l : Int) - 1 - n - j) := by
            rw [← zI_n (dL l - 1), zI_subn, zI_subn]
            congr 1
            omega
          rw [this]
          exact zI_t (by omega) (by omega)
        by_cases q : x_in (lo 2 l) M2 (dL l) n j
        · have q' := q
          unfold x_in at q'
          rw [if_pos (show (nI (lo 2 l)).toInt ≤ (nI (dL l - 1) - nI n - nI j).toInt ∧ (nI (dL l - 1) - nI n - nI j).toInt ≤ (nI M2).toInt by rw [yI, nI_toInt (by omega), nI_toInt (by omega)]; omega), if_neg (by decide)]
          have ey : nI (dL l - 1) - nI n - nI j = nI (dL l - (n + j + 1)) := by
            rw [pk_sub (by omega), pk_sub (by omega)]
            congr 1
            omega
          have r := hO (a - n) (b - j) (c - (dL l - (n + j + 1))) (by omega) (by omega) (by omega)
          simp only [hB0, bd1_q]
          rw [ey, pk_sub (by omega), pk_sub (by omega), pk_sub (by omega), st_I, bd2_s]
          simp only [hB0, bd1_q]
          rw [rd_nI (by omega) (by decide), bd1_s, r, nL_add]
          have ep : pW W (lo 2 l) M2 (dL l) a b c n j = W (a - n) (b - j) (c - (dL l - (n + j + 1))) := if_pos q'
          rw [ep, ← Nat.add_assoc] at nx
          exact nx
        · have q' := q
          unfold x_in at q'
          rw [if_neg (show ¬ ((nI (lo 2 l)).toInt ≤ (nI (dL l - 1) - nI n - nI j).toInt ∧ (nI (dL l - 1) - nI n - nI j).toInt ≤ (nI M2).toInt) by rw [yI, nI_toInt (by omega), nI_toInt (by omega)]; omega), if_pos rfl]
          have ep : pW W (lo 2 l) M2 (dL l) a b c n j = 0 := if_neg q'
          rw [ep, Nat.add_zero] at nx
          exact nx
  have k56 : ∀ (k fuel n : Nat), k < fuel → 4 ≤ n + k → n ≤ 4 → lo 0 l ≤ n → f_Tables_waysTo_56 fuel 48 (nI a) (nI b) (nI c) (nI l) (nI M0) (nI M1) (nI M2) (nL (sumN (rW W (lo 0 l) M0 (lo 1 l) M1 (lo 2 l) M2 (dL l) a b c) n)) (nI n) (bh v w) = some (nL (sumN (rW W (lo 0 l) M0 (lo 1 l) M1 (lo 2 l) M2 (dL l) a b c) 4), bh v w) := by
    intro k
    have fin : ∀ j, j ≤ 4 → M0 < j → sumN (rW W (lo 0 l) M0 (lo 1 l) M1 (lo 2 l) M2 (dL l) a b c) j = sumN (rW W (lo 0 l) M0 (lo 1 l) M1 (lo 2 l) M2 (dL l) a b c) 4 := fun j h4 hj => (sumN_cut (n := j) h4 (fun i h1 _ => if_neg (fun q => by omega))).symm
    induction k with
    | zero =>
      intro fuel n hf hn hn2 hn3
      obtain ⟨m, rfl⟩ : ∃ m, fuel = m + 1 := ⟨fuel - 1, by omega⟩
      show f_Tables_waysTo_56b (f_Tables_waysTo_56 m) 48 (nI a) (nI b) (nI c) (nI l) (nI M0) (nI M1) (nI M2) _ (nI n) (bh v w) = _
      unfold f_Tables_waysTo_56b
      rw [if_pos (nI_lt (by omega) (by omega)), fin n hn2 (by omega)]
    | succ k ih =>
      intro fuel n hf hn hn2 hn3
      obtain ⟨m, rfl⟩ : ∃ m, fuel = m + 1 := ⟨fuel - 1, by omega⟩
      show f_Tables_waysTo_56b (f_Tables_waysTo_56 m) 48 (nI a) (nI b) (nI c) (nI l) (nI M0) (nI M1) (nI M2) _ (nI n) (bh v w) = _
      unfold f_Tables_waysTo_56b
      by_cases z : M0 < n
      · rw [if_pos (nI_lt z (by omega)), fin n hn2 z]
      · have nx := ih m (n + 1) (by omega) (by omega) (by omega) (by omega)
        have es : sumN (rW W (lo 0 l) M0 (lo 1 l) M1 (lo 2 l) M2 (dL l) a b c) (n + 1) = sumN (rW W (lo 0 l) M0 (lo 1 l) M1 (lo 2 l) M2 (dL l) a b c) n + sumN (qW W (lo 1 l) M1 (lo 2 l) M2 (dL l) a b c n) 4 := by
          show sumN (rW W (lo 0 l) M0 (lo 1 l) M1 (lo 2 l) M2 (dL l) a b c) n + rW W (lo 0 l) M0 (lo 1 l) M1 (lo 2 l) M2 (dL l) a b c n = _
          unfold rW
          rw [if_pos ⟨hn3, by omega⟩]
        rw [es] at nx
        have sz : sumN (qW W (lo 1 l) M1 (lo 2 l) M2 (dL l) a b c n) (lo 1 l) = 0 := sumN_none (fun i hi => if_neg (fun q => by omega))
        have e := k74 (f_Tables_waysTo_56 m) (sumN (rW W (lo 0 l) M0 (lo 1 l) M1 (lo 2 l) M2 (dL l) a b c) n) n (by omega) 4 FU (lo 1 l) (by decide) (by omega) (by omega) (Nat.le_refl _)
        rw [sz, Nat.add_zero] at e
        rw [if_neg (nI_nlt (by omega) (by omega))]
        simp only [hB0, bd1_q]
        rw [show (5 : Int32) = nI 5 from rfl, nI_add, rd_nI (by omega) (by decide), bd1_s, c1]
        exact e.trans nx
  have sz : sumN (rW W (lo 0 l) M0 (lo 1 l) M1 (lo 2 l) M2 (dL l) a b c) (lo 0 l) = 0 := sumN_none (fun i hi => if_neg (fun q => by omega))
  have e := k56 4 FU (lo 0 l) (by decide) (by omega) (by omega) (Nat.le_refl _)
  rw [sz] at e
  unfold f_Tables_waysTo f_Tables_waysTo_0
  simp only [hB0, bd1_q]
  rw [show (5 : Int32) = nI 5 from rfl, show (10 : Int32) = nI 10 from rfl, nI_add, nI_add, rd_nI (by omega) (by decide), bd1_s, rd_nI (by omega) (by decide), bd1_s, rd_nI (by omega) (by decide), bd1_s, rd_nI (by omega) (by decide), bd1_s, i0, i1, i2, c0, ite_I (by omega) (by omega), ite_I (by omega) (by omega), ite_I (by omega) (by omega), hM0, hM1, hM2]
  exact e
end
end
end
/-! 8_14.joined -/
section
/-! 8zt6.cfit2.lean.txt -/
section
/-! the class's tables, exactly: all laws, and the sum -/
section
variable {L : Nat} {lo hi : Nat → Nat → Nat} {dL dP tm : Nat → Nat} {v : Nat → Nat → Int32} {w : Nat → Nat → Int64} {g : Nat → Nat → Nat} {W W' : Nat → Nat → Nat → Nat}
/-- from i on the states are new -/
def nw (tm : Nat → Nat) (W W' : Nat → Nat → Nat → Nat) (i : Nat) (w : Nat → Nat → Int64) : Prop := ∀ a b c, a ≤ tm 0 → b ≤ tm 1 → c ≤ tm 2 → w 55 ((a * 6 + b) * 6 + c) = nL (if i ≤ (a * 6 + b) * 6 + c then W' a b c else W a b c)
theorem nw.to {i j : Nat} (h : nw tm W W' i w) (e : ∀ a b c, a ≤ tm 0 → b ≤ tm 1 → c ≤ tm 2 → (j ≤ (a * 6 + b) * 6 + c ↔ i ≤ (a * 6 + b) * 6 + c)) : nw tm W W' j w := fun a b c ha hb hc => by
  rw [h a b c ha hb hc, ite_iff (e a b c ha hb hc)]
theorem T_spendTogetherX (h : tX L lo hi dL dP tm v) {l : Nat} (hl : l < L) (hd : dL l ≠ 0) (w : Nat → Nat → Int64) (hW : wys tm w W) : ∃ w', f_Tables_spendTogether 48 (nI l) (bh v w) = some (bh v w') ∧ wys tm w' (cvo (cK lo hi dL l) W) := by
  have h' := h
  obtain ⟨h5, h0, -, -, -, -, htm⟩ := h'
  obtain ⟨f0, q0⟩ := htm 0 (by decide)
  obtain ⟨f1, q1⟩ := htm 1 (by decide)
  obtain ⟨f2, q2⟩ := htm 2 (by decide)
  have k30 : ∀ (rec7 : Nat → Int32 → Int32 → mH → Option mH) (rec18 : Nat → Int32 → Int32 → Int32 → mH → Option mH) (a b : Nat), a ≤ tm 0 → b ≤ tm 1 → ∀ (c fuel : Nat) (w : Nat → Nat → Int64), c + 1 < fuel → c ≤ tm 2 → nw tm W (cvo (cK lo hi dL l) W) ((a * 6 + b) * 6 + c + 1) w → ∃ w', f_Tables_spendTogether_30 rec7 rec18 fuel 48 (nI l) (nI a) (nI b) (nI c) (bh v w) = rec18 48 (nI l) (nI a) (nI b + -1) (bh v w') ∧ nw tm W (cvo (cK lo hi dL l) W) ((a * 6 + b) * 6) w' := by
    intro rec7 rec18 a b ha hb c
    have st : ∀ (m c : Nat) (w : Nat → Nat → Int64), c ≤ tm 2 → nw tm W (cvo (cK lo hi dL l) W) ((a * 6 + b) * 6 + c + 1) w → ∃ w', f_Tables_spendTogether_30 rec7 rec18 (m + 1) 48 (nI l) (nI a) (nI b) (nI c) (bh v w) = f_Tables_spendTogether_30 rec7 rec18 m 48 (nI l) (nI a) (nI b) (nI c + -1) (bh v w') ∧ nw tm W (cvo (cK lo hi dL l) W) ((a * 6 + b) * 6 + c) w' := by
      intro m c w hc hn
      have er := T_waysToX (w := w) (W := W) h (show a ≤ 5 by omega) (show b ≤ 5 by omega) (show c ≤ 5 by omega) hl hd (fun x y z hx hy hz => (hn x y z (by omega) (by omega) (by omega)).trans (by rw [if_neg (by omega)]))
      refine ⟨u2L w 55 ((a * 6 + b) * 6 + c) (nL (cvo (cK lo hi dL l) W a b c)), ?_, fun x y z hx hy hz => ?_⟩
      · show f_Tables_spendTogether_30b rec7 rec18 (f_Tables_spendTogether_30 rec7 rec18 m) 48 (nI l) (nI a) (nI b) (nI c) (bh v w) = _
        unfold f_Tables_spendTogether_30b
        rw [if_neg (nI_pos (by omega))]
        simp only [hB0, bd1_q]
        rw [st_I, bd2_s]
        simp only [hB0, bd1_q]
        rw [er, bd2_s]
        simp only [hB0, bd1_q]
        rw [wrL_nI (by omega) (by decide), bd1_s]
      · by_cases e : x = a ∧ y = b ∧ z = c
        · rw [e.1, e.2.1, e.2.2, u2L_at, if_pos (Nat.le_refl _)]
        · rw [u2L_n (by omega), hn x y z hx hy hz]
          by_cases k : (a * 6 + b) * 6 + c + 1 ≤ (x * 6 + y) * 6 + z
          · rw [if_pos k, if_pos (by omega)]
          · rw [if_neg k, if_neg (by omega)]
    have z : ∀ (m : Nat) (w : Nat → Nat → Int64), f_Tables_spendTogether_30 rec7 rec18 (m + 1) 48 (nI l) (nI a) (nI b) (-1) (bh v w) = rec18 48 (nI l) (nI a) (nI b + -1) (bh v w) := by
      intro m w
      show f_Tables_spendTogether_30b rec7 rec18 (f_Tables_spendTogether_30 rec7 rec18 m) 48 (nI l) (nI a) (nI b) (-1) (bh v w) = _
      unfold f_Tables_spendTogether_30b
      rw [if_pos (by decide)]
    induction c with
    | zero =>
      intro fuel w hf hc hn
      obtain ⟨m, rfl⟩ : ∃ m, fuel = m + 1 + 1 := ⟨fuel - 2, by omega⟩
      obtain ⟨w1, g1, n1⟩ := st (m + 1) 0 w hc hn
      rw [m1_0, z] at g1
      exact ⟨w1, g1, n1⟩
    | succ c ih =>
      intro fuel w hf hc hn
      obtain ⟨m, rfl⟩ : ∃ m, fuel = m + 1 := ⟨fuel - 1, by omega⟩
      obtain ⟨w1, g1, n1⟩ := st m (c + 1) w hc hn
      rw [m1_I c (by omega)] at g1
      obtain ⟨w2, g2, n2⟩ := ih m w1 (by omega) (by omega) n1
      exact ⟨w2, g1.trans g2, n2⟩
  have k18 : ∀ (rec7 : Nat → Int32 → Int32 → mH → Option mH) (a : Nat), a ≤ tm 0 → ∀ (b fuel : Nat) (w : Nat → Nat → Int64), b + 1 < fuel → b ≤ tm 1 → nw tm W (cvo (cK lo hi dL l) W) ((a * 6 + b) * 6 + tm 2 + 1) w → ∃ w', f_Tables_spendTogether_18 rec7 fuel 48 (nI l) (nI a) (nI b) (bh v w) = rec7 48 (nI l) (nI a + -1) (bh v w') ∧ nw tm W (cvo (cK lo hi dL l) W) (a * 36) w' := by
    intro rec7 a ha b
    have st : ∀ (m b : Nat) (w : Nat → Nat → Int64), b ≤ tm 1 → nw tm W (cvo (cK lo hi dL l) W) ((a * 6 + b) * 6 + tm 2 + 1) w → ∃ w', f_Tables_spendTogether_18 rec7 (m + 1) 48 (nI l) (nI a) (nI b) (bh v w) = f_Tables_spendTogether_18 rec7 m 48 (nI l) (nI a) (nI b + -1) (bh v w') ∧ nw tm W (cvo (cK lo hi dL l) W) ((a * 6 + b) * 6) w' := by
      intro m b w hb hn
      obtain ⟨w1, g1, n1⟩ := k30 rec7 (f_Tables_spendTogether_18 rec7 m) a b ha hb (tm 2) FU w (by unfold FU; omega) (Nat.le_refl _) hn
      refine ⟨w1, ?_, n1⟩
      show f_Tables_spendTogether_18b rec7 (f_Tables_spendTogether_18 rec7 m) 48 (nI l) (nI a) (nI b) (bh v w) = _
      unfold f_Tables_spendTogether_18b
      rw [if_neg (nI_pos (by omega))]
      simp only [hB0, bd1_q]
      rw [rd3.2.2, bd1_s, f2]
      exact g1
    have z : ∀ (m : Nat) (w : Nat → Nat → Int64), f_Tables_spendTogether_18 rec7 (m + 1) 48 (nI l) (nI a) (-1) (bh v w) = rec7 48 (nI l) (nI a + -1) (bh v w) := by
      intro m w
      show f_Tables_spendTogether_18b rec7 (f_Tables_spendTogether_18 rec7 m) 48 (nI l) (nI a) (-1) (bh v w) = _
      unfold f_Tables_spendTogether_18b
      rw [if_pos (by decide)]
    induction b with
    | zero =>
      intro fuel w hf hc hn
      obtain ⟨m, rfl⟩ : ∃ m, fuel = m + 1 + 1 := ⟨fuel - 2, by omega⟩
      obtain ⟨w1, g1, n1⟩ := st (m + 1) 0 w hc hn
      rw [m1_0, z] at g1
      exact ⟨w1, g1, n1.to (fun x y z hx hy hz => by omega)⟩
    | succ b ih =>
      intro fuel w hf hc hn
      obtain ⟨m, rfl⟩ : ∃ m, fuel = m + 1 := ⟨fuel - 1, by omega⟩
      obtain ⟨w1, g1, n1⟩ := st m (b + 1) w hc hn
      rw [m1_I b (by omega)] at g1
      obtain ⟨w2, g2, n2⟩ := ih m w1 (by omega) (by omega) (n1.to (fun x y z hx hy hz => by omega))
      exact ⟨w2, g1.trans g2, n2⟩
  have k7 : ∀ (a fuel : Nat) (w : Nat → Nat → Int64), a + 1 < fuel → a ≤ tm 0 → nw tm W (cvo (cK lo hi dL l) W) ((a * 6 + tm 1) * 6 + tm 2 + 1) w → ∃ w', f_Tables_spendTogether_7 fuel 48 (nI l) (nI a) (bh v w) = some (bh v w') ∧ nw tm W (cvo (cK lo hi dL l) W) 0 w' := by
    intro a
    have st : ∀ (m a : Nat) (w : Nat → Nat → Int64), a ≤ tm 0 → nw tm W (cvo (cK lo hi dL l) W) ((a * 6 + tm 1) * 6 + tm 2 + 1) w → ∃ w', f_Tables_spendTogether_7 (m + 1) 48 (nI l) (nI a) (bh v w) = f_Tables_spendTogether_7 m 48 (nI l) (nI a + -1) (bh v w') ∧ nw tm W (cvo (cK lo hi dL l) W) (a * 36) w' := by
      intro m a w ha hn
      obtain ⟨w1, g1, n1⟩ := k18 (f_Tables_spendTogether_7 m) a ha (tm 1) FU w (by unfold FU; omega) (Nat.le_refl _) hn
      refine ⟨w1, ?_, n1⟩
      show f_Tables_spendTogether_7b (f_Tables_spendTogether_7 m) 48 (nI l) (nI a) (bh v w) = _
      unfold f_Tables_spendTogether_7b
      rw [if_neg (nI_pos (by omega))]
      simp only [hB0, bd1_q]
      rw [rd3.2.1, bd1_s, f1]
      exact g1
    have z : ∀ (m : Nat) (w : Nat → Nat → Int64), f_Tables_spendTogether_7 (m + 1) 48 (nI l) (-1) (bh v w) = some (bh v w) := by
      intro m w
      show f_Tables_spendTogether_7b (f_Tables_spendTogether_7 m) 48 (nI l) (-1) (bh v w) = _
      unfold f_Tables_spendTogether_7b
      rw [if_pos (by decide)]
    induction a with
    | zero =>
      intro fuel w hf hc hn
      obtain ⟨m, rfl⟩ : ∃ m, fuel = m + 1 + 1 := ⟨fuel - 2, by omega⟩
      obtain ⟨w1, g1, n1⟩ := st (m + 1) 0 w hc hn
      rw [m1_0, z] at g1
      exact ⟨w1, g1, n1.to (fun x y z hx hy hz => by omega)⟩
    | succ a ih =>
      intro fuel w hf hc hn
      obtain ⟨m, rfl⟩ : ∃ m, fuel = m + 1 := ⟨fuel - 1, by omega⟩
      obtain ⟨w1, g1, n1⟩ := st m (a + 1) w hc hn
      rw [m1_I a (by omega)] at g1
      obtain ⟨w2, g2, n2⟩ := ih m w1 (by omega) (by omega) (n1.to (fun x y z hx hy hz => by omega))
      exact ⟨w2, g1.trans g2, n2⟩
  obtain ⟨w', e, n⟩ := k7 (tm 0) FU w (by unfold FU; omega) (Nat.le_refl _) (fun x y z hx hy hz => (hW x y z hx hy hz).trans (by rw [if_neg (by omega)]))
  refine ⟨w', ?_, fun x y z hx hy hz => (n x y z hx hy hz).trans (by rw [if_pos (Nat.zero_le _)])⟩
  unfold f_Tables_spendTogether f_Tables_spendTogether_0
  simp only [hB0, bd1_q]
  rw [rd3.1, bd1_s, f0]
  exact e
def uW (dP : Nat → Nat) (W : Nat → Nat → Nat → Nat) (a b c : Nat) : Nat := if (dP 0 = 0 ∨ dP 0 = a + 1) ∧ (dP 1 = 0 ∨ dP 1 = b + 1) ∧ (dP 2 = 0 ∨ dP 2 = c + 1) then W a b c else 0
def cTot (dP tm : Nat → Nat) (W : Nat → Nat → Nat → Nat) : Nat := sumN (fun a => sumN (fun b => sumN (fun c => uW dP W a b c) (tm 2 + 1)) (tm 1 + 1)) (tm 0 + 1)
theorem T_sumOfDueX (h : tX L lo hi dL dP tm v) (hW : wys tm w W) : f_Tables_sumOfDue 48 (bh v w) = some (nL (cTot dP tm W), bh v w) := by
  obtain ⟨h5, h0, -, -, -, hdP, htm⟩ := h
  obtain ⟨f0, q0⟩ := htm 0 (by decide)
  obtain ⟨f1, q1⟩ := htm 1 (by decide)
  obtain ⟨f2, q2⟩ := htm 2 (by decide)
  have k31 : ∀ (rec4 : Nat → Int64 → Int32 → mH → Option (Int64 × mH)) (rec17 : Nat → Int64 → Int32 → Int32 → mH → Option (Int64 × mH)) (S a b : Nat), a ≤ tm 0 → b ≤ tm 1 → ∀ (k fuel c : Nat), k < fuel → c + k = tm 2 + 1 → f_Tables_sumOfDue_31 rec4 rec17 fuel 48 (nL (S + sumN (fun c => uW dP W a b c) c)) (nI a) (nI b) (nI c) (bh v w) = rec17 48 (nL (S + sumN (fun c => uW dP W a b c) (tm 2 + 1))) (nI a) (nI (b + 1)) (bh v w) := by
    intro rec4 rec17 S a b ha hb k
    induction k with
    | zero =>
      intro fuel c hf hc
      obtain ⟨m, rfl⟩ : ∃ m, fuel = m + 1 := ⟨fuel - 1, by omega⟩
      show f_Tables_sumOfDue_31b rec4 rec17 (f_Tables_sumOfDue_31 rec4 rec17 m) 48 _ (nI a) (nI b) (nI c) (bh v w) = _
      unfold f_Tables_sumOfDue_31b
      simp only [hB0, bd1_q]
      rw [rd3.2.2, bd1_s, f2, if_pos (nI_lt (by omega) (by omega)), nI_1, show c = tm 2 + 1 by omega]
    | succ k ih =>
      intro fuel c hf hc
      obtain ⟨m, rfl⟩ : ∃ m, fuel = m + 1 := ⟨fuel - 1, by omega⟩
      have nx := ih m (c + 1) (by omega) (by omega)
      have es : sumN (fun c => uW dP W a b c) (c + 1) = sumN (fun c => uW dP W a b c) c + uW dP W a b c := rfl
      rw [es] at nx
      have g0 : f_Tables_isDueOf 48 (0 : Int32) (nI a) (bh v w) = some (if dP 0 = 0 ∨ dP 0 = a + 1 then 1 else 0, bh v w) := T_isDueX (v := v) (w := w) (p := 0) (by decide) (by omega) (hdP 0 (by decide)).2 (hdP 0 (by decide)).1
      have g1 : f_Tables_isDueOf 48 (1 : Int32) (nI b) (bh v w) = some (if dP 1 = 0 ∨ dP 1 = b + 1 then 1 else 0, bh v w) := T_isDueX (v := v) (w := w) (p := 1) (by decide) (by omega) (hdP 1 (by decide)).2 (hdP 1 (by decide)).1
      have g2 : f_Tables_isDueOf 48 (2 : Int32) (nI c) (bh v w) = some (if dP 2 = 0 ∨ dP 2 = c + 1 then 1 else 0, bh v w) := T_isDueX (v := v) (w := w) (p := 2) (by decide) (by omega) (hdP 2 (by decide)).2 (hdP 2 (by decide)).1
      have no : ¬ ((dP 0 = 0 ∨ dP 0 = a + 1) ∧ (dP 1 = 0 ∨ dP 1 = b + 1) ∧ (dP 2 = 0 ∨ dP 2 = c + 1)) → f_Tables_sumOfDue_31 rec4 rec17 m 48 (nL (S + sumN (fun c => uW dP W a b c) c)) (nI a) (nI b) (nI (c + 1)) (bh v w) = rec17 48 (nL (S + sumN (fun c => uW dP W a b c) (tm 2 + 1))) (nI a) (nI (b + 1)) (bh v w) := fun q => by
        have e : uW dP W a b c = 0 := if_neg q
        rw [e, Nat.add_zero] at nx
        exact nx
      show f_Tables_sumOfDue_31b rec4 rec17 (f_Tables_sumOfDue_31 rec4 rec17 m) 48 _ (nI a) (nI b) (nI c) (bh v w) = _
      unfold f_Tables_sumOfDue_31b f_Tables_sumOfDue_87
      simp only [hB0, bd1_q]
      rw [rd3.2.2, bd1_s, f2, if_neg (nI_nlt (by omega) (by omega)), g0, bd2_s, nI_1]
      by_cases d0 : dP 0 = 0 ∨ dP 0 = a + 1
      · rw [if_pos d0, if_neg (by decide)]
        simp only [hB0, bd1_q]
        rw [g1, bd2_s]
        by_cases d1 : dP 1 = 0 ∨ dP 1 = b + 1
        · rw [if_pos d1, if_neg (by decide)]
          simp only [hB0, bd1_q]
          rw [g2, bd2_s]
          by_cases d2 : dP 2 = 0 ∨ dP 2 = c + 1
          · rw [if_pos d2, if_neg (by decide)]
            simp only [hB0, bd1_q]
            rw [st_I, bd2_s]
            simp only [hB0, bd1_q]
            rw [rd_nI (by omega) (by decide), bd1_s, hW a b c ha hb (by omega), nL_add]
            have e : uW dP W a b c = W a b c := if_pos ⟨d0, d1, d2⟩
            rw [e, ← Nat.add_assoc] at nx
            exact nx
          · rw [if_neg d2, if_pos rfl]
            exact no (fun q => d2 q.2.2)
        · rw [if_neg d1, if_pos rfl]
          exact no (fun q => d1 q.2.1)
      · rw [if_neg d0, if_pos rfl]
        exact no (fun q => d0 q.1)
  have k17 : ∀ (rec4 : Nat → Int64 → Int32 → mH → Option (Int64 × mH)) (S a : Nat), a ≤ tm 0 → ∀ (k fuel b : Nat), k < fuel → b + k = tm 1 + 1 → f_Tables_sumOfDue_17 rec4 fuel 48 (nL (S + sumN (fun b => sumN (fun c => uW dP W a b c) (tm 2 + 1)) b)) (nI a) (nI b) (bh v w) = rec4 48 (nL (S + sumN (fun b => sumN (fun c => uW dP W a b c) (tm 2 + 1)) (tm 1 + 1))) (nI (a + 1)) (bh v w) := by
    intro rec4 S a ha k
    induction k with
    | zero =>
      intro fuel b hf hc
      obtain ⟨m, rfl⟩ : ∃ m, fuel = m + 1 := ⟨fuel - 1, by omega⟩
      show f_Tables_sumOfDue_17b rec4 (f_Tables_sumOfDue_17 rec4 m) 48 _ (nI a) (nI b) (bh v w) = _
      unfold f_Tables_sumOfDue_17b
      simp only [hB0, bd1_q]
      rw [rd3.2.1, bd1_s, f1, if_pos (nI_lt (by omega) (by omega)), nI_1, show b = tm 1 + 1 by omega]
    | succ k ih =>
      intro fuel b hf hc
      obtain ⟨m, rfl⟩ : ∃ m, fuel = m + 1 := ⟨fuel - 1, by omega⟩
      have g1 := k31 rec4 (f_Tables_sumOfDue_17 rec4 m) (S + sumN (fun b => sumN (fun c => uW dP W a b c) (tm 2 + 1)) b) a b ha (by omega) (tm 2 + 1) FU 0 (by unfold FU; omega) (by omega)
      have g2 := ih m (b + 1) (by omega) (by omega)
      have es : S + sumN (fun b => sumN (fun c => uW dP W a b c) (tm 2 + 1)) (b + 1) = S + sumN (fun b => sumN (fun c => uW dP W a b c) (tm 2 + 1)) b + sumN (fun c => uW dP W a b c) (tm 2 + 1) := (Nat.add_assoc _ _ _).symm
      rw [es] at g2
      show f_Tables_sumOfDue_17b rec4 (f_Tables_sumOfDue_17 rec4 m) 48 _ (nI a) (nI b) (bh v w) = _
      unfold f_Tables_sumOfDue_17b
      simp only [hB0, bd1_q]
      rw [rd3.2.1, bd1_s, f1, if_neg (nI_nlt (by omega) (by omega))]
      exact g1.trans g2
  have k4 : ∀ (k fuel a : Nat), k < fuel → a + k = tm 0 + 1 → f_Tables_sumOfDue_4 fuel 48 (nL (sumN (fun a => sumN (fun b => sumN (fun c => uW dP W a b c) (tm 2 + 1)) (tm 1 + 1)) a)) (nI a) (bh v w) = some (nL (cTot dP tm W), bh v w) := by
    intro k
    induction k with
    | zero =>
      intro fuel a hf hc
      obtain ⟨m, rfl⟩ : ∃ m, fuel = m + 1 := ⟨fuel - 1, by omega⟩
      show f_Tables_sumOfDue_4b (f_Tables_sumOfDue_4 m) 48 _ (nI a) (bh v w) = _
      unfold f_Tables_sumOfDue_4b cTot
      simp only [hB0, bd1_q]
      rw [rd3.1, bd1_s, f0, if_pos (nI_lt (by omega) (by omega)), show a = tm 0 + 1 by omega]
    | succ k ih =>
      intro fuel a hf hc
      obtain ⟨m, rfl⟩ : ∃ m, fuel = m + 1 := ⟨fuel - 1, by omega⟩
      have g1 := k17 (f_Tables_sumOfDue_4 m) (sumN (fun a => sumN (fun b => sumN (fun c => uW dP W a b c) (tm 2 + 1)) (tm 1 + 1)) a) a (by omega) (tm 1 + 1) FU 0 (by unfold FU; omega) (by omega)
      have g2 := ih m (a + 1) (by omega) (by omega)
      show f_Tables_sumOfDue_4b (f_Tables_sumOfDue_4 m) 48 _ (nI a) (bh v w) = _
      unfold f_Tables_sumOfDue_4b
      simp only [hB0, bd1_q]
      rw [rd3.1, bd1_s, f0, if_neg (nI_nlt (by omega) (by omega))]
      exact g1.trans g2
  exact k4 (tm 0 + 1) FU 0 (by unfold FU; omega) (by omega)
theorem T_fillX (x : Int64) (v : Nat → Nat → Int32) (w : Nat → Nat → Int64) : ∃ w1, f_Arrays_fillJ 54 x (bh v w) = some (bh v w1) ∧ ∀ j, j < 18 → w1 54 j = x := by
  have key : ∀ (k fuel i : Nat) (w : Nat → Nat → Int64), k < fuel → i + k = 18 → (∀ j, j < i → w 54 j = x) → ∃ w1, f_Arrays_fillJ_6 fuel 54 x (nI i) (nI 18) (bh v w) = some (bh v w1) ∧ ∀ j, j < 18 → w1 54 j = x := by
    intro k
    induction k with
    | zero =>
      intro fuel i w hf hi hj
      obtain ⟨m, rfl⟩ : ∃ m, fuel = m + 1 := ⟨fuel - 1, by omega⟩
      refine ⟨w, ?_, fun j h => hj j (by omega)⟩
      show f_Arrays_fillJ_6b (f_Arrays_fillJ_6 m) 54 x (nI i) (nI 18) (bh v w) = some (bh v w)
      unfold f_Arrays_fillJ_6b
      rw [if_pos ((nI_leI (by omega) (by omega)).mpr (by omega))]
    | succ k ih =>
      intro fuel i w hf hi hj
      obtain ⟨m, rfl⟩ : ∃ m, fuel = m + 1 := ⟨fuel - 1, by omega⟩
      show ∃ w1, f_Arrays_fillJ_6b (f_Arrays_fillJ_6 m) 54 x (nI i) (nI 18) (bh v w) = some (bh v w1) ∧ _
      unfold f_Arrays_fillJ_6b
      simp only [hB0]
      rw [if_neg (fun z => by have := (nI_leI (by omega) (by omega)).mp z; omega), wrL_nI (by omega) (by omega), bd1_s, nI_1]
      exact ih m (i + 1) _ (by omega) (by omega) (fun j h => by
        by_cases z : j = i
        · rw [z, u2L_at]
        · rw [u2L_n z]; exact hj j (by omega))
  unfold f_Arrays_fillJ f_Arrays_fillJ_0
  rw [show aN (bh v w) 3 54 = some (nI 18) from rfl, bd1_s, show (0 : Int32) = nI 0 from rfl]
  exact key 18 FU 0 w (by decide) (by decide) (fun j h => by omega)
def bF (dL : Nat → Nat) (l : Nat) : Bool := decide (¬ dL l = 0)
theorem bF_0 {dL : Nat → Nat} {l : Nat} (z : dL l = 0) : ¬ bF dL l = true := fun q => by
  unfold bF at q
  rw [decide_eq_true_iff] at q
  exact q z
theorem bF_1 {dL : Nat → Nat} {l : Nat} (z : ¬ dL l = 0) : bF dL l = true := decide_eq_true z
def aF (lo hi : Nat → Nat → Nat) (dL : Nat → Nat) (p n : Nat) : Nat → Nat := c1F (bF dL) (kB lo hi p) e0 n
/-- how many tables there are by the class -/
def cAll (L : Nat) (lo hi : Nat → Nat → Nat) (dL dP tm : Nat → Nat) : Nat := cTot dP tm (cvB (bF dL) (cK lo hi dL) (pr3 (aF lo hi dL 0 L) (aF lo hi dL 1 L) (aF lo hi dL 2 L)) L)
theorem T_fittingX (h : tX L lo hi dL dP tm v) (w : Nat → Nat → Int64) : ∃ w', f_Tables_fitting 48 (bh v w) = some (nL (cAll L lo hi dL dP tm), bh v w') := by
  have h' := h
  obtain ⟨h5, h0, -, -, hdL, -, htm⟩ := h'
  have k69 : ∀ (k fuel l : Nat) (w : Nat → Nat → Int64), k < fuel → l + k = L → wys tm w (cvB (bF dL) (cK lo hi dL) (pr3 (aF lo hi dL 0 L) (aF lo hi dL 1 L) (aF lo hi dL 2 L)) l) → ∃ w', f_Tables_fitting_69 fuel 48 (nI l) (bh v w) = some (nL (cAll L lo hi dL dP tm), bh v w') := by
    intro k
    induction k with
    | zero =>
      intro fuel l w hf hl hW
      obtain ⟨m, rfl⟩ : ∃ m, fuel = m + 1 := ⟨fuel - 1, by omega⟩
      have el : l = L := by omega
      rw [el] at hW
      have e := T_sumOfDueX (w := w) h hW
      refine ⟨w, ?_⟩
      show f_Tables_fitting_69b (f_Tables_fitting_69 m) 48 (nI l) (bh v w) = _
      unfold f_Tables_fitting_69b
      simp only [hB0, bd1_q]
      rw [h0, if_pos ((nI_leI (by omega) (by omega)).mpr (by omega)), e, bd2_s]
      rfl
    | succ k ih =>
      intro fuel l w hf hl hW
      obtain ⟨m, rfl⟩ : ∃ m, fuel = m + 1 := ⟨fuel - 1, by omega⟩
      obtain ⟨ed, d100⟩ := hdL l (by omega)
      have es : cvB (bF dL) (cK lo hi dL) (pr3 (aF lo hi dL 0 L) (aF lo hi dL 1 L) (aF lo hi dL 2 L)) (l + 1) = if bF dL l = true then cvo (cK lo hi dL l) (cvB (bF dL) (cK lo hi dL) (pr3 (aF lo hi dL 0 L) (aF lo hi dL 1 L) (aF lo hi dL 2 L)) l) else cvB (bF dL) (cK lo hi dL) (pr3 (aF lo hi dL 0 L) (aF lo hi dL 1 L) (aF lo hi dL 2 L)) l := rfl
      show ∃ w', f_Tables_fitting_69b (f_Tables_fitting_69 m) 48 (nI l) (bh v w) = some (_, bh v w')
      unfold f_Tables_fitting_69b f_Tables_fitting_92
      simp only [hB0, bd1_q]
      rw [h0, if_neg (fun q => by have := (nI_leI (by omega) (by omega)).mp q; omega), rd_nI (by omega) (by decide), bd1_s, nI_1, ed, ite_iff (dI_free _ d100)]
      by_cases z : dL l = 0
      · rw [if_pos z]
        exact ih m (l + 1) w (by omega) (by omega) (by rw [es, if_neg (bF_0 z)]; exact hW)
      · rw [if_neg z]
        obtain ⟨w1, e1, W1⟩ := T_spendTogetherX h (show l < L by omega) z w hW
        rw [e1, bd1_s]
        exact ih m (l + 1) w1 (by omega) (by omega) (by rw [es, if_pos (bF_1 z)]; exact W1)
  have k27 : ∀ (rec10 : Nat → Int32 → mH → Option (Int64 × mH)) (p : Nat), p < 3 → ∀ (k fuel l : Nat) (w : Nat → Nat → Int64), k < fuel → l + k = L → alo tm w (fun q s => if q < p then aF lo hi dL q L s else if q = p then aF lo hi dL q l s else 0) → ∃ w', f_Tables_fitting_27 rec10 fuel 48 (nI p) (nI l) (bh v w) = rec10 48 (nI (p + 1)) (bh v w') ∧ alo tm w' (fun q s => if q < p + 1 then aF lo hi dL q L s else 0) := by
    intro rec10 p hp k
    induction k with
    | zero =>
      intro fuel l w hf hl hA
      obtain ⟨m, rfl⟩ : ∃ m, fuel = m + 1 := ⟨fuel - 1, by omega⟩
      refine ⟨w, ?_, hA.to (fun q s _ _ => ?_)⟩
      · show f_Tables_fitting_27b rec10 (f_Tables_fitting_27 rec10 m) 48 (nI p) (nI l) (bh v w) = _
        unfold f_Tables_fitting_27b
        simp only [hB0, bd1_q]
        rw [h0, if_pos ((nI_leI (by omega) (by omega)).mpr (by omega)), nI_1]
      · rw [show l = L by omega]
        by_cases c1 : q < p
        · rw [if_pos c1, if_pos (by omega)]
        · rw [if_neg c1]
          by_cases c2 : q = p
          · rw [if_pos c2, if_pos (by omega)]
          · rw [if_neg c2, if_neg (by omega)]
    | succ k ih =>
      intro fuel l w hf hl hA
      obtain ⟨m, rfl⟩ : ∃ m, fuel = m + 1 := ⟨fuel - 1, by omega⟩
      obtain ⟨ed, d100⟩ := hdL l (by omega)
      have es : ∀ q, aF lo hi dL q (l + 1) = if bF dL l = true then aF lo hi dL q l else c1 (kB lo hi q l) (aF lo hi dL q l) := fun q => rfl
      show ∃ w', f_Tables_fitting_27b rec10 (f_Tables_fitting_27 rec10 m) 48 (nI p) (nI l) (bh v w) = _ ∧ _
      unfold f_Tables_fitting_27b f_Tables_fitting_51
      simp only [hB0, bd1_q]
      rw [h0, if_neg (fun q => by have := (nI_leI (by omega) (by omega)).mp q; omega), rd_nI (by omega) (by decide), bd1_s, nI_1, ed, ite_iff (dI_free _ d100)]
      by_cases z : dL l = 0
      · rw [if_pos z]
        obtain ⟨w1, e1, a1⟩ := T_spendAloneX h hp (show l < L by omega) w hA
        rw [e1, bd1_s]
        refine ih m (l + 1) w1 (by omega) (by omega) (a1.to (fun q s _ _ => ?_))
        by_cases c2 : q = p
        · rw [c2, if_pos rfl, if_neg (Nat.lt_irrefl p), if_pos rfl, es, if_neg (bF_0 z)]
          have ef : (fun s => if p < p then aF lo hi dL p L s else if p = p then aF lo hi dL p l s else 0) = aF lo hi dL p l := by
            funext s
            rw [if_neg (Nat.lt_irrefl p), if_pos rfl]
          exact congrFun (congrArg (c1 (kB lo hi p l)) ef) s
        · rw [if_neg c2]
          by_cases c1 : q < p
          · rw [if_pos c1, if_pos c1]
          · rw [if_neg c1, if_neg c2, if_neg c1, if_neg c2]
      · rw [if_neg z]
        refine ih m (l + 1) w (by omega) (by omega) (hA.to (fun q s _ _ => ?_))
        by_cases c1 : q < p
        · rw [if_pos c1, if_pos c1]
        · rw [if_neg c1, if_neg c1]
          by_cases c2 : q = p
          · rw [if_pos c2, if_pos c2, es, if_pos (bF_1 z)]
          · rw [if_neg c2, if_neg c2]
  have k10 : ∀ (k fuel p : Nat) (w : Nat → Nat → Int64), k < fuel → p + k = 3 → alo tm w (fun q s => if q < p then aF lo hi dL q L s else 0) → ∃ w', f_Tables_fitting_10 fuel 48 (nI p) (bh v w) = some (nL (cAll L lo hi dL dP tm), bh v w') := by
    intro k
    induction k with
    | zero =>
      intro fuel p w hf hp hA
      obtain ⟨m, rfl⟩ : ∃ m, fuel = m + 1 := ⟨fuel - 1, by omega⟩
      have hA : alo tm w (fun q s => aF lo hi dL q L s) := hA.to (fun q s hq _ => by rw [if_pos (by omega)])
      obtain ⟨w1, e1, W1⟩ := T_joinAllX h w hA
      obtain ⟨w2, e2⟩ := k69 L FU 0 w1 (by unfold FU; omega) (by omega) W1
      have e2 : f_Tables_fitting_69 FU 48 0 (bh v w1) = some (nL (cAll L lo hi dL dP tm), bh v w2) := e2
      refine ⟨w2, ?_⟩
      show f_Tables_fitting_10b (f_Tables_fitting_10 m) 48 (nI p) (bh v w) = _
      unfold f_Tables_fitting_10b
      rw [show (3 : Int32) = nI 3 from rfl, if_pos ((nI_leI (by omega) (by omega)).mpr (by omega))]
      simp only [hB0, bd1_q]
      rw [e1, bd1_s, e2]
    | succ k ih =>
      intro fuel p w hf hp hA
      obtain ⟨m, rfl⟩ : ∃ m, fuel = m + 1 := ⟨fuel - 1, by omega⟩
      obtain ⟨w1, e1, a1⟩ := k27 (f_Tables_fitting_10 m) p (by omega) L FU 0 (u2L w 54 (p * 6) 1) (by unfold FU; omega) (by omega) (fun q s hq hs => by
        have tq := (htm q hq).2
        have h2 : w 54 (6 * q + s) = nL (if q < p then aF lo hi dL q L s else 0) := hA q s hq hs
        show u2L w 54 (p * 6) 1 54 (6 * q + s) = nL (if q < p then aF lo hi dL q L s else if q = p then aF lo hi dL q 0 s else 0)
        by_cases e : q = p ∧ s = 0
        · rw [e.1, e.2, show 6 * p + 0 = p * 6 by omega, u2L_at, if_neg (Nat.lt_irrefl p), if_pos rfl]
          rfl
        · rw [u2L_n (by omega), h2]
          by_cases c1 : q < p
          · rw [if_pos c1, if_pos c1]
          · rw [if_neg c1, if_neg c1]
            by_cases c2 : q = p
            · rw [if_pos c2]
              show nL 0 = nL (e0 s)
              unfold e0
              rw [if_neg (fun z => e ⟨c2, z⟩)]
            · rw [if_neg c2])
      have e1 : f_Tables_fitting_27 (f_Tables_fitting_10 m) FU 48 (nI p) 0 (bh v (u2L w 54 (p * 6) 1)) = f_Tables_fitting_10 m 48 (nI (p + 1)) (bh v w1) := e1
      obtain ⟨w2, e2⟩ := ih m (p + 1) w1 (by omega) (by omega) a1
      refine ⟨w2, ?_⟩
      show f_Tables_fitting_10b (f_Tables_fitting_10 m) 48 (nI p) (bh v w) = _
      unfold f_Tables_fitting_10b
      rw [show (3 : Int32) = nI 3 from rfl, if_neg (fun q => by have := (nI_leI (by omega) (by omega)).mp q; omega)]
      simp only [hB0, bd1_q]
      rw [show (6 : Int32) = nI 6 from rfl, pk_mul, wrL_nI (by omega) (by decide), bd1_s, e1]
      exact e2
  obtain ⟨w1, e1, z1⟩ := T_fillX 0 v w
  obtain ⟨w2, e2⟩ := k10 3 FU 0 w1 (by decide) (by decide) (fun q s hq hs => by
    have tq := (htm q hq).2
    show w1 54 (6 * q + s) = nL (if q < 0 then aF lo hi dL q L s else 0)
    rw [z1 _ (by omega), if_neg (Nat.not_lt_zero q)]
    rfl)
  refine ⟨w2, ?_⟩
  unfold f_Tables_fitting f_Tables_fitting_0
  simp only [hB0, bd1_q]
  rw [e1, bd1_s, show (0 : Int32) = nI 0 from rfl]
  exact e2
end
end
/-! 8zt7.books.lean.txt -/
section
/-! books and entry: both count the same tables -/
def dLr (ρ : Rho) (l : Nat) : Nat := du ρ 1 l (ρ 0 6)
def dPr (ρ : Rho) (p : Nat) : Nat := if p < ρ 0 1 then du ρ 0 p (ρ 0 6) else 0
def tmr (ρ : Rho) (p : Nat) : Nat := if p < ρ 0 1 then ρ 6 p else 0
section
variable {ρ : Rho} {v : Nat → Nat → Int32} {w : Nat → Nat → Int64}
theorem duL_le (hk : ROK ρ) (l : Nat) : dLr ρ l ≤ 100 := du_le (ρ 0 6) (fun j hj => (hk.2.2.2.2 j hj).2)
theorem duP_le (hk : ROK ρ) (p : Nat) : dPr ρ p ≤ 100 := by
  unfold dPr
  split
  · exact du_le (ρ 0 6) (fun j hj => (hk.2.2.2.2 j hj).2)
  · omega
theorem tmr_le (hk : ROK ρ) (p : Nat) : tmr ρ p ≤ 5 := by
  unfold tmr
  split
  · next h => exact (hk.2.2.1 p h).1
  · omega
theorem T_ld114X (hk : ROK ρ) (rec57 : Nat → Nat → Int32 → mH → Option mH) {p : Nat} (hp : p < 3) : ∀ (k fuel l : Nat) (v : Nat → Nat → Int32), k < fuel → l + k = ρ 0 0 → CR 3 ρ v → v 48 0 = nI (ρ 0 0) → (∀ j, j < l → v 50 (5 * p + j) = nI (mo ρ p j)) → ∃ v', f_Tables_load_114 rec57 fuel 48 3 (nI p) (if p < ρ 0 1 then 1 else 0) (nI l) (bh v w) = rec57 48 3 (nI (p + 1)) (bh v' w) ∧ (∀ q, q ≠ 50 → v' q = v q) ∧ (∀ j, j < ρ 0 0 → v' 50 (5 * p + j) = nI (mo ρ p j)) ∧ ∀ i, i < 5 * p → v' 50 i = v 50 i := by
  have h0 := hk.1.1
  have h1 := hk.1.2.1
  intro k
  induction k with
  | zero =>
    intro fuel l v hf hl hr h48 hj
    obtain ⟨m, rfl⟩ : ∃ m, fuel = m + 1 := ⟨fuel - 1, by omega⟩
    refine ⟨v, ?_, fun _ _ => rfl, fun j h => hj j (by omega), fun _ _ => rfl⟩
    show f_Tables_load_114b rec57 (f_Tables_load_114 rec57 m) 48 3 (nI p) _ (nI l) (bh v w) = _
    unfold f_Tables_load_114b
    simp only [hB0, bd1_q]
    rw [h48, if_pos ((nI_leI (by omega) (by omega)).mpr (by omega)), nI_1]
  | succ k ih =>
    intro fuel l v hf hl hr h48 hj
    obtain ⟨m, rfl⟩ : ∃ m, fuel = m + 1 := ⟨fuel - 1, by omega⟩
    have c5 : v 5 l = nI (ρ 2 l) := (hr.2.1 l (by omega)).2.1
    have nx : ∀ x : Nat, x = mo ρ p l → ∃ v', f_Tables_load_114 rec57 m 48 3 (nI p) (if p < ρ 0 1 then 1 else 0) (nI (l + 1)) (bh (u2 v 50 (5 * p + l) (nI x)) w) = rec57 48 3 (nI (p + 1)) (bh v' w) ∧ (∀ q, q ≠ 50 → v' q = v q) ∧ (∀ j, j < ρ 0 0 → v' 50 (5 * p + j) = nI (mo ρ p j)) ∧ ∀ i, i < 5 * p → v' 50 i = v 50 i := by
      intro x hx
      obtain ⟨v', e1, e2, e3, e4⟩ := ih m (l + 1) (u2 v 50 (5 * p + l) (nI x)) (by omega) (by omega) (hr.frame (fun q _ _ => u2_o (by omega))) (by rw [u2_o (by decide)]; exact h48) (fun j h => by
        by_cases z : j = l
        · rw [z, u2_at, hx]
        · rw [u2_n (by omega)]; exact hj j (by omega))
      exact ⟨v', e1, fun q hq => (e2 q hq).trans (u2_o hq), e3, fun i hi => (e4 i hi).trans (u2_n (by omega))⟩
    obtain ⟨r, er⟩ := hasBit_any (v 13 p) (nI l)
    show ∃ v', f_Tables_load_114b rec57 (f_Tables_load_114 rec57 m) 48 3 (nI p) _ (nI l) (bh v w) = _ ∧ _
    unfold f_Tables_load_114b f_Tables_load_145 f_Tables_load_146 f_Tables_load_174
    simp only [hB0, hS0, bd1_q]
    rw [h48, if_neg (fun q => by have := (nI_leI (by omega) (by omega)).mp q; omega), show (5 : Int32) = nI 5 from rfl, pk_mul, nI_add, Nat.mul_comm p 5, rd_nI (by omega) (by decide), bd1_s, wr_nI (by omega) (by decide), bd1_s, nI_1, rd_nI hp (by decide), bd1_s, er, bd2_s, c5]
    by_cases z : p < ρ 0 1
    · have h10 : ρ 10 p < 32 := pw_le h0 (hk.2.2.1 p z).2.2.2.2.1
      have c13 : v 13 p = nI (ρ 10 p) := (hr.2.2.1 p z).2.2.2.2.1
      have eb : r = nI (bit (ρ 10 p) l) := by
        have a := er (bh v w)
        rw [c13, Q_hasBit (by omega) (by omega)] at a
        exact (congrArg (fun o : Option (Int32 × mH) => match o with | some q => q.1 | none => r) a).symm
      rw [if_pos z, if_neg (by decide), eb, ite_iff (nI_eq0 (by have := bit_lt (ρ 10 p) l; omega))]
      by_cases y : bit (ρ 10 p) l = 0
      · rw [if_pos y]
        simp only [hB0, hS0, bd1_q]
        rw [if_neg (by decide), rd_nI (by omega) (by decide), bd1_s, c5, wr_nI (by omega) (by decide), bd1_s]
        have nc := nx (ρ 2 l) (by unfold mo; rw [if_pos ⟨z, y⟩])
        rw [if_pos z] at nc
        exact nc
      · rw [if_neg y]
        simp only [hB0, hS0, bd1_q]
        rw [if_pos trivial, wr_nI (by omega) (by decide), bd1_s]
        have nc := nx 0 (by unfold mo; rw [if_neg (fun q => y q.2)])
        rw [if_pos z] at nc
        exact nc
    · rw [if_neg z, if_pos rfl, if_pos trivial]
      have nc := nx 0 (by unfold mo; rw [if_neg (fun q => z q.1)])
      rw [if_neg z] at nc
      exact nc
def hiM (ρ : Rho) (p l y : Nat) : Nat → Nat → Nat := fun q j => if q = p ∧ j = l then y else mo ρ q j
def loM (p l y : Nat) : Nat → Nat → Nat := fun q j => if q = p ∧ j = l then y else 0
theorem T_loadX (hr : CR 3 ρ v) (hk : ROK ρ) : ∃ v', f_Tables_load 48 3 (bh v w) = some (bh v' w) ∧ tX (ρ 0 0) (fun _ _ => 0) (mo ρ) (dLr ρ) (dPr ρ) (tmr ρ) v' ∧ tFr v v' := by
  have h0 := hk.1.1
  have h1 := hk.1.2.1
  have k57 : ∀ (k fuel p : Nat) (v : Nat → Nat → Int32), k < fuel → p + k = 3 → CR 3 ρ v → v 48 0 = nI (ρ 0 0) → (∀ i, i < 15 → v 49 i = nI 0) → (∀ l, l < ρ 0 0 → v 51 l = dI (dLr ρ l)) → (∀ q, q < p → v 52 q = dI (dPr ρ q)) → (∀ q, q < p → v 53 q = nI (tmr ρ q)) → (∀ q j, q < p → j < ρ 0 0 → v 50 (5 * q + j) = nI (mo ρ q j)) → ∃ v', f_Tables_load_57 fuel 48 3 (nI p) (bh v w) = some (bh v' w) ∧ tX (ρ 0 0) (fun _ _ => 0) (mo ρ) (dLr ρ) (dPr ρ) (tmr ρ) v' ∧ tFr v v' := by
    intro k
    induction k with
    | zero =>
      intro fuel p v hf hp hr h48 h49 h51 h52 h53 h50
      obtain ⟨m, rfl⟩ : ∃ m, fuel = m + 1 := ⟨fuel - 1, by omega⟩
      refine ⟨v, ?_, ⟨h0, h48, fun q j hq hj => ⟨h49 _ (by omega), Nat.zero_le 3⟩, fun q j hq hj => ⟨h50 q j (by omega) hj, mo_le hk hj⟩, fun l hl => ⟨h51 l hl, duL_le hk l⟩, fun q hq => ⟨h52 q (by omega), duP_le hk q⟩, fun q hq => ⟨h53 q (by omega), tmr_le hk q⟩⟩, fun _ _ => rfl⟩
      show f_Tables_load_57b (f_Tables_load_57 m) 48 3 (nI p) (bh v w) = _
      unfold f_Tables_load_57b
      rw [show (3 : Int32) = nI 3 from rfl, if_pos ((nI_leI (by omega) (by omega)).mpr (by omega))]
    | succ k ih =>
      intro fuel p v hf hp hr h48 h49 h51 h52 h53 h50
      obtain ⟨m, rfl⟩ : ∃ m, fuel = m + 1 := ⟨fuel - 1, by omega⟩
      have er : f_Sightings_sumDue 16 (0 : Int32) (nI p) (bh v w) = some (dI (du ρ 0 p (ρ 0 6)), bh v w) := T_sumDueX (w := w) (kd := 0) hr hk (by decide) (by omega)
      have nx : ∀ (x b3 : Int32) (t : Nat), x = dI (dPr ρ p) → t = tmr ρ p → b3 = (if p < ρ 0 1 then 1 else 0) → ∃ v', f_Tables_load_114 (f_Tables_load_57 m) FU 48 3 (nI p) b3 0 (bh (u2 (u2 v 52 p x) 53 p (nI t)) w) = some (bh v' w) ∧ tX (ρ 0 0) (fun _ _ => 0) (mo ρ) (dLr ρ) (dPr ρ) (tmr ρ) v' ∧ tFr v v' := by
        intro x b3 t ex et eb
        obtain ⟨v1, e1, g1, g2, g3⟩ := T_ld114X (w := w) hk (f_Tables_load_57 m) (show p < 3 by omega) (ρ 0 0) FU 0 (u2 (u2 v 52 p x) 53 p (nI t)) (by unfold FU; omega) (by omega) (hr.frame (fun q _ _ => (u2_o (by omega)).trans (u2_o (by omega)))) (by rw [u2_o (by decide), u2_o (by decide)]; exact h48) (fun j h => by omega)
        rw [← eb] at e1
        have e1 : f_Tables_load_114 (f_Tables_load_57 m) FU 48 3 (nI p) b3 0 (bh (u2 (u2 v 52 p x) 53 p (nI t)) w) = f_Tables_load_57 m 48 3 (nI (p + 1)) (bh v1 w) := e1
        have fr : ∀ q, q ≠ 50 → q ≠ 52 → q ≠ 53 → v1 q = v q := fun q a b c => (g1 q a).trans ((u2_o c).trans (u2_o b))
        obtain ⟨v2, e2, t2, f2⟩ := ih m (p + 1) v1 (by omega) (by omega) (hr.frame (fun q _ _ => fr q (by omega) (by omega) (by omega))) (by rw [fr 48 (by decide) (by decide) (by decide)]; exact h48) (fun i hi => by rw [fr 49 (by decide) (by decide) (by decide)]; exact h49 i hi) (fun l hl => by rw [fr 51 (by decide) (by decide) (by decide)]; exact h51 l hl) (fun q hq => by
          rw [g1 52 (by decide), u2_o (by decide)]
          by_cases z : q = p
          · rw [z, u2_at]; exact ex
          · rw [u2_n z]; exact h52 q (by omega)) (fun q hq => by
          rw [g1 53 (by decide)]
          by_cases z : q = p
          · rw [z, u2_at, et]
          · rw [u2_n z, u2_o (by decide)]; exact h53 q (by omega)) (fun q j hq hj => by
          by_cases z : q = p
          · rw [z]; exact g2 j hj
          · rw [g3 _ (by omega), u2_o (by decide), u2_o (by decide)]; exact h50 q j (by omega) hj)
        exact ⟨v2, e1.trans e2, t2, fun q hq => (f2 q hq).trans (fr q (by omega) (by omega) (by omega))⟩
      show ∃ v', f_Tables_load_57b (f_Tables_load_57 m) 48 3 (nI p) (bh v w) = _ ∧ _
      unfold f_Tables_load_57b f_Tables_load_90 f_Tables_load_110
      rw [show (3 : Int32) = nI 3 from rfl, if_neg (fun q => by have := (nI_leI (by omega) (by omega)).mp q; omega)]
      simp only [hB0, hS0, bd1_q]
      rw [C_hasOne rl3 hr h1, bd2_s]
      by_cases c : 0 ≤ (nI p).toInt ∧ (nI p).toInt < (ρ 0 1 : Int)
      · have hpp : p < ρ 0 1 := by rw [nI_toInt (by omega)] at c; omega
        have c9 : u2 v 52 p (dI (du ρ 0 p (ρ 0 6))) 9 p = nI (ρ 6 p) := (congrFun (u2_o (by decide)) p).trans (hr.2.2.1 p hpp).1
        rw [if_pos c]
        simp only [hB0, hS0, bd1_q]
        rw [if_neg (by decide), er, bd2_s]
        simp only [hB0, hS0, bd1_q]
        rw [wr_nI (by omega) (by decide), bd1_s]
        simp only [hB0, hS0, bd1_q]
        rw [if_neg (by decide), rd_nI (by omega) (by decide), bd1_s, c9, wr_nI (by omega) (by decide), bd1_s]
        exact nx _ 1 (ρ 6 p) (by unfold dPr; rw [if_pos hpp]) (by unfold tmr; rw [if_pos hpp]) (if_pos hpp).symm
      · have hpp : ¬ p < ρ 0 1 := by rw [nI_toInt (by omega)] at c; omega
        rw [if_neg c]
        simp only [hB0, hS0, bd1_q]
        rw [if_pos trivial, wr_nI (by omega) (by decide), bd1_s]
        simp only [hB0, hS0, bd1_q]
        rw [if_pos trivial, wr_nI (by omega) (by decide), bd1_s]
        exact nx (-1) 0 0 (by unfold dPr; rw [if_neg hpp]; rfl) (by unfold tmr; rw [if_neg hpp]) (if_neg hpp).symm
  have k26 : ∀ (k fuel l : Nat) (v : Nat → Nat → Int32), k < fuel → l + k = ρ 0 0 → CR 3 ρ v → v 48 0 = nI (ρ 0 0) → (∀ i, i < 15 → v 49 i = nI 0) → (∀ j, j < l → v 51 j = dI (dLr ρ j)) → ∃ v', f_Tables_load_26 fuel 48 3 (nI l) (bh v w) = some (bh v' w) ∧ tX (ρ 0 0) (fun _ _ => 0) (mo ρ) (dLr ρ) (dPr ρ) (tmr ρ) v' ∧ tFr v v' := by
    intro k
    induction k with
    | zero =>
      intro fuel l v hf hl hr h48 h49 h51
      obtain ⟨m, rfl⟩ : ∃ m, fuel = m + 1 := ⟨fuel - 1, by omega⟩
      obtain ⟨v', e1, e2⟩ := k57 3 FU 0 v (by decide) (by decide) hr h48 h49 (fun j hj => h51 j (by omega)) (fun j hj => by omega) (fun j hj => by omega) (fun q j hq => by omega)
      have e1 : f_Tables_load_57 FU 48 3 0 (bh v w) = some (bh v' w) := e1
      refine ⟨v', ?_, e2⟩
      show f_Tables_load_26b (f_Tables_load_26 m) 48 3 (nI l) (bh v w) = _
      unfold f_Tables_load_26b
      simp only [hB0, bd1_q]
      rw [h48, if_pos ((nI_leI (by omega) (by omega)).mpr (by omega))]
      exact e1
    | succ k ih =>
      intro fuel l v hf hl hr h48 h49 h51
      obtain ⟨m, rfl⟩ : ∃ m, fuel = m + 1 := ⟨fuel - 1, by omega⟩
      have er : f_Sightings_sumDue 16 (1 : Int32) (nI l) (bh v w) = some (dI (dLr ρ l), bh v w) := T_sumDueX (w := w) (kd := 1) hr hk (by decide) (by omega)
      obtain ⟨v', e1, e2, e3⟩ := ih m (l + 1) (u2 v 51 l (dI (dLr ρ l))) (by omega) (by omega) (hr.frame (fun q _ _ => u2_o (by omega))) (by rw [u2_o (by decide)]; exact h48) (fun i hi => by rw [u2_o (by decide)]; exact h49 i hi) (fun j hj => by
        by_cases z : j = l
        · rw [z, u2_at]
        · rw [u2_n z]; exact h51 j (by omega))
      refine ⟨v', ?_, e2, fun q hq => (e3 q hq).trans (u2_o (by omega))⟩
      show f_Tables_load_26b (f_Tables_load_26 m) 48 3 (nI l) (bh v w) = _
      unfold f_Tables_load_26b
      simp only [hB0, hS0, bd1_q]
      rw [h48, if_neg (fun q => by have := (nI_leI (by omega) (by omega)).mp q; omega), er, bd2_s]
      simp only [hB0, hS0, bd1_q]
      rw [wr_nI (by omega) (by decide), bd1_s, nI_1]
      exact e1
  unfold f_Tables_load f_Tables_load_0
  simp only [hB0, hS0, bd1_q]
  obtain ⟨v1, e1, g1, h1', -⟩ := fill_I (q := 49) (n := 15) (x := 0) (by omega) (fun _ _ => rfl) (fun v w i x => sI_bh rfl i x) (u2 v 48 0 (v 3 0)) w
  rw [e1]
  simp only [hB0, hS0, bd1_q]
  obtain ⟨v2, e2, g2, h2', -⟩ := fill_I (q := 50) (n := 15) (x := 0) (by omega) (fun _ _ => rfl) (fun v w i x => sI_bh rfl i x) v1 w
  rw [e2, bd1_s]
  have fr : ∀ q, q ≠ 48 → q ≠ 49 → q ≠ 50 → v2 q = v q := fun q a b c => (g2 q c).trans ((g1 q b).trans (u2_o a))
  obtain ⟨v3, e3, t3, f3⟩ := k26 (ρ 0 0) FU 0 v2 (by unfold FU; omega) (by omega) (hr.frame (fun p _ _ => fr p (by omega) (by omega) (by omega))) (by rw [g2 48 (by decide), g1 48 (by decide), u2_at]; exact hr.1.1) (fun i hi => by rw [g2 49 (by decide)]; exact h1' i hi) (fun j hj => by omega)
  have e3 : f_Tables_load_26 FU 48 3 0 (bh v2 w) = some (bh v3 w) := e3
  exact ⟨v3, e3, t3, fun q hq => (f3 q hq).trans (fr q (by omega) (by omega) (by omega))⟩
/-! the same number -/
theorem cv_congrK {K K' : Nat → Nat → Nat → Bool} {W : Nat → Nat → Nat → Nat} (h : ∀ x y z, x < 4 → y < 4 → z < 4 → K x y z = K' x y z) : cvo K W = cvo K' W := by
  funext a b c
  refine S3_congr (fun x y z hx hy hz => ?_)
  rw [h x y z hx hy hz]
theorem cvs_congrK {K K' : Nat → Nat → Nat → Nat → Bool} {W : Nat → Nat → Nat → Nat} : ∀ n, (∀ l, l < n → ∀ x y z, x < 4 → y < 4 → z < 4 → K l x y z = K' l x y z) → cvs K W n = cvs K' W n
  | 0, _ => rfl
  | n + 1, h => by
    unfold cvs
    rw [cvs_congrK n (fun l hl => h l (by omega)), cv_congrK (h n (by omega))]
theorem bTm_le {p n : Nat} (h : bTm ρ p n = true) : n ≤ tmr ρ p := by
  unfold bTm at h
  unfold tmr
  by_cases c : p < ρ 0 1
  · rw [if_pos c, Bool.and_eq_true, decide_eq_true_iff] at h
    rw [if_pos c]
    exact h.1
  · rw [if_neg c, decide_eq_true_iff] at h
    omega
theorem bTm_iff {p n : Nat} (hn : n ≤ 20) (ht : n ≤ tmr ρ p) : bTm ρ p n = true ↔ dPr ρ p = 0 ∨ dPr ρ p = n + 1 := by
  unfold bTm dPr
  unfold tmr at ht
  by_cases c : p < ρ 0 1
  · rw [if_pos c] at ht
    rw [if_pos c, if_pos c, Bool.and_eq_true, decide_eq_true_iff, so_du hn]
    exact ⟨fun q => q.2, fun q => ⟨ht, q⟩⟩
  · rw [if_neg c] at ht
    rw [if_neg c, if_neg c, decide_eq_true_iff]
    omega
theorem tot_eq (hk : ROK ρ) (b2 b3 b4 : Int32) {lo hi : Nat → Nat → Nat} (hK : ∀ l, l < ρ 0 0 → ∀ x y z, x < 4 → y < 4 → z < 4 → mK ρ b2 b3 b4 l x y z = cK lo hi (dLr ρ) l x y z) : mTot ρ b2 b3 b4 = cAll (ρ 0 0) lo hi (dLr ρ) (dPr ρ) (tmr ρ) := by
  have eW : cvs (mK ρ b2 b3 b4) (pr3 e0 e0 e0) (ρ 0 0) = cvB (bF (dLr ρ)) (cK lo hi (dLr ρ)) (pr3 (aF lo hi (dLr ρ) 0 (ρ 0 0)) (aF lo hi (dLr ρ) 1 (ρ 0 0)) (aF lo hi (dLr ρ) 2 (ρ 0 0))) (ρ 0 0) := by
    rw [cvs_congrK (ρ 0 0) hK]
    refine cvs_two (bF (dLr ρ)) (cK lo hi (dLr ρ)) (kB lo hi) (fun _ => e0) (fun n hn x y z => ?_) (ρ 0 0)
    have d0 : dLr ρ n = 0 := Classical.byContradiction (fun q => by
      unfold bF at hn
      rw [decide_eq_true q] at hn
      cases hn)
    unfold cK
    rw [d0, decide_eq_true (rfl : (0 : Nat) = 0), Bool.true_or, Bool.and_true]
  have t0 := tmr_le hk 0
  have t1 := tmr_le hk 1
  have t2 := tmr_le hk 2
  unfold cAll mTot cTot
  rw [← eW]
  have grid : sumN (fun k => mW ρ b2 b3 b4 (k / 36) (k / 6 % 6) (k % 6)) 216 = S3 6 (fun a b c => mW ρ b2 b3 b4 a b c) := by
    have e1 := sumN_grid (fun a r => mW ρ b2 b3 b4 a (r / 6) (r % 6)) (m := 36) (by decide) 6
    have e2 : ∀ a, sumN (fun r => mW ρ b2 b3 b4 a (r / 6) (r % 6)) 36 = sumN (fun b => sumN (fun c => mW ρ b2 b3 b4 a b c) 6) 6 := fun a => sumN_grid (fun b c => mW ρ b2 b3 b4 a b c) (m := 6) (by decide) 6
    refine Eq.trans (sumN_congr (fun k _ => ?_)) (e1.trans (sumN_congr (fun a _ => e2 a)))
    show mW ρ b2 b3 b4 (k / 36) (k / 6 % 6) (k % 6) = mW ρ b2 b3 b4 (k / 36) (k % 36 / 6) (k % 36 % 6)
    rw [show k % 36 / 6 = k / 6 % 6 by omega, show k % 36 % 6 = k % 6 by omega]
  rw [grid]
  refine S3_box (by omega) (by omega) (by omega) (fun a b c ha hb hc => ?_) (fun a b c h => ?_)
  · unfold mW uW
    rw [ite_iff (show (bTm ρ 0 a && bTm ρ 1 b && bTm ρ 2 c) = true ↔ (dPr ρ 0 = 0 ∨ dPr ρ 0 = a + 1) ∧ (dPr ρ 1 = 0 ∨ dPr ρ 1 = b + 1) ∧ (dPr ρ 2 = 0 ∨ dPr ρ 2 = c + 1) by rw [Bool.and_eq_true, Bool.and_eq_true, bTm_iff (by omega) ha, bTm_iff (by omega) hb, bTm_iff (by omega) hc, and_assoc])]
  · refine if_neg (fun q => h ?_)
    rw [Bool.and_eq_true, Bool.and_eq_true] at q
    exact ⟨bTm_le q.1.1, bTm_le q.1.2, bTm_le q.2⟩
theorem mK_iff {b2 b3 b4 : Int32} {l x y z : Nat} (hx : x < 4) (hy : y < 4) (hz : z < 4) : mK ρ b2 b3 b4 l x y z = true ↔ ((x ≤ mo ρ 0 l ∧ bAs b2 b3 b4 0 l x = true) ∧ (y ≤ mo ρ 1 l ∧ bAs b2 b3 b4 1 l y = true) ∧ (z ≤ mo ρ 2 l ∧ bAs b2 b3 b4 2 l z = true)) ∧ (dLr ρ l = 0 ∨ dLr ρ l = x + y + z + 1) := by
  unfold mK kk dLr
  rw [Bool.and_eq_true, decide_eq_true_iff, Bool.and_eq_true, Bool.and_eq_true, Bool.and_eq_true, so_du (show x + y + z ≤ 20 by omega)]
  constructor
  · rintro ⟨⟨a, b, c⟩, ⟨⟨d, e⟩, f⟩, g⟩
    exact ⟨⟨⟨a, e⟩, ⟨b, f⟩, ⟨c, g⟩⟩, d⟩
  · rintro ⟨⟨⟨a, e⟩, ⟨b, f⟩, ⟨c, g⟩⟩, d⟩
    exact ⟨⟨a, b, c⟩, ⟨⟨d, e⟩, f⟩, g⟩
theorem books_eq (hk : ROK ρ) : mTot ρ (-4) (-4) 0 = cAll (ρ 0 0) (fun _ _ => 0) (mo ρ) (dLr ρ) (dPr ρ) (tmr ρ) := by
  refine tot_eq hk _ _ _ (fun l _ x y z hx hy hz => ?_)
  have as : ∀ p x, p < 3 → bAs (-4) (-4) 0 p l x = true := fun p x hp => by
    unfold bAs
    rw [decide_eq_true (nI_n4 (show p < 2 ^ 31 by omega)), Bool.true_or, Bool.true_or]
  rw [Bool.eq_iff_iff, mK_iff hx hy hz, cK_iff, as 0 x (by decide), as 1 y (by decide), as 2 z (by decide)]
  constructor
  · rintro ⟨⟨a, b, c⟩, d⟩
    exact ⟨⟨⟨Nat.zero_le _, a.1⟩, ⟨Nat.zero_le _, b.1⟩, ⟨Nat.zero_le _, c.1⟩⟩, d⟩
  · rintro ⟨⟨a, b, c⟩, d⟩
    exact ⟨⟨⟨a.2, rfl⟩, ⟨b.2, rfl⟩, ⟨c.2, rfl⟩⟩, d⟩
end
section
variable {S : Sg} {v : Nat → Nat → Int32} {w : Nat → Nat → Int64}
theorem E_books (hs : SOK S) (hc : CI S v) (hm : MI S v) : EqT S v w (f_Q_books 0) (f_M_books 100) := by
  have hk := hs.1
  obtain ⟨v1, e1, t1, f1⟩ := T_loadX (w := w) hc.1 hk
  obtain ⟨w1, e2⟩ := T_fittingX t1 w
  obtain ⟨w2, e3⟩ := M_tablesByX (hm.1.fr1 (fun q h => f1 q (by omega))) hk (-4) (-4) 0 w1
  rw [books_eq hk] at e3
  refine EqT.pl (r := nL (cAll (S.1 0 0) (fun _ _ => 0) (mo S.1) (dLr S.1) (dPr S.1) (tmr S.1))) (v1 := v1) (v2 := v1) (w1 := w1) (w2 := w2) hs hc hm ?_ (fun q h => f1 q (by omega)) (by rw [f1 43 (by omega)]; exact hc.2.2.2.2.2.2.2) ?_ (fun _ _ => rfl)
  · unfold f_Q_books f_Q_books_0
    simp only [hB0, bd1_q]
    rw [e1]
    simp only [hB0, bd1_q]
    rw [e2, bd2_s]
  · unfold f_M_books f_M_books_0
    simp only [hJ0, bd1_q]
    rw [e3, bd2_s]
end
end
/-! 8zt8.entry.lean.txt -/
section
/-! entry: the first that fits, from below and from above -/
section
variable {ρ : Rho} {v : Nat → Nat → Int32} {w : Nat → Nat → Int64}
def eP (ρ : Rho) (p l y : Nat) : Prop := ¬ lg_cmp (nL (mTot ρ (nI p) (nI l) (nI y))) (0 : Int64) ≤ 0
theorem bAs_iff {p l y q j x : Nat} (hp : p < 3) (hl : l < 5) (hy : y < 4) (hq : q < 3) (hj : j < 5) (hx : x < 4) : bAs (nI p) (nI l) (nI y) q j x = true ↔ (¬ q = p ∨ ¬ j = l) ∨ x = y := by
  unfold bAs
  rw [Bool.or_eq_true, Bool.or_eq_true, decide_eq_true_iff, decide_eq_true_iff, decide_eq_true_iff, nI_eqI (by omega) (by omega), nI_eqI (by omega) (by omega), nI_eqI (by omega) (by omega)]
theorem lohi_iff (hk : ROK ρ) {p l y q j x : Nat} (hp : p < 3) (hl : l < 5) (hy : y ≤ mo ρ p l) (hy4 : y < 4) (hq : q < 3) (hj : j < 5) (hx : x < 4) : (x ≤ mo ρ q j ∧ bAs (nI p) (nI l) (nI y) q j x = true) ↔ (loM p l y q j ≤ x ∧ x ≤ hiM ρ p l y q j) := by
  rw [bAs_iff hp hl hy4 hq hj hx]
  unfold loM hiM
  by_cases c : q = p ∧ j = l
  · rw [if_pos c, if_pos c, c.1, c.2]
    omega
  · rw [if_neg c, if_neg c]
    omega
theorem entTot_eq (hk : ROK ρ) {p l y : Nat} (hp : p < 3) (hl : l < ρ 0 0) (hy : y ≤ mo ρ p l) : mTot ρ (nI p) (nI l) (nI y) = cAll (ρ 0 0) (loM p l y) (hiM ρ p l y) (dLr ρ) (dPr ρ) (tmr ρ) := by
  have h0 := hk.1.1
  have m3 := mo_le hk (p := p) hl
  refine tot_eq hk _ _ _ (fun j hj x y' z hx hy' hz => ?_)
  rw [Bool.eq_iff_iff, mK_iff hx hy' hz, cK_iff, lohi_iff hk hp (by omega) hy (by omega) (by decide) (by omega) hx, lohi_iff hk hp (by omega) hy (by omega) (by decide) (by omega) hy', lohi_iff hk hp (by omega) hy (by omega) (by decide) (by omega) hz]
theorem cvo_none {K : Nat → Nat → Nat → Bool} {W : Nat → Nat → Nat → Nat} (h : ∀ x y z, x < 4 → y < 4 → z < 4 → K x y z = false) (a b c : Nat) : cvo K W a b c = 0 := by
  refine sumN_none (fun x hx => sumN_none (fun y hy => sumN_none (fun z hz => if_neg (fun q => ?_))))
  rw [h x y z hx hy hz] at q
  cases q.1
theorem cvo_zero {K : Nat → Nat → Nat → Bool} {W : Nat → Nat → Nat → Nat} (h : ∀ a b c, W a b c = 0) (a b c : Nat) : cvo K W a b c = 0 := by
  refine sumN_none (fun x _ => sumN_none (fun y _ => sumN_none (fun z _ => ?_)))
  show (if K x y z = true ∧ x ≤ a ∧ y ≤ b ∧ z ≤ c then W (a - x) (b - y) (c - z) else 0) = 0
  split
  · exact h _ _ _
  · rfl
theorem cvs_zero {K : Nat → Nat → Nat → Nat → Bool} {W : Nat → Nat → Nat → Nat} {l : Nat} (h : ∀ x y z, x < 4 → y < 4 → z < 4 → K l x y z = false) : ∀ n, l < n → ∀ a b c, cvs K W n a b c = 0
  | 0, q, _, _, _ => (Nat.not_lt_zero _ q).elim
  | n + 1, q, a, b, c => by
    show cvo (K n) (cvs K W n) a b c = 0
    by_cases e : l = n
    · rw [← e]; exact cvo_none h a b c
    · exact cvo_zero (cvs_zero h n (by omega)) a b c
theorem entTot_no (hk : ROK ρ) {p l y : Nat} (hp : p < 3) (hl : l < ρ 0 0) (hy : mo ρ p l < y) (hy4 : y < 4) : ¬ eP ρ p l y := by
  have h0 := hk.1.1
  have z : mTot ρ (nI p) (nI l) (nI y) = 0 := by
    refine sumN_none (fun k _ => ?_)
    show mW ρ (nI p) (nI l) (nI y) (k / 36) (k / 6 % 6) (k % 6) = 0
    unfold mW
    rw [cvs_zero (l := l) (fun x x' z hx hy' hz => ?_) (ρ 0 0) hl]
    · split <;> rfl
    · refine Bool.eq_false_iff.mpr (fun q => ?_)
      rw [mK_iff hx hy' hz, bAs_iff hp (by omega) hy4 (by decide) (by omega) hx, bAs_iff hp (by omega) hy4 (by decide) (by omega) hy', bAs_iff hp (by omega) hy4 (by decide) (by omega) hz] at q
      obtain ⟨⟨a, b, c⟩, -⟩ := q
      match p, hp with
      | 0, _ => omega
      | 1, _ => omega
      | 2, _ => omega
  unfold eP
  rw [z]
  intro q
  exact q (by decide)
def yI (x : Int32) (T i : Nat) : Nat := if x = 0 then i else T - i
theorem T_firstX (hk : ROK ρ) {p l : Nat} (hp : p < 3) (hl : l < ρ 0 0) (x : Int32) (h : tX (ρ 0 0) (fun _ _ => 0) (mo ρ) (dLr ρ) (dPr ρ) (tmr ρ) v) (w : Nat → Nat → Int64) : ∃ r v' w', f_Tables_firstThatFits 48 (nI p) (nI l) x (bh v w) = some (r, bh v' w') ∧ tFr v v' ∧ ((∃ i, i ≤ mo ρ p l ∧ r = nI (yI x (mo ρ p l) i) ∧ eP ρ p l (yI x (mo ρ p l) i) ∧ ∀ i', i' < i → ¬ eP ρ p l (yI x (mo ρ p l) i')) ∨ (r = -4 ∧ ∀ i, i ≤ mo ρ p l → ¬ eP ρ p l (yI x (mo ρ p l) i))) := by
  have h5 := h.1
  have m3 := mo_le hk (p := p) hl
  have eT := (h.2.2.2.1 p l hp hl).1
  have key : ∀ (k fuel i : Nat) (v : Nat → Nat → Int32) (w : Nat → Nat → Int64), k < fuel → i + k = mo ρ p l + 1 → (∃ y0 y1, y0 ≤ 3 ∧ y1 ≤ 3 ∧ tX (ρ 0 0) (loM p l y0) (hiM ρ p l y1) (dLr ρ) (dPr ρ) (tmr ρ) v) → (∀ i', i' < i → ¬ eP ρ p l (yI x (mo ρ p l) i')) → ∃ r v' w', f_Tables_firstThatFits_19 fuel 48 x (nI (5 * p + l)) (nI (mo ρ p l)) (nI i) (bh v w) = some (r, bh v' w') ∧ tFr v v' ∧ ((∃ i, i ≤ mo ρ p l ∧ r = nI (yI x (mo ρ p l) i) ∧ eP ρ p l (yI x (mo ρ p l) i) ∧ ∀ i', i' < i → ¬ eP ρ p l (yI x (mo ρ p l) i')) ∨ (r = -4 ∧ ∀ i, i ≤ mo ρ p l → ¬ eP ρ p l (yI x (mo ρ p l) i))) := by
    intro k
    induction k with
    | zero =>
      intro fuel i v w hf hi ht hn
      obtain ⟨m, rfl⟩ : ∃ m, fuel = m + 1 := ⟨fuel - 1, by omega⟩
      refine ⟨-4, v, w, ?_, fun _ _ => rfl, Or.inr ⟨rfl, fun i' q => hn i' (by omega)⟩⟩
      show f_Tables_firstThatFits_19b (f_Tables_firstThatFits_19 m) 48 x (nI (5 * p + l)) (nI (mo ρ p l)) (nI i) (bh v w) = _
      unfold f_Tables_firstThatFits_19b
      rw [if_pos (nI_lt (by omega) (by omega))]
    | succ k ih =>
      intro fuel i v w hf hi ht hn
      obtain ⟨m, rfl⟩ : ∃ m, fuel = m + 1 := ⟨fuel - 1, by omega⟩
      obtain ⟨y0, y1, -, -, a1, a2, a3, a4, a5, a6, a7⟩ := ht
      have go : ∀ y : Nat, y = yI x (mo ρ p l) i → ∃ r v' w', f_Tables_firstThatFits_40 (f_Tables_firstThatFits_19 m) 48 x (nI (5 * p + l)) (nI (mo ρ p l)) (nI i) (nI y) (bh v w) = some (r, bh v' w') ∧ tFr v v' ∧ ((∃ i, i ≤ mo ρ p l ∧ r = nI (yI x (mo ρ p l) i) ∧ eP ρ p l (yI x (mo ρ p l) i) ∧ ∀ i', i' < i → ¬ eP ρ p l (yI x (mo ρ p l) i')) ∨ (r = -4 ∧ ∀ i, i ≤ mo ρ p l → ¬ eP ρ p l (yI x (mo ρ p l) i))) := by
        intro y ey
        have hy : y ≤ mo ρ p l := by rw [ey]; unfold yI; split <;> omega
        have t1 : tX (ρ 0 0) (loM p l y) (hiM ρ p l y) (dLr ρ) (dPr ρ) (tmr ρ) (u2 (u2 v 49 (5 * p + l) (nI y)) 50 (5 * p + l) (nI y)) := by
          refine ⟨a1, ?_, fun q j hq hj => ?_, fun q j hq hj => ?_, ?_, ?_, ?_⟩
          · rw [u2_o (by decide), u2_o (by decide)]; exact a2
          · rw [u2_o (by decide)]
            have b := a3 q j hq hj
            unfold loM at b ⊢
            by_cases z : q = p ∧ j = l
            · rw [if_pos z, z.1, z.2, u2_at]; exact ⟨rfl, by omega⟩
            · rw [if_neg z] at b ⊢
              rw [u2_n (by omega)]; exact b
          · have b := a4 q j hq hj
            unfold hiM at b ⊢
            by_cases z : q = p ∧ j = l
            · rw [if_pos z, z.1, z.2, u2_at]; exact ⟨rfl, by omega⟩
            · rw [if_neg z] at b ⊢
              rw [u2_n (by omega), u2_o (by decide)]; exact b
          · rw [u2_o (by decide), u2_o (by decide)]; exact a5
          · rw [u2_o (by decide), u2_o (by decide)]; exact a6
          · rw [u2_o (by decide), u2_o (by decide)]; exact a7
        obtain ⟨w2, e2⟩ := T_fittingX t1 w
        rw [← entTot_eq hk hp hl hy] at e2
        have ff : tFr v (u2 (u2 v 49 (5 * p + l) (nI y)) 50 (5 * p + l) (nI y)) := fun q hq => (u2_o (by omega)).trans (u2_o (by omega))
        unfold f_Tables_firstThatFits_40
        simp only [hB0, bd1_q]
        rw [wr_nI (by omega) (by decide), bd1_s]
        simp only [hB0, bd1_q]
        rw [wr_nI (by omega) (by decide), bd1_s]
        simp only [hB0, bd1_q]
        rw [e2, bd2_s, nI_1]
        by_cases c : lg_cmp (nL (mTot ρ (nI p) (nI l) (nI y))) (0 : Int64) ≤ 0
        · rw [if_pos c]
          obtain ⟨r3, v3, w3, e3, f3, g3⟩ := ih m (i + 1) _ w2 (by omega) (by omega) ⟨y, y, by omega, by omega, t1⟩ (fun i' q => by
            by_cases z : i' = i
            · rw [z, ← ey]; exact fun q => q c
            · exact hn i' (by omega))
          exact ⟨r3, v3, w3, e3, fun q hq => (f3 q hq).trans (ff q hq), g3⟩
        · rw [if_neg c]
          exact ⟨_, _, w2, rfl, ff, Or.inl ⟨i, by omega, by rw [ey], by rw [← ey]; exact c, hn⟩⟩
      show ∃ r v' w', f_Tables_firstThatFits_19b (f_Tables_firstThatFits_19 m) 48 x (nI (5 * p + l)) (nI (mo ρ p l)) (nI i) (bh v w) = some (r, bh v' w') ∧ _
      unfold f_Tables_firstThatFits_19b
      rw [if_neg (nI_nlt (by omega) (by omega)), pk_sub (by omega)]
      by_cases z : x = 0
      · rw [if_pos z]; exact go i (by unfold yI; rw [if_pos z])
      · rw [if_neg z]; exact go (mo ρ p l - i) (by unfold yI; rw [if_neg z])
  unfold f_Tables_firstThatFits f_Tables_firstThatFits_0
  simp only [hB0, bd1_q]
  rw [show (5 : Int32) = nI 5 from rfl, pk_mul, nI_add, Nat.mul_comm p 5, rd_nI (by omega) (by decide), bd1_s, eT, show (0 : Int32) = nI 0 from rfl]
  refine key (mo ρ p l + 1) FU 0 v w (by unfold FU; omega) (by omega) ⟨0, mo ρ p l, by omega, m3, ?_⟩ (fun i' q => by omega)
  have e1 : loM p l 0 = fun _ _ => 0 := by
    funext q j
    unfold loM
    split <;> rfl
  have e2 : hiM ρ p l (mo ρ p l) = mo ρ := by
    funext q j
    unfold hiM
    split
    · next z => rw [z.1, z.2]
    · rfl
  rw [e1, e2]
  exact h
end
section
variable {ρ : Rho} {v : Nat → Nat → Int32} {w : Nat → Nat → Int64}
def feI (P : Nat → Prop) (k : Nat) (x : Int32) : Prop := (x = -4 ∧ ∀ u, u < k → ¬ P u) ∨ ∃ u, u < k ∧ x = nI u ∧ P u ∧ ∀ u', u' < u → ¬ P u'
def laI (P : Nat → Prop) (k : Nat) (x : Int32) : Prop := (x = -4 ∧ ∀ u, u < k → ¬ P u) ∨ ∃ u, u < k ∧ x = nI u ∧ P u ∧ ∀ u', u < u' → u' < k → ¬ P u'
theorem feI_no {P : Nat → Prop} {k : Nat} {x : Int32} (h : feI P k x) (n : ¬ P k) : feI P (k + 1) x := by
  rcases h with ⟨a, b⟩ | ⟨u, a, b, c, d⟩
  · refine Or.inl ⟨a, fun u q => ?_⟩
    by_cases z : u = k
    · rw [z]; exact n
    · exact b u (by omega)
  · exact Or.inr ⟨u, by omega, b, c, d⟩
theorem laI_no {P : Nat → Prop} {k : Nat} {x : Int32} (h : laI P k x) (n : ¬ P k) : laI P (k + 1) x := by
  rcases h with ⟨a, b⟩ | ⟨u, a, b, c, d⟩
  · refine Or.inl ⟨a, fun u q => ?_⟩
    by_cases z : u = k
    · rw [z]; exact n
    · exact b u (by omega)
  · refine Or.inr ⟨u, by omega, b, c, fun u' q1 q2 => ?_⟩
    by_cases z : u' = k
    · rw [z]; exact n
    · exact d u' q1 (by omega)
theorem laI_yes {P : Nat → Prop} {k : Nat} (n : P k) : laI P (k + 1) (nI k) := Or.inr ⟨k, by omega, rfl, n, fun u' a b => by omega⟩
theorem feI_yes {P : Nat → Prop} {k : Nat} {x : Int32} (hk : k < 100) (h : feI P k x) (n : P k) : feI P (k + 1) (if x = -4 then nI k else x) := by
  rcases h with ⟨a, b⟩ | ⟨u, a, b, c, d⟩
  · rw [if_pos a]
    exact Or.inr ⟨k, by omega, rfl, n, b⟩
  · rw [if_neg (by rw [b]; exact nI_n4 (by omega))]
    exact Or.inr ⟨u, by omega, b, c, d⟩
theorem M_entryX (hr : MR ρ v) (hk : ROK ρ) {p l : Nat} (hp : p < 3) (hl : l < ρ 0 0) (c : Int32) (w : Nat → Nat → Int64) : ∃ x y w', f_M_entry_39 FU 100 (nI p) (nI l) c (-4) (-4) 0 (bh v w) = some (if c = 0 then x else y, bh v w') ∧ feI (eP ρ p l) 4 x ∧ laI (eP ρ p l) 4 y := by
  have key : ∀ (n fuel k : Nat) (x y : Int32) (w : Nat → Nat → Int64), n < fuel → k + n = 4 → feI (eP ρ p l) k x → laI (eP ρ p l) k y → ∃ x' y' w', f_M_entry_39 fuel 100 (nI p) (nI l) c x y (nI k) (bh v w) = some (if c = 0 then x' else y', bh v w') ∧ feI (eP ρ p l) 4 x' ∧ laI (eP ρ p l) 4 y' := by
    intro n
    induction n with
    | zero =>
      intro fuel k x y w hf hk2 hx hy
      obtain ⟨m, rfl⟩ : ∃ m, fuel = m + 1 := ⟨fuel - 1, by omega⟩
      have e4 : k = 4 := by omega
      rw [e4] at hx hy
      refine ⟨x, y, w, ?_, hx, hy⟩
      show f_M_entry_39b (f_M_entry_39 m) 100 (nI p) (nI l) c x y (nI k) (bh v w) = _
      unfold f_M_entry_39b
      rw [show (3 : Int32) = nI 3 from rfl, if_pos ((nI_ltI (by omega) (by omega)).mpr (by omega))]
      split <;> rfl
    | succ n ih =>
      intro fuel k x y w hf hk2 hx hy
      obtain ⟨m, rfl⟩ : ∃ m, fuel = m + 1 := ⟨fuel - 1, by omega⟩
      obtain ⟨w1, e⟩ := M_tablesByX hr hk (nI p) (nI l) (nI k) w
      show ∃ x' y' w', f_M_entry_39b (f_M_entry_39 m) 100 (nI p) (nI l) c x y (nI k) (bh v w) = some (if c = 0 then x' else y', bh v w') ∧ _
      unfold f_M_entry_39b f_M_entry_63 f_M_entry_82 f_M_entry_84 f_M_entry_98
      rw [show (3 : Int32) = nI 3 from rfl, if_neg (fun q => by have := (nI_ltI (by omega) (by omega)).mp q; omega)]
      simp only [hJ0, bd1_q]
      rw [e, bd2_s, nI_1]
      by_cases g : lg_cmp (nL (mTot ρ (nI p) (nI l) (nI k))) (0 : Int64) ≤ 0
      · rw [if_pos g]
        exact ih m (k + 1) x y w1 (by omega) (by omega) (feI_no hx (fun q => q g)) (laI_no hy (fun q => q g))
      · rw [if_neg g]
        have fx := feI_yes (by omega) hx g
        by_cases z : x = -4
        · rw [if_pos z] at fx
          have nx := ih m (k + 1) (nI k) (nI k) w1 (by omega) (by omega) fx (laI_yes g)
          simp only [z]
          exact nx
        · rw [if_neg z] at fx
          have nx := ih m (k + 1) x (nI k) w1 (by omega) (by omega) fx (laI_yes g)
          simp only [if_neg z]
          exact nx
  exact key 4 FU 0 (-4) (-4) w (by decide) (by decide) (Or.inl ⟨rfl, fun u q => by omega⟩) (Or.inl ⟨rfl, fun u q => by omega⟩)
end
end
/-! 8zt9.entry2.lean.txt -/
section
/-! entry answers alike -/
section
variable {S : Sg} {v : Nat → Nat → Int32} {w : Nat → Nat → Int64}
theorem E_entry (x y z : Int32) (hs : SOK S) (hc : CI S v) (hm : MI S v) : EqT S v w (f_Q_entry 0 x y z) (f_M_entry 100 x y z) := by
  have hk := hs.1
  have h0 := hk.1.1
  have h1 := hk.1.2.1
  have bad : ∀ h : mH, f_Q_entry_21 h = some (-1, h) := fun h => rfl
  have mb : ∀ (v' : Nat → Nat → Int32) (w' : Nat → Nat → Int64), MR S.1 v' → f_M_entry 100 x y z (bh v' w') = if ((0 ≤ x.toInt ∧ x.toInt < (S.1 0 1 : Int)) ∧ (0 ≤ y.toInt ∧ y.toInt < (S.1 0 0 : Int))) ∧ ((0 : Int32).toInt ≤ z.toInt ∧ z.toInt ≤ (1 : Int32).toInt) then f_M_entry_39 FU 100 x y z (-4) (-4) 0 (bh v' w') else some (-1, bh v' w') := by
    intro v' w' hr
    unfold f_M_entry f_M_entry_0 f_M_entry_26
    simp only [hJ0, bd1_q]
    rw [M_isOne hr.1 h1, bd2_s]
    by_cases c1 : 0 ≤ x.toInt ∧ x.toInt < (S.1 0 1 : Int)
    · rw [if_pos c1, if_neg (by decide)]
      simp only [hJ0, bd1_q]
      rw [M_isLaw hr.1 h0, bd2_s]
      by_cases c2 : 0 ≤ y.toInt ∧ y.toInt < (S.1 0 0 : Int)
      · rw [if_pos c2, if_neg (by decide), M_in, bd2_s]
        by_cases c3 : (0 : Int32).toInt ≤ z.toInt ∧ z.toInt ≤ (1 : Int32).toInt
        · have c3' : (0 : Int64) ≤ z.toInt64 ∧ z.toInt64 ≤ (1 : Int64) := by
            rw [Int64.le_iff_toInt_le, Int64.le_iff_toInt_le, Int32.toInt_toInt64]
            exact c3
          rw [if_pos c3', if_neg (by decide), if_pos ⟨⟨c1, c2⟩, c3⟩]
        · have c3' : ¬ ((0 : Int64) ≤ z.toInt64 ∧ z.toInt64 ≤ (1 : Int64)) := by
            rw [Int64.le_iff_toInt_le, Int64.le_iff_toInt_le, Int32.toInt_toInt64]
            exact c3
          rw [if_neg c3', if_pos rfl, if_neg (fun q => c3 q.2)]
      · rw [if_neg c2, if_pos rfl, if_neg (fun q => c2 q.1.2)]
    · rw [if_neg c1, if_pos rfl, if_neg (fun q => c1 q.1.1)]
  have nil : f_Q_entry 0 x y z (bh v w) = some (-1, bh v w) → f_M_entry 100 x y z (bh v w) = some (-1, bh v w) → EqT S v w (f_Q_entry 0 x y z) (f_M_entry 100 x y z) := fun a b => EqT.q hs hc hm a (fun _ _ => rfl) b (fun _ _ => rfl)
  by_cases c1 : 0 ≤ x.toInt ∧ x.toInt < (S.1 0 1 : Int)
  · by_cases c2 : 0 ≤ y.toInt ∧ y.toInt < (S.1 0 0 : Int)
    · by_cases c3 : (0 : Int32).toInt ≤ z.toInt ∧ z.toInt ≤ (1 : Int32).toInt
      · obtain ⟨v1, e1, t1, f1⟩ := T_loadX (w := w) hc.1 hk
        have R1 : MR S.1 v1 := hm.1.fr1 (fun q h => f1 q (by omega))
        have mm := fun w' => mb v1 w' R1
        obtain ⟨p, hp, rfl⟩ := ix (by omega) c1
        obtain ⟨l, hl, rfl⟩ := ix (by omega) c2
        have m3 := mo_le hk (p := p) hl
        have no : ∀ u, mo S.1 p l < u → u < 4 → ¬ eP S.1 p l u := fun u a b => entTot_no hk (by omega) hl a b
        have z01 : z = 0 ∨ z = 1 := by
          have a : (0 : Int32).toInt = 0 := rfl
          have b : (1 : Int32).toInt = 1 := rfl
          rw [a, b] at c3
          by_cases q : z.toInt = 0
          · exact Or.inl (Int32.toInt_inj.mp q)
          · exact Or.inr (Int32.toInt_inj.mp (by rw [b]; omega))
        obtain ⟨r, v2, w2, e2, f2, g2⟩ := T_firstX hk (show p < 3 by omega) hl z t1 w
        obtain ⟨fe, la, w3, e3, gf, gl⟩ := M_entryX (v := v2) (R1.fr1 (fun q h => f2 q (by omega))) hk (show p < 3 by omega) hl z w2
        have er : r = if z = 0 then fe else la := by
          rcases z01 with z0 | z0
          · rw [if_pos z0]
            have ey : ∀ i, yI z (mo S.1 p l) i = i := fun i => by unfold yI; rw [if_pos z0]
            simp only [ey] at g2
            rcases g2 with ⟨i, a1, a2, a3, a4⟩ | ⟨a1, a2⟩
            · rcases gf with ⟨b1, b2⟩ | ⟨u, b1, b2, b3, b4⟩
              · exact (b2 i (by omega) a3).elim
              · rcases Nat.lt_trichotomy i u with k | k | k
                · exact (b4 i k a3).elim
                · rw [a2, b2, k]
                · exact (a4 u k b3).elim
            · rcases gf with ⟨b1, b2⟩ | ⟨u, b1, b2, b3, b4⟩
              · rw [a1, b1]
              · by_cases k : u ≤ mo S.1 p l
                · exact (a2 u k b3).elim
                · exact (no u (by omega) b1 b3).elim
          · have zn : ¬ z = 0 := by rw [z0]; decide
            rw [if_neg zn]
            have ey : ∀ i, yI z (mo S.1 p l) i = mo S.1 p l - i := fun i => by unfold yI; rw [if_neg zn]
            simp only [ey] at g2
            rcases g2 with ⟨i, a1, a2, a3, a4⟩ | ⟨a1, a2⟩
            · rcases gl with ⟨b1, b2⟩ | ⟨u, b1, b2, b3, b4⟩
              · exact (b2 _ (by omega) a3).elim
              · have ku : u ≤ mo S.1 p l := Nat.le_of_not_lt (fun k => no u k b1 b3)
                rcases Nat.lt_trichotomy (mo S.1 p l - i) u with k | k | k
                · have q := a4 (mo S.1 p l - u) (by omega)
                  rw [show mo S.1 p l - (mo S.1 p l - u) = u by omega] at q
                  exact (q b3).elim
                · rw [a2, b2, k]
                · exact (b4 _ k (by omega) a3).elim
            · rcases gl with ⟨b1, b2⟩ | ⟨u, b1, b2, b3, b4⟩
              · rw [a1, b1]
              · have ku : u ≤ mo S.1 p l := Nat.le_of_not_lt (fun k => no u k b1 b3)
                have q := a2 (mo S.1 p l - u) (by omega)
                rw [show mo S.1 p l - (mo S.1 p l - u) = u by omega] at q
                exact (q b3).elim
        rw [← er] at e3
        refine EqT.pl (r := r) (v1 := v2) (v2 := v2) (w1 := w2) (w2 := w3) hs hc hm ?_ (fun q h => (f2 q (by omega)).trans (f1 q (by omega))) (by rw [f2 43 (by omega), f1 43 (by omega)]; exact hc.2.2.2.2.2.2.2) ?_ (fun _ _ => rfl)
        · unfold f_Q_entry f_Q_entry_0 f_Realm_hasBoth f_Realm_hasBoth_0 f_Realm_hasBoth_20 f_Q_entry_50
          simp only [hB0, bd1_q, bad]
          rw [C_hasOne rl3 hc.1 h1, bd2_s, if_pos c1, if_neg (by decide)]
          simp only [hB0, bd1_q]
          rw [C_hasLaw rl3 hc.1 h0, bd2_s, if_pos c2, if_neg (by decide), bd2_s, if_neg (by decide), Q_isWithin, bd2_s, if_pos c3, if_neg (by decide)]
          simp only [hB0, bd1_q]
          rw [e1]
          simp only [hB0, bd1_q]
          rcases z01 with z0 | z0
          · rw [z0] at e2 ⊢
            rw [if_neg (by decide), e2, bd2_s]
          · rw [z0] at e2 ⊢
            rw [if_pos rfl, e2, bd2_s]
        · rw [mb v2 w2 (R1.fr1 (fun q h => f2 q (by omega))), if_pos ⟨⟨c1, c2⟩, c3⟩]
          exact e3
      · refine nil ?_ (by rw [mb v w hm.1, if_neg (fun q => c3 q.2)])
        unfold f_Q_entry f_Q_entry_0 f_Realm_hasBoth f_Realm_hasBoth_0 f_Realm_hasBoth_20 f_Q_entry_50
        simp only [hB0, bd1_q, bad]
        rw [C_hasOne rl3 hc.1 h1, bd2_s, if_pos c1, if_neg (by decide)]
        simp only [hB0, bd1_q]
        rw [C_hasLaw rl3 hc.1 h0, bd2_s, if_pos c2, if_neg (by decide), bd2_s, if_neg (by decide), Q_isWithin, bd2_s, if_neg c3, if_pos rfl]
    · refine nil ?_ (by rw [mb v w hm.1, if_neg (fun q => c2 q.1.2)])
      unfold f_Q_entry f_Q_entry_0 f_Realm_hasBoth f_Realm_hasBoth_0 f_Realm_hasBoth_20 f_Q_entry_50
      simp only [hB0, bd1_q, bad]
      rw [C_hasOne rl3 hc.1 h1, bd2_s, if_pos c1, if_neg (by decide)]
      simp only [hB0, bd1_q]
      rw [C_hasLaw rl3 hc.1 h0, bd2_s, if_neg c2, if_pos rfl, bd2_s, if_pos rfl]
  · refine nil ?_ (by rw [mb v w hm.1, if_neg (fun q => c1 q.1.1)])
    unfold f_Q_entry f_Q_entry_0 f_Realm_hasBoth f_Realm_hasBoth_0 f_Realm_hasBoth_20 f_Q_entry_50
    simp only [hB0, bd1_q, bad]
    rw [C_hasOne rl3 hc.1 h1, bd2_s, if_neg c1, if_pos rfl, bd2_s, if_pos rfl]
end
end
end
