/-! counting tables: sums -/
theorem sumN_add (f g : Nat → Nat) : ∀ n, sumN (fun i => f i + g i) n = sumN f n + sumN g n
  | 0 => rfl
  | n + 1 => by
    have ih := sumN_add f g n
    show sumN (fun i => f i + g i) n + (f n + g n) = (sumN f n + f n) + (sumN g n + g n)
    omega
theorem sumN_comm (f : Nat → Nat → Nat) (m : Nat) : ∀ n, sumN (fun i => sumN (fun j => f i j) m) n = sumN (fun j => sumN (fun i => f i j) n) m
  | 0 => by
    show 0 = sumN (fun _ => 0) m
    exact (sumN_0 m).symm
  | n + 1 => by
    have ih := sumN_comm f m n
    show sumN (fun i => sumN (fun j => f i j) m) n + sumN (fun j => f n j) m = sumN (fun j => sumN (fun i => f i j) n + f n j) m
    rw [sumN_add, ih]
theorem sumN_mul (c : Nat) (f : Nat → Nat) : ∀ n, sumN (fun i => c * f i) n = c * sumN f n
  | 0 => rfl
  | n + 1 => by
    have ih := sumN_mul c f n
    show sumN (fun i => c * f i) n + c * f n = c * (sumN f n + f n)
    rw [ih, Nat.mul_add]
theorem sumN_if (P : Prop) [Decidable P] (f : Nat → Nat) (n : Nat) : (if P then sumN f n else 0) = sumN (fun i => if P then f i else 0) n := by
  by_cases h : P
  · rw [if_pos h]
    exact sumN_congr (fun i _ => (if_pos h).symm)
  · rw [if_neg h]
    refine ((sumN_congr (g := fun _ => 0) (fun i _ => ?_)).trans (sumN_0 n)).symm
    show (if P then f i else 0) = 0
    exact if_neg h
/-- what lies behind n is nothing -/
theorem sumN_cut {f : Nat → Nat} {n : Nat} : ∀ {m : Nat}, n ≤ m → (∀ i, n ≤ i → i < m → f i = 0) → sumN f m = sumN f n
  | 0, h, _ => by rw [Nat.le_zero.mp h]
  | m + 1, h, z => by
    by_cases e : n = m + 1
    · rw [e]
    · show sumN f m + f m = sumN f n
      rw [z m (by omega) (by omega), sumN_cut (by omega) (fun i a b => z i a (by omega))]
      rfl
/-- one of them alone -/
theorem sumN_pick {f : Nat → Nat} {k : Nat} : ∀ {m : Nat}, k < m → (∀ i, i < m → i ≠ k → f i = 0) → sumN f m = f k
  | 0, h, _ => (Nat.not_lt_zero _ h).elim
  | m + 1, h, z => by
    show sumN f m + f m = f k
    by_cases e : k = m
    · rw [e, sumN_cut (n := 0) (Nat.zero_le m) (fun i _ b => z i (by omega) (by omega))]
      exact Nat.zero_add _
    · rw [z m (by omega) (by omega), sumN_pick (by omega) (fun i a b => z i (by omega) b)]
      rfl
theorem sumN_none {f : Nat → Nat} {m : Nat} (z : ∀ i, i < m → f i = 0) : sumN f m = 0 := (sumN_congr (g := fun _ => 0) z).trans (sumN_0 m)
/-- row by row -/
theorem sumN_grid (G : Nat → Nat → Nat) {m : Nat} (hm : 0 < m) : ∀ n, sumN (fun k => G (k / m) (k % m)) (n * m) = sumN (fun a => sumN (fun b => G a b) m) n
  | 0 => by rw [Nat.zero_mul]; rfl
  | n + 1 => by
    have ih := sumN_grid G hm n
    have e := sumN_sh (f := fun k => G (k / m) (k % m)) (n * m) m
    rw [show (n + 1) * m = n * m + m from Nat.succ_mul n m, ← e, ih]
    show _ = sumN (fun a => sumN (fun b => G a b) m) n + sumN (fun b => G n b) m
    congr 1
    refine sumN_congr (fun i hi => ?_)
    show G ((n * m + i) / m) ((n * m + i) % m) = G n i
    rw [Nat.mul_comm n m, Nat.mul_add_div hm, Nat.mul_add_mod, Nat.div_eq_of_lt hi, Nat.mod_eq_of_lt hi]
    rfl
/-- a sum over three, each below n -/
def S3 (n : Nat) (f : Nat → Nat → Nat → Nat) : Nat := sumN (fun x => sumN (fun y => sumN (fun z => f x y z) n) n) n
theorem S3_congr {n : Nat} {f g : Nat → Nat → Nat → Nat} (h : ∀ x y z, x < n → y < n → z < n → f x y z = g x y z) : S3 n f = S3 n g :=
  sumN_congr (fun x hx => sumN_congr (fun y hy => sumN_congr (fun z hz => h x y z hx hy hz)))
theorem S3_sum (n m : Nat) (f : Nat → Nat → Nat → Nat → Nat) : sumN (fun i => S3 n (f i)) m = S3 n (fun x y z => sumN (fun i => f i x y z) m) := by
  unfold S3
  rw [sumN_comm (fun i x => sumN (fun y => sumN (fun z => f i x y z) n) n)]
  refine sumN_congr (fun x _ => ?_)
  show sumN (fun i => sumN (fun y => sumN (fun z => f i x y z) n) n) m = sumN (fun y => sumN (fun z => sumN (fun i => f i x y z) m) n) n
  rw [sumN_comm (fun i y => sumN (fun z => f i x y z) n)]
  refine sumN_congr (fun y _ => ?_)
  show sumN (fun i => sumN (fun z => f i x y z) n) m = sumN (fun z => sumN (fun i => f i x y z) m) n
  exact sumN_comm (fun i z => f i x y z) n m
theorem S3_comm (n m : Nat) (f : Nat → Nat → Nat → Nat → Nat → Nat → Nat) : S3 n (fun x y z => S3 m (fun a b c => f x y z a b c)) = S3 m (fun a b c => S3 n (fun x y z => f x y z a b c)) := by
  show sumN (fun x => sumN (fun y => sumN (fun z => S3 m (fun a b c => f x y z a b c)) n) n) n = _
  have e1 : ∀ x y, sumN (fun z => S3 m (fun a b c => f x y z a b c)) n = S3 m (fun a b c => sumN (fun z => f x y z a b c) n) := fun x y => S3_sum m n (fun z a b c => f x y z a b c)
  have e2 : ∀ x, sumN (fun y => sumN (fun z => S3 m (fun a b c => f x y z a b c)) n) n = S3 m (fun a b c => sumN (fun y => sumN (fun z => f x y z a b c) n) n) := fun x => (sumN_congr (fun y _ => e1 x y)).trans (S3_sum m n (fun y a b c => sumN (fun z => f x y z a b c) n))
  exact (sumN_congr (fun x _ => e2 x)).trans (S3_sum m n (fun x a b c => sumN (fun y => sumN (fun z => f x y z a b c) n) n))
theorem S3_if (P : Prop) [Decidable P] (n : Nat) (f : Nat → Nat → Nat → Nat) : (if P then S3 n f else 0) = S3 n (fun x y z => if P then f x y z else 0) := by
  unfold S3
  rw [sumN_if]
  refine sumN_congr (fun x _ => ?_)
  show (if P then sumN (fun y => sumN (fun z => f x y z) n) n else 0) = _
  rw [sumN_if]
  refine sumN_congr (fun y _ => ?_)
  show (if P then sumN (fun z => f x y z) n else 0) = _
  exact sumN_if P _ n
theorem S3_mul (n : Nat) (f g h : Nat → Nat) : S3 n (fun x y z => f x * g y * h z) = sumN f n * sumN g n * sumN h n := by
  unfold S3
  have e1 : ∀ x y, sumN (fun z => f x * g y * h z) n = f x * g y * sumN h n := fun x y => sumN_mul (f x * g y) h n
  have e2 : ∀ x, sumN (fun y => sumN (fun z => f x * g y * h z) n) n = f x * (sumN g n * sumN h n) := fun x => by
    refine (sumN_congr (g := fun y => f x * sumN h n * g y) (fun y _ => ?_)).trans ?_
    · show sumN (fun z => f x * g y * h z) n = f x * sumN h n * g y
      rw [e1, Nat.mul_right_comm]
    · rw [sumN_mul, Nat.mul_assoc, Nat.mul_comm (sumN h n)]
  refine (sumN_congr (g := fun x => sumN g n * sumN h n * f x) (fun x _ => ?_)).trans ?_
  · show sumN (fun y => sumN (fun z => f x * g y * h z) n) n = sumN g n * sumN h n * f x
    rw [e2, Nat.mul_comm]
  · rw [sumN_mul, Nat.mul_comm, Nat.mul_assoc]
/-- one law: those of its breakings that K lets -/
def cvo (K : Nat → Nat → Nat → Bool) (W : Nat → Nat → Nat → Nat) (a b c : Nat) : Nat := S3 4 (fun x y z => if K x y z = true ∧ x ≤ a ∧ y ≤ b ∧ z ≤ c then W (a - x) (b - y) (c - z) else 0)
theorem cv_congr {K : Nat → Nat → Nat → Bool} {W W' : Nat → Nat → Nat → Nat} {a b c : Nat} (h : ∀ x y z, x ≤ a → y ≤ b → z ≤ c → W x y z = W' x y z) : cvo K W a b c = cvo K W' a b c := by
  refine S3_congr (fun x y z _ _ _ => ?_)
  by_cases d : K x y z = true ∧ x ≤ a ∧ y ≤ b ∧ z ≤ c
  · rw [if_pos d, if_pos d, h _ _ _ (Nat.sub_le _ _) (Nat.sub_le _ _) (Nat.sub_le _ _)]
  · rw [if_neg d, if_neg d]
theorem cv_comm (K K' : Nat → Nat → Nat → Bool) (W : Nat → Nat → Nat → Nat) (a b c : Nat) : cvo K (cvo K' W) a b c = cvo K' (cvo K W) a b c := by
  have one : ∀ (K K' : Nat → Nat → Nat → Bool), cvo K (cvo K' W) a b c = S3 4 (fun x y z => S3 4 (fun x' y' z' => if K x y z = true ∧ K' x' y' z' = true ∧ x + x' ≤ a ∧ y + y' ≤ b ∧ z + z' ≤ c then W (a - (x + x')) (b - (y + y')) (c - (z + z')) else 0)) := by
    intro K K'
    refine S3_congr (fun x y z _ _ _ => ?_)
    unfold cvo
    rw [S3_if]
    refine S3_congr (fun x' y' z' _ _ _ => ?_)
    by_cases d : K x y z = true ∧ x ≤ a ∧ y ≤ b ∧ z ≤ c
    · rw [if_pos d]
      by_cases e : K' x' y' z' = true ∧ x' ≤ a - x ∧ y' ≤ b - y ∧ z' ≤ c - z
      · rw [if_pos e, if_pos ⟨d.1, e.1, by omega, by omega, by omega⟩, Nat.sub_sub, Nat.sub_sub, Nat.sub_sub]
      · rw [if_neg e, if_neg (fun q => e ⟨q.2.1, by omega, by omega, by omega⟩)]
    · rw [if_neg d, if_neg (fun q => d ⟨q.1, by omega, by omega, by omega⟩)]
  rw [one K K', one K' K, S3_comm]
  refine S3_congr (fun x y z _ _ _ => S3_congr (fun x' y' z' _ _ _ => ?_))
  rw [Nat.add_comm x' x, Nat.add_comm y' y, Nat.add_comm z' z]
  by_cases d : K x' y' z' = true ∧ K' x y z = true ∧ x + x' ≤ a ∧ y + y' ≤ b ∧ z + z' ≤ c
  · rw [if_pos d, if_pos ⟨d.2.1, d.1, d.2.2⟩]
  · rw [if_neg d, if_neg (fun q => d ⟨q.2.1, q.1, q.2.2⟩)]
/-- one law, one person -/
def c1 (k : Nat → Bool) (f : Nat → Nat) (s : Nat) : Nat := sumN (fun n => if k n = true ∧ n ≤ s then f (s - n) else 0) 4
def pr3 (f g h : Nat → Nat) : Nat → Nat → Nat → Nat := fun a b c => f a * g b * h c
theorem cv_pr {K : Nat → Nat → Nat → Bool} {k0 k1 k2 : Nat → Bool} (hK : ∀ x y z, K x y z = (k0 x && k1 y && k2 z)) (f g h : Nat → Nat) (a b c : Nat) : cvo K (pr3 f g h) a b c = pr3 (c1 k0 f) (c1 k1 g) (c1 k2 h) a b c := by
  unfold cvo pr3 c1
  rw [← S3_mul]
  refine S3_congr (fun x y z _ _ _ => ?_)
  rw [hK]
  by_cases d0 : k0 x = true ∧ x ≤ a
  · by_cases d1 : k1 y = true ∧ y ≤ b
    · by_cases d2 : k2 z = true ∧ z ≤ c
      · rw [if_pos d0, if_pos d1, if_pos d2, if_pos ⟨by rw [d0.1, d1.1, d2.1]; rfl, d0.2, d1.2, d2.2⟩]
      · rw [if_neg d2, Nat.mul_zero, if_neg (fun q => d2 ⟨by have := q.1; rw [Bool.and_eq_true] at this; exact this.2, q.2.2.2⟩)]
    · rw [if_neg d1, Nat.mul_zero, Nat.zero_mul, if_neg (fun q => d1 ⟨by have := q.1; rw [Bool.and_eq_true, Bool.and_eq_true] at this; exact this.1.2, q.2.2.1⟩)]
  · rw [if_neg d0, Nat.zero_mul, Nat.zero_mul, if_neg (fun q => d0 ⟨by have := q.1; rw [Bool.and_eq_true, Bool.and_eq_true] at this; exact this.1.1, q.2.1⟩)]
/-- all laws, in their order -/
def cvs (K : Nat → Nat → Nat → Nat → Bool) (W : Nat → Nat → Nat → Nat) : Nat → Nat → Nat → Nat → Nat
  | 0 => W
  | n + 1 => cvo (K n) (cvs K W n)
/-- those that are bound alone -/
def cvB (B : Nat → Bool) (K : Nat → Nat → Nat → Nat → Bool) (W : Nat → Nat → Nat → Nat) : Nat → Nat → Nat → Nat → Nat
  | 0 => W
  | n + 1 => if B n = true then cvo (K n) (cvB B K W n) else cvB B K W n
/-- one person's, the free ones alone -/
def c1F (B : Nat → Bool) (k : Nat → Nat → Bool) (f : Nat → Nat) : Nat → Nat → Nat
  | 0 => f
  | n + 1 => if B n = true then c1F B k f n else c1 (k n) (c1F B k f n)
theorem cv_ext {K : Nat → Nat → Nat → Bool} {W W' : Nat → Nat → Nat → Nat} (h : W = W') : cvo K W = cvo K W' := by rw [h]
theorem cvB_comm (B : Nat → Bool) (K : Nat → Nat → Nat → Nat → Bool) (J : Nat → Nat → Nat → Bool) (W : Nat → Nat → Nat → Nat) : ∀ n, cvo J (cvB B K W n) = cvB B K (cvo J W) n
  | 0 => rfl
  | n + 1 => by
    have ih := cvB_comm B K J W n
    unfold cvB
    by_cases d : B n = true
    · rw [if_pos d, if_pos d, ← ih]
      funext a b c
      exact cv_comm J (K n) _ a b c
    · rw [if_neg d, if_neg d]
      exact ih
/-- the order doesn't matter -/
theorem cvs_two (B : Nat → Bool) (K : Nat → Nat → Nat → Nat → Bool) (k : Nat → Nat → Nat → Bool) (f : Nat → Nat → Nat) (hK : ∀ n, B n = false → ∀ x y z, K n x y z = (k 0 n x && k 1 n y && k 2 n z)) : ∀ n, cvs K (pr3 (f 0) (f 1) (f 2)) n = cvB B K (pr3 (c1F B (k 0) (f 0) n) (c1F B (k 1) (f 1) n) (c1F B (k 2) (f 2) n)) n
  | 0 => rfl
  | n + 1 => by
    have ih := cvs_two B K k f hK n
    unfold cvs cvB c1F
    by_cases d : B n = true
    · rw [if_pos d, if_pos d, if_pos d, if_pos d, ih]
    · rw [if_neg d, if_neg d, if_neg d, if_neg d, ih, cvB_comm]
      congr 1
      funext a b c
      exact cv_pr (hK n (Bool.not_eq_true _ ▸ d)) _ _ _ a b c
