/-- shapes -/
def shv : Value → Value → Bool
  | .int _, .int _ => true
  | .long _, .long _ => true
  | .ref a, .ref b => Nat.beq a b
  | _, _ => false
def shl : List Value → List Value → Bool
  | [], [] => true
  | a :: as, b :: bs => shv a b && shl as bs
  | _, _ => false
def shc : mCell → mCell → Bool
  | .inr (c, fs), .inr (d, gs) => Nat.beq c d && shl fs gs
  | .inl (t, n, .inl _), .inl (t', n', .inl _) => Nat.beq t t' && Nat.beq n n'
  | .inl (t, n, .inr (.inl _)), .inl (t', n', .inr (.inl _)) => Nat.beq t t' && Nat.beq n n'
  | _, _ => false
def vOf : mCell → Nat → Int32
  | .inl (_, _, .inl f) => f
  | .inr (_, fs) => fun i => match fs[i]? with | some (.int x) => x | _ => 0
  | _ => fun _ => 0
def wOf : mCell → Nat → Int64
  | .inl (_, _, .inr (.inl f)) => f
  | .inr (_, fs) => fun i => match fs[i]? with | some (.long x) => x | _ => 0
  | _ => fun _ => 0
def rOf : mCell → Nat → Option Nat
  | .inl (_, _, .inr (.inr (.inr (.inr f)))) => f
  | _ => fun _ => none
def shr (t n : Nat) : mCell → Bool
  | .inl (t', n', .inr (.inr (.inr (.inr _)))) => Nat.beq t t' && Nat.beq n n'
  | _ => false
theorem fillv_sh {v : Nat → Int32} {w : Nat → Int64} : ∀ (fs gs : List Value) (i : Nat), shl fs gs = true → (∀ j x, gs[j]? = some (.int x) → v (i + j) = x) → (∀ j x, gs[j]? = some (.long x) → w (i + j) = x) → fillv v w i fs = gs := by
  intro fs
  induction fs with
  | nil => intro gs i h _ _; cases gs with
    | nil => rfl
    | cons _ _ => cases h
  | cons f fs ih =>
    intro gs i h hv hw
    cases gs with
    | nil => cases h
    | cons g gs =>
      have h2 : shv f g = true ∧ shl fs gs = true := by simpa [shl] using h
      have e := ih gs (i + 1) h2.2 (fun j x q => by have := hv (j + 1) x (by simpa using q); rwa [show i + 1 + j = i + (j + 1) by omega]) (fun j x q => by have := hw (j + 1) x (by simpa using q); rwa [show i + 1 + j = i + (j + 1) by omega])
      simp only [fillv]
      rw [e]
      congr 1
      have hv0 := hv 0
      have hw0 := hw 0
      have h3 := h2.1
      cases f <;> cases g <;> simp_all [shv]
theorem fill_sh {a b : mCell} (h : shc a b = true) : fillc (vOf b) (wOf b) a = b := by
  unfold shc at h
  split at h
  · next c fs d gs =>
    simp only [Bool.and_eq_true, Nat.beq_eq] at h
    obtain ⟨rfl, h⟩ := h
    show Sum.inr (c, fillv _ _ 0 fs) = _
    rw [fillv_sh fs gs 0 h (fun j x q => by show (match gs[0 + j]? with | some (.int x) => x | _ => 0) = x; rw [Nat.zero_add, q]) (fun j x q => by show (match gs[0 + j]? with | some (.long x) => x | _ => 0) = x; rw [Nat.zero_add, q])]
  · simp only [Bool.and_eq_true, Nat.beq_eq] at h
    obtain ⟨rfl, rfl⟩ := h
    rfl
  · simp only [Bool.and_eq_true, Nat.beq_eq] at h
    obtain ⟨rfl, rfl⟩ := h
    rfl
  · cases h
theorem shr_of {t n : Nat} {c : mCell} (h : shr t n c = true) : c = .inl (t, n, .inr (.inr (.inr (.inr (rOf c))))) := by
  unfold shr at h
  split at h
  · simp only [Bool.and_eq_true, Nat.beq_eq] at h
    obtain ⟨rfl, rfl⟩ := h
    rfl
  · cases h
theorem tm_dead {k : Nat} (h : 126 ≤ k) : tm k = dead := by
  unfold tm
  rw [List.getD_eq_getElem?_getD, List.getElem?_eq_none (show tl.length ≤ k from h)]
  rfl
def allB (p : Nat → Bool) : Nat → Bool
  | 0 => true
  | n + 1 => p n && allB p n
theorem allB_of {p : Nat → Bool} : ∀ {n : Nat}, allB p n = true → ∀ k, k < n → p k = true
  | 0, _, k, hk => absurd hk (Nat.not_lt_zero k)
  | n + 1, h, k, hk => by
    have h2 : p n = true ∧ allB p n = true := by simpa [allB] using h
    by_cases e : k = n
    · subst e; exact h2.1
    · exact allB_of h2.2 k (by omega)
theorem sh_hDb : allB (fun k => Nat.beq k 37 || Nat.beq k 39 || shc (tm k) (hD.2.2 k)) 126 = true := by decide +kernel
theorem sh_hD (k : Nat) (hk : k < 126) : k = 37 ∨ k = 39 ∨ shc (tm k) (hD.2.2 k) = true := by
  have := allB_of sh_hDb k hk
  simp only [Bool.or_eq_true, Nat.beq_eq] at this
  rcases this with (h | h) | h
  · exact Or.inl h
  · exact Or.inr (Or.inl h)
  · exact Or.inr (Or.inr h)
theorem sh_37 : shr 4 2 (hD.2.2 37) = true ∧ rOf (hD.2.2 37) 0 = some 58 ∧ rOf (hD.2.2 37) 1 = some 75 := by decide +kernel
theorem sh_39 : shr 5 4 (hD.2.2 39) = true ∧ rOf (hD.2.2 39) 0 = some 92 ∧ rOf (hD.2.2 39) 1 = some 94 ∧ rOf (hD.2.2 39) 2 = some 96 ∧ rOf (hD.2.2 39) 3 = some 98 := by decide +kernel
