/-! what the constructors' functions are made of -/
def grd {α : Type} (p : Prop) [Decidable p] (x : Option α) : Option α := if p then x else none
theorem grd_e {α : Type} {p : Prop} [Decidable p] {x : Option α} {b : α} (h : grd p x = some b) : p ∧ x = some b := by
  unfold grd at h
  split at h
  · next q => exact ⟨q, h⟩
  · cases h
def mkn (h : mH) (sl : Nat) (c : mCell) : Option mH := if h.1 < 1000 then some (mnew h sl c) else none
theorem mkn_e {h h2 : mH} {sl : Nat} {c : mCell} (e : mkn h sl c = some h2) : h.1 < 1000 ∧ h2 = mnew h sl c := by
  unfold mkn at e
  split at e
  · next q => exact ⟨q, (Option.some.inj e).symm⟩
  · cases e
theorem okv_r {n n1 k : Nat} (h : k < n ∨ n1 ≤ k) : okv n n1 (.ref k) := fun j z => by cases z; exact h
theorem okl_nil {n n1 : Nat} : ∀ q ∈ ([] : List (Nat × Value)), okv n n1 q.2 := fun _ h => by cases h
theorem okl_cons {n n1 k : Nat} {v : Value} {l : List (Nat × Value)} (hv : okv n n1 v) (hl : ∀ q ∈ l, okv n n1 q.2) : ∀ q ∈ (k, v) :: l, okv n n1 q.2 := by
  intro q hq
  rcases List.mem_cons.mp hq with rfl | hq
  · exact hv
  · exact hl q hq
theorem oks_nil {n n1 : Nat} : ∀ v ∈ ([] : List Value), okv n n1 v := fun _ h => by cases h
theorem oks_cons {n n1 : Nat} {v : Value} {l : List Value} (hv : okv n n1 v) (hl : ∀ q ∈ l, okv n n1 q) : ∀ q ∈ v :: l, okv n n1 q := by
  intro q hq
  rcases List.mem_cons.mp hq with rfl | hq
  · exact hv
  · exact hl q hq
