/-! 70.bh.lean.txt -/
section
/-! the heap of the law's loop: printed by wip/gen/gen_bh.py -/
def tl : List mCell := [
  .inr (0, [.ref 1, .ref 3, .ref 20, .ref 37, .ref 38, .ref 39, .ref 40, .ref 48, .ref 56, .int 0]),
  .inr (3, [.ref 2, .int 0, .int 0, .int 0, .int 0, .int 0, .int 0, .int 0, .int 0]),
  .inl (1, 160, .inl (fun _ => 0)),
  .inr (4, [.int 0, .int 0, .int 0, .int 0, .int 0, .int 0, .ref 4, .ref 5, .ref 6, .ref 7, .ref 8, .ref 9, .ref 10, .ref 11, .ref 12, .ref 13, .ref 14, .ref 15, .ref 16]),
  .inl (0, 5, .inl (fun _ => 0)),
  .inl (0, 5, .inl (fun _ => 0)),
  .inl (0, 5, .inl (fun _ => 0)),
  .inl (0, 5, .inl (fun _ => 0)),
  .inl (0, 5, .inl (fun _ => 0)),
  .inl (0, 3, .inl (fun _ => 0)),
  .inl (0, 3, .inl (fun _ => 0)),
  .inl (0, 3, .inl (fun _ => 0)),
  .inl (0, 3, .inl (fun _ => 0)),
  .inl (0, 3, .inl (fun _ => 0)),
  .inl (0, 3, .inl (fun _ => 0)),
  .inl (0, 15, .inl (fun _ => 0)),
  .inr (6, [.int 0, .ref 17, .ref 18, .ref 19]),
  .inl (0, 8, .inl (fun _ => 0)),
  .inl (0, 8, .inl (fun _ => 0)),
  .inl (0, 8, .inl (fun _ => 0)),
  .inr (4, [.int 0, .int 0, .int 0, .int 0, .int 0, .int 0, .ref 21, .ref 22, .ref 23, .ref 24, .ref 25, .ref 26, .ref 27, .ref 28, .ref 29, .ref 30, .ref 31, .ref 32, .ref 33]),
  .inl (0, 5, .inl (fun _ => 0)),
  .inl (0, 5, .inl (fun _ => 0)),
  .inl (0, 5, .inl (fun _ => 0)),
  .inl (0, 5, .inl (fun _ => 0)),
  .inl (0, 5, .inl (fun _ => 0)),
  .inl (0, 3, .inl (fun _ => 0)),
  .inl (0, 3, .inl (fun _ => 0)),
  .inl (0, 3, .inl (fun _ => 0)),
  .inl (0, 3, .inl (fun _ => 0)),
  .inl (0, 3, .inl (fun _ => 0)),
  .inl (0, 3, .inl (fun _ => 0)),
  .inl (0, 15, .inl (fun _ => 0)),
  .inr (6, [.int 0, .ref 34, .ref 35, .ref 36]),
  .inl (0, 8, .inl (fun _ => 0)),
  .inl (0, 8, .inl (fun _ => 0)),
  .inl (0, 8, .inl (fun _ => 0)),
  .inl (4, 2, .inr (.inr (.inr (.inr (fun j => ([some 58, some 75] : List (Option Nat)).getD j none))))),
  .inl (2, 2, .inl (fun _ => 0)),
  .inl (5, 4, .inr (.inr (.inr (.inr (fun j => ([some 92, some 94, some 96, some 98] : List (Option Nat)).getD j none))))),
  .inr (2, [.int 0, .ref 41, .ref 42, .ref 43, .ref 44, .ref 45, .ref 46, .ref 47]),
  .inl (0, 3, .inl (fun _ => 0)),
  .inl (0, 5, .inl (fun _ => 0)),
  .inl (0, 6, .inl (fun _ => 0)),
  .inl (0, 15, .inl (fun _ => 0)),
  .inl (0, 15, .inl (fun _ => 0)),
  .inl (0, 15, .inl (fun _ => 0)),
  .inl (0, 216, .inl (fun _ => 0)),
  .inr (7, [.int 0, .ref 49, .ref 50, .ref 51, .ref 52, .ref 53, .ref 54, .ref 55]),
  .inl (0, 15, .inl (fun _ => 0)),
  .inl (0, 15, .inl (fun _ => 0)),
  .inl (0, 5, .inl (fun _ => 0)),
  .inl (0, 3, .inl (fun _ => 0)),
  .inl (0, 3, .inl (fun _ => 0)),
  .inl (3, 18, .inr (.inl (fun _ => 0))),
  .inl (3, 216, .inr (.inl (fun _ => 0))),
  .inr (1, [.long 0, .long 0, .ref 57]),
  .inl (3, 10, .inr (.inl (fun _ => 0))),
  .inr (4, [.int 0, .int 0, .int 0, .int 0, .int 0, .int 0, .ref 59, .ref 60, .ref 61, .ref 62, .ref 63, .ref 64, .ref 65, .ref 66, .ref 67, .ref 68, .ref 69, .ref 70, .ref 71]),
  .inl (0, 5, .inl (fun _ => 0)),
  .inl (0, 5, .inl (fun _ => 0)),
  .inl (0, 5, .inl (fun _ => 0)),
  .inl (0, 5, .inl (fun _ => 0)),
  .inl (0, 5, .inl (fun _ => 0)),
  .inl (0, 3, .inl (fun _ => 0)),
  .inl (0, 3, .inl (fun _ => 0)),
  .inl (0, 3, .inl (fun _ => 0)),
  .inl (0, 3, .inl (fun _ => 0)),
  .inl (0, 3, .inl (fun _ => 0)),
  .inl (0, 3, .inl (fun _ => 0)),
  .inl (0, 15, .inl (fun _ => 0)),
  .inr (6, [.int 0, .ref 72, .ref 73, .ref 74]),
  .inl (0, 8, .inl (fun _ => 0)),
  .inl (0, 8, .inl (fun _ => 0)),
  .inl (0, 8, .inl (fun _ => 0)),
  .inr (4, [.int 0, .int 0, .int 0, .int 0, .int 0, .int 0, .ref 76, .ref 77, .ref 78, .ref 79, .ref 80, .ref 81, .ref 82, .ref 83, .ref 84, .ref 85, .ref 86, .ref 87, .ref 88]),
  .inl (0, 5, .inl (fun _ => 0)),
  .inl (0, 5, .inl (fun _ => 0)),
  .inl (0, 5, .inl (fun _ => 0)),
  .inl (0, 5, .inl (fun _ => 0)),
  .inl (0, 5, .inl (fun _ => 0)),
  .inl (0, 3, .inl (fun _ => 0)),
  .inl (0, 3, .inl (fun _ => 0)),
  .inl (0, 3, .inl (fun _ => 0)),
  .inl (0, 3, .inl (fun _ => 0)),
  .inl (0, 3, .inl (fun _ => 0)),
  .inl (0, 3, .inl (fun _ => 0)),
  .inl (0, 15, .inl (fun _ => 0)),
  .inr (6, [.int 0, .ref 89, .ref 90, .ref 91]),
  .inl (0, 8, .inl (fun _ => 0)),
  .inl (0, 8, .inl (fun _ => 0)),
  .inl (0, 8, .inl (fun _ => 0)),
  .inr (5, [.int 0, .int 0, .ref 93]),
  .inl (0, 40, .inl (fun _ => 0)),
  .inr (5, [.int 0, .int 0, .ref 95]),
  .inl (0, 40, .inl (fun _ => 0)),
  .inr (5, [.int 0, .int 0, .ref 97]),
  .inl (0, 40, .inl (fun _ => 0)),
  .inr (5, [.int 0, .int 0, .ref 99]),
  .inl (0, 40, .inl (fun _ => 0)),
  .inr (8, [.ref 101, .ref 102, .int 0, .int 0, .ref 103, .ref 104, .ref 105, .ref 106, .ref 107, .ref 108, .int 0, .int 0, .ref 109, .ref 110, .ref 111, .ref 112, .ref 113, .int 0, .int 0, .ref 114, .int 0, .int 0, .int 0, .int 0, .int 0, .int 0, .int 0, .ref 115, .ref 116, .ref 117, .ref 118, .ref 119, .ref 120, .ref 121, .ref 122, .ref 123, .ref 124, .ref 125, .int 0]),
  .inl (0, 198, .inl (fun _ => 0)),
  .inl (2, 2, .inl (fun _ => 0)),
  .inl (0, 5, .inl (fun _ => 0)),
  .inl (0, 5, .inl (fun _ => 0)),
  .inl (0, 5, .inl (fun _ => 0)),
  .inl (0, 3, .inl (fun _ => 0)),
  .inl (0, 3, .inl (fun _ => 0)),
  .inl (0, 66, .inl (fun _ => 0)),
  .inl (0, 5, .inl (fun _ => 0)),
  .inl (0, 5, .inl (fun _ => 0)),
  .inl (0, 5, .inl (fun _ => 0)),
  .inl (0, 3, .inl (fun _ => 0)),
  .inl (0, 3, .inl (fun _ => 0)),
  .inl (0, 160, .inl (fun _ => 0)),
  .inl (0, 24576, .inl (fun _ => 0)),
  .inl (0, 5, .inl (fun _ => 0)),
  .inl (0, 3, .inl (fun _ => 0)),
  .inl (0, 3, .inl (fun _ => 0)),
  .inl (0, 66, .inl (fun _ => 0)),
  .inl (3, 16, .inr (.inl (fun _ => 0))),
  .inl (3, 216, .inr (.inl (fun _ => 0))),
  .inl (3, 216, .inr (.inl (fun _ => 0))),
  .inl (0, 4, .inl (fun _ => 0)),
  .inl (0, 4, .inl (fun _ => 0)),
  .inl (0, 160, .inl (fun _ => 0))]
def tm (k : Nat) : mCell := tl.getD k dead
def fillv (v : Nat → Int32) (w : Nat → Int64) : Nat → List Value → List Value
  | _, [] => []
  | i, f :: fs => (match f with | .int _ => .int (v i) | .long _ => .long (w i) | x => x) :: fillv v w (i + 1) fs
def fillc (v : Nat → Int32) (w : Nat → Int64) : mCell → mCell
  | .inr (ci, fs) => .inr (ci, fillv v w 0 fs)
  | .inl (t, n, .inl _) => .inl (t, n, .inl v)
  | .inl (t, n, .inr (.inl _)) => .inl (t, n, .inr (.inl w))
  | c => c
def bh (v : Nat → Nat → Int32) (w : Nat → Nat → Int64) : mH := (126, 27134, fun k => fillc (v k) (w k) (tm k))
def u2 (v : Nat → Nat → Int32) (o k : Nat) (x : Int32) : Nat → Nat → Int32 := va_up v o (upd (v o) k x)
def u2L (w : Nat → Nat → Int64) (o k : Nat) (x : Int64) : Nat → Nat → Int64 := va_up w o (vp_updL (w o) k x)
def rd {α : Type} (f : Nat → α) (n : Nat) (i : Int32) : Option α := if ¬ (i < 0 ∨ n ≤ i.toNatClampNeg) then some (f i.toNatClampNeg) else none
def wr (v : Nat → Nat → Int32) (w : Nat → Nat → Int64) (o n : Nat) (i x : Int32) : Option mH := if ¬ (i < 0 ∨ n ≤ i.toNatClampNeg) then some (bh (u2 v o i.toNatClampNeg x) w) else none
def wrL (v : Nat → Nat → Int32) (w : Nat → Nat → Int64) (o n : Nat) (i : Int32) (x : Int64) : Option mH := if ¬ (i < 0 ∨ n ≤ i.toNatClampNeg) then some (bh v (u2L w o i.toNatClampNeg x)) else none
theorem rd_nI {α : Type} {f : Nat → α} {n j : Nat} (h : j < n) (hn : n < 2 ^ 31) : rd f n (nI j) = some (f j) := by
  unfold rd
  rw [if_pos (nI_in h hn), nI_clamp (by omega)]
theorem wr_nI {v : Nat → Nat → Int32} {w : Nat → Nat → Int64} {o n j : Nat} {x : Int32} (h : j < n) (hn : n < 2 ^ 31) : wr v w o n (nI j) x = some (bh (u2 v o j x) w) := by
  unfold wr
  rw [if_pos (nI_in h hn), nI_clamp (by omega)]
theorem wrL_nI {v : Nat → Nat → Int32} {w : Nat → Nat → Int64} {o n j : Nat} {x : Int64} (h : j < n) (hn : n < 2 ^ 31) : wrL v w o n (nI j) x = some (bh v (u2L w o j x)) := by
  unfold wrL
  rw [if_pos (nI_in h hn), nI_clamp (by omega)]
theorem fillv_set (v : Nat → Int32) (w : Nat → Int64) (x : Int32) : ∀ (fs : List Value) (i k : Nat) (y : Int32), fs[k]? = some (.int y) → (fillv v w i fs).set k (.int x) = fillv (upd v (i + k) x) w i fs := by
  intro fs
  induction fs with
  | nil => intro i k y h; simp at h
  | cons f fs ih =>
    intro i k y h
    have tail0 : ∀ (j : Nat), i < j → fillv (upd v i x) w j fs = fillv v w j fs := by
      intro j hj
      clear ih h
      induction fs generalizing j with
      | nil => rfl
      | cons g gs ih2 =>
        simp only [fillv]
        rw [ih2 (j + 1) (by omega)]
        cases g <;> simp [upd, show ¬ j = i by omega]
    cases k with
    | zero =>
      simp at h
      subst h
      simp only [fillv, List.set_cons_zero, Nat.add_zero]
      rw [tail0 (i + 1) (by omega)]
      simp [upd]
    | succ k =>
      have h2 : fs[k]? = some (.int y) := by simpa using h
      simp only [fillv, List.set_cons_succ]
      rw [ih (i + 1) k y h2, show i + 1 + k = i + (k + 1) by omega]
      cases f <;> simp [upd, show ¬ i = i + (k + 1) by omega]
theorem fillv_setL (v : Nat → Int32) (w : Nat → Int64) (x : Int64) : ∀ (fs : List Value) (i k : Nat) (y : Int64), fs[k]? = some (.long y) → (fillv v w i fs).set k (.long x) = fillv v (vp_updL w (i + k) x) i fs := by
  intro fs
  induction fs with
  | nil => intro i k y h; simp at h
  | cons f fs ih =>
    intro i k y h
    have tail0 : ∀ (j : Nat), i < j → fillv v (vp_updL w i x) j fs = fillv v w j fs := by
      intro j hj
      clear ih h
      induction fs generalizing j with
      | nil => rfl
      | cons g gs ih2 =>
        simp only [fillv]
        rw [ih2 (j + 1) (by omega)]
        cases g <;> simp [vp_updL, show ¬ j = i by omega]
    cases k with
    | zero =>
      simp at h
      subst h
      simp only [fillv, List.set_cons_zero, Nat.add_zero]
      rw [tail0 (i + 1) (by omega)]
      simp [vp_updL]
    | succ k =>
      have h2 : fs[k]? = some (.long y) := by simpa using h
      simp only [fillv, List.set_cons_succ]
      rw [ih (i + 1) k y h2, show i + 1 + k = i + (k + 1) by omega]
      cases f <;> simp [vp_updL, show ¬ i = i + (k + 1) by omega]
theorem fillv_len (v : Nat → Int32) (w : Nat → Int64) : ∀ (fs : List Value) (i : Nat), (fillv v w i fs).length = fs.length := by
  intro fs
  induction fs with
  | nil => intro i; rfl
  | cons f fs ih => intro i; simp [fillv, ih]
theorem bh_up {v v2 : Nat → Nat → Int32} {w w2 : Nat → Nat → Int64} {o : Nat} {c : mCell} (hv : ∀ p, p ≠ o → v2 p = v p ∧ w2 p = w p) (hc : fillc (v2 o) (w2 o) (tm o) = c) : mset (bh v w) o c = bh v2 w2 := by
  unfold mset bh
  dsimp only
  congr 2
  funext p
  unfold va_up
  split
  · next e => subst e; exact hc.symm
  · next e => rw [(hv p e).1, (hv p e).2]
theorem up_ne {α : Type} {f : Nat → α} {k p : Nat} {x : α} (h : p ≠ k) : va_up f k x p = f p := by unfold va_up; rw [if_neg h]
theorem pV_bh {v : Nat → Nat → Int32} {w : Nat → Nat → Int64} {o ci k : Nat} {x y : Int32} {fs : List Value} (e : tm o = .inr (ci, fs)) (hk : fs[k]? = some (.int y)) : pV (bh v w) o ci k (.int x) = some (bh (u2 v o k x) w) := by
  have hl : k < fs.length := (List.getElem?_eq_some_iff.mp hk).1
  unfold pV
  have e1 : (bh v w).2.2 o = .inr (ci, fillv (v o) (w o) 0 fs) := by show fillc _ _ (tm o) = _; rw [e]; rfl
  rw [e1]
  dsimp only
  rw [if_pos ⟨rfl, by rw [fillv_len]; exact hl⟩, fillv_set _ _ x fs 0 k y hk, Nat.zero_add]
  congr 1
  refine bh_up (fun p hp => ⟨up_ne hp, rfl⟩) ?_
  rw [e]
  show Sum.inr (ci, fillv (va_up v o (upd (v o) k x) o) (w o) 0 fs) = _
  rw [up_at]
theorem pV_bhL {v : Nat → Nat → Int32} {w : Nat → Nat → Int64} {o ci k : Nat} {x y : Int64} {fs : List Value} (e : tm o = .inr (ci, fs)) (hk : fs[k]? = some (.long y)) : pV (bh v w) o ci k (.long x) = some (bh v (u2L w o k x)) := by
  have hl : k < fs.length := (List.getElem?_eq_some_iff.mp hk).1
  unfold pV
  have e1 : (bh v w).2.2 o = .inr (ci, fillv (v o) (w o) 0 fs) := by show fillc _ _ (tm o) = _; rw [e]; rfl
  rw [e1]
  dsimp only
  rw [if_pos ⟨rfl, by rw [fillv_len]; exact hl⟩, fillv_setL _ _ x fs 0 k y hk, Nat.zero_add]
  congr 1
  refine bh_up (fun p hp => ⟨rfl, up_ne hp⟩) ?_
  rw [e]
  show Sum.inr (ci, fillv (v o) (va_up w o (vp_updL (w o) k x) o) 0 fs) = _
  rw [up_at]
theorem aI_bh {v : Nat → Nat → Int32} {w : Nat → Nat → Int64} {t o n : Nat} {f : Nat → Int32} (e : tm o = .inl (t, n, .inl f)) (i : Int32) : aI (bh v w) t o i = rd (v o) n i := by
  unfold aI rd
  have e1 : (bh v w).2.2 o = .inl (t, n, .inl (v o)) := by show fillc _ _ (tm o) = _; rw [e]; rfl
  rw [e1]
  simp
theorem sI_bh {v : Nat → Nat → Int32} {w : Nat → Nat → Int64} {t o n : Nat} {f : Nat → Int32} (e : tm o = .inl (t, n, .inl f)) (i x : Int32) : sI (bh v w) t o i x = wr v w o n i x := by
  unfold sI wr
  have e1 : (bh v w).2.2 o = .inl (t, n, .inl (v o)) := by show fillc _ _ (tm o) = _; rw [e]; rfl
  rw [e1]
  have e2 : mset (bh v w) o (.inl (t, n, .inl (upd (v o) i.toNatClampNeg x))) = bh (u2 v o i.toNatClampNeg x) w := by
    refine bh_up (fun p hp => ⟨up_ne hp, rfl⟩) ?_
    rw [e]
    show Sum.inl (t, n, Sum.inl (va_up v o (upd (v o) i.toNatClampNeg x) o)) = _
    rw [up_at]
  simp [e2]
theorem aL_bh {v : Nat → Nat → Int32} {w : Nat → Nat → Int64} {o n : Nat} {f : Nat → Int64} (e : tm o = .inl (3, n, .inr (.inl f))) (i : Int32) : aL (bh v w) o i = rd (w o) n i := by
  unfold aL rd
  have e1 : (bh v w).2.2 o = .inl (3, n, .inr (.inl (w o))) := by show fillc _ _ (tm o) = _; rw [e]; rfl
  rw [e1]
  simp
theorem sL_bh {v : Nat → Nat → Int32} {w : Nat → Nat → Int64} {o n : Nat} {f : Nat → Int64} (e : tm o = .inl (3, n, .inr (.inl f))) (i : Int32) (x : Int64) : sL (bh v w) o i x = wrL v w o n i x := by
  unfold sL wrL
  have e1 : (bh v w).2.2 o = .inl (3, n, .inr (.inl (w o))) := by show fillc _ _ (tm o) = _; rw [e]; rfl
  rw [e1]
  have e2 : mset (bh v w) o (.inl (3, n, .inr (.inl (vp_updL (w o) i.toNatClampNeg x)))) = bh v (u2L w o i.toNatClampNeg x) := by
    refine bh_up (fun p hp => ⟨rfl, up_ne hp⟩) ?_
    rw [e]
    show Sum.inl (3, n, Sum.inr (Sum.inl (va_up w o (vp_updL (w o) i.toNatClampNeg x) o))) = _
    rw [up_at]
  simp [e2]
theorem hM (v : Nat → Nat → Int32) (w : Nat → Nat → Int64) : kC (bh v w) 100 8 = some () ∧ gR (bh v w) 100 8 0 = some 101 ∧ gR (bh v w) 100 8 1 = some 102 ∧ gI (bh v w) 100 8 2 = some (v 100 2) ∧ (∀ x, pV (bh v w) 100 8 2 (.int x) = some (bh (u2 v 100 2 x) w)) ∧ gI (bh v w) 100 8 3 = some (v 100 3) ∧ (∀ x, pV (bh v w) 100 8 3 (.int x) = some (bh (u2 v 100 3 x) w)) ∧ gR (bh v w) 100 8 4 = some 103 ∧ gR (bh v w) 100 8 5 = some 104 ∧ gR (bh v w) 100 8 6 = some 105 ∧ gR (bh v w) 100 8 7 = some 106 ∧ gR (bh v w) 100 8 8 = some 107 ∧ gR (bh v w) 100 8 9 = some 108 ∧ gI (bh v w) 100 8 10 = some (v 100 10) ∧ (∀ x, pV (bh v w) 100 8 10 (.int x) = some (bh (u2 v 100 10 x) w)) ∧ gI (bh v w) 100 8 11 = some (v 100 11) ∧ (∀ x, pV (bh v w) 100 8 11 (.int x) = some (bh (u2 v 100 11 x) w)) ∧ gR (bh v w) 100 8 12 = some 109 ∧ gR (bh v w) 100 8 13 = some 110 ∧ gR (bh v w) 100 8 14 = some 111 ∧ gR (bh v w) 100 8 15 = some 112 ∧ gR (bh v w) 100 8 16 = some 113 ∧ gI (bh v w) 100 8 17 = some (v 100 17) ∧ (∀ x, pV (bh v w) 100 8 17 (.int x) = some (bh (u2 v 100 17 x) w)) ∧ gI (bh v w) 100 8 18 = some (v 100 18) ∧ (∀ x, pV (bh v w) 100 8 18 (.int x) = some (bh (u2 v 100 18 x) w)) ∧ gR (bh v w) 100 8 19 = some 114 ∧ gI (bh v w) 100 8 20 = some (v 100 20) ∧ (∀ x, pV (bh v w) 100 8 20 (.int x) = some (bh (u2 v 100 20 x) w)) ∧ gI (bh v w) 100 8 21 = some (v 100 21) ∧ (∀ x, pV (bh v w) 100 8 21 (.int x) = some (bh (u2 v 100 21 x) w)) ∧ gI (bh v w) 100 8 22 = some (v 100 22) ∧ (∀ x, pV (bh v w) 100 8 22 (.int x) = some (bh (u2 v 100 22 x) w)) ∧ gI (bh v w) 100 8 23 = some (v 100 23) ∧ (∀ x, pV (bh v w) 100 8 23 (.int x) = some (bh (u2 v 100 23 x) w)) ∧ gI (bh v w) 100 8 24 = some (v 100 24) ∧ (∀ x, pV (bh v w) 100 8 24 (.int x) = some (bh (u2 v 100 24 x) w)) ∧ gI (bh v w) 100 8 25 = some (v 100 25) ∧ (∀ x, pV (bh v w) 100 8 25 (.int x) = some (bh (u2 v 100 25 x) w)) ∧ gI (bh v w) 100 8 26 = some (v 100 26) ∧ (∀ x, pV (bh v w) 100 8 26 (.int x) = some (bh (u2 v 100 26 x) w)) ∧ gR (bh v w) 100 8 27 = some 115 ∧ gR (bh v w) 100 8 28 = some 116 ∧ gR (bh v w) 100 8 29 = some 117 ∧ gR (bh v w) 100 8 30 = some 118 ∧ gR (bh v w) 100 8 31 = some 119 ∧ gR (bh v w) 100 8 32 = some 120 ∧ gR (bh v w) 100 8 33 = some 121 ∧ gR (bh v w) 100 8 34 = some 122 ∧ gR (bh v w) 100 8 35 = some 123 ∧ gR (bh v w) 100 8 36 = some 124 ∧ gR (bh v w) 100 8 37 = some 125 ∧ gI (bh v w) 100 8 38 = some (v 100 38) ∧ (∀ x, pV (bh v w) 100 8 38 (.int x) = some (bh (u2 v 100 38 x) w)) ∧ (∀ i, aI (bh v w) 0 101 i = rd (v 101) 198 i) ∧ (∀ i x, sI (bh v w) 0 101 i x = wr v w 101 198 i x) ∧ (∀ i, aI (bh v w) 2 102 i = rd (v 102) 2 i) ∧ (∀ i x, sI (bh v w) 2 102 i x = wr v w 102 2 i x) ∧ (∀ i, aI (bh v w) 0 103 i = rd (v 103) 5 i) ∧ (∀ i x, sI (bh v w) 0 103 i x = wr v w 103 5 i x) ∧ (∀ i, aI (bh v w) 0 104 i = rd (v 104) 5 i) ∧ (∀ i x, sI (bh v w) 0 104 i x = wr v w 104 5 i x) ∧ (∀ i, aI (bh v w) 0 105 i = rd (v 105) 5 i) ∧ (∀ i x, sI (bh v w) 0 105 i x = wr v w 105 5 i x) ∧ (∀ i, aI (bh v w) 0 106 i = rd (v 106) 3 i) ∧ (∀ i x, sI (bh v w) 0 106 i x = wr v w 106 3 i x) ∧ (∀ i, aI (bh v w) 0 107 i = rd (v 107) 3 i) ∧ (∀ i x, sI (bh v w) 0 107 i x = wr v w 107 3 i x) ∧ (∀ i, aI (bh v w) 0 108 i = rd (v 108) 66 i) ∧ (∀ i x, sI (bh v w) 0 108 i x = wr v w 108 66 i x) ∧ (∀ i, aI (bh v w) 0 109 i = rd (v 109) 5 i) ∧ (∀ i x, sI (bh v w) 0 109 i x = wr v w 109 5 i x) ∧ (∀ i, aI (bh v w) 0 110 i = rd (v 110) 5 i) ∧ (∀ i x, sI (bh v w) 0 110 i x = wr v w 110 5 i x) ∧ (∀ i, aI (bh v w) 0 111 i = rd (v 111) 5 i) ∧ (∀ i x, sI (bh v w) 0 111 i x = wr v w 111 5 i x) ∧ (∀ i, aI (bh v w) 0 112 i = rd (v 112) 3 i) ∧ (∀ i x, sI (bh v w) 0 112 i x = wr v w 112 3 i x) ∧ (∀ i, aI (bh v w) 0 113 i = rd (v 113) 3 i) ∧ (∀ i x, sI (bh v w) 0 113 i x = wr v w 113 3 i x) ∧ (∀ i, aI (bh v w) 0 114 i = rd (v 114) 160 i) ∧ (∀ i x, sI (bh v w) 0 114 i x = wr v w 114 160 i x) ∧ (∀ i, aI (bh v w) 0 115 i = rd (v 115) 24576 i) ∧ (∀ i x, sI (bh v w) 0 115 i x = wr v w 115 24576 i x) ∧ (∀ i, aI (bh v w) 0 116 i = rd (v 116) 5 i) ∧ (∀ i x, sI (bh v w) 0 116 i x = wr v w 116 5 i x) ∧ (∀ i, aI (bh v w) 0 117 i = rd (v 117) 3 i) ∧ (∀ i x, sI (bh v w) 0 117 i x = wr v w 117 3 i x) ∧ (∀ i, aI (bh v w) 0 118 i = rd (v 118) 3 i) ∧ (∀ i x, sI (bh v w) 0 118 i x = wr v w 118 3 i x) ∧ (∀ i, aI (bh v w) 0 119 i = rd (v 119) 66 i) ∧ (∀ i x, sI (bh v w) 0 119 i x = wr v w 119 66 i x) ∧ (∀ i, aL (bh v w) 120 i = rd (w 120) 16 i) ∧ (∀ i x, sL (bh v w) 120 i x = wrL v w 120 16 i x) ∧ (∀ i, aL (bh v w) 121 i = rd (w 121) 216 i) ∧ (∀ i x, sL (bh v w) 121 i x = wrL v w 121 216 i x) ∧ (∀ i, aL (bh v w) 122 i = rd (w 122) 216 i) ∧ (∀ i x, sL (bh v w) 122 i x = wrL v w 122 216 i x) ∧ (∀ i, aI (bh v w) 0 123 i = rd (v 123) 4 i) ∧ (∀ i x, sI (bh v w) 0 123 i x = wr v w 123 4 i x) ∧ (∀ i, aI (bh v w) 0 124 i = rd (v 124) 4 i) ∧ (∀ i x, sI (bh v w) 0 124 i x = wr v w 124 4 i x) ∧ (∀ i, aI (bh v w) 0 125 i = rd (v 125) 160 i) ∧ (∀ i x, sI (bh v w) 0 125 i x = wr v w 125 160 i x) := ⟨rfl, rfl, rfl, rfl, (fun _ => pV_bh rfl rfl), rfl, (fun _ => pV_bh rfl rfl), rfl, rfl, rfl, rfl, rfl, rfl, rfl, (fun _ => pV_bh rfl rfl), rfl, (fun _ => pV_bh rfl rfl), rfl, rfl, rfl, rfl, rfl, rfl, (fun _ => pV_bh rfl rfl), rfl, (fun _ => pV_bh rfl rfl), rfl, rfl, (fun _ => pV_bh rfl rfl), rfl, (fun _ => pV_bh rfl rfl), rfl, (fun _ => pV_bh rfl rfl), rfl, (fun _ => pV_bh rfl rfl), rfl, (fun _ => pV_bh rfl rfl), rfl, (fun _ => pV_bh rfl rfl), rfl, (fun _ => pV_bh rfl rfl), rfl, rfl, rfl, rfl, rfl, rfl, rfl, rfl, rfl, rfl, rfl, rfl, (fun _ => pV_bh rfl rfl), aI_bh rfl, sI_bh rfl, aI_bh rfl, sI_bh rfl, aI_bh rfl, sI_bh rfl, aI_bh rfl, sI_bh rfl, aI_bh rfl, sI_bh rfl, aI_bh rfl, sI_bh rfl, aI_bh rfl, sI_bh rfl, aI_bh rfl, sI_bh rfl, aI_bh rfl, sI_bh rfl, aI_bh rfl, sI_bh rfl, aI_bh rfl, sI_bh rfl, aI_bh rfl, sI_bh rfl, aI_bh rfl, sI_bh rfl, aI_bh rfl, sI_bh rfl, aI_bh rfl, sI_bh rfl, aI_bh rfl, sI_bh rfl, aI_bh rfl, sI_bh rfl, aI_bh rfl, sI_bh rfl, aI_bh rfl, sI_bh rfl, aL_bh rfl, sL_bh rfl, aL_bh rfl, sL_bh rfl, aL_bh rfl, sL_bh rfl, aI_bh rfl, sI_bh rfl, aI_bh rfl, sI_bh rfl, aI_bh rfl, sI_bh rfl⟩
/-- the places of the class's realms: now, trial, two images -/
def rl (o : Nat) : Prop := o = 3 ∨ o = 20 ∨ o = 58 ∨ o = 75
theorem hRl {o : Nat} (ho : rl o) (v : Nat → Nat → Int32) (w : Nat → Nat → Int64) : kC (bh v w) o 4 = some () ∧ gI (bh v w) o 4 0 = some (v o 0) ∧ (∀ x, pV (bh v w) o 4 0 (.int x) = some (bh (u2 v o 0 x) w)) ∧ gI (bh v w) o 4 1 = some (v o 1) ∧ (∀ x, pV (bh v w) o 4 1 (.int x) = some (bh (u2 v o 1 x) w)) ∧ gI (bh v w) o 4 2 = some (v o 2) ∧ (∀ x, pV (bh v w) o 4 2 (.int x) = some (bh (u2 v o 2 x) w)) ∧ gI (bh v w) o 4 3 = some (v o 3) ∧ (∀ x, pV (bh v w) o 4 3 (.int x) = some (bh (u2 v o 3 x) w)) ∧ gI (bh v w) o 4 4 = some (v o 4) ∧ (∀ x, pV (bh v w) o 4 4 (.int x) = some (bh (u2 v o 4 x) w)) ∧ gI (bh v w) o 4 5 = some (v o 5) ∧ (∀ x, pV (bh v w) o 4 5 (.int x) = some (bh (u2 v o 5 x) w)) ∧ gR (bh v w) o 4 6 = some (o + 1) ∧ gR (bh v w) o 4 7 = some (o + 2) ∧ gR (bh v w) o 4 8 = some (o + 3) ∧ gR (bh v w) o 4 9 = some (o + 4) ∧ gR (bh v w) o 4 10 = some (o + 5) ∧ gR (bh v w) o 4 11 = some (o + 6) ∧ gR (bh v w) o 4 12 = some (o + 7) ∧ gR (bh v w) o 4 13 = some (o + 8) ∧ gR (bh v w) o 4 14 = some (o + 9) ∧ gR (bh v w) o 4 15 = some (o + 10) ∧ gR (bh v w) o 4 16 = some (o + 11) ∧ gR (bh v w) o 4 17 = some (o + 12) ∧ gR (bh v w) o 4 18 = some (o + 13) ∧ (∀ i, aI (bh v w) 0 (o + 1) i = rd (v (o + 1)) 5 i) ∧ (∀ i x, sI (bh v w) 0 (o + 1) i x = wr v w (o + 1) 5 i x) ∧ (∀ i, aI (bh v w) 0 (o + 2) i = rd (v (o + 2)) 5 i) ∧ (∀ i x, sI (bh v w) 0 (o + 2) i x = wr v w (o + 2) 5 i x) ∧ (∀ i, aI (bh v w) 0 (o + 3) i = rd (v (o + 3)) 5 i) ∧ (∀ i x, sI (bh v w) 0 (o + 3) i x = wr v w (o + 3) 5 i x) ∧ (∀ i, aI (bh v w) 0 (o + 4) i = rd (v (o + 4)) 5 i) ∧ (∀ i x, sI (bh v w) 0 (o + 4) i x = wr v w (o + 4) 5 i x) ∧ (∀ i, aI (bh v w) 0 (o + 5) i = rd (v (o + 5)) 5 i) ∧ (∀ i x, sI (bh v w) 0 (o + 5) i x = wr v w (o + 5) 5 i x) ∧ (∀ i, aI (bh v w) 0 (o + 6) i = rd (v (o + 6)) 3 i) ∧ (∀ i x, sI (bh v w) 0 (o + 6) i x = wr v w (o + 6) 3 i x) ∧ (∀ i, aI (bh v w) 0 (o + 7) i = rd (v (o + 7)) 3 i) ∧ (∀ i x, sI (bh v w) 0 (o + 7) i x = wr v w (o + 7) 3 i x) ∧ (∀ i, aI (bh v w) 0 (o + 8) i = rd (v (o + 8)) 3 i) ∧ (∀ i x, sI (bh v w) 0 (o + 8) i x = wr v w (o + 8) 3 i x) ∧ (∀ i, aI (bh v w) 0 (o + 9) i = rd (v (o + 9)) 3 i) ∧ (∀ i x, sI (bh v w) 0 (o + 9) i x = wr v w (o + 9) 3 i x) ∧ (∀ i, aI (bh v w) 0 (o + 10) i = rd (v (o + 10)) 3 i) ∧ (∀ i x, sI (bh v w) 0 (o + 10) i x = wr v w (o + 10) 3 i x) ∧ (∀ i, aI (bh v w) 0 (o + 11) i = rd (v (o + 11)) 3 i) ∧ (∀ i x, sI (bh v w) 0 (o + 11) i x = wr v w (o + 11) 3 i x) ∧ (∀ i, aI (bh v w) 0 (o + 12) i = rd (v (o + 12)) 15 i) ∧ (∀ i x, sI (bh v w) 0 (o + 12) i x = wr v w (o + 12) 15 i x) ∧ kC (bh v w) (o + 13) 6 = some () ∧ gI (bh v w) (o + 13) 6 0 = some (v (o + 13) 0) ∧ (∀ x, pV (bh v w) (o + 13) 6 0 (.int x) = some (bh (u2 v (o + 13) 0 x) w)) ∧ gR (bh v w) (o + 13) 6 1 = some (o + 14) ∧ gR (bh v w) (o + 13) 6 2 = some (o + 15) ∧ gR (bh v w) (o + 13) 6 3 = some (o + 16) ∧ (∀ i, aI (bh v w) 0 (o + 14) i = rd (v (o + 14)) 8 i) ∧ (∀ i x, sI (bh v w) 0 (o + 14) i x = wr v w (o + 14) 8 i x) ∧ (∀ i, aI (bh v w) 0 (o + 15) i = rd (v (o + 15)) 8 i) ∧ (∀ i x, sI (bh v w) 0 (o + 15) i x = wr v w (o + 15) 8 i x) ∧ (∀ i, aI (bh v w) 0 (o + 16) i = rd (v (o + 16)) 8 i) ∧ (∀ i x, sI (bh v w) 0 (o + 16) i x = wr v w (o + 16) 8 i x) := by
  rcases ho with rfl | rfl | rfl | rfl <;> exact ⟨rfl, rfl, (fun _ => pV_bh rfl rfl), rfl, (fun _ => pV_bh rfl rfl), rfl, (fun _ => pV_bh rfl rfl), rfl, (fun _ => pV_bh rfl rfl), rfl, (fun _ => pV_bh rfl rfl), rfl, (fun _ => pV_bh rfl rfl), rfl, rfl, rfl, rfl, rfl, rfl, rfl, rfl, rfl, rfl, rfl, rfl, rfl, aI_bh rfl, sI_bh rfl, aI_bh rfl, sI_bh rfl, aI_bh rfl, sI_bh rfl, aI_bh rfl, sI_bh rfl, aI_bh rfl, sI_bh rfl, aI_bh rfl, sI_bh rfl, aI_bh rfl, sI_bh rfl, aI_bh rfl, sI_bh rfl, aI_bh rfl, sI_bh rfl, aI_bh rfl, sI_bh rfl, aI_bh rfl, sI_bh rfl, aI_bh rfl, sI_bh rfl, rfl, rfl, (fun _ => pV_bh rfl rfl), rfl, rfl, rfl, aI_bh rfl, sI_bh rfl, aI_bh rfl, sI_bh rfl, aI_bh rfl, sI_bh rfl⟩
theorem hQ (v : Nat → Nat → Int32) (w : Nat → Nat → Int64) : kC (bh v w) 0 0 = some () ∧ gR (bh v w) 0 0 0 = some 1 ∧ gR (bh v w) 0 0 1 = some 3 ∧ gR (bh v w) 0 0 2 = some 20 ∧ gR (bh v w) 0 0 3 = some 37 ∧ gR (bh v w) 0 0 4 = some 38 ∧ gR (bh v w) 0 0 5 = some 39 ∧ gR (bh v w) 0 0 6 = some 40 ∧ gR (bh v w) 0 0 7 = some 48 ∧ gR (bh v w) 0 0 8 = some 56 ∧ gI (bh v w) 0 0 9 = some (v 0 9) ∧ (∀ x, pV (bh v w) 0 0 9 (.int x) = some (bh (u2 v 0 9 x) w)) ∧ kC (bh v w) 1 3 = some () ∧ gR (bh v w) 1 3 0 = some 2 ∧ gI (bh v w) 1 3 1 = some (v 1 1) ∧ (∀ x, pV (bh v w) 1 3 1 (.int x) = some (bh (u2 v 1 1 x) w)) ∧ gI (bh v w) 1 3 2 = some (v 1 2) ∧ (∀ x, pV (bh v w) 1 3 2 (.int x) = some (bh (u2 v 1 2 x) w)) ∧ gI (bh v w) 1 3 3 = some (v 1 3) ∧ (∀ x, pV (bh v w) 1 3 3 (.int x) = some (bh (u2 v 1 3 x) w)) ∧ gI (bh v w) 1 3 4 = some (v 1 4) ∧ (∀ x, pV (bh v w) 1 3 4 (.int x) = some (bh (u2 v 1 4 x) w)) ∧ gI (bh v w) 1 3 5 = some (v 1 5) ∧ (∀ x, pV (bh v w) 1 3 5 (.int x) = some (bh (u2 v 1 5 x) w)) ∧ gI (bh v w) 1 3 6 = some (v 1 6) ∧ (∀ x, pV (bh v w) 1 3 6 (.int x) = some (bh (u2 v 1 6 x) w)) ∧ gI (bh v w) 1 3 7 = some (v 1 7) ∧ (∀ x, pV (bh v w) 1 3 7 (.int x) = some (bh (u2 v 1 7 x) w)) ∧ gI (bh v w) 1 3 8 = some (v 1 8) ∧ (∀ x, pV (bh v w) 1 3 8 (.int x) = some (bh (u2 v 1 8 x) w)) ∧ (∀ i, aI (bh v w) 1 2 i = rd (v 2) 160 i) ∧ (∀ i x, sI (bh v w) 1 2 i x = wr v w 2 160 i x) ∧ (∀ i, aI (bh v w) 2 38 i = rd (v 38) 2 i) ∧ (∀ i x, sI (bh v w) 2 38 i x = wr v w 38 2 i x) ∧ kC (bh v w) 40 2 = some () ∧ gI (bh v w) 40 2 0 = some (v 40 0) ∧ (∀ x, pV (bh v w) 40 2 0 (.int x) = some (bh (u2 v 40 0 x) w)) ∧ gR (bh v w) 40 2 1 = some 41 ∧ gR (bh v w) 40 2 2 = some 42 ∧ gR (bh v w) 40 2 3 = some 43 ∧ gR (bh v w) 40 2 4 = some 44 ∧ gR (bh v w) 40 2 5 = some 45 ∧ gR (bh v w) 40 2 6 = some 46 ∧ gR (bh v w) 40 2 7 = some 47 ∧ (∀ i, aI (bh v w) 0 41 i = rd (v 41) 3 i) ∧ (∀ i x, sI (bh v w) 0 41 i x = wr v w 41 3 i x) ∧ (∀ i, aI (bh v w) 0 42 i = rd (v 42) 5 i) ∧ (∀ i x, sI (bh v w) 0 42 i x = wr v w 42 5 i x) ∧ (∀ i, aI (bh v w) 0 43 i = rd (v 43) 6 i) ∧ (∀ i x, sI (bh v w) 0 43 i x = wr v w 43 6 i x) ∧ (∀ i, aI (bh v w) 0 44 i = rd (v 44) 15 i) ∧ (∀ i x, sI (bh v w) 0 44 i x = wr v w 44 15 i x) ∧ (∀ i, aI (bh v w) 0 45 i = rd (v 45) 15 i) ∧ (∀ i x, sI (bh v w) 0 45 i x = wr v w 45 15 i x) ∧ (∀ i, aI (bh v w) 0 46 i = rd (v 46) 15 i) ∧ (∀ i x, sI (bh v w) 0 46 i x = wr v w 46 15 i x) ∧ (∀ i, aI (bh v w) 0 47 i = rd (v 47) 216 i) ∧ (∀ i x, sI (bh v w) 0 47 i x = wr v w 47 216 i x) ∧ kC (bh v w) 48 7 = some () ∧ gI (bh v w) 48 7 0 = some (v 48 0) ∧ (∀ x, pV (bh v w) 48 7 0 (.int x) = some (bh (u2 v 48 0 x) w)) ∧ gR (bh v w) 48 7 1 = some 49 ∧ gR (bh v w) 48 7 2 = some 50 ∧ gR (bh v w) 48 7 3 = some 51 ∧ gR (bh v w) 48 7 4 = some 52 ∧ gR (bh v w) 48 7 5 = some 53 ∧ gR (bh v w) 48 7 6 = some 54 ∧ gR (bh v w) 48 7 7 = some 55 ∧ (∀ i, aI (bh v w) 0 49 i = rd (v 49) 15 i) ∧ (∀ i x, sI (bh v w) 0 49 i x = wr v w 49 15 i x) ∧ (∀ i, aI (bh v w) 0 50 i = rd (v 50) 15 i) ∧ (∀ i x, sI (bh v w) 0 50 i x = wr v w 50 15 i x) ∧ (∀ i, aI (bh v w) 0 51 i = rd (v 51) 5 i) ∧ (∀ i x, sI (bh v w) 0 51 i x = wr v w 51 5 i x) ∧ (∀ i, aI (bh v w) 0 52 i = rd (v 52) 3 i) ∧ (∀ i x, sI (bh v w) 0 52 i x = wr v w 52 3 i x) ∧ (∀ i, aI (bh v w) 0 53 i = rd (v 53) 3 i) ∧ (∀ i x, sI (bh v w) 0 53 i x = wr v w 53 3 i x) ∧ (∀ i, aL (bh v w) 54 i = rd (w 54) 18 i) ∧ (∀ i x, sL (bh v w) 54 i x = wrL v w 54 18 i x) ∧ (∀ i, aL (bh v w) 55 i = rd (w 55) 216 i) ∧ (∀ i x, sL (bh v w) 55 i x = wrL v w 55 216 i x) ∧ kC (bh v w) 56 1 = some () ∧ gL (bh v w) 56 1 0 = some (w 56 0) ∧ (∀ x, pV (bh v w) 56 1 0 (.long x) = some (bh v (u2L w 56 0 x))) ∧ gL (bh v w) 56 1 1 = some (w 56 1) ∧ (∀ x, pV (bh v w) 56 1 1 (.long x) = some (bh v (u2L w 56 1 x))) ∧ gR (bh v w) 56 1 2 = some 57 ∧ (∀ i, aL (bh v w) 57 i = rd (w 57) 10 i) ∧ (∀ i x, sL (bh v w) 57 i x = wrL v w 57 10 i x) ∧ kC (bh v w) 92 5 = some () ∧ gI (bh v w) 92 5 0 = some (v 92 0) ∧ (∀ x, pV (bh v w) 92 5 0 (.int x) = some (bh (u2 v 92 0 x) w)) ∧ gI (bh v w) 92 5 1 = some (v 92 1) ∧ (∀ x, pV (bh v w) 92 5 1 (.int x) = some (bh (u2 v 92 1 x) w)) ∧ gR (bh v w) 92 5 2 = some 93 ∧ (∀ i, aI (bh v w) 0 93 i = rd (v 93) 40 i) ∧ (∀ i x, sI (bh v w) 0 93 i x = wr v w 93 40 i x) ∧ kC (bh v w) 94 5 = some () ∧ gI (bh v w) 94 5 0 = some (v 94 0) ∧ (∀ x, pV (bh v w) 94 5 0 (.int x) = some (bh (u2 v 94 0 x) w)) ∧ gI (bh v w) 94 5 1 = some (v 94 1) ∧ (∀ x, pV (bh v w) 94 5 1 (.int x) = some (bh (u2 v 94 1 x) w)) ∧ gR (bh v w) 94 5 2 = some 95 ∧ (∀ i, aI (bh v w) 0 95 i = rd (v 95) 40 i) ∧ (∀ i x, sI (bh v w) 0 95 i x = wr v w 95 40 i x) ∧ kC (bh v w) 96 5 = some () ∧ gI (bh v w) 96 5 0 = some (v 96 0) ∧ (∀ x, pV (bh v w) 96 5 0 (.int x) = some (bh (u2 v 96 0 x) w)) ∧ gI (bh v w) 96 5 1 = some (v 96 1) ∧ (∀ x, pV (bh v w) 96 5 1 (.int x) = some (bh (u2 v 96 1 x) w)) ∧ gR (bh v w) 96 5 2 = some 97 ∧ (∀ i, aI (bh v w) 0 97 i = rd (v 97) 40 i) ∧ (∀ i x, sI (bh v w) 0 97 i x = wr v w 97 40 i x) ∧ kC (bh v w) 98 5 = some () ∧ gI (bh v w) 98 5 0 = some (v 98 0) ∧ (∀ x, pV (bh v w) 98 5 0 (.int x) = some (bh (u2 v 98 0 x) w)) ∧ gI (bh v w) 98 5 1 = some (v 98 1) ∧ (∀ x, pV (bh v w) 98 5 1 (.int x) = some (bh (u2 v 98 1 x) w)) ∧ gR (bh v w) 98 5 2 = some 99 ∧ (∀ i, aI (bh v w) 0 99 i = rd (v 99) 40 i) ∧ (∀ i x, sI (bh v w) 0 99 i x = wr v w 99 40 i x) := ⟨rfl, rfl, rfl, rfl, rfl, rfl, rfl, rfl, rfl, rfl, rfl, (fun _ => pV_bh rfl rfl), rfl, rfl, rfl, (fun _ => pV_bh rfl rfl), rfl, (fun _ => pV_bh rfl rfl), rfl, (fun _ => pV_bh rfl rfl), rfl, (fun _ => pV_bh rfl rfl), rfl, (fun _ => pV_bh rfl rfl), rfl, (fun _ => pV_bh rfl rfl), rfl, (fun _ => pV_bh rfl rfl), rfl, (fun _ => pV_bh rfl rfl), aI_bh rfl, sI_bh rfl, aI_bh rfl, sI_bh rfl, rfl, rfl, (fun _ => pV_bh rfl rfl), rfl, rfl, rfl, rfl, rfl, rfl, rfl, aI_bh rfl, sI_bh rfl, aI_bh rfl, sI_bh rfl, aI_bh rfl, sI_bh rfl, aI_bh rfl, sI_bh rfl, aI_bh rfl, sI_bh rfl, aI_bh rfl, sI_bh rfl, aI_bh rfl, sI_bh rfl, rfl, rfl, (fun _ => pV_bh rfl rfl), rfl, rfl, rfl, rfl, rfl, rfl, rfl, aI_bh rfl, sI_bh rfl, aI_bh rfl, sI_bh rfl, aI_bh rfl, sI_bh rfl, aI_bh rfl, sI_bh rfl, aI_bh rfl, sI_bh rfl, aL_bh rfl, sL_bh rfl, aL_bh rfl, sL_bh rfl, rfl, rfl, (fun _ => pV_bhL rfl rfl), rfl, (fun _ => pV_bhL rfl rfl), rfl, aL_bh rfl, sL_bh rfl, rfl, rfl, (fun _ => pV_bh rfl rfl), rfl, (fun _ => pV_bh rfl rfl), rfl, aI_bh rfl, sI_bh rfl, rfl, rfl, (fun _ => pV_bh rfl rfl), rfl, (fun _ => pV_bh rfl rfl), rfl, aI_bh rfl, sI_bh rfl, rfl, rfl, (fun _ => pV_bh rfl rfl), rfl, (fun _ => pV_bh rfl rfl), rfl, aI_bh rfl, sI_bh rfl, rfl, rfl, (fun _ => pV_bh rfl rfl), rfl, (fun _ => pV_bh rfl rfl), rfl, aI_bh rfl, sI_bh rfl⟩
end
/-! 71.m1.lean.txt -/
section
/-! numbers -/
def zI (z : Int) : Int32 := Int32.ofInt z
theorem zI_n (n : Nat) : zI (n : Int) = nI n := by
  apply Int32.toBitVec_inj.mp
  show BitVec.ofInt 32 (n : Int) = BitVec.ofNat 32 n
  simp
theorem zI_t {z : Int} (h1 : -2 ^ 31 ≤ z) (h2 : z < 2 ^ 31) : (zI z).toInt = z := Int32.toInt_ofInt_of_le h1 h2
theorem zI_sub (a b : Int) : zI a - zI b = zI (a - b) := (Int32.ofInt_sub a b).symm
theorem zI_add (a b : Int) : zI a + zI b = zI (a + b) := (Int32.ofInt_add a b).symm
theorem zI_subn (a : Int) (b : Nat) : zI a - nI b = zI (a - b) := by rw [← zI_n, zI_sub]
theorem zI_ge {z : Int} (h1 : -2 ^ 31 ≤ z) (h2 : z < 2 ^ 31) : (0 : Int32) ≤ zI z ↔ 0 ≤ z := by
  rw [Int32.le_iff_toInt_le, zI_t h1 h2]; rfl
def sumN (f : Nat → Nat) : Nat → Nat
  | 0 => 0
  | n + 1 => sumN f n + f n
theorem sumN_le {f g : Nat → Nat} : ∀ {n : Nat}, (∀ i, i < n → f i ≤ g i) → sumN f n ≤ sumN g n
  | 0, _ => Nat.le_refl _
  | n + 1, h => Nat.add_le_add (sumN_le (fun i hi => h i (by omega))) (h n (by omega))
theorem sumN_c {f : Nat → Nat} {c : Nat} : ∀ {n : Nat}, (∀ i, i < n → f i ≤ c) → sumN f n ≤ c * n
  | 0, _ => Nat.zero_le _
  | n + 1, h => by
    have h1 := sumN_c (n := n) (fun i hi => h i (by omega))
    have h2 := h n (by omega)
    show sumN f n + f n ≤ c * (n + 1)
    rw [Nat.mul_succ]
    omega
theorem sumN_congr {f g : Nat → Nat} : ∀ {n : Nat}, (∀ i, i < n → f i = g i) → sumN f n = sumN g n
  | 0, _ => rfl
  | n + 1, h => by
    show sumN f n + f n = sumN g n + g n
    rw [sumN_congr (fun i hi => h i (by omega)), h n (by omega)]
/-- a bit -/
def bit (s l : Nat) : Nat := s / 2 ^ l % 2
theorem bit_I {s l : Nat} (hs : s < 2 ^ 31) (hl : l < 32) : (nI s >>> (nI l &&& 31)) &&& 1 = nI (bit s l) := by
  have h1 : ((nI l &&& 31).toBitVec.smod 32).toNat = l := by
    have : ∀ n, n < 32 → ((nI n &&& 31).toBitVec.smod 32).toNat = n := by decide +kernel
    exact this l hl
  rw [pk_shrN hs _ l h1]
  have h2 : s / 2 ^ l < 2 ^ 32 := Nat.lt_of_le_of_lt (Nat.div_le_self _ _) (by omega)
  rw [pk_andN h2 1 (by decide)]
  rfl
theorem bit_lt (s l : Nat) : bit s l < 2 := Nat.mod_lt _ (by decide)
theorem bit_01 (s l : Nat) : bit s l = 0 ∨ bit s l = 1 := by have := bit_lt s l; omega
theorem shl_I {l : Nat} (hl : l < 31) : (1 : Int32) <<< (nI l &&& 31) = nI (2 ^ l) := by
  have : ∀ n, n < 31 → (1 : Int32) <<< (nI n &&& 31) = nI (2 ^ n) := by decide +kernel
  exact this l hl
/-- which LAW it carries: 0 none -/
def cI (c : Nat) : Int32 := match c with
  | 0 => -4
  | m + 1 => nI m
theorem i64_le (a b : Int32) : a.toInt64 ≤ b.toInt64 ↔ a.toInt ≤ b.toInt := by
  rw [Int64.le_iff_toInt_le, Int32.toInt_toInt64, Int32.toInt_toInt64]
theorem cmp_lt (a b : Int64) : lg_cmp a b < 0 ↔ a < b := by
  unfold lg_cmp
  by_cases h1 : a > b
  · rw [if_pos h1]
    have : ¬ a < b := Int64.not_lt.mpr (Int64.le_of_lt h1)
    simp [this]
  · rw [if_neg h1]
    by_cases h2 : a = b
    · rw [if_pos h2, h2]; simp
    · rw [if_neg h2]
      have : a < b := by
        rw [Int64.lt_iff_toInt_lt]
        rw [gt_iff_lt, Int64.lt_iff_toInt_lt] at h1
        rw [← Int64.toInt_inj] at h2
        omega
      simp [this]
theorem cmp_gt (a b : Int64) : 0 < lg_cmp a b ↔ b < a := by
  unfold lg_cmp
  by_cases h1 : a > b
  · rw [if_pos h1]; simp [show b < a from h1]
  · rw [if_neg h1]
    by_cases h2 : a = b
    · rw [if_pos h2, h2]; simp
    · rw [if_neg h2]; simp [show ¬ b < a from h1]
/-- the numbers of a realm. 0: LAWS, PEOPLE, YEAR, DONE, STANDS, WATCHED, how many were SEEN; 1 QUOTA, 2 CAP, 3 HARM, 4 FINE, 5 CARRIES (0 none, else one more than the LAW), 6 TIME, 7 CLUMSY, 8 NERVE, 9 PURSE, 10 REFUSES, 11 WANTS, 12 BROKEN (5 p + l), 13 14 15 SEEN -/
abbrev Rho : Type := Nat → Nat → Nat
def ROK (ρ : Rho) : Prop :=
  (ρ 0 0 ≤ 5 ∧ ρ 0 1 ≤ 3 ∧ ρ 0 2 ≤ 999 ∧ ρ 0 3 ≤ 9999 ∧ ρ 0 4 < 2 ^ ρ 0 0 ∧ ρ 0 5 < 2 ^ ρ 0 0 ∧ ρ 0 6 ≤ 8) ∧
  (∀ l, l < ρ 0 0 → ρ 1 l ≤ 9 ∧ 1 ≤ ρ 2 l ∧ ρ 2 l ≤ 3 ∧ ρ 3 l ≤ 9 ∧ ρ 4 l ≤ 9 ∧ ρ 5 l ≤ ρ 0 0 ∧ ρ 5 l ≠ l + 1) ∧
  (∀ p, p < ρ 0 1 → ρ 6 p ≤ 5 ∧ ρ 7 p ≤ 3 ∧ ρ 8 p ≤ 10 ∧ ρ 9 p ≤ 99 ∧ ρ 10 p < 2 ^ ρ 0 0 ∧ ρ 11 p < 2 ^ ρ 0 0 ∧ sumN (fun l => ρ 12 (5 * p + l)) (ρ 0 0) ≤ 5) ∧
  (∀ p l, p < ρ 0 1 → l < ρ 0 0 → ρ 12 (5 * p + l) ≤ ρ 2 l) ∧
  (∀ i, i < ρ 0 6 → (ρ 13 i = 0 ∧ ρ 14 i < ρ 0 1 ∨ ρ 13 i = 1 ∧ ρ 14 i < ρ 0 0) ∧ ρ 15 i ≤ 20)
/-- the reference's bank of 66 numbers from k on, in the row q -/
def MB (q k : Nat) (ρ : Rho) (v : Nat → Nat → Int32) : Prop :=
  (∀ l, l < ρ 0 0 → v q (k + l) = nI (ρ 1 l)) ∧ (∀ l, l < ρ 0 0 → v q (k + 5 + l) = cI (ρ 5 l)) ∧ v q (k + 10) = nI (ρ 0 4) ∧ v q (k + 11) = nI (ρ 0 5) ∧
  (∀ p, p < ρ 0 1 → v q (k + 12 + p) = nI (ρ 6 p)) ∧ (∀ p, p < ρ 0 1 → v q (k + 15 + p) = nI (ρ 9 p)) ∧ (∀ p, p < ρ 0 1 → v q (k + 18 + p) = nI (ρ 10 p)) ∧ (∀ p, p < ρ 0 1 → v q (k + 21 + p) = nI (ρ 11 p)) ∧
  (∀ p l, p < ρ 0 1 → l < ρ 0 0 → v q (k + 24 + 5 * p + l) = nI (ρ 12 (5 * p + l))) ∧ v q (k + 39) = nI (ρ 0 2) ∧ v q (k + 40) = nI (ρ 0 3) ∧ v q (k + 41) = nI (ρ 0 6) ∧
  (∀ i, i < ρ 0 6 → v q (k + 42 + 3 * i) = nI (ρ 13 i) ∧ v q (k + 42 + 3 * i + 1) = nI (ρ 14 i) ∧ v q (k + 42 + 3 * i + 2) = nI (ρ 15 i))
/-- what it holds beside its banks -/
def MF (ρ : Rho) (v : Nat → Nat → Int32) : Prop :=
  v 100 2 = nI (ρ 0 0) ∧ v 100 3 = nI (ρ 0 1) ∧ (∀ l, l < ρ 0 0 → v 103 l = nI (ρ 2 l) ∧ v 104 l = nI (ρ 3 l) ∧ v 105 l = nI (ρ 4 l)) ∧ (∀ p, p < ρ 0 1 → v 106 p = nI (ρ 7 p) ∧ v 107 p = nI (ρ 8 p))
def MR (ρ : Rho) (v : Nat → Nat → Int32) : Prop := MF ρ v ∧ MB 101 0 ρ v
/-- what is asked of a realm -/
def sAll (ρ : Rho) (p : Nat) : Nat := sumN (fun l => ρ 12 (5 * p + l)) (ρ 0 0)
def sNeed (ρ : Rho) (l : Nat) : Nat := if bit (ρ 0 4) l = 1 then ρ 1 l - sumN (fun p => ρ 12 (5 * p + l)) (ρ 0 1) else 0
def sRoom (ρ : Rho) (p l : Nat) : Nat := if bit (ρ 0 4) l = 1 ∧ bit (ρ 10 p) l = 0 then ρ 2 l - ρ 12 (5 * p + l) else 0
def sLeft (ρ : Rho) (p : Nat) : Nat := ρ 6 p - sAll ρ p
end
/-! 72.m2.lean.txt -/
section
section
variable {ρ : Rho} {v : Nat → Nat → Int32} {w : Nat → Nat → Int64}
theorem M_in (a b c : Int64) (h : mH) : f_M_in a b c h = some (if b ≤ a ∧ a ≤ c then 1 else 0, h) := by
  simp only [f_M_in, f_M_in_0, f_M_in_17, cmp_lt, cmp_gt]
  by_cases h1 : a < b
  · have : ¬ b ≤ a := by rw [Int64.not_le]; exact h1
    simp [h1, this]
  · have h1' : b ≤ a := Int64.not_lt.mp h1
    by_cases h2 : c < a
    · have : ¬ a ≤ c := by rw [Int64.not_le]; exact h2
      simp [h1, h2, this]
    · have h2' : a ≤ c := Int64.not_lt.mp h2
      simp [h1, h2, h1', h2']
theorem ite01 {c : Prop} [Decidable c] : ((if c then (1 : Int32) else 0) = 0 ∨ (if c then (1 : Int32) else 0) = 1) := by split <;> simp
theorem ite_of {c d : Prop} [Decidable c] [Decidable d] (h : c ↔ d) : (if c then (1 : Int32) else 0) = if d then 1 else 0 := by
  by_cases z : c
  · rw [if_pos z, if_pos (h.mp z)]
  · rw [if_neg z, if_neg (fun q => z (h.mpr q))]
theorem M_isLaw (hr : MF ρ v) (hk : ρ 0 0 ≤ 5) (x : Int32) : f_M_isLaw 100 x (bh v w) = some (if 0 ≤ x.toInt ∧ x.toInt < ρ 0 0 then 1 else 0, bh v w) := by
  simp only [f_M_isLaw, f_M_isLaw_0, hM v w, bd1_s, M_in, bd2_s]
  rw [if_pos ite01]
  have e1 : (0 : Int64) = (0 : Int32).toInt64 := rfl
  have e2 : (v 100 2 - 1).toInt = (ρ 0 0 : Int) - 1 := by
    rw [hr.1, show (1 : Int32) = nI 1 from rfl, pk_sub_toInt (by omega) (by omega)]
    rfl
  refine congrArg (fun z => some (z, bh v w)) (ite_of ?_)
  have e3 : (0 : Int32).toInt = 0 := rfl
  rw [e1, i64_le, i64_le, e2, e3]
  omega
theorem M_isOne (hr : MF ρ v) (hk : ρ 0 1 ≤ 3) (x : Int32) : f_M_isOne 100 x (bh v w) = some (if 0 ≤ x.toInt ∧ x.toInt < ρ 0 1 then 1 else 0, bh v w) := by
  simp only [f_M_isOne, f_M_isOne_0, hM v w, bd1_s, M_in, bd2_s]
  rw [if_pos ite01]
  have e1 : (0 : Int64) = (0 : Int32).toInt64 := rfl
  have e2 : (v 100 3 - 1).toInt = (ρ 0 1 : Int) - 1 := by
    rw [hr.2.1, show (1 : Int32) = nI 1 from rfl, pk_sub_toInt (by omega) (by omega)]
    rfl
  refine congrArg (fun z => some (z, bh v w)) (ite_of ?_)
  have e3 : (0 : Int32).toInt = 0 := rfl
  rw [e1, i64_le, i64_le, e2, e3]
  omega
theorem M_doesStand (hb : MB 101 0 ρ v) (hs : ρ 0 4 < 2 ^ 31) {l : Nat} (hl : l < 32) : f_M_doesStand 100 (nI l) (bh v w) = some (nI (bit (ρ 0 4) l), bh v w) := by
  simp only [f_M_doesStand, f_M_doesStand_0, hM v w, bd1_s, bd2_s]
  have e1 : rd (v 101) 198 (10 : Int32) = some (nI (ρ 0 4)) := by rw [← hb.2.2.1]; rfl
  rw [e1, bd1_s, bit_I hs hl]
  rcases bit_01 (ρ 0 4) l with h | h <;> rw [h] <;> rfl
theorem M_brokenBy (hb : MB 101 0 ρ v) (hk : ROK ρ) {p l : Nat} (hp : p < ρ 0 1) (hl : l < ρ 0 0) : f_M_brokenBy 100 (nI p) (nI l) (bh v w) = some (nI (ρ 12 (5 * p + l)), bh v w) := by
  have h1 := hk.1.1
  have h2 := hk.1.2.1
  simp only [f_M_brokenBy, f_M_brokenBy_0, hM v w, bd1_s, bd2_s]
  rw [show (24 : Int32) = nI 24 from rfl, show (5 : Int32) = nI 5 from rfl, pk_mul, nI_add, nI_add, rd_nI (by omega) (by decide), bd1_s]
  have := hb.2.2.2.2.2.2.2.2.1 p l hp hl
  rw [show 0 + 24 + 5 * p + l = 24 + 5 * p + l by omega] at this
  rw [this]
theorem M_allBy (hr : MR ρ v) (hk : ROK ρ) {p : Nat} (hp : p < ρ 0 1) : f_M_allBy 100 (nI p) (bh v w) = some (nI (sAll ρ p), bh v w) := by
  have h1 := hk.1.1
  have key : ∀ (k fuel l : Nat), k < fuel → l + k = ρ 0 0 → f_M_allBy_4 fuel 100 (nI p) (nI (sumN (fun l => ρ 12 (5 * p + l)) l)) (nI l) (bh v w) = some (nI (sAll ρ p), bh v w) := by
    intro k
    induction k with
    | zero =>
      intro fuel l hf hl
      obtain ⟨n, rfl⟩ : ∃ n, fuel = n + 1 := ⟨fuel - 1, by omega⟩
      simp only [f_M_allBy_4, f_M_allBy_4b, hM v w, bd1_s]
      rw [hr.1.1, if_pos (nI_le (by omega) (by omega)), show l = ρ 0 0 by omega]
      rfl
    | succ k ih =>
      intro fuel l hf hl
      obtain ⟨n, rfl⟩ : ∃ n, fuel = n + 1 := ⟨fuel - 1, by omega⟩
      simp only [f_M_allBy_4, f_M_allBy_4b, hM v w, bd1_s]
      rw [hr.1.1, if_neg (nI_ge (by omega) (by omega)), M_brokenBy hr.2 hk hp (by omega), bd2_s, nI_add, nI_1]
      exact ih n (l + 1) (by omega) (by omega)
  simp only [f_M_allBy, f_M_allBy_0]
  exact key (ρ 0 0) FU 0 (by unfold FU; omega) (by omega)
theorem M_needOf (hr : MR ρ v) (hk : ROK ρ) {l : Nat} (hl : l < ρ 0 0) : f_M_needOf 100 (nI l) (bh v w) = some (nI (sNeed ρ l), bh v w) := by
  have h1 := hk.1.1
  have h2 := hk.1.2.1
  have hst : ρ 0 4 < 2 ^ 31 := Nat.lt_of_lt_of_le hk.1.2.2.2.2.1 (Nat.le_trans (Nat.pow_le_pow_right (by decide) h1) (by decide))
  have hq : ρ 1 l ≤ 9 := (hk.2.1 l hl).1
  have hB : ∀ p, p < ρ 0 1 → ρ 12 (5 * p + l) ≤ 3 := fun p hp => Nat.le_trans (hk.2.2.2.1 p l hp hl) (hk.2.1 l hl).2.2.1
  have key : ∀ (k fuel p : Nat) (q : Nat), q ≤ 9 → k < fuel → p + k = ρ 0 1 → f_M_needOf_23 fuel 100 (nI l) (zI ((q : Int) - sumN (fun p => ρ 12 (5 * p + l)) p)) (nI p) (bh v w) = some (nI (q - sumN (fun p => ρ 12 (5 * p + l)) (ρ 0 1)), bh v w) := by
    intro k
    induction k with
    | zero =>
      intro fuel p q hq hf hp
      obtain ⟨n, rfl⟩ : ∃ n, fuel = n + 1 := ⟨fuel - 1, by omega⟩
      have hs : sumN (fun p => ρ 12 (5 * p + l)) p ≤ 3 * p := sumN_c (fun i hi => hB i (by omega))
      simp only [f_M_needOf_23, f_M_needOf_23b, hM v w, bd1_s]
      rw [hr.1.2.1, if_pos (nI_le (by omega) (by omega)), show ρ 0 1 = p by omega]
      by_cases hc : sumN (fun p => ρ 12 (5 * p + l)) p ≤ q
      · rw [if_pos ((zI_ge (by omega) (by omega)).mpr (by omega)), show ((q : Int) - (sumN (fun p => ρ 12 (5 * p + l)) p : Nat)) = ((q - sumN (fun p => ρ 12 (5 * p + l)) p : Nat) : Int) by omega, zI_n]
      · rw [if_neg (fun z => hc (by have := (zI_ge (by omega) (by omega)).mp z; omega)), show q - sumN (fun p => ρ 12 (5 * p + l)) p = 0 by omega]
        rfl
    | succ k ih =>
      intro fuel p q hq hf hp
      obtain ⟨n, rfl⟩ : ∃ n, fuel = n + 1 := ⟨fuel - 1, by omega⟩
      simp only [f_M_needOf_23, f_M_needOf_23b, hM v w, bd1_s]
      rw [hr.1.2.1, if_neg (nI_ge (by omega) (by omega)), M_brokenBy hr.2 hk (by omega) hl, bd2_s, zI_subn, nI_1]
      have := ih n (p + 1) q hq (by omega) (by omega)
      rw [show ((q : Int) - (sumN (fun p => ρ 12 (5 * p + l)) p : Nat)) - (ρ 12 (5 * p + l) : Nat) = (q : Int) - (sumN (fun p => ρ 12 (5 * p + l)) (p + 1) : Nat) by show _ = (q : Int) - ((sumN (fun p => ρ 12 (5 * p + l)) p + ρ 12 (5 * p + l) : Nat) : Int); omega]
      exact this
  simp only [f_M_needOf, f_M_needOf_0, f_M_needOf_20, hM v w, bd1_s]
  rw [M_doesStand hr.2 hst (by omega), bd2_s]
  rcases bit_01 (ρ 0 4) l with h | h
  · rw [h, if_pos (show nI 0 = 0 from rfl)]
    have := key (ρ 0 1) FU 0 0 (by omega) (by unfold FU; omega) (by omega)
    rw [show ((0 : Nat) : Int) - (sumN (fun p => ρ 12 (5 * p + l)) 0 : Nat) = ((0 : Nat) : Int) by rfl, zI_n] at this
    rw [show (0 : Int32) = nI 0 from rfl, this]
    unfold sNeed
    rw [h, if_neg (by decide), Nat.zero_sub]
  · rw [h, if_neg (show ¬ nI 1 = 0 by decide)]
    simp only [hM v w, bd1_s]
    rw [show (0 : Int32) = nI 0 from rfl, nI_add, rd_nI (by omega) (by decide), bd1_s, hr.2.1 l hl]
    have := key (ρ 0 1) FU 0 (ρ 1 l) hq (by unfold FU; omega) (by omega)
    rw [show ((ρ 1 l : Nat) : Int) - (sumN (fun p => ρ 12 (5 * p + l)) 0 : Nat) = ((ρ 1 l : Nat) : Int) by show ((ρ 1 l : Nat) : Int) - ((0 : Nat) : Int) = _; omega, zI_n] at this
    rw [this]
    unfold sNeed
    rw [h, if_pos rfl]
end
end
/-! 73.m3.lean.txt -/
section
theorem or_I (a b : Nat) : nI a ||| nI b = nI (a ||| b) := by
  apply Int32.toBitVec_inj.mp
  rw [Int32.toBitVec_or]
  show BitVec.ofNat 32 a ||| BitVec.ofNat 32 b = BitVec.ofNat 32 (a ||| b)
  exact (BitVec.ofNat_or).symm
theorem and_I (a b : Nat) : nI a &&& nI b = nI (a &&& b) := by
  apply Int32.toBitVec_inj.mp
  rw [Int32.toBitVec_and]
  show BitVec.ofNat 32 a &&& BitVec.ofNat 32 b = BitVec.ofNat 32 (a &&& b)
  exact (BitVec.ofNat_and).symm
theorem ite_iff {α : Type} {c d : Prop} [Decidable c] [Decidable d] (h : c ↔ d) {a b : α} : (if c then a else b) = if d then a else b := by
  by_cases z : c
  · rw [if_pos z, if_pos (h.mp z)]
  · rw [if_neg z, if_neg (fun q => z (h.mpr q))]
theorem nI_le0 {n : Nat} (h : n < 2 ^ 31) : nI n ≤ 0 ↔ n = 0 := by
  rw [show (0 : Int32) = nI 0 from rfl, nI_leI h (by decide)]
  omega
theorem nI_eq0 {n : Nat} (h : n < 2 ^ 31) : nI n = 0 ↔ n = 0 := by
  rw [show (0 : Int32) = nI 0 from rfl, nI_eq h (by decide)]
theorem nI_eq1 {n : Nat} (h : n < 2 ^ 31) : nI n = 1 ↔ n = 1 := by
  rw [show (1 : Int32) = nI 1 from rfl, nI_eq h (by decide)]
theorem pw_le {L : Nat} (h : L ≤ 5) {x : Nat} (hx : x < 2 ^ L) : x < 32 := Nat.lt_of_lt_of_le hx (Nat.le_trans (Nat.pow_le_pow_right (by decide) h) (by decide))
/-- chains -/
def chn (ρ : Rho) : Nat → Nat → Nat → Nat
  | 0, acc, _ => acc
  | _ + 1, acc, 0 => acc
  | n + 1, acc, m + 1 => if bit acc m = 1 then acc else chn ρ n (acc ||| 2 ^ m) (ρ 5 m)
def sChain (ρ : Rho) (l : Nat) : Nat := chn ρ 6 0 (l + 1)
def mu5 (a : Nat) : Nat := sumN (fun m => 1 - bit a m) 5
theorem mu5_step : ∀ a, a < 32 → ∀ m, m < 5 → bit a m = 0 → a ||| 2 ^ m < 32 ∧ mu5 (a ||| 2 ^ m) + 1 = mu5 a := by decide +kernel
def orN (f : Nat → Nat) : Nat → Nat
  | 0 => 0
  | n + 1 => orN f n ||| f n
theorem or_lt : ∀ a, a < 32 → ∀ b, b < 32 → a ||| b < 32 := by decide +kernel
theorem orN_lt {f : Nat → Nat} : ∀ {n : Nat}, (∀ i, i < n → f i < 32) → orN f n < 32
  | 0, _ => Nat.zero_lt_succ _
  | n + 1, h => or_lt _ (orN_lt (fun i hi => h i (by omega))) _ (h n (by omega))
def sFalls (ρ : Rho) : Nat := orN (fun l => if 0 < sNeed ρ l then sChain ρ l else 0) (ρ 0 0) &&& ρ 0 4
def sCan (ρ : Rho) (p l : Nat) : Prop := 0 < sRoom ρ p l ∧ 0 < sLeft ρ p
def sTries (ρ : Rho) (p l : Nat) : Nat := if sLeft ρ p ≤ sRoom ρ p l then sLeft ρ p else sRoom ρ p l
theorem chn_lt (ρ : Rho) (hL : ρ 0 0 ≤ 5) (hc : ∀ l, l < ρ 0 0 → ρ 5 l ≤ ρ 0 0) : ∀ (n acc c : Nat), acc < 32 → c ≤ ρ 0 0 → chn ρ n acc c < 32
  | 0, acc, _, h, _ => h
  | _ + 1, acc, 0, h, _ => h
  | n + 1, acc, m + 1, h, hm => by
    show (if bit acc m = 1 then acc else chn ρ n (acc ||| 2 ^ m) (ρ 5 m)) < 32
    split
    · exact h
    · next z => exact chn_lt ρ hL hc n _ _ (mu5_step acc h m (by omega) (by rcases bit_01 acc m with q | q <;> omega)).1 (hc m (by omega))
section
variable {ρ : Rho} {v : Nat → Nat → Int32} {w : Nat → Nat → Int64}
theorem ROK.st (hk : ROK ρ) : ρ 0 4 < 32 := pw_le hk.1.1 hk.1.2.2.2.2.1
theorem M_roomOf (hr : MR ρ v) (hk : ROK ρ) {p l : Nat} (hp : p < ρ 0 1) (hl : l < ρ 0 0) : f_M_roomOf 100 (nI p) (nI l) (bh v w) = some (nI (sRoom ρ p l), bh v w) := by
  have h1 := hk.1.1
  have h2 := hk.1.2.1
  have hst := hk.st
  have hrf : ρ 10 p < 32 := pw_le h1 (hk.2.2.1 p hp).2.2.2.2.1
  have hB : ρ 12 (5 * p + l) ≤ ρ 2 l := hk.2.2.2.1 p l hp hl
  have hc : ρ 2 l ≤ 3 := (hk.2.1 l hl).2.2.1
  simp only [f_M_roomOf, f_M_roomOf_0, f_M_roomOf_28, f_M_roomOf_29, f_M_roomOf_51, hM v w, bd1_s]
  rw [M_doesStand hr.2 (by omega) (by omega), bd2_s]
  unfold sRoom
  rcases bit_01 (ρ 0 4) l with h | h
  · simp [h]
    rfl
  · rw [h, if_neg (show ¬ nI 1 = 0 by decide)]
    simp only [hM v w, bd1_s]
    rw [show (18 : Int32) = nI 18 from rfl, nI_add, rd_nI (by omega) (by decide), bd1_s]
    have e1 := hr.2.2.2.2.2.2.2.1 p hp
    rw [show 0 + 18 + p = 18 + p by omega] at e1
    rw [e1, bit_I (by omega) (by omega), ite_iff (nI_eq0 (by have := bit_lt (ρ 10 p) l; omega))]
    rcases bit_01 (ρ 10 p) l with g | g
    · rw [if_pos g, if_neg (by decide), rd_nI (by omega) (by decide), bd1_s, (hr.1.2.2.1 l hl).1, M_brokenBy hr.2 hk hp hl, bd2_s, pk_sub hB, if_pos (nI_pos' (by omega)), if_pos ⟨trivial, g⟩]
    · rw [if_neg (by omega), if_pos trivial, if_pos (by decide), if_neg (fun z => by have := z.2; omega)]
      rfl
theorem M_timeLeft (hr : MR ρ v) (hk : ROK ρ) {p : Nat} (hp : p < ρ 0 1) : f_M_timeLeft 100 (nI p) (bh v w) = some (nI (sLeft ρ p), bh v w) := by
  have h1 := hk.1.1
  have h2 := hk.1.2.1
  have ht := (hk.2.2.1 p hp).1
  have hs : sAll ρ p ≤ 5 := (hk.2.2.1 p hp).2.2.2.2.2.2
  simp only [f_M_timeLeft, f_M_timeLeft_0, hM v w, bd1_s]
  rw [show (12 : Int32) = nI 12 from rfl, nI_add, rd_nI (by omega) (by decide), bd1_s, M_allBy hr hk hp, bd2_s]
  have e1 := hr.2.2.2.2.2.1 p hp
  rw [show 0 + 12 + p = 12 + p by omega] at e1
  rw [e1, ← zI_n, zI_subn]
  unfold sLeft
  by_cases hc : sAll ρ p ≤ ρ 6 p
  · rw [if_pos ((zI_ge (by omega) (by omega)).mpr (by omega)), show ((ρ 6 p : Nat) : Int) - (sAll ρ p : Nat) = ((ρ 6 p - sAll ρ p : Nat) : Int) by omega, zI_n]
  · rw [if_neg (fun z => hc (by have := (zI_ge (by omega) (by omega)).mp z; omega)), show ρ 6 p - sAll ρ p = 0 by omega]
    rfl
theorem sLeft_le (hk : ROK ρ) {p : Nat} (hp : p < ρ 0 1) : sLeft ρ p ≤ 5 := Nat.le_trans (Nat.sub_le _ _) (hk.2.2.1 p hp).1
theorem sRoom_le (hk : ROK ρ) {p l : Nat} (hl : l < ρ 0 0) : sRoom ρ p l ≤ 3 := by
  unfold sRoom
  split
  · exact Nat.le_trans (Nat.sub_le _ _) (hk.2.1 l hl).2.2.1
  · omega
theorem sNeed_le (hk : ROK ρ) {l : Nat} (hl : l < ρ 0 0) : sNeed ρ l ≤ 9 := by
  unfold sNeed
  split
  · exact Nat.le_trans (Nat.sub_le _ _) (hk.2.1 l hl).1
  · omega
theorem M_canBreak (hr : MR ρ v) (hk : ROK ρ) {p l : Nat} (hp : p < ρ 0 1) (hl : l < ρ 0 0) [Decidable (sCan ρ p l)] : f_M_canBreak 100 (nI p) (nI l) (bh v w) = some (if sCan ρ p l then 1 else 0, bh v w) := by
  have a1 := sRoom_le hk (p := p) hl
  have a2 := sLeft_le hk hp
  simp only [f_M_canBreak, f_M_canBreak_0, f_M_canBreak_21, hM v w, bd1_s]
  rw [M_roomOf hr hk hp hl, bd2_s, ite_iff (nI_le0 (by omega))]
  by_cases h : sRoom ρ p l = 0
  · rw [if_pos h, if_neg (by unfold sCan; omega)]
  · rw [if_neg h]
    simp only [hM v w, bd1_s]
    rw [M_timeLeft hr hk hp, bd2_s, ite_iff (nI_le0 (by omega))]
    by_cases g : sLeft ρ p = 0
    · rw [if_pos g, if_neg (by unfold sCan; omega)]
    · rw [if_neg g, if_pos (by unfold sCan; omega)]
theorem M_triesOf (hr : MR ρ v) (hk : ROK ρ) {p l : Nat} (hp : p < ρ 0 1) (hl : l < ρ 0 0) : f_M_triesOf 100 (nI p) (nI l) (bh v w) = some (nI (sTries ρ p l), bh v w) := by
  have a1 := sRoom_le hk (p := p) hl
  have a2 := sLeft_le hk hp
  simp only [f_M_triesOf, f_M_triesOf_0, hM v w, bd1_s]
  rw [M_roomOf hr hk hp hl, bd2_s]
  simp only [hM v w, bd1_s]
  rw [M_timeLeft hr hk hp, bd2_s, ite_iff (nI_leI (by omega) (by omega))]
  unfold sTries
  by_cases h : sLeft ρ p ≤ sRoom ρ p l
  · rw [if_pos h, if_pos h]
    simp only [hM v w, bd1_s]
    rw [M_timeLeft hr hk hp, bd2_s]
  · rw [if_neg h, if_neg h]
theorem M_bitsOf {s : Nat} (hs : s < 2 ^ 31) (h : mH) : f_M_bitsOf (nI s) h = some (nI (sumN (bit s) 5), h) := by
  have key : ∀ (k fuel i : Nat), k < fuel → i + k = 5 → f_M_bitsOf_4 fuel (nI s) (nI (sumN (bit s) i)) (nI i) h = some (nI (sumN (bit s) 5), h) := by
    intro k
    induction k with
    | zero =>
      intro fuel i hf hi
      obtain ⟨n, rfl⟩ : ∃ n, fuel = n + 1 := ⟨fuel - 1, by omega⟩
      simp only [f_M_bitsOf_4, f_M_bitsOf_4b]
      rw [show (5 : Int32) = nI 5 from rfl, if_pos (nI_le (by omega) (by omega)), show i = 5 by omega]
    | succ k ih =>
      intro fuel i hf hi
      obtain ⟨n, rfl⟩ : ∃ n, fuel = n + 1 := ⟨fuel - 1, by omega⟩
      simp only [f_M_bitsOf_4, f_M_bitsOf_4b]
      rw [show (5 : Int32) = nI 5 from rfl, if_neg (nI_ge (by omega) (by omega)), bit_I hs (by omega), nI_add, nI_1]
      exact ih n (i + 1) (by omega) (by omega)
  simp only [f_M_bitsOf, f_M_bitsOf_0]
  exact key 5 FU 0 (by unfold FU; omega) (by omega)
theorem M_chainOf (hr : MR ρ v) (hk : ROK ρ) {l : Nat} (hl : l < ρ 0 0) : f_M_chainOf 100 (nI l) (bh v w) = some (nI (sChain ρ l), bh v w) := by
  have h1 := hk.1.1
  have key : ∀ (k fuel acc c : Nat), acc < 32 → c ≤ ρ 0 0 → mu5 acc < k → k < fuel → f_M_chainOf_4 fuel 100 (nI acc) (cI c) (bh v w) = some (nI (chn ρ k acc c), bh v w) := by
    intro k
    induction k with
    | zero => intro fuel acc c _ _ h; omega
    | succ k ih =>
      intro fuel acc c ha hc hm hf
      obtain ⟨n, rfl⟩ : ∃ n, fuel = n + 1 := ⟨fuel - 1, by omega⟩
      simp only [f_M_chainOf_4, f_M_chainOf_4b, f_M_chainOf_36]
      cases c with
      | zero => rw [if_pos (show cI 0 = -4 from rfl)]; rfl
      | succ m =>
        have hne : ¬ cI (m + 1) = -4 := by
          show ¬ nI m = -4
          intro e
          have := congrArg Int32.toInt e
          rw [nI_toInt (by omega)] at this
          have e4 : (-4 : Int32).toInt = -4 := rfl
          rw [e4] at this
          omega
        rw [if_neg hne]
        show (if (nI acc >>> (nI m &&& 31)) &&& 1 = 0 then _ else _) = _
        rw [bit_I (by omega) (by omega), ite_iff (nI_eq0 (by have := bit_lt acc m; omega))]
        show _ = some (nI (if bit acc m = 1 then acc else chn ρ k (acc ||| 2 ^ m) (ρ 5 m)), bh v w)
        rcases bit_01 acc m with g | g
        · have st := mu5_step acc ha m (by omega) g
          rw [if_pos g, if_neg (by omega)]
          simp only [hM v w, bd1_s]
          show (bd1 (rd (v 101) 198 (5 + nI m)) fun x3 => f_M_chainOf_4 n 100 (nI acc ||| 1 <<< (nI m &&& 31)) x3 (bh v w)) = _
          rw [show (5 : Int32) = nI 5 from rfl, nI_add, rd_nI (by omega) (by decide), bd1_s, shl_I (by omega), or_I]
          have e1 := hr.2.2.1 m (by omega)
          rw [show 0 + 5 + m = 5 + m by omega] at e1
          rw [e1]
          exact ih n _ _ st.1 (hk.2.1 m (by omega)).2.2.2.2.2.1 (by omega) (by omega)
        · rw [if_neg (by omega), if_pos g]
  simp only [f_M_chainOf, f_M_chainOf_0]
  exact key 6 FU 0 (l + 1) (by decide) (by omega) (by decide) (by unfold FU; omega)
theorem sChain_lt (hk : ROK ρ) {l : Nat} (hl : l < ρ 0 0) : sChain ρ l < 32 := chn_lt ρ hk.1.1 (fun l hl => (hk.2.1 l hl).2.2.2.2.2.1) 6 0 (l + 1) (by decide) (by omega)
theorem M_fallsNow (hr : MR ρ v) (hk : ROK ρ) : f_M_fallsNow 100 (bh v w) = some (nI (sFalls ρ), bh v w) := by
  have h1 := hk.1.1
  have hst := hk.st
  have key : ∀ (k fuel l : Nat), k < fuel → l + k = ρ 0 0 → f_M_fallsNow_4 fuel 100 (nI (orN (fun l => if 0 < sNeed ρ l then sChain ρ l else 0) l)) (nI l) (bh v w) = some (nI (sFalls ρ), bh v w) := by
    intro k
    induction k with
    | zero =>
      intro fuel l hf hl
      obtain ⟨n, rfl⟩ : ∃ n, fuel = n + 1 := ⟨fuel - 1, by omega⟩
      simp only [f_M_fallsNow_4, f_M_fallsNow_4b, hM v w, bd1_s]
      have e1 : rd (v 101) 198 (10 : Int32) = some (nI (ρ 0 4)) := by rw [← hr.2.2.2.1]; rfl
      rw [hr.1.1, if_pos (nI_le (by omega) (by omega)), e1, bd1_s, and_I, show l = ρ 0 0 by omega]
      rfl
    | succ k ih =>
      intro fuel l hf hl
      obtain ⟨n, rfl⟩ : ∃ n, fuel = n + 1 := ⟨fuel - 1, by omega⟩
      have hl2 : l < ρ 0 0 := by omega
      have hn := sNeed_le hk hl2
      simp only [f_M_fallsNow_4, f_M_fallsNow_4b, f_M_fallsNow_37, f_M_fallsNow_38, hM v w, bd1_s]
      rw [hr.1.1, if_neg (nI_ge (by omega) (by omega)), M_doesStand hr.2 (by omega) (by omega), bd2_s]
      have e2 : orN (fun l => if 0 < sNeed ρ l then sChain ρ l else 0) (l + 1) = orN (fun l => if 0 < sNeed ρ l then sChain ρ l else 0) l ||| (if 0 < sNeed ρ l then sChain ρ l else 0) := rfl
      have ih2 := ih n (l + 1) (by omega) (by omega)
      rcases bit_01 (ρ 0 4) l with g | g
      · have hz : sNeed ρ l = 0 := by unfold sNeed; rw [if_neg (by omega)]
        rw [g, if_pos (show nI 0 = 0 from rfl), nI_1, show (0 : Int32) = nI 0 from rfl, or_I]
        rw [e2, if_neg (by omega)] at ih2
        exact ih2
      · rw [g, if_neg (show ¬ nI 1 = 0 by decide)]
        simp only [hM v w, bd1_s]
        rw [M_needOf hr hk hl2, bd2_s, ite_iff (nI_le0 (by omega))]
        by_cases z : sNeed ρ l = 0
        · rw [if_pos z, nI_1, show (0 : Int32) = nI 0 from rfl, or_I]
          rw [e2, if_neg (by omega)] at ih2
          exact ih2
        · rw [if_neg z]
          simp only [hM v w, bd1_s]
          rw [M_chainOf hr hk hl2, bd2_s, nI_1, or_I]
          rw [e2, if_pos (by omega)] at ih2
          exact ih2
  simp only [f_M_fallsNow, f_M_fallsNow_0]
  exact key (ρ 0 0) FU 0 (by unfold FU; omega) (by omega)
end
end
/-! 74.mb.lean.txt -/
section
/-! writes into the reference's bank: printed by wip/gen/gen_mb.py -/
def up2 (ρ : Rho) (f i x : Nat) : Rho := va_up ρ f (va_up (ρ f) i x)
theorem u2_at (v : Nat → Nat → Int32) (o k : Nat) (x : Int32) : u2 v o k x o k = x := by unfold u2; rw [up_at]; simp [upd]
theorem u2_n {v : Nat → Nat → Int32} {o k j : Nat} {x : Int32} (h : j ≠ k) : u2 v o k x o j = v o j := by unfold u2; rw [up_at]; simp [upd, h]
theorem u2_o {v : Nat → Nat → Int32} {o k q : Nat} {x : Int32} (h : q ≠ o) : u2 v o k x q = v q := by unfold u2; rw [up_ne h]
theorem up2_n {ρ : Rho} {f i j x : Nat} (h : j ≠ i) : up2 ρ f i x f j = ρ f j := by unfold up2; rw [up_at, up_ne h]
theorem up2_at (ρ : Rho) (f i x : Nat) : up2 ρ f i x f i = x := by unfold up2; rw [up_at, up_at]
theorem up2_f {ρ : Rho} {f g i x : Nat} (h : g ≠ f) : up2 ρ f i x g = ρ g := by unfold up2; rw [up_ne h]
theorem MB_quota {ρ : Rho} {v : Nat → Nat → Int32} {i : Nat} {x : Nat} (hL : ρ 0 0 ≤ 5) (hP : ρ 0 1 ≤ 3) (hS : ρ 0 6 ≤ 8) (hi : i < ρ 0 0) (h : MB 101 0 ρ v) : MB 101 0 (up2 ρ 1 i x) (u2 v 101 (i) (nI x)) := by
  refine ⟨fun l hl => ?_, fun l hl => ?_, ?_, ?_, fun p hp => ?_, fun p hp => ?_, fun p hp => ?_, fun p hp => ?_, fun p l hp hl => ?_, ?_, ?_, ?_, fun s hs => ?_⟩
  · have hl : l < ρ 0 0 := hl
    by_cases e : l = i
    · subst e; rw [up2_at]; rw [show 0 + l = l by omega]; exact u2_at _ _ _ _
    · rw [up2_n e]; exact (u2_n (by omega)).trans (h.1 l hl)
  · have hl : l < ρ 0 0 := hl; exact (u2_n (by omega)).trans (h.2.1 l hl)
  · skip; exact (u2_n (by omega)).trans (h.2.2.1 )
  · skip; exact (u2_n (by omega)).trans (h.2.2.2.1 )
  · have hp : p < ρ 0 1 := hp; exact (u2_n (by omega)).trans (h.2.2.2.2.1 p hp)
  · have hp : p < ρ 0 1 := hp; exact (u2_n (by omega)).trans (h.2.2.2.2.2.1 p hp)
  · have hp : p < ρ 0 1 := hp; exact (u2_n (by omega)).trans (h.2.2.2.2.2.2.1 p hp)
  · have hp : p < ρ 0 1 := hp; exact (u2_n (by omega)).trans (h.2.2.2.2.2.2.2.1 p hp)
  · have hp : p < ρ 0 1 := hp; have hl : l < ρ 0 0 := hl; exact (u2_n (by omega)).trans (h.2.2.2.2.2.2.2.2.1 p l hp hl)
  · skip; exact (u2_n (by omega)).trans (h.2.2.2.2.2.2.2.2.2.1 )
  · skip; exact (u2_n (by omega)).trans (h.2.2.2.2.2.2.2.2.2.2.1 )
  · skip; exact (u2_n (by omega)).trans (h.2.2.2.2.2.2.2.2.2.2.2.1 )
  · have hs : s < ρ 0 6 := hs; exact ⟨(u2_n (by omega)).trans (h.2.2.2.2.2.2.2.2.2.2.2.2 s hs).1, (u2_n (by omega)).trans (h.2.2.2.2.2.2.2.2.2.2.2.2 s hs).2.1, (u2_n (by omega)).trans (h.2.2.2.2.2.2.2.2.2.2.2.2 s hs).2.2⟩
theorem MB_carry {ρ : Rho} {v : Nat → Nat → Int32} {i : Nat} {x : Nat} (hL : ρ 0 0 ≤ 5) (hP : ρ 0 1 ≤ 3) (hS : ρ 0 6 ≤ 8) (hi : i < ρ 0 0) (h : MB 101 0 ρ v) : MB 101 0 (up2 ρ 5 i x) (u2 v 101 (5 + i) (cI x)) := by
  refine ⟨fun l hl => ?_, fun l hl => ?_, ?_, ?_, fun p hp => ?_, fun p hp => ?_, fun p hp => ?_, fun p hp => ?_, fun p l hp hl => ?_, ?_, ?_, ?_, fun s hs => ?_⟩
  · have hl : l < ρ 0 0 := hl; exact (u2_n (by omega)).trans (h.1 l hl)
  · have hl : l < ρ 0 0 := hl
    by_cases e : l = i
    · subst e; rw [up2_at, show 0 + 5 + l = 5 + l by omega]; exact u2_at _ _ _ _
    · rw [up2_n e]; exact (u2_n (by omega)).trans (h.2.1 l hl)
  · skip; exact (u2_n (by omega)).trans (h.2.2.1 )
  · skip; exact (u2_n (by omega)).trans (h.2.2.2.1 )
  · have hp : p < ρ 0 1 := hp; exact (u2_n (by omega)).trans (h.2.2.2.2.1 p hp)
  · have hp : p < ρ 0 1 := hp; exact (u2_n (by omega)).trans (h.2.2.2.2.2.1 p hp)
  · have hp : p < ρ 0 1 := hp; exact (u2_n (by omega)).trans (h.2.2.2.2.2.2.1 p hp)
  · have hp : p < ρ 0 1 := hp; exact (u2_n (by omega)).trans (h.2.2.2.2.2.2.2.1 p hp)
  · have hp : p < ρ 0 1 := hp; have hl : l < ρ 0 0 := hl; exact (u2_n (by omega)).trans (h.2.2.2.2.2.2.2.2.1 p l hp hl)
  · skip; exact (u2_n (by omega)).trans (h.2.2.2.2.2.2.2.2.2.1 )
  · skip; exact (u2_n (by omega)).trans (h.2.2.2.2.2.2.2.2.2.2.1 )
  · skip; exact (u2_n (by omega)).trans (h.2.2.2.2.2.2.2.2.2.2.2.1 )
  · have hs : s < ρ 0 6 := hs; exact ⟨(u2_n (by omega)).trans (h.2.2.2.2.2.2.2.2.2.2.2.2 s hs).1, (u2_n (by omega)).trans (h.2.2.2.2.2.2.2.2.2.2.2.2 s hs).2.1, (u2_n (by omega)).trans (h.2.2.2.2.2.2.2.2.2.2.2.2 s hs).2.2⟩
theorem MB_stands {ρ : Rho} {v : Nat → Nat → Int32}  {x : Nat} (hL : ρ 0 0 ≤ 5) (hP : ρ 0 1 ≤ 3) (hS : ρ 0 6 ≤ 8)  (h : MB 101 0 ρ v) : MB 101 0 (up2 ρ 0 4 x) (u2 v 101 (10) (nI x)) := by
  refine ⟨fun l hl => ?_, fun l hl => ?_, ?_, ?_, fun p hp => ?_, fun p hp => ?_, fun p hp => ?_, fun p hp => ?_, fun p l hp hl => ?_, ?_, ?_, ?_, fun s hs => ?_⟩
  · have hl : l < ρ 0 0 := hl; exact (u2_n (by omega)).trans (h.1 l hl)
  · have hl : l < ρ 0 0 := hl; exact (u2_n (by omega)).trans (h.2.1 l hl)
  · exact u2_at _ _ _ _
  · skip; exact (u2_n (by omega)).trans (h.2.2.2.1 )
  · have hp : p < ρ 0 1 := hp; exact (u2_n (by omega)).trans (h.2.2.2.2.1 p hp)
  · have hp : p < ρ 0 1 := hp; exact (u2_n (by omega)).trans (h.2.2.2.2.2.1 p hp)
  · have hp : p < ρ 0 1 := hp; exact (u2_n (by omega)).trans (h.2.2.2.2.2.2.1 p hp)
  · have hp : p < ρ 0 1 := hp; exact (u2_n (by omega)).trans (h.2.2.2.2.2.2.2.1 p hp)
  · have hp : p < ρ 0 1 := hp; have hl : l < ρ 0 0 := hl; exact (u2_n (by omega)).trans (h.2.2.2.2.2.2.2.2.1 p l hp hl)
  · skip; exact (u2_n (by omega)).trans (h.2.2.2.2.2.2.2.2.2.1 )
  · skip; exact (u2_n (by omega)).trans (h.2.2.2.2.2.2.2.2.2.2.1 )
  · skip; exact (u2_n (by omega)).trans (h.2.2.2.2.2.2.2.2.2.2.2.1 )
  · have hs : s < ρ 0 6 := hs; exact ⟨(u2_n (by omega)).trans (h.2.2.2.2.2.2.2.2.2.2.2.2 s hs).1, (u2_n (by omega)).trans (h.2.2.2.2.2.2.2.2.2.2.2.2 s hs).2.1, (u2_n (by omega)).trans (h.2.2.2.2.2.2.2.2.2.2.2.2 s hs).2.2⟩
theorem MB_watched {ρ : Rho} {v : Nat → Nat → Int32}  {x : Nat} (hL : ρ 0 0 ≤ 5) (hP : ρ 0 1 ≤ 3) (hS : ρ 0 6 ≤ 8)  (h : MB 101 0 ρ v) : MB 101 0 (up2 ρ 0 5 x) (u2 v 101 (11) (nI x)) := by
  refine ⟨fun l hl => ?_, fun l hl => ?_, ?_, ?_, fun p hp => ?_, fun p hp => ?_, fun p hp => ?_, fun p hp => ?_, fun p l hp hl => ?_, ?_, ?_, ?_, fun s hs => ?_⟩
  · have hl : l < ρ 0 0 := hl; exact (u2_n (by omega)).trans (h.1 l hl)
  · have hl : l < ρ 0 0 := hl; exact (u2_n (by omega)).trans (h.2.1 l hl)
  · skip; exact (u2_n (by omega)).trans (h.2.2.1 )
  · exact u2_at _ _ _ _
  · have hp : p < ρ 0 1 := hp; exact (u2_n (by omega)).trans (h.2.2.2.2.1 p hp)
  · have hp : p < ρ 0 1 := hp; exact (u2_n (by omega)).trans (h.2.2.2.2.2.1 p hp)
  · have hp : p < ρ 0 1 := hp; exact (u2_n (by omega)).trans (h.2.2.2.2.2.2.1 p hp)
  · have hp : p < ρ 0 1 := hp; exact (u2_n (by omega)).trans (h.2.2.2.2.2.2.2.1 p hp)
  · have hp : p < ρ 0 1 := hp; have hl : l < ρ 0 0 := hl; exact (u2_n (by omega)).trans (h.2.2.2.2.2.2.2.2.1 p l hp hl)
  · skip; exact (u2_n (by omega)).trans (h.2.2.2.2.2.2.2.2.2.1 )
  · skip; exact (u2_n (by omega)).trans (h.2.2.2.2.2.2.2.2.2.2.1 )
  · skip; exact (u2_n (by omega)).trans (h.2.2.2.2.2.2.2.2.2.2.2.1 )
  · have hs : s < ρ 0 6 := hs; exact ⟨(u2_n (by omega)).trans (h.2.2.2.2.2.2.2.2.2.2.2.2 s hs).1, (u2_n (by omega)).trans (h.2.2.2.2.2.2.2.2.2.2.2.2 s hs).2.1, (u2_n (by omega)).trans (h.2.2.2.2.2.2.2.2.2.2.2.2 s hs).2.2⟩
theorem MB_time {ρ : Rho} {v : Nat → Nat → Int32} {i : Nat} {x : Nat} (hL : ρ 0 0 ≤ 5) (hP : ρ 0 1 ≤ 3) (hS : ρ 0 6 ≤ 8) (hi : i < ρ 0 1) (h : MB 101 0 ρ v) : MB 101 0 (up2 ρ 6 i x) (u2 v 101 (12 + i) (nI x)) := by
  refine ⟨fun l hl => ?_, fun l hl => ?_, ?_, ?_, fun p hp => ?_, fun p hp => ?_, fun p hp => ?_, fun p hp => ?_, fun p l hp hl => ?_, ?_, ?_, ?_, fun s hs => ?_⟩
  · have hl : l < ρ 0 0 := hl; exact (u2_n (by omega)).trans (h.1 l hl)
  · have hl : l < ρ 0 0 := hl; exact (u2_n (by omega)).trans (h.2.1 l hl)
  · skip; exact (u2_n (by omega)).trans (h.2.2.1 )
  · skip; exact (u2_n (by omega)).trans (h.2.2.2.1 )
  · have hp : p < ρ 0 1 := hp
    by_cases e : p = i
    · subst e; rw [up2_at, show 0 + 12 + p = 12 + p by omega]; exact u2_at _ _ _ _
    · rw [up2_n e]; exact (u2_n (by omega)).trans (h.2.2.2.2.1 p hp)
  · have hp : p < ρ 0 1 := hp; exact (u2_n (by omega)).trans (h.2.2.2.2.2.1 p hp)
  · have hp : p < ρ 0 1 := hp; exact (u2_n (by omega)).trans (h.2.2.2.2.2.2.1 p hp)
  · have hp : p < ρ 0 1 := hp; exact (u2_n (by omega)).trans (h.2.2.2.2.2.2.2.1 p hp)
  · have hp : p < ρ 0 1 := hp; have hl : l < ρ 0 0 := hl; exact (u2_n (by omega)).trans (h.2.2.2.2.2.2.2.2.1 p l hp hl)
  · skip; exact (u2_n (by omega)).trans (h.2.2.2.2.2.2.2.2.2.1 )
  · skip; exact (u2_n (by omega)).trans (h.2.2.2.2.2.2.2.2.2.2.1 )
  · skip; exact (u2_n (by omega)).trans (h.2.2.2.2.2.2.2.2.2.2.2.1 )
  · have hs : s < ρ 0 6 := hs; exact ⟨(u2_n (by omega)).trans (h.2.2.2.2.2.2.2.2.2.2.2.2 s hs).1, (u2_n (by omega)).trans (h.2.2.2.2.2.2.2.2.2.2.2.2 s hs).2.1, (u2_n (by omega)).trans (h.2.2.2.2.2.2.2.2.2.2.2.2 s hs).2.2⟩
theorem MB_purse {ρ : Rho} {v : Nat → Nat → Int32} {i : Nat} {x : Nat} (hL : ρ 0 0 ≤ 5) (hP : ρ 0 1 ≤ 3) (hS : ρ 0 6 ≤ 8) (hi : i < ρ 0 1) (h : MB 101 0 ρ v) : MB 101 0 (up2 ρ 9 i x) (u2 v 101 (15 + i) (nI x)) := by
  refine ⟨fun l hl => ?_, fun l hl => ?_, ?_, ?_, fun p hp => ?_, fun p hp => ?_, fun p hp => ?_, fun p hp => ?_, fun p l hp hl => ?_, ?_, ?_, ?_, fun s hs => ?_⟩
  · have hl : l < ρ 0 0 := hl; exact (u2_n (by omega)).trans (h.1 l hl)
  · have hl : l < ρ 0 0 := hl; exact (u2_n (by omega)).trans (h.2.1 l hl)
  · skip; exact (u2_n (by omega)).trans (h.2.2.1 )
  · skip; exact (u2_n (by omega)).trans (h.2.2.2.1 )
  · have hp : p < ρ 0 1 := hp; exact (u2_n (by omega)).trans (h.2.2.2.2.1 p hp)
  · have hp : p < ρ 0 1 := hp
    by_cases e : p = i
    · subst e; rw [up2_at, show 0 + 15 + p = 15 + p by omega]; exact u2_at _ _ _ _
    · rw [up2_n e]; exact (u2_n (by omega)).trans (h.2.2.2.2.2.1 p hp)
  · have hp : p < ρ 0 1 := hp; exact (u2_n (by omega)).trans (h.2.2.2.2.2.2.1 p hp)
  · have hp : p < ρ 0 1 := hp; exact (u2_n (by omega)).trans (h.2.2.2.2.2.2.2.1 p hp)
  · have hp : p < ρ 0 1 := hp; have hl : l < ρ 0 0 := hl; exact (u2_n (by omega)).trans (h.2.2.2.2.2.2.2.2.1 p l hp hl)
  · skip; exact (u2_n (by omega)).trans (h.2.2.2.2.2.2.2.2.2.1 )
  · skip; exact (u2_n (by omega)).trans (h.2.2.2.2.2.2.2.2.2.2.1 )
  · skip; exact (u2_n (by omega)).trans (h.2.2.2.2.2.2.2.2.2.2.2.1 )
  · have hs : s < ρ 0 6 := hs; exact ⟨(u2_n (by omega)).trans (h.2.2.2.2.2.2.2.2.2.2.2.2 s hs).1, (u2_n (by omega)).trans (h.2.2.2.2.2.2.2.2.2.2.2.2 s hs).2.1, (u2_n (by omega)).trans (h.2.2.2.2.2.2.2.2.2.2.2.2 s hs).2.2⟩
theorem MB_refuses {ρ : Rho} {v : Nat → Nat → Int32} {i : Nat} {x : Nat} (hL : ρ 0 0 ≤ 5) (hP : ρ 0 1 ≤ 3) (hS : ρ 0 6 ≤ 8) (hi : i < ρ 0 1) (h : MB 101 0 ρ v) : MB 101 0 (up2 ρ 10 i x) (u2 v 101 (18 + i) (nI x)) := by
  refine ⟨fun l hl => ?_, fun l hl => ?_, ?_, ?_, fun p hp => ?_, fun p hp => ?_, fun p hp => ?_, fun p hp => ?_, fun p l hp hl => ?_, ?_, ?_, ?_, fun s hs => ?_⟩
  · have hl : l < ρ 0 0 := hl; exact (u2_n (by omega)).trans (h.1 l hl)
  · have hl : l < ρ 0 0 := hl; exact (u2_n (by omega)).trans (h.2.1 l hl)
  · skip; exact (u2_n (by omega)).trans (h.2.2.1 )
  · skip; exact (u2_n (by omega)).trans (h.2.2.2.1 )
  · have hp : p < ρ 0 1 := hp; exact (u2_n (by omega)).trans (h.2.2.2.2.1 p hp)
  · have hp : p < ρ 0 1 := hp; exact (u2_n (by omega)).trans (h.2.2.2.2.2.1 p hp)
  · have hp : p < ρ 0 1 := hp
    by_cases e : p = i
    · subst e; rw [up2_at, show 0 + 18 + p = 18 + p by omega]; exact u2_at _ _ _ _
    · rw [up2_n e]; exact (u2_n (by omega)).trans (h.2.2.2.2.2.2.1 p hp)
  · have hp : p < ρ 0 1 := hp; exact (u2_n (by omega)).trans (h.2.2.2.2.2.2.2.1 p hp)
  · have hp : p < ρ 0 1 := hp; have hl : l < ρ 0 0 := hl; exact (u2_n (by omega)).trans (h.2.2.2.2.2.2.2.2.1 p l hp hl)
  · skip; exact (u2_n (by omega)).trans (h.2.2.2.2.2.2.2.2.2.1 )
  · skip; exact (u2_n (by omega)).trans (h.2.2.2.2.2.2.2.2.2.2.1 )
  · skip; exact (u2_n (by omega)).trans (h.2.2.2.2.2.2.2.2.2.2.2.1 )
  · have hs : s < ρ 0 6 := hs; exact ⟨(u2_n (by omega)).trans (h.2.2.2.2.2.2.2.2.2.2.2.2 s hs).1, (u2_n (by omega)).trans (h.2.2.2.2.2.2.2.2.2.2.2.2 s hs).2.1, (u2_n (by omega)).trans (h.2.2.2.2.2.2.2.2.2.2.2.2 s hs).2.2⟩
theorem MB_wants {ρ : Rho} {v : Nat → Nat → Int32} {i : Nat} {x : Nat} (hL : ρ 0 0 ≤ 5) (hP : ρ 0 1 ≤ 3) (hS : ρ 0 6 ≤ 8) (hi : i < ρ 0 1) (h : MB 101 0 ρ v) : MB 101 0 (up2 ρ 11 i x) (u2 v 101 (21 + i) (nI x)) := by
  refine ⟨fun l hl => ?_, fun l hl => ?_, ?_, ?_, fun p hp => ?_, fun p hp => ?_, fun p hp => ?_, fun p hp => ?_, fun p l hp hl => ?_, ?_, ?_, ?_, fun s hs => ?_⟩
  · have hl : l < ρ 0 0 := hl; exact (u2_n (by omega)).trans (h.1 l hl)
  · have hl : l < ρ 0 0 := hl; exact (u2_n (by omega)).trans (h.2.1 l hl)
  · skip; exact (u2_n (by omega)).trans (h.2.2.1 )
  · skip; exact (u2_n (by omega)).trans (h.2.2.2.1 )
  · have hp : p < ρ 0 1 := hp; exact (u2_n (by omega)).trans (h.2.2.2.2.1 p hp)
  · have hp : p < ρ 0 1 := hp; exact (u2_n (by omega)).trans (h.2.2.2.2.2.1 p hp)
  · have hp : p < ρ 0 1 := hp; exact (u2_n (by omega)).trans (h.2.2.2.2.2.2.1 p hp)
  · have hp : p < ρ 0 1 := hp
    by_cases e : p = i
    · subst e; rw [up2_at, show 0 + 21 + p = 21 + p by omega]; exact u2_at _ _ _ _
    · rw [up2_n e]; exact (u2_n (by omega)).trans (h.2.2.2.2.2.2.2.1 p hp)
  · have hp : p < ρ 0 1 := hp; have hl : l < ρ 0 0 := hl; exact (u2_n (by omega)).trans (h.2.2.2.2.2.2.2.2.1 p l hp hl)
  · skip; exact (u2_n (by omega)).trans (h.2.2.2.2.2.2.2.2.2.1 )
  · skip; exact (u2_n (by omega)).trans (h.2.2.2.2.2.2.2.2.2.2.1 )
  · skip; exact (u2_n (by omega)).trans (h.2.2.2.2.2.2.2.2.2.2.2.1 )
  · have hs : s < ρ 0 6 := hs; exact ⟨(u2_n (by omega)).trans (h.2.2.2.2.2.2.2.2.2.2.2.2 s hs).1, (u2_n (by omega)).trans (h.2.2.2.2.2.2.2.2.2.2.2.2 s hs).2.1, (u2_n (by omega)).trans (h.2.2.2.2.2.2.2.2.2.2.2.2 s hs).2.2⟩
theorem MB_broke {ρ : Rho} {v : Nat → Nat → Int32} {i j : Nat} {x : Nat} (hL : ρ 0 0 ≤ 5) (hP : ρ 0 1 ≤ 3) (hS : ρ 0 6 ≤ 8) (hi : i < ρ 0 1) (hj : j < ρ 0 0) (h : MB 101 0 ρ v) : MB 101 0 (up2 ρ 12 (5 * i + j) x) (u2 v 101 (24 + 5 * i + j) (nI x)) := by
  refine ⟨fun l hl => ?_, fun l hl => ?_, ?_, ?_, fun p hp => ?_, fun p hp => ?_, fun p hp => ?_, fun p hp => ?_, fun p l hp hl => ?_, ?_, ?_, ?_, fun s hs => ?_⟩
  · have hl : l < ρ 0 0 := hl; exact (u2_n (by omega)).trans (h.1 l hl)
  · have hl : l < ρ 0 0 := hl; exact (u2_n (by omega)).trans (h.2.1 l hl)
  · skip; exact (u2_n (by omega)).trans (h.2.2.1 )
  · skip; exact (u2_n (by omega)).trans (h.2.2.2.1 )
  · have hp : p < ρ 0 1 := hp; exact (u2_n (by omega)).trans (h.2.2.2.2.1 p hp)
  · have hp : p < ρ 0 1 := hp; exact (u2_n (by omega)).trans (h.2.2.2.2.2.1 p hp)
  · have hp : p < ρ 0 1 := hp; exact (u2_n (by omega)).trans (h.2.2.2.2.2.2.1 p hp)
  · have hp : p < ρ 0 1 := hp; exact (u2_n (by omega)).trans (h.2.2.2.2.2.2.2.1 p hp)
  · have hp : p < ρ 0 1 := hp; have hl : l < ρ 0 0 := hl
    by_cases e : p = i ∧ l = j
    · obtain ⟨rfl, rfl⟩ := e; rw [up2_at, show 0 + 24 + 5 * p + l = 24 + 5 * p + l by omega]; exact u2_at _ _ _ _
    · rw [up2_n (by omega)]; exact (u2_n (by omega)).trans (h.2.2.2.2.2.2.2.2.1 p l hp hl)
  · skip; exact (u2_n (by omega)).trans (h.2.2.2.2.2.2.2.2.2.1 )
  · skip; exact (u2_n (by omega)).trans (h.2.2.2.2.2.2.2.2.2.2.1 )
  · skip; exact (u2_n (by omega)).trans (h.2.2.2.2.2.2.2.2.2.2.2.1 )
  · have hs : s < ρ 0 6 := hs; exact ⟨(u2_n (by omega)).trans (h.2.2.2.2.2.2.2.2.2.2.2.2 s hs).1, (u2_n (by omega)).trans (h.2.2.2.2.2.2.2.2.2.2.2.2 s hs).2.1, (u2_n (by omega)).trans (h.2.2.2.2.2.2.2.2.2.2.2.2 s hs).2.2⟩
theorem MB_year {ρ : Rho} {v : Nat → Nat → Int32}  {x : Nat} (hL : ρ 0 0 ≤ 5) (hP : ρ 0 1 ≤ 3) (hS : ρ 0 6 ≤ 8)  (h : MB 101 0 ρ v) : MB 101 0 (up2 ρ 0 2 x) (u2 v 101 (39) (nI x)) := by
  refine ⟨fun l hl => ?_, fun l hl => ?_, ?_, ?_, fun p hp => ?_, fun p hp => ?_, fun p hp => ?_, fun p hp => ?_, fun p l hp hl => ?_, ?_, ?_, ?_, fun s hs => ?_⟩
  · have hl : l < ρ 0 0 := hl; exact (u2_n (by omega)).trans (h.1 l hl)
  · have hl : l < ρ 0 0 := hl; exact (u2_n (by omega)).trans (h.2.1 l hl)
  · skip; exact (u2_n (by omega)).trans (h.2.2.1 )
  · skip; exact (u2_n (by omega)).trans (h.2.2.2.1 )
  · have hp : p < ρ 0 1 := hp; exact (u2_n (by omega)).trans (h.2.2.2.2.1 p hp)
  · have hp : p < ρ 0 1 := hp; exact (u2_n (by omega)).trans (h.2.2.2.2.2.1 p hp)
  · have hp : p < ρ 0 1 := hp; exact (u2_n (by omega)).trans (h.2.2.2.2.2.2.1 p hp)
  · have hp : p < ρ 0 1 := hp; exact (u2_n (by omega)).trans (h.2.2.2.2.2.2.2.1 p hp)
  · have hp : p < ρ 0 1 := hp; have hl : l < ρ 0 0 := hl; exact (u2_n (by omega)).trans (h.2.2.2.2.2.2.2.2.1 p l hp hl)
  · exact u2_at _ _ _ _
  · skip; exact (u2_n (by omega)).trans (h.2.2.2.2.2.2.2.2.2.2.1 )
  · skip; exact (u2_n (by omega)).trans (h.2.2.2.2.2.2.2.2.2.2.2.1 )
  · have hs : s < ρ 0 6 := hs; exact ⟨(u2_n (by omega)).trans (h.2.2.2.2.2.2.2.2.2.2.2.2 s hs).1, (u2_n (by omega)).trans (h.2.2.2.2.2.2.2.2.2.2.2.2 s hs).2.1, (u2_n (by omega)).trans (h.2.2.2.2.2.2.2.2.2.2.2.2 s hs).2.2⟩
theorem MB_done {ρ : Rho} {v : Nat → Nat → Int32}  {x : Nat} (hL : ρ 0 0 ≤ 5) (hP : ρ 0 1 ≤ 3) (hS : ρ 0 6 ≤ 8)  (h : MB 101 0 ρ v) : MB 101 0 (up2 ρ 0 3 x) (u2 v 101 (40) (nI x)) := by
  refine ⟨fun l hl => ?_, fun l hl => ?_, ?_, ?_, fun p hp => ?_, fun p hp => ?_, fun p hp => ?_, fun p hp => ?_, fun p l hp hl => ?_, ?_, ?_, ?_, fun s hs => ?_⟩
  · have hl : l < ρ 0 0 := hl; exact (u2_n (by omega)).trans (h.1 l hl)
  · have hl : l < ρ 0 0 := hl; exact (u2_n (by omega)).trans (h.2.1 l hl)
  · skip; exact (u2_n (by omega)).trans (h.2.2.1 )
  · skip; exact (u2_n (by omega)).trans (h.2.2.2.1 )
  · have hp : p < ρ 0 1 := hp; exact (u2_n (by omega)).trans (h.2.2.2.2.1 p hp)
  · have hp : p < ρ 0 1 := hp; exact (u2_n (by omega)).trans (h.2.2.2.2.2.1 p hp)
  · have hp : p < ρ 0 1 := hp; exact (u2_n (by omega)).trans (h.2.2.2.2.2.2.1 p hp)
  · have hp : p < ρ 0 1 := hp; exact (u2_n (by omega)).trans (h.2.2.2.2.2.2.2.1 p hp)
  · have hp : p < ρ 0 1 := hp; have hl : l < ρ 0 0 := hl; exact (u2_n (by omega)).trans (h.2.2.2.2.2.2.2.2.1 p l hp hl)
  · skip; exact (u2_n (by omega)).trans (h.2.2.2.2.2.2.2.2.2.1 )
  · exact u2_at _ _ _ _
  · skip; exact (u2_n (by omega)).trans (h.2.2.2.2.2.2.2.2.2.2.2.1 )
  · have hs : s < ρ 0 6 := hs; exact ⟨(u2_n (by omega)).trans (h.2.2.2.2.2.2.2.2.2.2.2.2 s hs).1, (u2_n (by omega)).trans (h.2.2.2.2.2.2.2.2.2.2.2.2 s hs).2.1, (u2_n (by omega)).trans (h.2.2.2.2.2.2.2.2.2.2.2.2 s hs).2.2⟩
theorem MF_u {ρ ρ' : Rho} {v : Nat → Nat → Int32} {k : Nat} {x : Int32} (h : MF ρ v) (h0 : ρ' 0 0 = ρ 0 0) (h1 : ρ' 0 1 = ρ 0 1) (h2 : ρ' 2 = ρ 2) (h3 : ρ' 3 = ρ 3) (h4 : ρ' 4 = ρ 4) (h7 : ρ' 7 = ρ 7) (h8 : ρ' 8 = ρ 8) : MF ρ' (u2 v 101 k x) := by
  obtain ⟨a, b, c, d⟩ := h
  unfold MF
  rw [h0, h1, h2, h3, h4, h7, h8, u2_o (show 100 ≠ 101 by decide), u2_o (show 103 ≠ 101 by decide), u2_o (show 104 ≠ 101 by decide), u2_o (show 105 ≠ 101 by decide), u2_o (show 106 ≠ 101 by decide), u2_o (show 107 ≠ 101 by decide)]
  exact ⟨a, b, c, d⟩
end
