/-! the heap of the law's loop: printed by wip/gen/gen_bh.py -/
def tl : List mCell := [
  .inr (0, [.ref 1, .ref 3, .ref 20, .ref 37, .ref 38, .ref 39, .ref 40, .ref 48, .ref 56, .int 0]),
  .inr (3, [.ref 2, .int 0, .int 0, .int 0, .int 0, .int 0, .int 0, .int 0, .int 0]),
  .inl (1, 160, .inl (fun _ => 0)),
  .inr (4, [.int 0, .int 0, .int 0, .int 0, .int 0, .int 0, .ref 4, .ref 5, .ref 6, .ref 7, .ref 8, .ref 9, .ref 10, .ref 11, .ref 12, .ref 13, .ref 14, .ref 15, .ref 16]),
  .inl (0, 5, .inl (fun _ => 0)),
  .inl (0, 5, .inl (fun _ => 0)),
  .inl (0, 5, .inl (fun _ => 0)),
  .inl (0, 5, .inl (fun _ => 0)),
  .inl (0, 5, .inl (fun _ => 0)),
  .inl (0, 3, .inl (fun _ => 0)),
  .inl (0, 3, .inl (fun _ => 0)),
  .inl (0, 3, .inl (fun _ => 0)),
  .inl (0, 3, .inl (fun _ => 0)),
  .inl (0, 3, .inl (fun _ => 0)),
  .inl (0, 3, .inl (fun _ => 0)),
  .inl (0, 15, .inl (fun _ => 0)),
  .inr (6, [.int 0, .ref 17, .ref 18, .ref 19]),
  .inl (0, 8, .inl (fun _ => 0)),
  .inl (0, 8, .inl (fun _ => 0)),
  .inl (0, 8, .inl (fun _ => 0)),
  .inr (4, [.int 0, .int 0, .int 0, .int 0, .int 0, .int 0, .ref 21, .ref 22, .ref 23, .ref 24, .ref 25, .ref 26, .ref 27, .ref 28, .ref 29, .ref 30, .ref 31, .ref 32, .ref 33]),
  .inl (0, 5, .inl (fun _ => 0)),
  .inl (0, 5, .inl (fun _ => 0)),
  .inl (0, 5, .inl (fun _ => 0)),
  .inl (0, 5, .inl (fun _ => 0)),
  .inl (0, 5, .inl (fun _ => 0)),
  .inl (0, 3, .inl (fun _ => 0)),
  .inl (0, 3, .inl (fun _ => 0)),
  .inl (0, 3, .inl (fun _ => 0)),
  .inl (0, 3, .inl (fun _ => 0)),
  .inl (0, 3, .inl (fun _ => 0)),
  .inl (0, 3, .inl (fun _ => 0)),
  .inl (0, 15, .inl (fun _ => 0)),
  .inr (6, [.int 0, .ref 34, .ref 35, .ref 36]),
  .inl (0, 8, .inl (fun _ => 0)),
  .inl (0, 8, .inl (fun _ => 0)),
  .inl (0, 8, .inl (fun _ => 0)),
  .inl (4, 2, .inr (.inr (.inr (.inr (fun j => ([some 58, some 75] : List (Option Nat)).getD j none))))),
  .inl (2, 2, .inl (fun _ => 0)),
  .inl (5, 4, .inr (.inr (.inr (.inr (fun j => ([some 92, some 94, some 96, some 98] : List (Option Nat)).getD j none))))),
  .inr (2, [.int 0, .ref 41, .ref 42, .ref 43, .ref 44, .ref 45, .ref 46, .ref 47]),
  .inl (0, 3, .inl (fun _ => 0)),
  .inl (0, 5, .inl (fun _ => 0)),
  .inl (0, 6, .inl (fun _ => 0)),
  .inl (0, 15, .inl (fun _ => 0)),
  .inl (0, 15, .inl (fun _ => 0)),
  .inl (0, 15, .inl (fun _ => 0)),
  .inl (0, 216, .inl (fun _ => 0)),
  .inr (7, [.int 0, .ref 49, .ref 50, .ref 51, .ref 52, .ref 53, .ref 54, .ref 55]),
  .inl (0, 15, .inl (fun _ => 0)),
  .inl (0, 15, .inl (fun _ => 0)),
  .inl (0, 5, .inl (fun _ => 0)),
  .inl (0, 3, .inl (fun _ => 0)),
  .inl (0, 3, .inl (fun _ => 0)),
  .inl (3, 18, .inr (.inl (fun _ => 0))),
  .inl (3, 216, .inr (.inl (fun _ => 0))),
  .inr (1, [.long 0, .long 0, .ref 57]),
  .inl (3, 10, .inr (.inl (fun _ => 0))),
  .inr (4, [.int 0, .int 0, .int 0, .int 0, .int 0, .int 0, .ref 59, .ref 60, .ref 61, .ref 62, .ref 63, .ref 64, .ref 65, .ref 66, .ref 67, .ref 68, .ref 69, .ref 70, .ref 71]),
  .inl (0, 5, .inl (fun _ => 0)),
  .inl (0, 5, .inl (fun _ => 0)),
  .inl (0, 5, .inl (fun _ => 0)),
  .inl (0, 5, .inl (fun _ => 0)),
  .inl (0, 5, .inl (fun _ => 0)),
  .inl (0, 3, .inl (fun _ => 0)),
  .inl (0, 3, .inl (fun _ => 0)),
  .inl (0, 3, .inl (fun _ => 0)),
  .inl (0, 3, .inl (fun _ => 0)),
  .inl (0, 3, .inl (fun _ => 0)),
  .inl (0, 3, .inl (fun _ => 0)),
  .inl (0, 15, .inl (fun _ => 0)),
  .inr (6, [.int 0, .ref 72, .ref 73, .ref 74]),
  .inl (0, 8, .inl (fun _ => 0)),
  .inl (0, 8, .inl (fun _ => 0)),
  .inl (0, 8, .inl (fun _ => 0)),
  .inr (4, [.int 0, .int 0, .int 0, .int 0, .int 0, .int 0, .ref 76, .ref 77, .ref 78, .ref 79, .ref 80, .ref 81, .ref 82, .ref 83, .ref 84, .ref 85, .ref 86, .ref 87, .ref 88]),
  .inl (0, 5, .inl (fun _ => 0)),
  .inl (0, 5, .inl (fun _ => 0)),
  .inl (0, 5, .inl (fun _ => 0)),
  .inl (0, 5, .inl (fun _ => 0)),
  .inl (0, 5, .inl (fun _ => 0)),
  .inl (0, 3, .inl (fun _ => 0)),
  .inl (0, 3, .inl (fun _ => 0)),
  .inl (0, 3, .inl (fun _ => 0)),
  .inl (0, 3, .inl (fun _ => 0)),
  .inl (0, 3, .inl (fun _ => 0)),
  .inl (0, 3, .inl (fun _ => 0)),
  .inl (0, 15, .inl (fun _ => 0)),
  .inr (6, [.int 0, .ref 89, .ref 90, .ref 91]),
  .inl (0, 8, .inl (fun _ => 0)),
  .inl (0, 8, .inl (fun _ => 0)),
  .inl (0, 8, .inl (fun _ => 0)),
  .inr (5, [.int 0, .int 0, .ref 93]),
  .inl (0, 40, .inl (fun _ => 0)),
  .inr (5, [.int 0, .int 0, .ref 95]),
  .inl (0, 40, .inl (fun _ => 0)),
  .inr (5, [.int 0, .int 0, .ref 97]),
  .inl (0, 40, .inl (fun _ => 0)),
  .inr (5, [.int 0, .int 0, .ref 99]),
  .inl (0, 40, .inl (fun _ => 0)),
  .inr (8, [.ref 101, .ref 102, .int 0, .int 0, .ref 103, .ref 104, .ref 105, .ref 106, .ref 107, .ref 108, .int 0, .int 0, .ref 109, .ref 110, .ref 111, .ref 112, .ref 113, .int 0, .int 0, .ref 114, .int 0, .int 0, .int 0, .int 0, .int 0, .int 0, .int 0, .ref 115, .ref 116, .ref 117, .ref 118, .ref 119, .ref 120, .ref 121, .ref 122, .ref 123, .ref 124, .ref 125, .int 0]),
  .inl (0, 198, .inl (fun _ => 0)),
  .inl (2, 2, .inl (fun _ => 0)),
  .inl (0, 5, .inl (fun _ => 0)),
  .inl (0, 5, .inl (fun _ => 0)),
  .inl (0, 5, .inl (fun _ => 0)),
  .inl (0, 3, .inl (fun _ => 0)),
  .inl (0, 3, .inl (fun _ => 0)),
  .inl (0, 66, .inl (fun _ => 0)),
  .inl (0, 5, .inl (fun _ => 0)),
  .inl (0, 5, .inl (fun _ => 0)),
  .inl (0, 5, .inl (fun _ => 0)),
  .inl (0, 3, .inl (fun _ => 0)),
  .inl (0, 3, .inl (fun _ => 0)),
  .inl (0, 160, .inl (fun _ => 0)),
  .inl (0, 24576, .inl (fun _ => 0)),
  .inl (0, 5, .inl (fun _ => 0)),
  .inl (0, 3, .inl (fun _ => 0)),
  .inl (0, 3, .inl (fun _ => 0)),
  .inl (0, 66, .inl (fun _ => 0)),
  .inl (3, 16, .inr (.inl (fun _ => 0))),
  .inl (3, 216, .inr (.inl (fun _ => 0))),
  .inl (3, 216, .inr (.inl (fun _ => 0))),
  .inl (0, 4, .inl (fun _ => 0)),
  .inl (0, 4, .inl (fun _ => 0)),
  .inl (0, 160, .inl (fun _ => 0))]
def tm (k : Nat) : mCell := tl.getD k dead
def fillv (v : Nat → Int32) (w : Nat → Int64) : Nat → List Value → List Value
  | _, [] => []
  | i, f :: fs => (match f with | .int _ => .int (v i) | .long _ => .long (w i) | x => x) :: fillv v w (i + 1) fs
def fillc (v : Nat → Int32) (w : Nat → Int64) : mCell → mCell
  | .inr (ci, fs) => .inr (ci, fillv v w 0 fs)
  | .inl (t, n, .inl _) => .inl (t, n, .inl v)
  | .inl (t, n, .inr (.inl _)) => .inl (t, n, .inr (.inl w))
  | c => c
def bh (v : Nat → Nat → Int32) (w : Nat → Nat → Int64) : mH := (126, 27134, fun k => fillc (v k) (w k) (tm k))
def u2 (v : Nat → Nat → Int32) (o k : Nat) (x : Int32) : Nat → Nat → Int32 := va_up v o (upd (v o) k x)
def u2L (w : Nat → Nat → Int64) (o k : Nat) (x : Int64) : Nat → Nat → Int64 := va_up w o (vp_updL (w o) k x)
def rd {α : Type} (f : Nat → α) (n : Nat) (i : Int32) : Option α := if ¬ (i < 0 ∨ n ≤ i.toNatClampNeg) then some (f i.toNatClampNeg) else none
def wr (v : Nat → Nat → Int32) (w : Nat → Nat → Int64) (o n : Nat) (i x : Int32) : Option mH := if ¬ (i < 0 ∨ n ≤ i.toNatClampNeg) then some (bh (u2 v o i.toNatClampNeg x) w) else none
def wrL (v : Nat → Nat → Int32) (w : Nat → Nat → Int64) (o n : Nat) (i : Int32) (x : Int64) : Option mH := if ¬ (i < 0 ∨ n ≤ i.toNatClampNeg) then some (bh v (u2L w o i.toNatClampNeg x)) else none
theorem rd_nI {α : Type} {f : Nat → α} {n j : Nat} (h : j < n) (hn : n < 2 ^ 31) : rd f n (nI j) = some (f j) := by
  unfold rd
  rw [if_pos (nI_in h hn), nI_clamp (by omega)]
theorem wr_nI {v : Nat → Nat → Int32} {w : Nat → Nat → Int64} {o n j : Nat} {x : Int32} (h : j < n) (hn : n < 2 ^ 31) : wr v w o n (nI j) x = some (bh (u2 v o j x) w) := by
  unfold wr
  rw [if_pos (nI_in h hn), nI_clamp (by omega)]
theorem wrL_nI {v : Nat → Nat → Int32} {w : Nat → Nat → Int64} {o n j : Nat} {x : Int64} (h : j < n) (hn : n < 2 ^ 31) : wrL v w o n (nI j) x = some (bh v (u2L w o j x)) := by
  unfold wrL
  rw [if_pos (nI_in h hn), nI_clamp (by omega)]
theorem fillv_set (v : Nat → Int32) (w : Nat → Int64) (x : Int32) : ∀ (fs : List Value) (i k : Nat) (y : Int32), fs[k]? = some (.int y) → (fillv v w i fs).set k (.int x) = fillv (upd v (i + k) x) w i fs := by
  intro fs
  induction fs with
  | nil => intro i k y h; simp at h
  | cons f fs ih =>
    intro i k y h
    have tail0 : ∀ (j : Nat), i < j → fillv (upd v i x) w j fs = fillv v w j fs := by
      intro j hj
      clear ih h
      induction fs generalizing j with
      | nil => rfl
      | cons g gs ih2 =>
        simp only [fillv]
        rw [ih2 (j + 1) (by omega)]
        cases g <;> simp [upd, show ¬ j = i by omega]
    cases k with
    | zero =>
      simp at h
      subst h
      simp only [fillv, List.set_cons_zero, Nat.add_zero]
      rw [tail0 (i + 1) (by omega)]
      simp [upd]
    | succ k =>
      have h2 : fs[k]? = some (.int y) := by simpa using h
      simp only [fillv, List.set_cons_succ]
      rw [ih (i + 1) k y h2, show i + 1 + k = i + (k + 1) by omega]
      cases f <;> simp [upd, show ¬ i = i + (k + 1) by omega]
theorem fillv_setL (v : Nat → Int32) (w : Nat → Int64) (x : Int64) : ∀ (fs : List Value) (i k : Nat) (y : Int64), fs[k]? = some (.long y) → (fillv v w i fs).set k (.long x) = fillv v (vp_updL w (i + k) x) i fs := by
  intro fs
  induction fs with
  | nil => intro i k y h; simp at h
  | cons f fs ih =>
    intro i k y h
    have tail0 : ∀ (j : Nat), i < j → fillv v (vp_updL w i x) j fs = fillv v w j fs := by
      intro j hj
      clear ih h
      induction fs generalizing j with
      | nil => rfl
      | cons g gs ih2 =>
        simp only [fillv]
        rw [ih2 (j + 1) (by omega)]
        cases g <;> simp [vp_updL, show ¬ j = i by omega]
    cases k with
    | zero =>
      simp at h
      subst h
      simp only [fillv, List.set_cons_zero, Nat.add_zero]
      rw [tail0 (i + 1) (by omega)]
      simp [vp_updL]
    | succ k =>
      have h2 : fs[k]? = some (.long y) := by simpa using h
      simp only [fillv, List.set_cons_succ]
      rw [ih (i + 1) k y h2, show i + 1 + k = i + (k + 1) by omega]
      cases f <;> simp [vp_updL, show ¬ i = i + (k + 1) by omega]
theorem fillv_len (v : Nat → Int32) (w : Nat → Int64) : ∀ (fs : List Value) (i : Nat), (fillv v w i fs).length = fs.length := by
  intro fs
  induction fs with
  | nil => intro i; rfl
  | cons f fs ih => intro i; simp [fillv, ih]
theorem bh_up {v v2 : Nat → Nat → Int32} {w w2 : Nat → Nat → Int64} {o : Nat} {c : mCell} (hv : ∀ p, p ≠ o → v2 p = v p ∧ w2 p = w p) (hc : fillc (v2 o) (w2 o) (tm o) = c) : mset (bh v w) o c = bh v2 w2 := by
  unfold mset bh
  dsimp only
  congr 2
  funext p
  unfold va_up
  split
  · next e => subst e; exact hc.symm
  · next e => rw [(hv p e).1, (hv p e).2]
theorem up_ne {α : Type} {f : Nat → α} {k p : Nat} {x : α} (h : p ≠ k) : va_up f k x p = f p := by unfold va_up; rw [if_neg h]
theorem pV_bh {v : Nat → Nat → Int32} {w : Nat → Nat → Int64} {o ci k : Nat} {x y : Int32} {fs : List Value} (e : tm o = .inr (ci, fs)) (hk : fs[k]? = some (.int y)) : pV (bh v w) o ci k (.int x) = some (bh (u2 v o k x) w) := by
  have hl : k < fs.length := (List.getElem?_eq_some_iff.mp hk).1
  unfold pV
  have e1 : (bh v w).2.2 o = .inr (ci, fillv (v o) (w o) 0 fs) := by show fillc _ _ (tm o) = _; rw [e]; rfl
  rw [e1]
  dsimp only
  rw [if_pos ⟨rfl, by rw [fillv_len]; exact hl⟩, fillv_set _ _ x fs 0 k y hk, Nat.zero_add]
  congr 1
  refine bh_up (fun p hp => ⟨up_ne hp, rfl⟩) ?_
  rw [e]
  show Sum.inr (ci, fillv (va_up v o (upd (v o) k x) o) (w o) 0 fs) = _
  rw [up_at]
theorem pV_bhL {v : Nat → Nat → Int32} {w : Nat → Nat → Int64} {o ci k : Nat} {x y : Int64} {fs : List Value} (e : tm o = .inr (ci, fs)) (hk : fs[k]? = some (.long y)) : pV (bh v w) o ci k (.long x) = some (bh v (u2L w o k x)) := by
  have hl : k < fs.length := (List.getElem?_eq_some_iff.mp hk).1
  unfold pV
  have e1 : (bh v w).2.2 o = .inr (ci, fillv (v o) (w o) 0 fs) := by show fillc _ _ (tm o) = _; rw [e]; rfl
  rw [e1]
  dsimp only
  rw [if_pos ⟨rfl, by rw [fillv_len]; exact hl⟩, fillv_setL _ _ x fs 0 k y hk, Nat.zero_add]
  congr 1
  refine bh_up (fun p hp => ⟨rfl, up_ne hp⟩) ?_
  rw [e]
  show Sum.inr (ci, fillv (v o) (va_up w o (vp_updL (w o) k x) o) 0 fs) = _
  rw [up_at]
theorem aI_bh {v : Nat → Nat → Int32} {w : Nat → Nat → Int64} {t o n : Nat} {f : Nat → Int32} (e : tm o = .inl (t, n, .inl f)) (i : Int32) : aI (bh v w) t o i = rd (v o) n i := by
  unfold aI rd
  have e1 : (bh v w).2.2 o = .inl (t, n, .inl (v o)) := by show fillc _ _ (tm o) = _; rw [e]; rfl
  rw [e1]
  simp
theorem sI_bh {v : Nat → Nat → Int32} {w : Nat → Nat → Int64} {t o n : Nat} {f : Nat → Int32} (e : tm o = .inl (t, n, .inl f)) (i x : Int32) : sI (bh v w) t o i x = wr v w o n i x := by
  unfold sI wr
  have e1 : (bh v w).2.2 o = .inl (t, n, .inl (v o)) := by show fillc _ _ (tm o) = _; rw [e]; rfl
  rw [e1]
  have e2 : mset (bh v w) o (.inl (t, n, .inl (upd (v o) i.toNatClampNeg x))) = bh (u2 v o i.toNatClampNeg x) w := by
    refine bh_up (fun p hp => ⟨up_ne hp, rfl⟩) ?_
    rw [e]
    show Sum.inl (t, n, Sum.inl (va_up v o (upd (v o) i.toNatClampNeg x) o)) = _
    rw [up_at]
  simp [e2]
theorem aL_bh {v : Nat → Nat → Int32} {w : Nat → Nat → Int64} {o n : Nat} {f : Nat → Int64} (e : tm o = .inl (3, n, .inr (.inl f))) (i : Int32) : aL (bh v w) o i = rd (w o) n i := by
  unfold aL rd
  have e1 : (bh v w).2.2 o = .inl (3, n, .inr (.inl (w o))) := by show fillc _ _ (tm o) = _; rw [e]; rfl
  rw [e1]
  simp
theorem sL_bh {v : Nat → Nat → Int32} {w : Nat → Nat → Int64} {o n : Nat} {f : Nat → Int64} (e : tm o = .inl (3, n, .inr (.inl f))) (i : Int32) (x : Int64) : sL (bh v w) o i x = wrL v w o n i x := by
  unfold sL wrL
  have e1 : (bh v w).2.2 o = .inl (3, n, .inr (.inl (w o))) := by show fillc _ _ (tm o) = _; rw [e]; rfl
  rw [e1]
  have e2 : mset (bh v w) o (.inl (3, n, .inr (.inl (vp_updL (w o) i.toNatClampNeg x)))) = bh v (u2L w o i.toNatClampNeg x) := by
    refine bh_up (fun p hp => ⟨rfl, up_ne hp⟩) ?_
    rw [e]
    show Sum.inl (3, n, Sum.inr (Sum.inl (va_up w o (vp_updL (w o) i.toNatClampNeg x) o))) = _
    rw [up_at]
  simp [e2]
theorem hM (v : Nat → Nat → Int32) (w : Nat → Nat → Int64) : kC (bh v w) 100 8 = some () ∧ gR (bh v w) 100 8 0 = some 101 ∧ gR (bh v w) 100 8 1 = some 102 ∧ gI (bh v w) 100 8 2 = some (v 100 2) ∧ (∀ x, pV (bh v w) 100 8 2 (.int x) = some (bh (u2 v 100 2 x) w)) ∧ gI (bh v w) 100 8 3 = some (v 100 3) ∧ (∀ x, pV (bh v w) 100 8 3 (.int x) = some (bh (u2 v 100 3 x) w)) ∧ gR (bh v w) 100 8 4 = some 103 ∧ gR (bh v w) 100 8 5 = some 104 ∧ gR (bh v w) 100 8 6 = some 105 ∧ gR (bh v w) 100 8 7 = some 106 ∧ gR (bh v w) 100 8 8 = some 107 ∧ gR (bh v w) 100 8 9 = some 108 ∧ gI (bh v w) 100 8 10 = some (v 100 10) ∧ (∀ x, pV (bh v w) 100 8 10 (.int x) = some (bh (u2 v 100 10 x) w)) ∧ gI (bh v w) 100 8 11 = some (v 100 11) ∧ (∀ x, pV (bh v w) 100 8 11 (.int x) = some (bh (u2 v 100 11 x) w)) ∧ gR (bh v w) 100 8 12 = some 109 ∧ gR (bh v w) 100 8 13 = some 110 ∧ gR (bh v w) 100 8 14 = some 111 ∧ gR (bh v w) 100 8 15 = some 112 ∧ gR (bh v w) 100 8 16 = some 113 ∧ gI (bh v w) 100 8 17 = some (v 100 17) ∧ (∀ x, pV (bh v w) 100 8 17 (.int x) = some (bh (u2 v 100 17 x) w)) ∧ gI (bh v w) 100 8 18 = some (v 100 18) ∧ (∀ x, pV (bh v w) 100 8 18 (.int x) = some (bh (u2 v 100 18 x) w)) ∧ gR (bh v w) 100 8 19 = some 114 ∧ gI (bh v w) 100 8 20 = some (v 100 20) ∧ (∀ x, pV (bh v w) 100 8 20 (.int x) = some (bh (u2 v 100 20 x) w)) ∧ gI (bh v w) 100 8 21 = some (v 100 21) ∧ (∀ x, pV (bh v w) 100 8 21 (.int x) = some (bh (u2 v 100 21 x) w)) ∧ gI (bh v w) 100 8 22 = some (v 100 22) ∧ (∀ x, pV (bh v w) 100 8 22 (.int x) = some (bh (u2 v 100 22 x) w)) ∧ gI (bh v w) 100 8 23 = some (v 100 23) ∧ (∀ x, pV (bh v w) 100 8 23 (.int x) = some (bh (u2 v 100 23 x) w)) ∧ gI (bh v w) 100 8 24 = some (v 100 24) ∧ (∀ x, pV (bh v w) 100 8 24 (.int x) = some (bh (u2 v 100 24 x) w)) ∧ gI (bh v w) 100 8 25 = some (v 100 25) ∧ (∀ x, pV (bh v w) 100 8 25 (.int x) = some (bh (u2 v 100 25 x) w)) ∧ gI (bh v w) 100 8 26 = some (v 100 26) ∧ (∀ x, pV (bh v w) 100 8 26 (.int x) = some (bh (u2 v 100 26 x) w)) ∧ gR (bh v w) 100 8 27 = some 115 ∧ gR (bh v w) 100 8 28 = some 116 ∧ gR (bh v w) 100 8 29 = some 117 ∧ gR (bh v w) 100 8 30 = some 118 ∧ gR (bh v w) 100 8 31 = some 119 ∧ gR (bh v w) 100 8 32 = some 120 ∧ gR (bh v w) 100 8 33 = some 121 ∧ gR (bh v w) 100 8 34 = some 122 ∧ gR (bh v w) 100 8 35 = some 123 ∧ gR (bh v w) 100 8 36 = some 124 ∧ gR (bh v w) 100 8 37 = some 125 ∧ gI (bh v w) 100 8 38 = some (v 100 38) ∧ (∀ x, pV (bh v w) 100 8 38 (.int x) = some (bh (u2 v 100 38 x) w)) ∧ (∀ i, aI (bh v w) 0 101 i = rd (v 101) 198 i) ∧ (∀ i x, sI (bh v w) 0 101 i x = wr v w 101 198 i x) ∧ (∀ i, aI (bh v w) 2 102 i = rd (v 102) 2 i) ∧ (∀ i x, sI (bh v w) 2 102 i x = wr v w 102 2 i x) ∧ (∀ i, aI (bh v w) 0 103 i = rd (v 103) 5 i) ∧ (∀ i x, sI (bh v w) 0 103 i x = wr v w 103 5 i x) ∧ (∀ i, aI (bh v w) 0 104 i = rd (v 104) 5 i) ∧ (∀ i x, sI (bh v w) 0 104 i x = wr v w 104 5 i x) ∧ (∀ i, aI (bh v w) 0 105 i = rd (v 105) 5 i) ∧ (∀ i x, sI (bh v w) 0 105 i x = wr v w 105 5 i x) ∧ (∀ i, aI (bh v w) 0 106 i = rd (v 106) 3 i) ∧ (∀ i x, sI (bh v w) 0 106 i x = wr v w 106 3 i x) ∧ (∀ i, aI (bh v w) 0 107 i = rd (v 107) 3 i) ∧ (∀ i x, sI (bh v w) 0 107 i x = wr v w 107 3 i x) ∧ (∀ i, aI (bh v w) 0 108 i = rd (v 108) 66 i) ∧ (∀ i x, sI (bh v w) 0 108 i x = wr v w 108 66 i x) ∧ (∀ i, aI (bh v w) 0 109 i = rd (v 109) 5 i) ∧ (∀ i x, sI (bh v w) 0 109 i x = wr v w 109 5 i x) ∧ (∀ i, aI (bh v w) 0 110 i = rd (v 110) 5 i) ∧ (∀ i x, sI (bh v w) 0 110 i x = wr v w 110 5 i x) ∧ (∀ i, aI (bh v w) 0 111 i = rd (v 111) 5 i) ∧ (∀ i x, sI (bh v w) 0 111 i x = wr v w 111 5 i x) ∧ (∀ i, aI (bh v w) 0 112 i = rd (v 112) 3 i) ∧ (∀ i x, sI (bh v w) 0 112 i x = wr v w 112 3 i x) ∧ (∀ i, aI (bh v w) 0 113 i = rd (v 113) 3 i) ∧ (∀ i x, sI (bh v w) 0 113 i x = wr v w 113 3 i x) ∧ (∀ i, aI (bh v w) 0 114 i = rd (v 114) 160 i) ∧ (∀ i x, sI (bh v w) 0 114 i x = wr v w 114 160 i x) ∧ (∀ i, aI (bh v w) 0 115 i = rd (v 115) 24576 i) ∧ (∀ i x, sI (bh v w) 0 115 i x = wr v w 115 24576 i x) ∧ (∀ i, aI (bh v w) 0 116 i = rd (v 116) 5 i) ∧ (∀ i x, sI (bh v w) 0 116 i x = wr v w 116 5 i x) ∧ (∀ i, aI (bh v w) 0 117 i = rd (v 117) 3 i) ∧ (∀ i x, sI (bh v w) 0 117 i x = wr v w 117 3 i x) ∧ (∀ i, aI (bh v w) 0 118 i = rd (v 118) 3 i) ∧ (∀ i x, sI (bh v w) 0 118 i x = wr v w 118 3 i x) ∧ (∀ i, aI (bh v w) 0 119 i = rd (v 119) 66 i) ∧ (∀ i x, sI (bh v w) 0 119 i x = wr v w 119 66 i x) ∧ (∀ i, aL (bh v w) 120 i = rd (w 120) 16 i) ∧ (∀ i x, sL (bh v w) 120 i x = wrL v w 120 16 i x) ∧ (∀ i, aL (bh v w) 121 i = rd (w 121) 216 i) ∧ (∀ i x, sL (bh v w) 121 i x = wrL v w 121 216 i x) ∧ (∀ i, aL (bh v w) 122 i = rd (w 122) 216 i) ∧ (∀ i x, sL (bh v w) 122 i x = wrL v w 122 216 i x) ∧ (∀ i, aI (bh v w) 0 123 i = rd (v 123) 4 i) ∧ (∀ i x, sI (bh v w) 0 123 i x = wr v w 123 4 i x) ∧ (∀ i, aI (bh v w) 0 124 i = rd (v 124) 4 i) ∧ (∀ i x, sI (bh v w) 0 124 i x = wr v w 124 4 i x) ∧ (∀ i, aI (bh v w) 0 125 i = rd (v 125) 160 i) ∧ (∀ i x, sI (bh v w) 0 125 i x = wr v w 125 160 i x) := ⟨rfl, rfl, rfl, rfl, (fun _ => pV_bh rfl rfl), rfl, (fun _ => pV_bh rfl rfl), rfl, rfl, rfl, rfl, rfl, rfl, rfl, (fun _ => pV_bh rfl rfl), rfl, (fun _ => pV_bh rfl rfl), rfl, rfl, rfl, rfl, rfl, rfl, (fun _ => pV_bh rfl rfl), rfl, (fun _ => pV_bh rfl rfl), rfl, rfl, (fun _ => pV_bh rfl rfl), rfl, (fun _ => pV_bh rfl rfl), rfl, (fun _ => pV_bh rfl rfl), rfl, (fun _ => pV_bh rfl rfl), rfl, (fun _ => pV_bh rfl rfl), rfl, (fun _ => pV_bh rfl rfl), rfl, (fun _ => pV_bh rfl rfl), rfl, rfl, rfl, rfl, rfl, rfl, rfl, rfl, rfl, rfl, rfl, rfl, (fun _ => pV_bh rfl rfl), aI_bh rfl, sI_bh rfl, aI_bh rfl, sI_bh rfl, aI_bh rfl, sI_bh rfl, aI_bh rfl, sI_bh rfl, aI_bh rfl, sI_bh rfl, aI_bh rfl, sI_bh rfl, aI_bh rfl, sI_bh rfl, aI_bh rfl, sI_bh rfl, aI_bh rfl, sI_bh rfl, aI_bh rfl, sI_bh rfl, aI_bh rfl, sI_bh rfl, aI_bh rfl, sI_bh rfl, aI_bh rfl, sI_bh rfl, aI_bh rfl, sI_bh rfl, aI_bh rfl, sI_bh rfl, aI_bh rfl, sI_bh rfl, aI_bh rfl, sI_bh rfl, aI_bh rfl, sI_bh rfl, aI_bh rfl, sI_bh rfl, aL_bh rfl, sL_bh rfl, aL_bh rfl, sL_bh rfl, aL_bh rfl, sL_bh rfl, aI_bh rfl, sI_bh rfl, aI_bh rfl, sI_bh rfl, aI_bh rfl, sI_bh rfl⟩
/-- the places of the class's realms: now, trial, two images -/
def rl (o : Nat) : Prop := o = 3 ∨ o = 20 ∨ o = 58 ∨ o = 75
theorem hRl {o : Nat} (ho : rl o) (v : Nat → Nat → Int32) (w : Nat → Nat → Int64) : kC (bh v w) o 4 = some () ∧ gI (bh v w) o 4 0 = some (v o 0) ∧ (∀ x, pV (bh v w) o 4 0 (.int x) = some (bh (u2 v o 0 x) w)) ∧ gI (bh v w) o 4 1 = some (v o 1) ∧ (∀ x, pV (bh v w) o 4 1 (.int x) = some (bh (u2 v o 1 x) w)) ∧ gI (bh v w) o 4 2 = some (v o 2) ∧ (∀ x, pV (bh v w) o 4 2 (.int x) = some (bh (u2 v o 2 x) w)) ∧ gI (bh v w) o 4 3 = some (v o 3) ∧ (∀ x, pV (bh v w) o 4 3 (.int x) = some (bh (u2 v o 3 x) w)) ∧ gI (bh v w) o 4 4 = some (v o 4) ∧ (∀ x, pV (bh v w) o 4 4 (.int x) = some (bh (u2 v o 4 x) w)) ∧ gI (bh v w) o 4 5 = some (v o 5) ∧ (∀ x, pV (bh v w) o 4 5 (.int x) = some (bh (u2 v o 5 x) w)) ∧ gR (bh v w) o 4 6 = some (o + 1) ∧ gR (bh v w) o 4 7 = some (o + 2) ∧ gR (bh v w) o 4 8 = some (o + 3) ∧ gR (bh v w) o 4 9 = some (o + 4) ∧ gR (bh v w) o 4 10 = some (o + 5) ∧ gR (bh v w) o 4 11 = some (o + 6) ∧ gR (bh v w) o 4 12 = some (o + 7) ∧ gR (bh v w) o 4 13 = some (o + 8) ∧ gR (bh v w) o 4 14 = some (o + 9) ∧ gR (bh v w) o 4 15 = some (o + 10) ∧ gR (bh v w) o 4 16 = some (o + 11) ∧ gR (bh v w) o 4 17 = some (o + 12) ∧ gR (bh v w) o 4 18 = some (o + 13) ∧ (∀ i, aI (bh v w) 0 (o + 1) i = rd (v (o + 1)) 5 i) ∧ (∀ i x, sI (bh v w) 0 (o + 1) i x = wr v w (o + 1) 5 i x) ∧ (∀ i, aI (bh v w) 0 (o + 2) i = rd (v (o + 2)) 5 i) ∧ (∀ i x, sI (bh v w) 0 (o + 2) i x = wr v w (o + 2) 5 i x) ∧ (∀ i, aI (bh v w) 0 (o + 3) i = rd (v (o + 3)) 5 i) ∧ (∀ i x, sI (bh v w) 0 (o + 3) i x = wr v w (o + 3) 5 i x) ∧ (∀ i, aI (bh v w) 0 (o + 4) i = rd (v (o + 4)) 5 i) ∧ (∀ i x, sI (bh v w) 0 (o + 4) i x = wr v w (o + 4) 5 i x) ∧ (∀ i, aI (bh v w) 0 (o + 5) i = rd (v (o + 5)) 5 i) ∧ (∀ i x, sI (bh v w) 0 (o + 5) i x = wr v w (o + 5) 5 i x) ∧ (∀ i, aI (bh v w) 0 (o + 6) i = rd (v (o + 6)) 3 i) ∧ (∀ i x, sI (bh v w) 0 (o + 6) i x = wr v w (o + 6) 3 i x) ∧ (∀ i, aI (bh v w) 0 (o + 7) i = rd (v (o + 7)) 3 i) ∧ (∀ i x, sI (bh v w) 0 (o + 7) i x = wr v w (o + 7) 3 i x) ∧ (∀ i, aI (bh v w) 0 (o + 8) i = rd (v (o + 8)) 3 i) ∧ (∀ i x, sI (bh v w) 0 (o + 8) i x = wr v w (o + 8) 3 i x) ∧ (∀ i, aI (bh v w) 0 (o + 9) i = rd (v (o + 9)) 3 i) ∧ (∀ i x, sI (bh v w) 0 (o + 9) i x = wr v w (o + 9) 3 i x) ∧ (∀ i, aI (bh v w) 0 (o + 10) i = rd (v (o + 10)) 3 i) ∧ (∀ i x, sI (bh v w) 0 (o + 10) i x = wr v w (o + 10) 3 i x) ∧ (∀ i, aI (bh v w) 0 (o + 11) i = rd (v (o + 11)) 3 i) ∧ (∀ i x, sI (bh v w) 0 (o + 11) i x = wr v w (o + 11) 3 i x) ∧ (∀ i, aI (bh v w) 0 (o + 12) i = rd (v (o + 12)) 15 i) ∧ (∀ i x, sI (bh v w) 0 (o + 12) i x = wr v w (o + 12) 15 i x) ∧ kC (bh v w) (o + 13) 6 = some () ∧ gI (bh v w) (o + 13) 6 0 = some (v (o + 13) 0) ∧ (∀ x, pV (bh v w) (o + 13) 6 0 (.int x) = some (bh (u2 v (o + 13) 0 x) w)) ∧ gR (bh v w) (o + 13) 6 1 = some (o + 14) ∧ gR (bh v w) (o + 13) 6 2 = some (o + 15) ∧ gR (bh v w) (o + 13) 6 3 = some (o + 16) ∧ (∀ i, aI (bh v w) 0 (o + 14) i = rd (v (o + 14)) 8 i) ∧ (∀ i x, sI (bh v w) 0 (o + 14) i x = wr v w (o + 14) 8 i x) ∧ (∀ i, aI (bh v w) 0 (o + 15) i = rd (v (o + 15)) 8 i) ∧ (∀ i x, sI (bh v w) 0 (o + 15) i x = wr v w (o + 15) 8 i x) ∧ (∀ i, aI (bh v w) 0 (o + 16) i = rd (v (o + 16)) 8 i) ∧ (∀ i x, sI (bh v w) 0 (o + 16) i x = wr v w (o + 16) 8 i x) := by
  rcases ho with rfl | rfl | rfl | rfl <;> exact ⟨rfl, rfl, (fun _ => pV_bh rfl rfl), rfl, (fun _ => pV_bh rfl rfl), rfl, (fun _ => pV_bh rfl rfl), rfl, (fun _ => pV_bh rfl rfl), rfl, (fun _ => pV_bh rfl rfl), rfl, (fun _ => pV_bh rfl rfl), rfl, rfl, rfl, rfl, rfl, rfl, rfl, rfl, rfl, rfl, rfl, rfl, rfl, aI_bh rfl, sI_bh rfl, aI_bh rfl, sI_bh rfl, aI_bh rfl, sI_bh rfl, aI_bh rfl, sI_bh rfl, aI_bh rfl, sI_bh rfl, aI_bh rfl, sI_bh rfl, aI_bh rfl, sI_bh rfl, aI_bh rfl, sI_bh rfl, aI_bh rfl, sI_bh rfl, aI_bh rfl, sI_bh rfl, aI_bh rfl, sI_bh rfl, aI_bh rfl, sI_bh rfl, rfl, rfl, (fun _ => pV_bh rfl rfl), rfl, rfl, rfl, aI_bh rfl, sI_bh rfl, aI_bh rfl, sI_bh rfl, aI_bh rfl, sI_bh rfl⟩
theorem hQ (v : Nat → Nat → Int32) (w : Nat → Nat → Int64) : kC (bh v w) 0 0 = some () ∧ gR (bh v w) 0 0 0 = some 1 ∧ gR (bh v w) 0 0 1 = some 3 ∧ gR (bh v w) 0 0 2 = some 20 ∧ gR (bh v w) 0 0 3 = some 37 ∧ gR (bh v w) 0 0 4 = some 38 ∧ gR (bh v w) 0 0 5 = some 39 ∧ gR (bh v w) 0 0 6 = some 40 ∧ gR (bh v w) 0 0 7 = some 48 ∧ gR (bh v w) 0 0 8 = some 56 ∧ gI (bh v w) 0 0 9 = some (v 0 9) ∧ (∀ x, pV (bh v w) 0 0 9 (.int x) = some (bh (u2 v 0 9 x) w)) ∧ kC (bh v w) 1 3 = some () ∧ gR (bh v w) 1 3 0 = some 2 ∧ gI (bh v w) 1 3 1 = some (v 1 1) ∧ (∀ x, pV (bh v w) 1 3 1 (.int x) = some (bh (u2 v 1 1 x) w)) ∧ gI (bh v w) 1 3 2 = some (v 1 2) ∧ (∀ x, pV (bh v w) 1 3 2 (.int x) = some (bh (u2 v 1 2 x) w)) ∧ gI (bh v w) 1 3 3 = some (v 1 3) ∧ (∀ x, pV (bh v w) 1 3 3 (.int x) = some (bh (u2 v 1 3 x) w)) ∧ gI (bh v w) 1 3 4 = some (v 1 4) ∧ (∀ x, pV (bh v w) 1 3 4 (.int x) = some (bh (u2 v 1 4 x) w)) ∧ gI (bh v w) 1 3 5 = some (v 1 5) ∧ (∀ x, pV (bh v w) 1 3 5 (.int x) = some (bh (u2 v 1 5 x) w)) ∧ gI (bh v w) 1 3 6 = some (v 1 6) ∧ (∀ x, pV (bh v w) 1 3 6 (.int x) = some (bh (u2 v 1 6 x) w)) ∧ gI (bh v w) 1 3 7 = some (v 1 7) ∧ (∀ x, pV (bh v w) 1 3 7 (.int x) = some (bh (u2 v 1 7 x) w)) ∧ gI (bh v w) 1 3 8 = some (v 1 8) ∧ (∀ x, pV (bh v w) 1 3 8 (.int x) = some (bh (u2 v 1 8 x) w)) ∧ (∀ i, aI (bh v w) 1 2 i = rd (v 2) 160 i) ∧ (∀ i x, sI (bh v w) 1 2 i x = wr v w 2 160 i x) ∧ (∀ i, aI (bh v w) 2 38 i = rd (v 38) 2 i) ∧ (∀ i x, sI (bh v w) 2 38 i x = wr v w 38 2 i x) ∧ kC (bh v w) 40 2 = some () ∧ gI (bh v w) 40 2 0 = some (v 40 0) ∧ (∀ x, pV (bh v w) 40 2 0 (.int x) = some (bh (u2 v 40 0 x) w)) ∧ gR (bh v w) 40 2 1 = some 41 ∧ gR (bh v w) 40 2 2 = some 42 ∧ gR (bh v w) 40 2 3 = some 43 ∧ gR (bh v w) 40 2 4 = some 44 ∧ gR (bh v w) 40 2 5 = some 45 ∧ gR (bh v w) 40 2 6 = some 46 ∧ gR (bh v w) 40 2 7 = some 47 ∧ (∀ i, aI (bh v w) 0 41 i = rd (v 41) 3 i) ∧ (∀ i x, sI (bh v w) 0 41 i x = wr v w 41 3 i x) ∧ (∀ i, aI (bh v w) 0 42 i = rd (v 42) 5 i) ∧ (∀ i x, sI (bh v w) 0 42 i x = wr v w 42 5 i x) ∧ (∀ i, aI (bh v w) 0 43 i = rd (v 43) 6 i) ∧ (∀ i x, sI (bh v w) 0 43 i x = wr v w 43 6 i x) ∧ (∀ i, aI (bh v w) 0 44 i = rd (v 44) 15 i) ∧ (∀ i x, sI (bh v w) 0 44 i x = wr v w 44 15 i x) ∧ (∀ i, aI (bh v w) 0 45 i = rd (v 45) 15 i) ∧ (∀ i x, sI (bh v w) 0 45 i x = wr v w 45 15 i x) ∧ (∀ i, aI (bh v w) 0 46 i = rd (v 46) 15 i) ∧ (∀ i x, sI (bh v w) 0 46 i x = wr v w 46 15 i x) ∧ (∀ i, aI (bh v w) 0 47 i = rd (v 47) 216 i) ∧ (∀ i x, sI (bh v w) 0 47 i x = wr v w 47 216 i x) ∧ kC (bh v w) 48 7 = some () ∧ gI (bh v w) 48 7 0 = some (v 48 0) ∧ (∀ x, pV (bh v w) 48 7 0 (.int x) = some (bh (u2 v 48 0 x) w)) ∧ gR (bh v w) 48 7 1 = some 49 ∧ gR (bh v w) 48 7 2 = some 50 ∧ gR (bh v w) 48 7 3 = some 51 ∧ gR (bh v w) 48 7 4 = some 52 ∧ gR (bh v w) 48 7 5 = some 53 ∧ gR (bh v w) 48 7 6 = some 54 ∧ gR (bh v w) 48 7 7 = some 55 ∧ (∀ i, aI (bh v w) 0 49 i = rd (v 49) 15 i) ∧ (∀ i x, sI (bh v w) 0 49 i x = wr v w 49 15 i x) ∧ (∀ i, aI (bh v w) 0 50 i = rd (v 50) 15 i) ∧ (∀ i x, sI (bh v w) 0 50 i x = wr v w 50 15 i x) ∧ (∀ i, aI (bh v w) 0 51 i = rd (v 51) 5 i) ∧ (∀ i x, sI (bh v w) 0 51 i x = wr v w 51 5 i x) ∧ (∀ i, aI (bh v w) 0 52 i = rd (v 52) 3 i) ∧ (∀ i x, sI (bh v w) 0 52 i x = wr v w 52 3 i x) ∧ (∀ i, aI (bh v w) 0 53 i = rd (v 53) 3 i) ∧ (∀ i x, sI (bh v w) 0 53 i x = wr v w 53 3 i x) ∧ (∀ i, aL (bh v w) 54 i = rd (w 54) 18 i) ∧ (∀ i x, sL (bh v w) 54 i x = wrL v w 54 18 i x) ∧ (∀ i, aL (bh v w) 55 i = rd (w 55) 216 i) ∧ (∀ i x, sL (bh v w) 55 i x = wrL v w 55 216 i x) ∧ kC (bh v w) 56 1 = some () ∧ gL (bh v w) 56 1 0 = some (w 56 0) ∧ (∀ x, pV (bh v w) 56 1 0 (.long x) = some (bh v (u2L w 56 0 x))) ∧ gL (bh v w) 56 1 1 = some (w 56 1) ∧ (∀ x, pV (bh v w) 56 1 1 (.long x) = some (bh v (u2L w 56 1 x))) ∧ gR (bh v w) 56 1 2 = some 57 ∧ (∀ i, aL (bh v w) 57 i = rd (w 57) 10 i) ∧ (∀ i x, sL (bh v w) 57 i x = wrL v w 57 10 i x) ∧ kC (bh v w) 92 5 = some () ∧ gI (bh v w) 92 5 0 = some (v 92 0) ∧ (∀ x, pV (bh v w) 92 5 0 (.int x) = some (bh (u2 v 92 0 x) w)) ∧ gI (bh v w) 92 5 1 = some (v 92 1) ∧ (∀ x, pV (bh v w) 92 5 1 (.int x) = some (bh (u2 v 92 1 x) w)) ∧ gR (bh v w) 92 5 2 = some 93 ∧ (∀ i, aI (bh v w) 0 93 i = rd (v 93) 40 i) ∧ (∀ i x, sI (bh v w) 0 93 i x = wr v w 93 40 i x) ∧ kC (bh v w) 94 5 = some () ∧ gI (bh v w) 94 5 0 = some (v 94 0) ∧ (∀ x, pV (bh v w) 94 5 0 (.int x) = some (bh (u2 v 94 0 x) w)) ∧ gI (bh v w) 94 5 1 = some (v 94 1) ∧ (∀ x, pV (bh v w) 94 5 1 (.int x) = some (bh (u2 v 94 1 x) w)) ∧ gR (bh v w) 94 5 2 = some 95 ∧ (∀ i, aI (bh v w) 0 95 i = rd (v 95) 40 i) ∧ (∀ i x, sI (bh v w) 0 95 i x = wr v w 95 40 i x) ∧ kC (bh v w) 96 5 = some () ∧ gI (bh v w) 96 5 0 = some (v 96 0) ∧ (∀ x, pV (bh v w) 96 5 0 (.int x) = some (bh (u2 v 96 0 x) w)) ∧ gI (bh v w) 96 5 1 = some (v 96 1) ∧ (∀ x, pV (bh v w) 96 5 1 (.int x) = some (bh (u2 v 96 1 x) w)) ∧ gR (bh v w) 96 5 2 = some 97 ∧ (∀ i, aI (bh v w) 0 97 i = rd (v 97) 40 i) ∧ (∀ i x, sI (bh v w) 0 97 i x = wr v w 97 40 i x) ∧ kC (bh v w) 98 5 = some () ∧ gI (bh v w) 98 5 0 = some (v 98 0) ∧ (∀ x, pV (bh v w) 98 5 0 (.int x) = some (bh (u2 v 98 0 x) w)) ∧ gI (bh v w) 98 5 1 = some (v 98 1) ∧ (∀ x, pV (bh v w) 98 5 1 (.int x) = some (bh (u2 v 98 1 x) w)) ∧ gR (bh v w) 98 5 2 = some 99 ∧ (∀ i, aI (bh v w) 0 99 i = rd (v 99) 40 i) ∧ (∀ i x, sI (bh v w) 0 99 i x = wr v w 99 40 i x) := ⟨rfl, rfl, rfl, rfl, rfl, rfl, rfl, rfl, rfl, rfl, rfl, (fun _ => pV_bh rfl rfl), rfl, rfl, rfl, (fun _ => pV_bh rfl rfl), rfl, (fun _ => pV_bh rfl rfl), rfl, (fun _ => pV_bh rfl rfl), rfl, (fun _ => pV_bh rfl rfl), rfl, (fun _ => pV_bh rfl rfl), rfl, (fun _ => pV_bh rfl rfl), rfl, (fun _ => pV_bh rfl rfl), rfl, (fun _ => pV_bh rfl rfl), aI_bh rfl, sI_bh rfl, aI_bh rfl, sI_bh rfl, rfl, rfl, (fun _ => pV_bh rfl rfl), rfl, rfl, rfl, rfl, rfl, rfl, rfl, aI_bh rfl, sI_bh rfl, aI_bh rfl, sI_bh rfl, aI_bh rfl, sI_bh rfl, aI_bh rfl, sI_bh rfl, aI_bh rfl, sI_bh rfl, aI_bh rfl, sI_bh rfl, aI_bh rfl, sI_bh rfl, rfl, rfl, (fun _ => pV_bh rfl rfl), rfl, rfl, rfl, rfl, rfl, rfl, rfl, aI_bh rfl, sI_bh rfl, aI_bh rfl, sI_bh rfl, aI_bh rfl, sI_bh rfl, aI_bh rfl, sI_bh rfl, aI_bh rfl, sI_bh rfl, aL_bh rfl, sL_bh rfl, aL_bh rfl, sL_bh rfl, rfl, rfl, (fun _ => pV_bhL rfl rfl), rfl, (fun _ => pV_bhL rfl rfl), rfl, aL_bh rfl, sL_bh rfl, rfl, rfl, (fun _ => pV_bh rfl rfl), rfl, (fun _ => pV_bh rfl rfl), rfl, aI_bh rfl, sI_bh rfl, rfl, rfl, (fun _ => pV_bh rfl rfl), rfl, (fun _ => pV_bh rfl rfl), rfl, aI_bh rfl, sI_bh rfl, rfl, rfl, (fun _ => pV_bh rfl rfl), rfl, (fun _ => pV_bh rfl rfl), rfl, aI_bh rfl, sI_bh rfl, rfl, rfl, (fun _ => pV_bh rfl rfl), rfl, (fun _ => pV_bh rfl rfl), rfl, aI_bh rfl, sI_bh rfl⟩
