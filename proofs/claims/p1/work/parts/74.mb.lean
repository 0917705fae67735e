/-! writes into the reference's bank: printed by wip/gen/gen_mb.py -/
def up2 (ρ : Rho) (f i x : Nat) : Rho := va_up ρ f (va_up (ρ f) i x)
theorem u2_at (v : Nat → Nat → Int32) (o k : Nat) (x : Int32) : u2 v o k x o k = x := by unfold u2; rw [up_at]; simp [upd]
theorem u2_n {v : Nat → Nat → Int32} {o k j : Nat} {x : Int32} (h : j ≠ k) : u2 v o k x o j = v o j := by unfold u2; rw [up_at]; simp [upd, h]
theorem u2_o {v : Nat → Nat → Int32} {o k q : Nat} {x : Int32} (h : q ≠ o) : u2 v o k x q = v q := by unfold u2; rw [up_ne h]
theorem up2_n {ρ : Rho} {f i j x : Nat} (h : j ≠ i) : up2 ρ f i x f j = ρ f j := by unfold up2; rw [up_at, up_ne h]
theorem up2_at (ρ : Rho) (f i x : Nat) : up2 ρ f i x f i = x := by unfold up2; rw [up_at, up_at]
theorem up2_f {ρ : Rho} {f g i x : Nat} (h : g ≠ f) : up2 ρ f i x g = ρ g := by unfold up2; rw [up_ne h]
theorem MB_quota {ρ : Rho} {v : Nat → Nat → Int32} {i : Nat} {x : Nat} (hL : ρ 0 0 ≤ 5) (hP : ρ 0 1 ≤ 3) (hS : ρ 0 6 ≤ 8) (hi : i < ρ 0 0) (h : MB 101 0 ρ v) : MB 101 0 (up2 ρ 1 i x) (u2 v 101 (i) (nI x)) := by
  refine ⟨fun l hl => ?_, fun l hl => ?_, ?_, ?_, fun p hp => ?_, fun p hp => ?_, fun p hp => ?_, fun p hp => ?_, fun p l hp hl => ?_, ?_, ?_, ?_, fun s hs => ?_⟩
  · have hl : l < ρ 0 0 := hl
    by_cases e : l = i
    · subst e; rw [up2_at]; rw [show 0 + l = l by omega]; exact u2_at _ _ _ _
    · rw [up2_n e]; exact (u2_n (by omega)).trans (h.1 l hl)
  · have hl : l < ρ 0 0 := hl; exact (u2_n (by omega)).trans (h.2.1 l hl)
  · skip; exact (u2_n (by omega)).trans (h.2.2.1 )
  · skip; exact (u2_n (by omega)).trans (h.2.2.2.1 )
  · have hp : p < ρ 0 1 := hp; exact (u2_n (by omega)).trans (h.2.2.2.2.1 p hp)
  · have hp : p < ρ 0 1 := hp; exact (u2_n (by omega)).trans (h.2.2.2.2.2.1 p hp)
  · have hp : p < ρ 0 1 := hp; exact (u2_n (by omega)).trans (h.2.2.2.2.2.2.1 p hp)
  · have hp : p < ρ 0 1 := hp; exact (u2_n (by omega)).trans (h.2.2.2.2.2.2.2.1 p hp)
  · have hp : p < ρ 0 1 := hp; have hl : l < ρ 0 0 := hl; exact (u2_n (by omega)).trans (h.2.2.2.2.2.2.2.2.1 p l hp hl)
  · skip; exact (u2_n (by omega)).trans (h.2.2.2.2.2.2.2.2.2.1 )
  · skip; exact (u2_n (by omega)).trans (h.2.2.2.2.2.2.2.2.2.2.1 )
  · skip; exact (u2_n (by omega)).trans (h.2.2.2.2.2.2.2.2.2.2.2.1 )
  · have hs : s < ρ 0 6 := hs; exact ⟨(u2_n (by omega)).trans (h.2.2.2.2.2.2.2.2.2.2.2.2 s hs).1, (u2_n (by omega)).trans (h.2.2.2.2.2.2.2.2.2.2.2.2 s hs).2.1, (u2_n (by omega)).trans (h.2.2.2.2.2.2.2.2.2.2.2.2 s hs).2.2⟩
theorem MB_carry {ρ : Rho} {v : Nat → Nat → Int32} {i : Nat} {x : Nat} (hL : ρ 0 0 ≤ 5) (hP : ρ 0 1 ≤ 3) (hS : ρ 0 6 ≤ 8) (hi : i < ρ 0 0) (h : MB 101 0 ρ v) : MB 101 0 (up2 ρ 5 i x) (u2 v 101 (5 + i) (cI x)) := by
  refine ⟨fun l hl => ?_, fun l hl => ?_, ?_, ?_, fun p hp => ?_, fun p hp => ?_, fun p hp => ?_, fun p hp => ?_, fun p l hp hl => ?_, ?_, ?_, ?_, fun s hs => ?_⟩
  · have hl : l < ρ 0 0 := hl; exact (u2_n (by omega)).trans (h.1 l hl)
  · have hl : l < ρ 0 0 := hl
    by_cases e : l = i
    · subst e; rw [up2_at, show 0 + 5 + l = 5 + l by omega]; exact u2_at _ _ _ _
    · rw [up2_n e]; exact (u2_n (by omega)).trans (h.2.1 l hl)
  · skip; exact (u2_n (by omega)).trans (h.2.2.1 )
  · skip; exact (u2_n (by omega)).trans (h.2.2.2.1 )
  · have hp : p < ρ 0 1 := hp; exact (u2_n (by omega)).trans (h.2.2.2.2.1 p hp)
  · have hp : p < ρ 0 1 := hp; exact (u2_n (by omega)).trans (h.2.2.2.2.2.1 p hp)
  · have hp : p < ρ 0 1 := hp; exact (u2_n (by omega)).trans (h.2.2.2.2.2.2.1 p hp)
  · have hp : p < ρ 0 1 := hp; exact (u2_n (by omega)).trans (h.2.2.2.2.2.2.2.1 p hp)
  · have hp : p < ρ 0 1 := hp; have hl : l < ρ 0 0 := hl; exact (u2_n (by omega)).trans (h.2.2.2.2.2.2.2.2.1 p l hp hl)
  · skip; exact (u2_n (by omega)).trans (h.2.2.2.2.2.2.2.2.2.1 )
  · skip; exact (u2_n (by omega)).trans (h.2.2.2.2.2.2.2.2.2.2.1 )
  · skip; exact (u2_n (by omega)).trans (h.2.2.2.2.2.2.2.2.2.2.2.1 )
  · have hs : s < ρ 0 6 := hs; exact ⟨(u2_n (by omega)).trans (h.2.2.2.2.2.2.2.2.2.2.2.2 s hs).1, (u2_n (by omega)).trans (h.2.2.2.2.2.2.2.2.2.2.2.2 s hs).2.1, (u2_n (by omega)).trans (h.2.2.2.2.2.2.2.2.2.2.2.2 s hs).2.2⟩
theorem MB_stands {ρ : Rho} {v : Nat → Nat → Int32}  {x : Nat} (hL : ρ 0 0 ≤ 5) (hP : ρ 0 1 ≤ 3) (hS : ρ 0 6 ≤ 8)  (h : MB 101 0 ρ v) : MB 101 0 (up2 ρ 0 4 x) (u2 v 101 (10) (nI x)) := by
  refine ⟨fun l hl => ?_, fun l hl => ?_, ?_, ?_, fun p hp => ?_, fun p hp => ?_, fun p hp => ?_, fun p hp => ?_, fun p l hp hl => ?_, ?_, ?_, ?_, fun s hs => ?_⟩
  · have hl : l < ρ 0 0 := hl; exact (u2_n (by omega)).trans (h.1 l hl)
  · have hl : l < ρ 0 0 := hl; exact (u2_n (by omega)).trans (h.2.1 l hl)
  · exact u2_at _ _ _ _
  · skip; exact (u2_n (by omega)).trans (h.2.2.2.1 )
  · have hp : p < ρ 0 1 := hp; exact (u2_n (by omega)).trans (h.2.2.2.2.1 p hp)
  · have hp : p < ρ 0 1 := hp; exact (u2_n (by omega)).trans (h.2.2.2.2.2.1 p hp)
  · have hp : p < ρ 0 1 := hp; exact (u2_n (by omega)).trans (h.2.2.2.2.2.2.1 p hp)
  · have hp : p < ρ 0 1 := hp; exact (u2_n (by omega)).trans (h.2.2.2.2.2.2.2.1 p hp)
  · have hp : p < ρ 0 1 := hp; have hl : l < ρ 0 0 := hl; exact (u2_n (by omega)).trans (h.2.2.2.2.2.2.2.2.1 p l hp hl)
  · skip; exact (u2_n (by omega)).trans (h.2.2.2.2.2.2.2.2.2.1 )
  · skip; exact (u2_n (by omega)).trans (h.2.2.2.2.2.2.2.2.2.2.1 )
  · skip; exact (u2_n (by omega)).trans (h.2.2.2.2.2.2.2.2.2.2.2.1 )
  · have hs : s < ρ 0 6 := hs; exact ⟨(u2_n (by omega)).trans (h.2.2.2.2.2.2.2.2.2.2.2.2 s hs).1, (u2_n (by omega)).trans (h.2.2.2.2.2.2.2.2.2.2.2.2 s hs).2.1, (u2_n (by omega)).trans (h.2.2.2.2.2.2.2.2.2.2.2.2 s hs).2.2⟩
theorem MB_watched {ρ : Rho} {v : Nat → Nat → Int32}  {x : Nat} (hL : ρ 0 0 ≤ 5) (hP : ρ 0 1 ≤ 3) (hS : ρ 0 6 ≤ 8)  (h : MB 101 0 ρ v) : MB 101 0 (up2 ρ 0 5 x) (u2 v 101 (11) (nI x)) := by
  refine ⟨fun l hl => ?_, fun l hl => ?_, ?_, ?_, fun p hp => ?_, fun p hp => ?_, fun p hp => ?_, fun p hp => ?_, fun p l hp hl => ?_, ?_, ?_, ?_, fun s hs => ?_⟩
  · have hl : l < ρ 0 0 := hl; exact (u2_n (by omega)).trans (h.1 l hl)
  · have hl : l < ρ 0 0 := hl; exact (u2_n (by omega)).trans (h.2.1 l hl)
  · skip; exact (u2_n (by omega)).trans (h.2.2.1 )
  · exact u2_at _ _ _ _
  · have hp : p < ρ 0 1 := hp; exact (u2_n (by omega)).trans (h.2.2.2.2.1 p hp)
  · have hp : p < ρ 0 1 := hp; exact (u2_n (by omega)).trans (h.2.2.2.2.2.1 p hp)
  · have hp : p < ρ 0 1 := hp; exact (u2_n (by omega)).trans (h.2.2.2.2.2.2.1 p hp)
  · have hp : p < ρ 0 1 := hp; exact (u2_n (by omega)).trans (h.2.2.2.2.2.2.2.1 p hp)
  · have hp : p < ρ 0 1 := hp; have hl : l < ρ 0 0 := hl; exact (u2_n (by omega)).trans (h.2.2.2.2.2.2.2.2.1 p l hp hl)
  · skip; exact (u2_n (by omega)).trans (h.2.2.2.2.2.2.2.2.2.1 )
  · skip; exact (u2_n (by omega)).trans (h.2.2.2.2.2.2.2.2.2.2.1 )
  · skip; exact (u2_n (by omega)).trans (h.2.2.2.2.2.2.2.2.2.2.2.1 )
  · have hs : s < ρ 0 6 := hs; exact ⟨(u2_n (by omega)).trans (h.2.2.2.2.2.2.2.2.2.2.2.2 s hs).1, (u2_n (by omega)).trans (h.2.2.2.2.2.2.2.2.2.2.2.2 s hs).2.1, (u2_n (by omega)).trans (h.2.2.2.2.2.2.2.2.2.2.2.2 s hs).2.2⟩
theorem MB_time {ρ : Rho} {v : Nat → Nat → Int32} {i : Nat} {x : Nat} (hL : ρ 0 0 ≤ 5) (hP : ρ 0 1 ≤ 3) (hS : ρ 0 6 ≤ 8) (hi : i < ρ 0 1) (h : MB 101 0 ρ v) : MB 101 0 (up2 ρ 6 i x) (u2 v 101 (12 + i) (nI x)) := by
  refine ⟨fun l hl => ?_, fun l hl => ?_, ?_, ?_, fun p hp => ?_, fun p hp => ?_, fun p hp => ?_, fun p hp => ?_, fun p l hp hl => ?_, ?_, ?_, ?_, fun s hs => ?_⟩
  · have hl : l < ρ 0 0 := hl; exact (u2_n (by omega)).trans (h.1 l hl)
  · have hl : l < ρ 0 0 := hl; exact (u2_n (by omega)).trans (h.2.1 l hl)
  · skip; exact (u2_n (by omega)).trans (h.2.2.1 )
  · skip; exact (u2_n (by omega)).trans (h.2.2.2.1 )
  · have hp : p < ρ 0 1 := hp
    by_cases e : p = i
    · subst e; rw [up2_at, show 0 + 12 + p = 12 + p by omega]; exact u2_at _ _ _ _
    · rw [up2_n e]; exact (u2_n (by omega)).trans (h.2.2.2.2.1 p hp)
  · have hp : p < ρ 0 1 := hp; exact (u2_n (by omega)).trans (h.2.2.2.2.2.1 p hp)
  · have hp : p < ρ 0 1 := hp; exact (u2_n (by omega)).trans (h.2.2.2.2.2.2.1 p hp)
  · have hp : p < ρ 0 1 := hp; exact (u2_n (by omega)).trans (h.2.2.2.2.2.2.2.1 p hp)
  · have hp : p < ρ 0 1 := hp; have hl : l < ρ 0 0 := hl; exact (u2_n (by omega)).trans (h.2.2.2.2.2.2.2.2.1 p l hp hl)
  · skip; exact (u2_n (by omega)).trans (h.2.2.2.2.2.2.2.2.2.1 )
  · skip; exact (u2_n (by omega)).trans (h.2.2.2.2.2.2.2.2.2.2.1 )
  · skip; exact (u2_n (by omega)).trans (h.2.2.2.2.2.2.2.2.2.2.2.1 )
  · have hs : s < ρ 0 6 := hs; exact ⟨(u2_n (by omega)).trans (h.2.2.2.2.2.2.2.2.2.2.2.2 s hs).1, (u2_n (by omega)).trans (h.2.2.2.2.2.2.2.2.2.2.2.2 s hs).2.1, (u2_n (by omega)).trans (h.2.2.2.2.2.2.2.2.2.2.2.2 s hs).2.2⟩
theorem MB_purse {ρ : Rho} {v : Nat → Nat → Int32} {i : Nat} {x : Nat} (hL : ρ 0 0 ≤ 5) (hP : ρ 0 1 ≤ 3) (hS : ρ 0 6 ≤ 8) (hi : i < ρ 0 1) (h : MB 101 0 ρ v) : MB 101 0 (up2 ρ 9 i x) (u2 v 101 (15 + i) (nI x)) := by
  refine ⟨fun l hl => ?_, fun l hl => ?_, ?_, ?_, fun p hp => ?_, fun p hp => ?_, fun p hp => ?_, fun p hp => ?_, fun p l hp hl => ?_, ?_, ?_, ?_, fun s hs => ?_⟩
  · have hl : l < ρ 0 0 := hl; exact (u2_n (by omega)).trans (h.1 l hl)
  · have hl : l < ρ 0 0 := hl; exact (u2_n (by omega)).trans (h.2.1 l hl)
  · skip; exact (u2_n (by omega)).trans (h.2.2.1 )
  · skip; exact (u2_n (by omega)).trans (h.2.2.2.1 )
  · have hp : p < ρ 0 1 := hp; exact (u2_n (by omega)).trans (h.2.2.2.2.1 p hp)
  · have hp : p < ρ 0 1 := hp
    by_cases e : p = i
    · subst e; rw [up2_at, show 0 + 15 + p = 15 + p by omega]; exact u2_at _ _ _ _
    · rw [up2_n e]; exact (u2_n (by omega)).trans (h.2.2.2.2.2.1 p hp)
  · have hp : p < ρ 0 1 := hp; exact (u2_n (by omega)).trans (h.2.2.2.2.2.2.1 p hp)
  · have hp : p < ρ 0 1 := hp; exact (u2_n (by omega)).trans (h.2.2.2.2.2.2.2.1 p hp)
  · have hp : p < ρ 0 1 := hp; have hl : l < ρ 0 0 := hl; exact (u2_n (by omega)).trans (h.2.2.2.2.2.2.2.2.1 p l hp hl)
  · skip; exact (u2_n (by omega)).trans (h.2.2.2.2.2.2.2.2.2.1 )
  · skip; exact (u2_n (by omega)).trans (h.2.2.2.2.2.2.2.2.2.2.1 )
  · skip; exact (u2_n (by omega)).trans (h.2.2.2.2.2.2.2.2.2.2.2.1 )
  · have hs : s < ρ 0 6 := hs; exact ⟨(u2_n (by omega)).trans (h.2.2.2.2.2.2.2.2.2.2.2.2 s hs).1, (u2_n (by omega)).trans (h.2.2.2.2.2.2.2.2.2.2.2.2 s hs).2.1, (u2_n (by omega)).trans (h.2.2.2.2.2.2.2.2.2.2.2.2 s hs).2.2⟩
theorem MB_refuses {ρ : Rho} {v : Nat → Nat → Int32} {i : Nat} {x : Nat} (hL : ρ 0 0 ≤ 5) (hP : ρ 0 1 ≤ 3) (hS : ρ 0 6 ≤ 8) (hi : i < ρ 0 1) (h : MB 101 0 ρ v) : MB 101 0 (up2 ρ 10 i x) (u2 v 101 (18 + i) (nI x)) := by
  refine ⟨fun l hl => ?_, fun l hl => ?_, ?_, ?_, fun p hp => ?_, fun p hp => ?_, fun p hp => ?_, fun p hp => ?_, fun p l hp hl => ?_, ?_, ?_, ?_, fun s hs => ?_⟩
  · have hl : l < ρ 0 0 := hl; exact (u2_n (by omega)).trans (h.1 l hl)
  · have hl : l < ρ 0 0 := hl; exact (u2_n (by omega)).trans (h.2.1 l hl)
  · skip; exact (u2_n (by omega)).trans (h.2.2.1 )
  · skip; exact (u2_n (by omega)).trans (h.2.2.2.1 )
  · have hp : p < ρ 0 1 := hp; exact (u2_n (by omega)).trans (h.2.2.2.2.1 p hp)
  · have hp : p < ρ 0 1 := hp; exact (u2_n (by omega)).trans (h.2.2.2.2.2.1 p hp)
  · have hp : p < ρ 0 1 := hp
    by_cases e : p = i
    · subst e; rw [up2_at, show 0 + 18 + p = 18 + p by omega]; exact u2_at _ _ _ _
    · rw [up2_n e]; exact (u2_n (by omega)).trans (h.2.2.2.2.2.2.1 p hp)
  · have hp : p < ρ 0 1 := hp; exact (u2_n (by omega)).trans (h.2.2.2.2.2.2.2.1 p hp)
  · have hp : p < ρ 0 1 := hp; have hl : l < ρ 0 0 := hl; exact (u2_n (by omega)).trans (h.2.2.2.2.2.2.2.2.1 p l hp hl)
  · skip; exact (u2_n (by omega)).trans (h.2.2.2.2.2.2.2.2.2.1 )
  · skip; exact (u2_n (by omega)).trans (h.2.2.2.2.2.2.2.2.2.2.1 )
  · skip; exact (u2_n (by omega)).trans (h.2.2.2.2.2.2.2.2.2.2.2.1 )
  · have hs : s < ρ 0 6 := hs; exact ⟨(u2_n (by omega)).trans (h.2.2.2.2.2.2.2.2.2.2.2.2 s hs).1, (u2_n (by omega)).trans (h.2.2.2.2.2.2.2.2.2.2.2.2 s hs).2.1, (u2_n (by omega)).trans (h.2.2.2.2.2.2.2.2.2.2.2.2 s hs).2.2⟩
theorem MB_wants {ρ : Rho} {v : Nat → Nat → Int32} {i : Nat} {x : Nat} (hL : ρ 0 0 ≤ 5) (hP : ρ 0 1 ≤ 3) (hS : ρ 0 6 ≤ 8) (hi : i < ρ 0 1) (h : MB 101 0 ρ v) : MB 101 0 (up2 ρ 11 i x) (u2 v 101 (21 + i) (nI x)) := by
  refine ⟨fun l hl => ?_, fun l hl => ?_, ?_, ?_, fun p hp => ?_, fun p hp => ?_, fun p hp => ?_, fun p hp => ?_, fun p l hp hl => ?_, ?_, ?_, ?_, fun s hs => ?_⟩
  · have hl : l < ρ 0 0 := hl; exact (u2_n (by omega)).trans (h.1 l hl)
  · have hl : l < ρ 0 0 := hl; exact (u2_n (by omega)).trans (h.2.1 l hl)
  · skip; exact (u2_n (by omega)).trans (h.2.2.1 )
  · skip; exact (u2_n (by omega)).trans (h.2.2.2.1 )
  · have hp : p < ρ 0 1 := hp; exact (u2_n (by omega)).trans (h.2.2.2.2.1 p hp)
  · have hp : p < ρ 0 1 := hp; exact (u2_n (by omega)).trans (h.2.2.2.2.2.1 p hp)
  · have hp : p < ρ 0 1 := hp; exact (u2_n (by omega)).trans (h.2.2.2.2.2.2.1 p hp)
  · have hp : p < ρ 0 1 := hp
    by_cases e : p = i
    · subst e; rw [up2_at, show 0 + 21 + p = 21 + p by omega]; exact u2_at _ _ _ _
    · rw [up2_n e]; exact (u2_n (by omega)).trans (h.2.2.2.2.2.2.2.1 p hp)
  · have hp : p < ρ 0 1 := hp; have hl : l < ρ 0 0 := hl; exact (u2_n (by omega)).trans (h.2.2.2.2.2.2.2.2.1 p l hp hl)
  · skip; exact (u2_n (by omega)).trans (h.2.2.2.2.2.2.2.2.2.1 )
  · skip; exact (u2_n (by omega)).trans (h.2.2.2.2.2.2.2.2.2.2.1 )
  · skip; exact (u2_n (by omega)).trans (h.2.2.2.2.2.2.2.2.2.2.2.1 )
  · have hs : s < ρ 0 6 := hs; exact ⟨(u2_n (by omega)).trans (h.2.2.2.2.2.2.2.2.2.2.2.2 s hs).1, (u2_n (by omega)).trans (h.2.2.2.2.2.2.2.2.2.2.2.2 s hs).2.1, (u2_n (by omega)).trans (h.2.2.2.2.2.2.2.2.2.2.2.2 s hs).2.2⟩
theorem MB_broke {ρ : Rho} {v : Nat → Nat → Int32} {i j : Nat} {x : Nat} (hL : ρ 0 0 ≤ 5) (hP : ρ 0 1 ≤ 3) (hS : ρ 0 6 ≤ 8) (hi : i < ρ 0 1) (hj : j < ρ 0 0) (h : MB 101 0 ρ v) : MB 101 0 (up2 ρ 12 (5 * i + j) x) (u2 v 101 (24 + 5 * i + j) (nI x)) := by
  refine ⟨fun l hl => ?_, fun l hl => ?_, ?_, ?_, fun p hp => ?_, fun p hp => ?_, fun p hp => ?_, fun p hp => ?_, fun p l hp hl => ?_, ?_, ?_, ?_, fun s hs => ?_⟩
  · have hl : l < ρ 0 0 := hl; exact (u2_n (by omega)).trans (h.1 l hl)
  · have hl : l < ρ 0 0 := hl; exact (u2_n (by omega)).trans (h.2.1 l hl)
  · skip; exact (u2_n (by omega)).trans (h.2.2.1 )
  · skip; exact (u2_n (by omega)).trans (h.2.2.2.1 )
  · have hp : p < ρ 0 1 := hp; exact (u2_n (by omega)).trans (h.2.2.2.2.1 p hp)
  · have hp : p < ρ 0 1 := hp; exact (u2_n (by omega)).trans (h.2.2.2.2.2.1 p hp)
  · have hp : p < ρ 0 1 := hp; exact (u2_n (by omega)).trans (h.2.2.2.2.2.2.1 p hp)
  · have hp : p < ρ 0 1 := hp; exact (u2_n (by omega)).trans (h.2.2.2.2.2.2.2.1 p hp)
  · have hp : p < ρ 0 1 := hp; have hl : l < ρ 0 0 := hl
    by_cases e : p = i ∧ l = j
    · obtain ⟨rfl, rfl⟩ := e; rw [up2_at, show 0 + 24 + 5 * p + l = 24 + 5 * p + l by omega]; exact u2_at _ _ _ _
    · rw [up2_n (by omega)]; exact (u2_n (by omega)).trans (h.2.2.2.2.2.2.2.2.1 p l hp hl)
  · skip; exact (u2_n (by omega)).trans (h.2.2.2.2.2.2.2.2.2.1 )
  · skip; exact (u2_n (by omega)).trans (h.2.2.2.2.2.2.2.2.2.2.1 )
  · skip; exact (u2_n (by omega)).trans (h.2.2.2.2.2.2.2.2.2.2.2.1 )
  · have hs : s < ρ 0 6 := hs; exact ⟨(u2_n (by omega)).trans (h.2.2.2.2.2.2.2.2.2.2.2.2 s hs).1, (u2_n (by omega)).trans (h.2.2.2.2.2.2.2.2.2.2.2.2 s hs).2.1, (u2_n (by omega)).trans (h.2.2.2.2.2.2.2.2.2.2.2.2 s hs).2.2⟩
theorem MB_year {ρ : Rho} {v : Nat → Nat → Int32}  {x : Nat} (hL : ρ 0 0 ≤ 5) (hP : ρ 0 1 ≤ 3) (hS : ρ 0 6 ≤ 8)  (h : MB 101 0 ρ v) : MB 101 0 (up2 ρ 0 2 x) (u2 v 101 (39) (nI x)) := by
  refine ⟨fun l hl => ?_, fun l hl => ?_, ?_, ?_, fun p hp => ?_, fun p hp => ?_, fun p hp => ?_, fun p hp => ?_, fun p l hp hl => ?_, ?_, ?_, ?_, fun s hs => ?_⟩
  · have hl : l < ρ 0 0 := hl; exact (u2_n (by omega)).trans (h.1 l hl)
  · have hl : l < ρ 0 0 := hl; exact (u2_n (by omega)).trans (h.2.1 l hl)
  · skip; exact (u2_n (by omega)).trans (h.2.2.1 )
  · skip; exact (u2_n (by omega)).trans (h.2.2.2.1 )
  · have hp : p < ρ 0 1 := hp; exact (u2_n (by omega)).trans (h.2.2.2.2.1 p hp)
  · have hp : p < ρ 0 1 := hp; exact (u2_n (by omega)).trans (h.2.2.2.2.2.1 p hp)
  · have hp : p < ρ 0 1 := hp; exact (u2_n (by omega)).trans (h.2.2.2.2.2.2.1 p hp)
  · have hp : p < ρ 0 1 := hp; exact (u2_n (by omega)).trans (h.2.2.2.2.2.2.2.1 p hp)
  · have hp : p < ρ 0 1 := hp; have hl : l < ρ 0 0 := hl; exact (u2_n (by omega)).trans (h.2.2.2.2.2.2.2.2.1 p l hp hl)
  · exact u2_at _ _ _ _
  · skip; exact (u2_n (by omega)).trans (h.2.2.2.2.2.2.2.2.2.2.1 )
  · skip; exact (u2_n (by omega)).trans (h.2.2.2.2.2.2.2.2.2.2.2.1 )
  · have hs : s < ρ 0 6 := hs; exact ⟨(u2_n (by omega)).trans (h.2.2.2.2.2.2.2.2.2.2.2.2 s hs).1, (u2_n (by omega)).trans (h.2.2.2.2.2.2.2.2.2.2.2.2 s hs).2.1, (u2_n (by omega)).trans (h.2.2.2.2.2.2.2.2.2.2.2.2 s hs).2.2⟩
theorem MB_done {ρ : Rho} {v : Nat → Nat → Int32}  {x : Nat} (hL : ρ 0 0 ≤ 5) (hP : ρ 0 1 ≤ 3) (hS : ρ 0 6 ≤ 8)  (h : MB 101 0 ρ v) : MB 101 0 (up2 ρ 0 3 x) (u2 v 101 (40) (nI x)) := by
  refine ⟨fun l hl => ?_, fun l hl => ?_, ?_, ?_, fun p hp => ?_, fun p hp => ?_, fun p hp => ?_, fun p hp => ?_, fun p l hp hl => ?_, ?_, ?_, ?_, fun s hs => ?_⟩
  · have hl : l < ρ 0 0 := hl; exact (u2_n (by omega)).trans (h.1 l hl)
  · have hl : l < ρ 0 0 := hl; exact (u2_n (by omega)).trans (h.2.1 l hl)
  · skip; exact (u2_n (by omega)).trans (h.2.2.1 )
  · skip; exact (u2_n (by omega)).trans (h.2.2.2.1 )
  · have hp : p < ρ 0 1 := hp; exact (u2_n (by omega)).trans (h.2.2.2.2.1 p hp)
  · have hp : p < ρ 0 1 := hp; exact (u2_n (by omega)).trans (h.2.2.2.2.2.1 p hp)
  · have hp : p < ρ 0 1 := hp; exact (u2_n (by omega)).trans (h.2.2.2.2.2.2.1 p hp)
  · have hp : p < ρ 0 1 := hp; exact (u2_n (by omega)).trans (h.2.2.2.2.2.2.2.1 p hp)
  · have hp : p < ρ 0 1 := hp; have hl : l < ρ 0 0 := hl; exact (u2_n (by omega)).trans (h.2.2.2.2.2.2.2.2.1 p l hp hl)
  · skip; exact (u2_n (by omega)).trans (h.2.2.2.2.2.2.2.2.2.1 )
  · exact u2_at _ _ _ _
  · skip; exact (u2_n (by omega)).trans (h.2.2.2.2.2.2.2.2.2.2.2.1 )
  · have hs : s < ρ 0 6 := hs; exact ⟨(u2_n (by omega)).trans (h.2.2.2.2.2.2.2.2.2.2.2.2 s hs).1, (u2_n (by omega)).trans (h.2.2.2.2.2.2.2.2.2.2.2.2 s hs).2.1, (u2_n (by omega)).trans (h.2.2.2.2.2.2.2.2.2.2.2.2 s hs).2.2⟩
theorem MF_u {ρ ρ' : Rho} {v : Nat → Nat → Int32} {k : Nat} {x : Int32} (h : MF ρ v) (h0 : ρ' 0 0 = ρ 0 0) (h1 : ρ' 0 1 = ρ 0 1) (h2 : ρ' 2 = ρ 2) (h3 : ρ' 3 = ρ 3) (h4 : ρ' 4 = ρ 4) (h7 : ρ' 7 = ρ 7) (h8 : ρ' 8 = ρ 8) : MF ρ' (u2 v 101 k x) := by
  obtain ⟨a, b, c, d⟩ := h
  unfold MF
  rw [h0, h1, h2, h3, h4, h7, h8, u2_o (show 100 ≠ 101 by decide), u2_o (show 103 ≠ 101 by decide), u2_o (show 104 ≠ 101 by decide), u2_o (show 105 ≠ 101 by decide), u2_o (show 106 ≠ 101 by decide), u2_o (show 107 ≠ 101 by decide)]
  exact ⟨a, b, c, d⟩
