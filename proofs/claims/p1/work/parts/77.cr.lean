/-! writes into the class's realm: printed by wip/gen/gen_cr.py -/
theorem CR_quota {o : Nat} {ρ : Rho} {v : Nat → Nat → Int32} {i : Nat} {x : Nat} (hi : i < ρ 0 0) (h : CR o ρ v) (hL : ρ 0 0 ≤ 5) : CR o (up2 ρ 1 i x) (u2 v (o + 1) i (nI x)) := by
  refine ⟨⟨(congrFun (u2_o (by omega)) 0).trans h.1.1, (congrFun (u2_o (by omega)) 1).trans h.1.2.1, (congrFun (u2_o (by omega)) 2).trans h.1.2.2.1, (congrFun (u2_o (by omega)) 3).trans h.1.2.2.2.1, (congrFun (u2_o (by omega)) 4).trans h.1.2.2.2.2.1, (congrFun (u2_o (by omega)) 5).trans h.1.2.2.2.2.2.1, (congrFun (u2_o (by omega)) 0).trans h.1.2.2.2.2.2.2⟩, fun l hl => ?_, fun p hp => ?_, fun p l hp hl => ?_, fun s hs => ?_⟩
  · have hl : l < ρ 0 0 := hl
    refine ⟨?_, (congrFun (u2_o (by omega)) l).trans (h.2.1 l hl).2.1, (congrFun (u2_o (by omega)) l).trans (h.2.1 l hl).2.2.1, (congrFun (u2_o (by omega)) l).trans (h.2.1 l hl).2.2.2.1, (congrFun (u2_o (by omega)) l).trans (h.2.1 l hl).2.2.2.2⟩
    by_cases e : l = i
    · subst e; rw [up2_at]; exact u2_at _ _ _ _
    · rw [up2_n e]; exact (u2_n e).trans (h.2.1 l hl).1
  · have hp : p < ρ 0 1 := hp
    refine ⟨(congrFun (u2_o (by omega)) p).trans (h.2.2.1 p hp).1, (congrFun (u2_o (by omega)) p).trans (h.2.2.1 p hp).2.1, (congrFun (u2_o (by omega)) p).trans (h.2.2.1 p hp).2.2.1, (congrFun (u2_o (by omega)) p).trans (h.2.2.1 p hp).2.2.2.1, (congrFun (u2_o (by omega)) p).trans (h.2.2.1 p hp).2.2.2.2.1, (congrFun (u2_o (by omega)) p).trans (h.2.2.1 p hp).2.2.2.2.2⟩
  · have hp : p < ρ 0 1 := hp; have hl : l < ρ 0 0 := hl
    exact (congrFun (u2_o (by omega)) _).trans (h.2.2.2.1 p l hp hl)
  · have hs : s < ρ 0 6 := hs
    exact ⟨(congrFun (u2_o (by omega)) s).trans (h.2.2.2.2 s hs).1, (congrFun (u2_o (by omega)) s).trans (h.2.2.2.2 s hs).2.1, (congrFun (u2_o (by omega)) s).trans (h.2.2.2.2 s hs).2.2⟩
theorem CR_carry {o : Nat} {ρ : Rho} {v : Nat → Nat → Int32} {i : Nat} {x : Nat} (hi : i < ρ 0 0) (h : CR o ρ v) (hL : ρ 0 0 ≤ 5) : CR o (up2 ρ 5 i x) (u2 v (o + 5) i (cI x)) := by
  refine ⟨⟨(congrFun (u2_o (by omega)) 0).trans h.1.1, (congrFun (u2_o (by omega)) 1).trans h.1.2.1, (congrFun (u2_o (by omega)) 2).trans h.1.2.2.1, (congrFun (u2_o (by omega)) 3).trans h.1.2.2.2.1, (congrFun (u2_o (by omega)) 4).trans h.1.2.2.2.2.1, (congrFun (u2_o (by omega)) 5).trans h.1.2.2.2.2.2.1, (congrFun (u2_o (by omega)) 0).trans h.1.2.2.2.2.2.2⟩, fun l hl => ?_, fun p hp => ?_, fun p l hp hl => ?_, fun s hs => ?_⟩
  · have hl : l < ρ 0 0 := hl
    refine ⟨(congrFun (u2_o (by omega)) l).trans (h.2.1 l hl).1, (congrFun (u2_o (by omega)) l).trans (h.2.1 l hl).2.1, (congrFun (u2_o (by omega)) l).trans (h.2.1 l hl).2.2.1, (congrFun (u2_o (by omega)) l).trans (h.2.1 l hl).2.2.2.1, ?_⟩
    by_cases e : l = i
    · subst e; rw [up2_at]; exact u2_at _ _ _ _
    · rw [up2_n e]; exact (u2_n e).trans (h.2.1 l hl).2.2.2.2
  · have hp : p < ρ 0 1 := hp
    refine ⟨(congrFun (u2_o (by omega)) p).trans (h.2.2.1 p hp).1, (congrFun (u2_o (by omega)) p).trans (h.2.2.1 p hp).2.1, (congrFun (u2_o (by omega)) p).trans (h.2.2.1 p hp).2.2.1, (congrFun (u2_o (by omega)) p).trans (h.2.2.1 p hp).2.2.2.1, (congrFun (u2_o (by omega)) p).trans (h.2.2.1 p hp).2.2.2.2.1, (congrFun (u2_o (by omega)) p).trans (h.2.2.1 p hp).2.2.2.2.2⟩
  · have hp : p < ρ 0 1 := hp; have hl : l < ρ 0 0 := hl
    exact (congrFun (u2_o (by omega)) _).trans (h.2.2.2.1 p l hp hl)
  · have hs : s < ρ 0 6 := hs
    exact ⟨(congrFun (u2_o (by omega)) s).trans (h.2.2.2.2 s hs).1, (congrFun (u2_o (by omega)) s).trans (h.2.2.2.2 s hs).2.1, (congrFun (u2_o (by omega)) s).trans (h.2.2.2.2 s hs).2.2⟩
theorem CR_time {o : Nat} {ρ : Rho} {v : Nat → Nat → Int32} {i : Nat} {x : Nat} (hi : i < ρ 0 1) (h : CR o ρ v) (hL : ρ 0 0 ≤ 5) : CR o (up2 ρ 6 i x) (u2 v (o + 6) i (nI x)) := by
  refine ⟨⟨(congrFun (u2_o (by omega)) 0).trans h.1.1, (congrFun (u2_o (by omega)) 1).trans h.1.2.1, (congrFun (u2_o (by omega)) 2).trans h.1.2.2.1, (congrFun (u2_o (by omega)) 3).trans h.1.2.2.2.1, (congrFun (u2_o (by omega)) 4).trans h.1.2.2.2.2.1, (congrFun (u2_o (by omega)) 5).trans h.1.2.2.2.2.2.1, (congrFun (u2_o (by omega)) 0).trans h.1.2.2.2.2.2.2⟩, fun l hl => ?_, fun p hp => ?_, fun p l hp hl => ?_, fun s hs => ?_⟩
  · have hl : l < ρ 0 0 := hl
    refine ⟨(congrFun (u2_o (by omega)) l).trans (h.2.1 l hl).1, (congrFun (u2_o (by omega)) l).trans (h.2.1 l hl).2.1, (congrFun (u2_o (by omega)) l).trans (h.2.1 l hl).2.2.1, (congrFun (u2_o (by omega)) l).trans (h.2.1 l hl).2.2.2.1, (congrFun (u2_o (by omega)) l).trans (h.2.1 l hl).2.2.2.2⟩
  · have hp : p < ρ 0 1 := hp
    refine ⟨?_, (congrFun (u2_o (by omega)) p).trans (h.2.2.1 p hp).2.1, (congrFun (u2_o (by omega)) p).trans (h.2.2.1 p hp).2.2.1, (congrFun (u2_o (by omega)) p).trans (h.2.2.1 p hp).2.2.2.1, (congrFun (u2_o (by omega)) p).trans (h.2.2.1 p hp).2.2.2.2.1, (congrFun (u2_o (by omega)) p).trans (h.2.2.1 p hp).2.2.2.2.2⟩
    by_cases e : p = i
    · subst e; rw [up2_at]; exact u2_at _ _ _ _
    · rw [up2_n e]; exact (u2_n e).trans (h.2.2.1 p hp).1
  · have hp : p < ρ 0 1 := hp; have hl : l < ρ 0 0 := hl
    exact (congrFun (u2_o (by omega)) _).trans (h.2.2.2.1 p l hp hl)
  · have hs : s < ρ 0 6 := hs
    exact ⟨(congrFun (u2_o (by omega)) s).trans (h.2.2.2.2 s hs).1, (congrFun (u2_o (by omega)) s).trans (h.2.2.2.2 s hs).2.1, (congrFun (u2_o (by omega)) s).trans (h.2.2.2.2 s hs).2.2⟩
theorem CR_purse {o : Nat} {ρ : Rho} {v : Nat → Nat → Int32} {i : Nat} {x : Nat} (hi : i < ρ 0 1) (h : CR o ρ v) (hL : ρ 0 0 ≤ 5) : CR o (up2 ρ 9 i x) (u2 v (o + 9) i (nI x)) := by
  refine ⟨⟨(congrFun (u2_o (by omega)) 0).trans h.1.1, (congrFun (u2_o (by omega)) 1).trans h.1.2.1, (congrFun (u2_o (by omega)) 2).trans h.1.2.2.1, (congrFun (u2_o (by omega)) 3).trans h.1.2.2.2.1, (congrFun (u2_o (by omega)) 4).trans h.1.2.2.2.2.1, (congrFun (u2_o (by omega)) 5).trans h.1.2.2.2.2.2.1, (congrFun (u2_o (by omega)) 0).trans h.1.2.2.2.2.2.2⟩, fun l hl => ?_, fun p hp => ?_, fun p l hp hl => ?_, fun s hs => ?_⟩
  · have hl : l < ρ 0 0 := hl
    refine ⟨(congrFun (u2_o (by omega)) l).trans (h.2.1 l hl).1, (congrFun (u2_o (by omega)) l).trans (h.2.1 l hl).2.1, (congrFun (u2_o (by omega)) l).trans (h.2.1 l hl).2.2.1, (congrFun (u2_o (by omega)) l).trans (h.2.1 l hl).2.2.2.1, (congrFun (u2_o (by omega)) l).trans (h.2.1 l hl).2.2.2.2⟩
  · have hp : p < ρ 0 1 := hp
    refine ⟨(congrFun (u2_o (by omega)) p).trans (h.2.2.1 p hp).1, (congrFun (u2_o (by omega)) p).trans (h.2.2.1 p hp).2.1, (congrFun (u2_o (by omega)) p).trans (h.2.2.1 p hp).2.2.1, ?_, (congrFun (u2_o (by omega)) p).trans (h.2.2.1 p hp).2.2.2.2.1, (congrFun (u2_o (by omega)) p).trans (h.2.2.1 p hp).2.2.2.2.2⟩
    by_cases e : p = i
    · subst e; rw [up2_at]; exact u2_at _ _ _ _
    · rw [up2_n e]; exact (u2_n e).trans (h.2.2.1 p hp).2.2.2.1
  · have hp : p < ρ 0 1 := hp; have hl : l < ρ 0 0 := hl
    exact (congrFun (u2_o (by omega)) _).trans (h.2.2.2.1 p l hp hl)
  · have hs : s < ρ 0 6 := hs
    exact ⟨(congrFun (u2_o (by omega)) s).trans (h.2.2.2.2 s hs).1, (congrFun (u2_o (by omega)) s).trans (h.2.2.2.2 s hs).2.1, (congrFun (u2_o (by omega)) s).trans (h.2.2.2.2 s hs).2.2⟩
theorem CR_refuses {o : Nat} {ρ : Rho} {v : Nat → Nat → Int32} {i : Nat} {x : Nat} (hi : i < ρ 0 1) (h : CR o ρ v) (hL : ρ 0 0 ≤ 5) : CR o (up2 ρ 10 i x) (u2 v (o + 10) i (nI x)) := by
  refine ⟨⟨(congrFun (u2_o (by omega)) 0).trans h.1.1, (congrFun (u2_o (by omega)) 1).trans h.1.2.1, (congrFun (u2_o (by omega)) 2).trans h.1.2.2.1, (congrFun (u2_o (by omega)) 3).trans h.1.2.2.2.1, (congrFun (u2_o (by omega)) 4).trans h.1.2.2.2.2.1, (congrFun (u2_o (by omega)) 5).trans h.1.2.2.2.2.2.1, (congrFun (u2_o (by omega)) 0).trans h.1.2.2.2.2.2.2⟩, fun l hl => ?_, fun p hp => ?_, fun p l hp hl => ?_, fun s hs => ?_⟩
  · have hl : l < ρ 0 0 := hl
    refine ⟨(congrFun (u2_o (by omega)) l).trans (h.2.1 l hl).1, (congrFun (u2_o (by omega)) l).trans (h.2.1 l hl).2.1, (congrFun (u2_o (by omega)) l).trans (h.2.1 l hl).2.2.1, (congrFun (u2_o (by omega)) l).trans (h.2.1 l hl).2.2.2.1, (congrFun (u2_o (by omega)) l).trans (h.2.1 l hl).2.2.2.2⟩
  · have hp : p < ρ 0 1 := hp
    refine ⟨(congrFun (u2_o (by omega)) p).trans (h.2.2.1 p hp).1, (congrFun (u2_o (by omega)) p).trans (h.2.2.1 p hp).2.1, (congrFun (u2_o (by omega)) p).trans (h.2.2.1 p hp).2.2.1, (congrFun (u2_o (by omega)) p).trans (h.2.2.1 p hp).2.2.2.1, ?_, (congrFun (u2_o (by omega)) p).trans (h.2.2.1 p hp).2.2.2.2.2⟩
    by_cases e : p = i
    · subst e; rw [up2_at]; exact u2_at _ _ _ _
    · rw [up2_n e]; exact (u2_n e).trans (h.2.2.1 p hp).2.2.2.2.1
  · have hp : p < ρ 0 1 := hp; have hl : l < ρ 0 0 := hl
    exact (congrFun (u2_o (by omega)) _).trans (h.2.2.2.1 p l hp hl)
  · have hs : s < ρ 0 6 := hs
    exact ⟨(congrFun (u2_o (by omega)) s).trans (h.2.2.2.2 s hs).1, (congrFun (u2_o (by omega)) s).trans (h.2.2.2.2 s hs).2.1, (congrFun (u2_o (by omega)) s).trans (h.2.2.2.2 s hs).2.2⟩
theorem CR_wants {o : Nat} {ρ : Rho} {v : Nat → Nat → Int32} {i : Nat} {x : Nat} (hi : i < ρ 0 1) (h : CR o ρ v) (hL : ρ 0 0 ≤ 5) : CR o (up2 ρ 11 i x) (u2 v (o + 11) i (nI x)) := by
  refine ⟨⟨(congrFun (u2_o (by omega)) 0).trans h.1.1, (congrFun (u2_o (by omega)) 1).trans h.1.2.1, (congrFun (u2_o (by omega)) 2).trans h.1.2.2.1, (congrFun (u2_o (by omega)) 3).trans h.1.2.2.2.1, (congrFun (u2_o (by omega)) 4).trans h.1.2.2.2.2.1, (congrFun (u2_o (by omega)) 5).trans h.1.2.2.2.2.2.1, (congrFun (u2_o (by omega)) 0).trans h.1.2.2.2.2.2.2⟩, fun l hl => ?_, fun p hp => ?_, fun p l hp hl => ?_, fun s hs => ?_⟩
  · have hl : l < ρ 0 0 := hl
    refine ⟨(congrFun (u2_o (by omega)) l).trans (h.2.1 l hl).1, (congrFun (u2_o (by omega)) l).trans (h.2.1 l hl).2.1, (congrFun (u2_o (by omega)) l).trans (h.2.1 l hl).2.2.1, (congrFun (u2_o (by omega)) l).trans (h.2.1 l hl).2.2.2.1, (congrFun (u2_o (by omega)) l).trans (h.2.1 l hl).2.2.2.2⟩
  · have hp : p < ρ 0 1 := hp
    refine ⟨(congrFun (u2_o (by omega)) p).trans (h.2.2.1 p hp).1, (congrFun (u2_o (by omega)) p).trans (h.2.2.1 p hp).2.1, (congrFun (u2_o (by omega)) p).trans (h.2.2.1 p hp).2.2.1, (congrFun (u2_o (by omega)) p).trans (h.2.2.1 p hp).2.2.2.1, (congrFun (u2_o (by omega)) p).trans (h.2.2.1 p hp).2.2.2.2.1, ?_⟩
    by_cases e : p = i
    · subst e; rw [up2_at]; exact u2_at _ _ _ _
    · rw [up2_n e]; exact (u2_n e).trans (h.2.2.1 p hp).2.2.2.2.2
  · have hp : p < ρ 0 1 := hp; have hl : l < ρ 0 0 := hl
    exact (congrFun (u2_o (by omega)) _).trans (h.2.2.2.1 p l hp hl)
  · have hs : s < ρ 0 6 := hs
    exact ⟨(congrFun (u2_o (by omega)) s).trans (h.2.2.2.2 s hs).1, (congrFun (u2_o (by omega)) s).trans (h.2.2.2.2 s hs).2.1, (congrFun (u2_o (by omega)) s).trans (h.2.2.2.2 s hs).2.2⟩
theorem CR_broke {o : Nat} {ρ : Rho} {v : Nat → Nat → Int32} {i j : Nat} {x : Nat} (hi : i < ρ 0 1) (hj : j < ρ 0 0) (h : CR o ρ v) (hL : ρ 0 0 ≤ 5) : CR o (up2 ρ 12 (5 * i + j) x) (u2 v (o + 12) (5 * i + j) (nI x)) := by
  refine ⟨⟨(congrFun (u2_o (by omega)) 0).trans h.1.1, (congrFun (u2_o (by omega)) 1).trans h.1.2.1, (congrFun (u2_o (by omega)) 2).trans h.1.2.2.1, (congrFun (u2_o (by omega)) 3).trans h.1.2.2.2.1, (congrFun (u2_o (by omega)) 4).trans h.1.2.2.2.2.1, (congrFun (u2_o (by omega)) 5).trans h.1.2.2.2.2.2.1, (congrFun (u2_o (by omega)) 0).trans h.1.2.2.2.2.2.2⟩, fun l hl => ?_, fun p hp => ?_, fun p l hp hl => ?_, fun s hs => ?_⟩
  · have hl : l < ρ 0 0 := hl
    refine ⟨(congrFun (u2_o (by omega)) l).trans (h.2.1 l hl).1, (congrFun (u2_o (by omega)) l).trans (h.2.1 l hl).2.1, (congrFun (u2_o (by omega)) l).trans (h.2.1 l hl).2.2.1, (congrFun (u2_o (by omega)) l).trans (h.2.1 l hl).2.2.2.1, (congrFun (u2_o (by omega)) l).trans (h.2.1 l hl).2.2.2.2⟩
  · have hp : p < ρ 0 1 := hp
    refine ⟨(congrFun (u2_o (by omega)) p).trans (h.2.2.1 p hp).1, (congrFun (u2_o (by omega)) p).trans (h.2.2.1 p hp).2.1, (congrFun (u2_o (by omega)) p).trans (h.2.2.1 p hp).2.2.1, (congrFun (u2_o (by omega)) p).trans (h.2.2.1 p hp).2.2.2.1, (congrFun (u2_o (by omega)) p).trans (h.2.2.1 p hp).2.2.2.2.1, (congrFun (u2_o (by omega)) p).trans (h.2.2.1 p hp).2.2.2.2.2⟩
  · have hp : p < ρ 0 1 := hp; have hl : l < ρ 0 0 := hl
    by_cases e : p = i ∧ l = j
    · obtain ⟨rfl, rfl⟩ := e; rw [up2_at]; exact u2_at _ _ _ _
    · rw [up2_n (by omega)]; exact (u2_n (by omega)).trans (h.2.2.2.1 p l hp hl)
  · have hs : s < ρ 0 6 := hs
    exact ⟨(congrFun (u2_o (by omega)) s).trans (h.2.2.2.2 s hs).1, (congrFun (u2_o (by omega)) s).trans (h.2.2.2.2 s hs).2.1, (congrFun (u2_o (by omega)) s).trans (h.2.2.2.2 s hs).2.2⟩
theorem CR_year {o : Nat} {ρ : Rho} {v : Nat → Nat → Int32}  {x : Nat}  (h : CR o ρ v) (hL : ρ 0 0 ≤ 5) : CR o (up2 ρ 0 2 x) (u2 v o 2 (nI x)) := by
  refine ⟨⟨(u2_n (by decide)).trans h.1.1, (u2_n (by decide)).trans h.1.2.1, u2_at _ _ _ _, (u2_n (by decide)).trans h.1.2.2.2.1, (u2_n (by decide)).trans h.1.2.2.2.2.1, (u2_n (by decide)).trans h.1.2.2.2.2.2.1, (congrFun (u2_o (by omega)) 0).trans h.1.2.2.2.2.2.2⟩, fun l hl => ?_, fun p hp => ?_, fun p l hp hl => ?_, fun s hs => ?_⟩
  · have hl : l < ρ 0 0 := hl
    refine ⟨(congrFun (u2_o (by omega)) l).trans (h.2.1 l hl).1, (congrFun (u2_o (by omega)) l).trans (h.2.1 l hl).2.1, (congrFun (u2_o (by omega)) l).trans (h.2.1 l hl).2.2.1, (congrFun (u2_o (by omega)) l).trans (h.2.1 l hl).2.2.2.1, (congrFun (u2_o (by omega)) l).trans (h.2.1 l hl).2.2.2.2⟩
  · have hp : p < ρ 0 1 := hp
    refine ⟨(congrFun (u2_o (by omega)) p).trans (h.2.2.1 p hp).1, (congrFun (u2_o (by omega)) p).trans (h.2.2.1 p hp).2.1, (congrFun (u2_o (by omega)) p).trans (h.2.2.1 p hp).2.2.1, (congrFun (u2_o (by omega)) p).trans (h.2.2.1 p hp).2.2.2.1, (congrFun (u2_o (by omega)) p).trans (h.2.2.1 p hp).2.2.2.2.1, (congrFun (u2_o (by omega)) p).trans (h.2.2.1 p hp).2.2.2.2.2⟩
  · have hp : p < ρ 0 1 := hp; have hl : l < ρ 0 0 := hl
    exact (congrFun (u2_o (by omega)) _).trans (h.2.2.2.1 p l hp hl)
  · have hs : s < ρ 0 6 := hs
    exact ⟨(congrFun (u2_o (by omega)) s).trans (h.2.2.2.2 s hs).1, (congrFun (u2_o (by omega)) s).trans (h.2.2.2.2 s hs).2.1, (congrFun (u2_o (by omega)) s).trans (h.2.2.2.2 s hs).2.2⟩
theorem CR_done {o : Nat} {ρ : Rho} {v : Nat → Nat → Int32}  {x : Nat}  (h : CR o ρ v) (hL : ρ 0 0 ≤ 5) : CR o (up2 ρ 0 3 x) (u2 v o 3 (nI x)) := by
  refine ⟨⟨(u2_n (by decide)).trans h.1.1, (u2_n (by decide)).trans h.1.2.1, (u2_n (by decide)).trans h.1.2.2.1, u2_at _ _ _ _, (u2_n (by decide)).trans h.1.2.2.2.2.1, (u2_n (by decide)).trans h.1.2.2.2.2.2.1, (congrFun (u2_o (by omega)) 0).trans h.1.2.2.2.2.2.2⟩, fun l hl => ?_, fun p hp => ?_, fun p l hp hl => ?_, fun s hs => ?_⟩
  · have hl : l < ρ 0 0 := hl
    refine ⟨(congrFun (u2_o (by omega)) l).trans (h.2.1 l hl).1, (congrFun (u2_o (by omega)) l).trans (h.2.1 l hl).2.1, (congrFun (u2_o (by omega)) l).trans (h.2.1 l hl).2.2.1, (congrFun (u2_o (by omega)) l).trans (h.2.1 l hl).2.2.2.1, (congrFun (u2_o (by omega)) l).trans (h.2.1 l hl).2.2.2.2⟩
  · have hp : p < ρ 0 1 := hp
    refine ⟨(congrFun (u2_o (by omega)) p).trans (h.2.2.1 p hp).1, (congrFun (u2_o (by omega)) p).trans (h.2.2.1 p hp).2.1, (congrFun (u2_o (by omega)) p).trans (h.2.2.1 p hp).2.2.1, (congrFun (u2_o (by omega)) p).trans (h.2.2.1 p hp).2.2.2.1, (congrFun (u2_o (by omega)) p).trans (h.2.2.1 p hp).2.2.2.2.1, (congrFun (u2_o (by omega)) p).trans (h.2.2.1 p hp).2.2.2.2.2⟩
  · have hp : p < ρ 0 1 := hp; have hl : l < ρ 0 0 := hl
    exact (congrFun (u2_o (by omega)) _).trans (h.2.2.2.1 p l hp hl)
  · have hs : s < ρ 0 6 := hs
    exact ⟨(congrFun (u2_o (by omega)) s).trans (h.2.2.2.2 s hs).1, (congrFun (u2_o (by omega)) s).trans (h.2.2.2.2 s hs).2.1, (congrFun (u2_o (by omega)) s).trans (h.2.2.2.2 s hs).2.2⟩
theorem CR_stands {o : Nat} {ρ : Rho} {v : Nat → Nat → Int32}  {x : Nat}  (h : CR o ρ v) (hL : ρ 0 0 ≤ 5) : CR o (up2 ρ 0 4 x) (u2 v o 4 (nI x)) := by
  refine ⟨⟨(u2_n (by decide)).trans h.1.1, (u2_n (by decide)).trans h.1.2.1, (u2_n (by decide)).trans h.1.2.2.1, (u2_n (by decide)).trans h.1.2.2.2.1, u2_at _ _ _ _, (u2_n (by decide)).trans h.1.2.2.2.2.2.1, (congrFun (u2_o (by omega)) 0).trans h.1.2.2.2.2.2.2⟩, fun l hl => ?_, fun p hp => ?_, fun p l hp hl => ?_, fun s hs => ?_⟩
  · have hl : l < ρ 0 0 := hl
    refine ⟨(congrFun (u2_o (by omega)) l).trans (h.2.1 l hl).1, (congrFun (u2_o (by omega)) l).trans (h.2.1 l hl).2.1, (congrFun (u2_o (by omega)) l).trans (h.2.1 l hl).2.2.1, (congrFun (u2_o (by omega)) l).trans (h.2.1 l hl).2.2.2.1, (congrFun (u2_o (by omega)) l).trans (h.2.1 l hl).2.2.2.2⟩
  · have hp : p < ρ 0 1 := hp
    refine ⟨(congrFun (u2_o (by omega)) p).trans (h.2.2.1 p hp).1, (congrFun (u2_o (by omega)) p).trans (h.2.2.1 p hp).2.1, (congrFun (u2_o (by omega)) p).trans (h.2.2.1 p hp).2.2.1, (congrFun (u2_o (by omega)) p).trans (h.2.2.1 p hp).2.2.2.1, (congrFun (u2_o (by omega)) p).trans (h.2.2.1 p hp).2.2.2.2.1, (congrFun (u2_o (by omega)) p).trans (h.2.2.1 p hp).2.2.2.2.2⟩
  · have hp : p < ρ 0 1 := hp; have hl : l < ρ 0 0 := hl
    exact (congrFun (u2_o (by omega)) _).trans (h.2.2.2.1 p l hp hl)
  · have hs : s < ρ 0 6 := hs
    exact ⟨(congrFun (u2_o (by omega)) s).trans (h.2.2.2.2 s hs).1, (congrFun (u2_o (by omega)) s).trans (h.2.2.2.2 s hs).2.1, (congrFun (u2_o (by omega)) s).trans (h.2.2.2.2 s hs).2.2⟩
theorem CR_watched {o : Nat} {ρ : Rho} {v : Nat → Nat → Int32}  {x : Nat}  (h : CR o ρ v) (hL : ρ 0 0 ≤ 5) : CR o (up2 ρ 0 5 x) (u2 v o 5 (nI x)) := by
  refine ⟨⟨(u2_n (by decide)).trans h.1.1, (u2_n (by decide)).trans h.1.2.1, (u2_n (by decide)).trans h.1.2.2.1, (u2_n (by decide)).trans h.1.2.2.2.1, (u2_n (by decide)).trans h.1.2.2.2.2.1, u2_at _ _ _ _, (congrFun (u2_o (by omega)) 0).trans h.1.2.2.2.2.2.2⟩, fun l hl => ?_, fun p hp => ?_, fun p l hp hl => ?_, fun s hs => ?_⟩
  · have hl : l < ρ 0 0 := hl
    refine ⟨(congrFun (u2_o (by omega)) l).trans (h.2.1 l hl).1, (congrFun (u2_o (by omega)) l).trans (h.2.1 l hl).2.1, (congrFun (u2_o (by omega)) l).trans (h.2.1 l hl).2.2.1, (congrFun (u2_o (by omega)) l).trans (h.2.1 l hl).2.2.2.1, (congrFun (u2_o (by omega)) l).trans (h.2.1 l hl).2.2.2.2⟩
  · have hp : p < ρ 0 1 := hp
    refine ⟨(congrFun (u2_o (by omega)) p).trans (h.2.2.1 p hp).1, (congrFun (u2_o (by omega)) p).trans (h.2.2.1 p hp).2.1, (congrFun (u2_o (by omega)) p).trans (h.2.2.1 p hp).2.2.1, (congrFun (u2_o (by omega)) p).trans (h.2.2.1 p hp).2.2.2.1, (congrFun (u2_o (by omega)) p).trans (h.2.2.1 p hp).2.2.2.2.1, (congrFun (u2_o (by omega)) p).trans (h.2.2.1 p hp).2.2.2.2.2⟩
  · have hp : p < ρ 0 1 := hp; have hl : l < ρ 0 0 := hl
    exact (congrFun (u2_o (by omega)) _).trans (h.2.2.2.1 p l hp hl)
  · have hs : s < ρ 0 6 := hs
    exact ⟨(congrFun (u2_o (by omega)) s).trans (h.2.2.2.2 s hs).1, (congrFun (u2_o (by omega)) s).trans (h.2.2.2.2 s hs).2.1, (congrFun (u2_o (by omega)) s).trans (h.2.2.2.2 s hs).2.2⟩
