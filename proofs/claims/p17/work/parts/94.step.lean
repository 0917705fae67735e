/-! one turn of the law's loop: printed by wip/gen/gen_step.py -/
def St {α : Type} (h : mH) (K : mH → Prop) (fq fm : mH → Option (α × mH)) : Prop := ∃ (r : α) (h1 h2 : mH), fq h = some (r, h1) ∧ kC h1 100 8 = some () ∧ fm h1 = some (r, h2) ∧ K h2
def Sf {α : Type} (h : mH) (K : mH → Prop) (fq fm : mH → Option (α × mH)) : Prop := ∃ (r r' : α) (h1 h2 : mH), fq h = some (r, h1) ∧ kC h1 100 8 = some () ∧ fm h1 = some (r', h2) ∧ K h2
theorem St.f {α : Type} {h : mH} {K : mH → Prop} {fq fm : mH → Option (α × mH)} (x : St h K fq fm) : Sf h K fq fm := by
  obtain ⟨r, h1, h2, e⟩ := x
  exact ⟨r, r, h1, h2, e⟩
theorem cmp_self (a : Int64) : lg_cmp a a = 0 := by
  unfold lg_cmp
  rw [if_neg (show ¬ a > a from Int64.lt_irrefl), if_pos rfl]
theorem sX_nI {sc : Nat × (Nat → Int32)} {i : Nat} (hi : i < sc.1) (hN : sc.1 ≤ 320) : sX sc (nI i) = some (sc.2 i) := by
  unfold sX
  rw [if_pos (nI_in hi (by omega)), nI_clamp (by omega)]
theorem nI_lit (i : Nat) : nI i + (1 : Int32) = nI (i + 1) ∧ nI i + (2 : Int32) = nI (i + 2) ∧ nI i + (3 : Int32) = nI (i + 3) ∧ nI i + (4 : Int32) = nI (i + 4) ∧ nI i + (5 : Int32) = nI (i + 5) := by
  refine ⟨?_, ?_, ?_, ?_, ?_⟩ <;> exact nI_add _ _
theorem law_cond {n i : Nat} (hn : n ≤ 320) (hi : i ≤ 320) : (Int32.ofNat n) - (5 : Int32) < nI i ↔ n < i + 5 := by
  have e : (Int32.ofNat n) - (5 : Int32) = zI ((n : Int) - 5) := by
    rw [show Int32.ofNat n = nI n from rfl, ← zI_n]
    exact zI_sub _ 5
  rw [e, Int32.lt_iff_toInt_lt, zI_t (by omega) (by omega), nI_toInt (by omega)]
  omega
set_option maxRecDepth 20000 in
theorem step {sc : Nat × (Nat → Int32)} {i : Nat} (hi : i + 5 ≤ sc.1) (hN : sc.1 ≤ 320) (rec : Nat → Nat → Int32 → mH → Option (Int32 × mH)) {h : mH} {K : mH → Prop} (hk : kC h 0 0 = some ()) (h0 : K h) (e0 : ∀ x : Int32, Sf h K (f_Q_feed 0 x) (f_M_feed 100 x)) (e1 : ∀ x : Int32, Sf h K (f_Q_end 0 x) (f_M_end 100 x)) (e2 : Sf h K (f_Q_text 0) (f_M_text 100)) (e3 : Sf h K (f_Q_fault 0) (f_M_fault 100)) (e4 : ∀ x : Int32, Sf h K (f_Q_rule 0 x) (f_M_rule 100 x)) (e5 : ∀ x y : Int32, Sf h K (f_Q_law 0 x y) (f_M_law 100 x y)) (e6 : ∀ x y : Int32, Sf h K (f_Q_one 0 x y) (f_M_one 100 x y)) (e7 : ∀ x y : Int32, Sf h K (f_Q_broken 0 x y) (f_M_broken 100 x y)) (e8 : ∀ x y : Int32, Sf h K (f_Q_quota 0 x y) (f_M_quota 100 x y)) (e9 : ∀ x y : Int32, Sf h K (f_Q_carry 0 x y) (f_M_carry 100 x y)) (e10 : ∀ x y : Int32, Sf h K (f_Q_watch 0 x y) (f_M_watch 100 x y)) (e11 : ∀ x y : Int32, Sf h K (f_Q_time 0 x y) (f_M_time 100 x y)) (e12 : ∀ x y z : Int32, Sf h K (f_Q_refuse 0 x y z) (f_M_refuse 100 x y z)) (e13 : ∀ x y z : Int32, Sf h K (f_Q_want 0 x y z) (f_M_want 100 x y z)) (e14 : ∀ x y : Int32, Sf h K (f_Q_fund 0 x y) (f_M_fund 100 x y)) (e15 : ∀ x : Int32, St h K (f_Q_revive 0 x) (f_M_revive 100 x)) (e16 : ∀ x y : Int32, Sf h K (f_Q_breaks 0 x y) (f_M_breaks 100 x y)) (e17 : Sf h K (f_Q_year 0) (f_M_year 100)) (e18 : Sf h K (f_Q_falls 0) (f_M_falls 100)) (e19 : ∀ x : Int32, Sf h K (f_Q_most 0 x) (f_M_most 100 x)) (e20 : ∀ x : Int32, Sf h K (f_Q_rota 0 x) (f_M_rota 100 x)) (e21 : ∀ x : Int32, Sf h K (f_Q_more 0 x) (f_M_more 100 x)) (e22 : ∀ x : Int32, Sf h K (f_Q_together 0 x) (f_M_together 100 x)) (e23 : ∀ x y : Int32, Sf h K (f_Q_kill 0 x y) (f_M_kill 100 x y)) (e24 : ∀ x : Int32, Sf h K (f_Q_selfish 0 x) (f_M_selfish 100 x)) (e25 : ∀ x y : Int32, Sf h K (f_Q_luck 0 x y) (f_M_luck 100 x y)) (e26 : ∀ x y z : Int32, Sf h K (f_Q_see 0 x y z) (f_M_see 100 x y z)) (e27 : ∀ x : Int32, Sf h K (f_Q_forget 0 x) (f_M_forget 100 x)) (e28 : Sf h K (f_Q_books 0) (f_M_books 100)) (e29 : ∀ x y z : Int32, Sf h K (f_Q_entry 0 x y z) (f_M_entry 100 x y z)) (e30 : ∀ x y z : Int32, Sf h K (f_Q_wild 0 x y z) (f_M_wild 100 x y z)) (e31 : ∀ x : Int32, Sf h K (f_Q_keep 0 x) (f_M_keep 100 x)) (e32 : ∀ x : Int32, Sf h K (f_Q_back 0 x) (f_M_back 100 x)) (e33 : ∀ x y z : Int32, Sf h K (f_Q_sheet 0 x y z) (f_M_sheet 100 x y z)) (e34 : ∀ x y z : Int32, Sf h K (f_Q_lay 0 x y z) (f_M_lay 100 x y z)) (e35 : ∀ x y z t : Int32, Sf h K (f_Q_read 0 x y z t) (f_M_read 100 x y z t)) (e36 : Sf h K (f_Q_torn 0) (f_M_torn 100)) (e37 : ∀ x : Int32, Sf h K (f_Q_count 0 x) (f_M_count 100 x)) : ∃ h2, K h2 ∧ f_QuotaLawsLaw_law_18b sc rec 0 100 (nI i) h = rec 0 100 (nI (i + 5)) h2 := by
  obtain ⟨l1, l2, l3, l4, l5⟩ := nI_lit i
  have x0 := sX_nI (sc := sc) (i := i) (by omega) hN
  have x1 := sX_nI (sc := sc) (i := i + 1) (by omega) hN
  have x2 := sX_nI (sc := sc) (i := i + 2) (by omega) hN
  have x3 := sX_nI (sc := sc) (i := i + 3) (by omega) hN
  have x4 := sX_nI (sc := sc) (i := i + 4) (by omega) hN
  unfold f_QuotaLawsLaw_law_18b
  rw [if_neg (fun z => by have := (law_cond hN (by omega)).mp z; omega), x0, bd1_s]
  generalize sc.2 i &&& (63 : Int32) = oc
  by_cases c0 : oc = (0 : Int32)
  · rw [if_pos c0]
    simp only [l1, l2, l3, l4, x1, x2, x3, x4, bd1_s]
    unfold f_QuotaLawsLaw_law_1342
    obtain ⟨r, r', h1, h2, a1, a2, a3, a4⟩ := e0 (sc.2 (i + 1))
    refine ⟨h2, a4, ?_⟩
    simp only [hk, bd1_s, a1, bd2_s, a2, a3]
    rw [l5]
  rw [if_neg c0]
  by_cases c1 : oc = (1 : Int32)
  · rw [if_pos c1]
    simp only [l1, l2, l3, l4, x1, x2, x3, x4, bd1_s]
    unfold f_QuotaLawsLaw_law_1342
    obtain ⟨r, r', h1, h2, a1, a2, a3, a4⟩ := e1 (sc.2 (i + 1))
    refine ⟨h2, a4, ?_⟩
    simp only [hk, bd1_s, a1, bd2_s, a2, a3]
    rw [l5]
  rw [if_neg c1]
  by_cases c2 : oc = (2 : Int32)
  · rw [if_pos c2]
    skip
    unfold f_QuotaLawsLaw_law_1342
    obtain ⟨r, r', h1, h2, a1, a2, a3, a4⟩ := e2
    refine ⟨h2, a4, ?_⟩
    simp only [hk, bd1_s, a1, bd2_s, a2, a3]
    rw [l5]
  rw [if_neg c2]
  by_cases c3 : oc = (3 : Int32)
  · rw [if_pos c3]
    skip
    unfold f_QuotaLawsLaw_law_1342
    obtain ⟨r, r', h1, h2, a1, a2, a3, a4⟩ := e3
    refine ⟨h2, a4, ?_⟩
    simp only [hk, bd1_s, a1, bd2_s, a2, a3]
    rw [l5]
  rw [if_neg c3]
  by_cases c4 : oc = (4 : Int32)
  · rw [if_pos c4]
    simp only [l1, l2, l3, l4, x1, x2, x3, x4, bd1_s]
    unfold f_QuotaLawsLaw_law_1342
    obtain ⟨r, r', h1, h2, a1, a2, a3, a4⟩ := e4 (sc.2 (i + 1))
    refine ⟨h2, a4, ?_⟩
    simp only [hk, bd1_s, a1, bd2_s, a2, a3]
    rw [l5]
  rw [if_neg c4]
  by_cases c5 : oc = (5 : Int32)
  · rw [if_pos c5]
    simp only [l1, l2, l3, l4, x1, x2, x3, x4, bd1_s]
    unfold f_QuotaLawsLaw_law_1342
    obtain ⟨r, r', h1, h2, a1, a2, a3, a4⟩ := e5 (sc.2 (i + 1)) (sc.2 (i + 2))
    refine ⟨h2, a4, ?_⟩
    simp only [hk, bd1_s, a1, bd2_s, a2, a3]
    rw [l5]
  rw [if_neg c5]
  by_cases c6 : oc = (6 : Int32)
  · rw [if_pos c6]
    simp only [l1, l2, l3, l4, x1, x2, x3, x4, bd1_s]
    unfold f_QuotaLawsLaw_law_1342
    obtain ⟨r, r', h1, h2, a1, a2, a3, a4⟩ := e6 (sc.2 (i + 1)) (sc.2 (i + 2))
    refine ⟨h2, a4, ?_⟩
    simp only [hk, bd1_s, a1, bd2_s, a2, a3]
    rw [l5]
  rw [if_neg c6]
  by_cases c7 : oc = (7 : Int32)
  · rw [if_pos c7]
    simp only [l1, l2, l3, l4, x1, x2, x3, x4, bd1_s]
    unfold f_QuotaLawsLaw_law_1342
    obtain ⟨r, r', h1, h2, a1, a2, a3, a4⟩ := e7 (sc.2 (i + 1)) (sc.2 (i + 2))
    refine ⟨h2, a4, ?_⟩
    simp only [hk, bd1_s, a1, bd2_s, a2, a3]
    rw [l5]
  rw [if_neg c7]
  by_cases c8 : oc = (8 : Int32)
  · rw [if_pos c8]
    simp only [l1, l2, l3, l4, x1, x2, x3, x4, bd1_s]
    unfold f_QuotaLawsLaw_law_1342
    obtain ⟨r, r', h1, h2, a1, a2, a3, a4⟩ := e8 (sc.2 (i + 1)) (sc.2 (i + 2))
    refine ⟨h2, a4, ?_⟩
    simp only [hk, bd1_s, a1, bd2_s, a2, a3]
    rw [l5]
  rw [if_neg c8]
  by_cases c9 : oc = (9 : Int32)
  · rw [if_pos c9]
    simp only [l1, l2, l3, l4, x1, x2, x3, x4, bd1_s]
    unfold f_QuotaLawsLaw_law_1342
    obtain ⟨r, r', h1, h2, a1, a2, a3, a4⟩ := e9 (sc.2 (i + 1)) (sc.2 (i + 2))
    refine ⟨h2, a4, ?_⟩
    simp only [hk, bd1_s, a1, bd2_s, a2, a3]
    rw [l5]
  rw [if_neg c9]
  by_cases c10 : oc = (10 : Int32)
  · rw [if_pos c10]
    simp only [l1, l2, l3, l4, x1, x2, x3, x4, bd1_s]
    by_cases z0 : sc.2 (i + 2) = 0
    · rw [if_pos z0]
      unfold f_QuotaLawsLaw_law_479 f_QuotaLawsLaw_law_502 f_QuotaLawsLaw_law_1342
      simp only [l1, l2, l3, l4, x1, x2, x3, x4, bd1_s, hk]
      obtain ⟨r, r', h1, h2, a1, a2, a3, a4⟩ := e10 (sc.2 (i + 1)) 0
      refine ⟨h2, a4, ?_⟩
      simp only [bd1_s, a1, bd2_s, if_pos z0, a2, a3]
      rw [l5]
    · rw [if_neg z0]
      unfold f_QuotaLawsLaw_law_479 f_QuotaLawsLaw_law_502 f_QuotaLawsLaw_law_1342
      simp only [l1, l2, l3, l4, x1, x2, x3, x4, bd1_s, hk]
      obtain ⟨r, r', h1, h2, a1, a2, a3, a4⟩ := e10 (sc.2 (i + 1)) 1
      refine ⟨h2, a4, ?_⟩
      simp only [bd1_s, a1, bd2_s, if_neg z0, a2, a3]
      rw [l5]
  rw [if_neg c10]
  by_cases c11 : oc = (11 : Int32)
  · rw [if_pos c11]
    simp only [l1, l2, l3, l4, x1, x2, x3, x4, bd1_s]
    unfold f_QuotaLawsLaw_law_1342
    obtain ⟨r, r', h1, h2, a1, a2, a3, a4⟩ := e11 (sc.2 (i + 1)) (sc.2 (i + 2))
    refine ⟨h2, a4, ?_⟩
    simp only [hk, bd1_s, a1, bd2_s, a2, a3]
    rw [l5]
  rw [if_neg c11]
  by_cases c12 : oc = (12 : Int32)
  · rw [if_pos c12]
    simp only [l1, l2, l3, l4, x1, x2, x3, x4, bd1_s]
    by_cases z0 : sc.2 (i + 3) = 0
    · rw [if_pos z0]
      unfold f_QuotaLawsLaw_law_566 f_QuotaLawsLaw_law_594 f_QuotaLawsLaw_law_1342
      simp only [l1, l2, l3, l4, x1, x2, x3, x4, bd1_s, hk]
      obtain ⟨r, r', h1, h2, a1, a2, a3, a4⟩ := e12 (sc.2 (i + 1)) (sc.2 (i + 2)) 0
      refine ⟨h2, a4, ?_⟩
      simp only [bd1_s, a1, bd2_s, if_pos z0, a2, a3]
      rw [l5]
    · rw [if_neg z0]
      unfold f_QuotaLawsLaw_law_566 f_QuotaLawsLaw_law_594 f_QuotaLawsLaw_law_1342
      simp only [l1, l2, l3, l4, x1, x2, x3, x4, bd1_s, hk]
      obtain ⟨r, r', h1, h2, a1, a2, a3, a4⟩ := e12 (sc.2 (i + 1)) (sc.2 (i + 2)) 1
      refine ⟨h2, a4, ?_⟩
      simp only [bd1_s, a1, bd2_s, if_neg z0, a2, a3]
      rw [l5]
  rw [if_neg c12]
  by_cases c13 : oc = (13 : Int32)
  · rw [if_pos c13]
    simp only [l1, l2, l3, l4, x1, x2, x3, x4, bd1_s]
    by_cases z0 : sc.2 (i + 3) = 0
    · rw [if_pos z0]
      unfold f_QuotaLawsLaw_law_625 f_QuotaLawsLaw_law_653 f_QuotaLawsLaw_law_1342
      simp only [l1, l2, l3, l4, x1, x2, x3, x4, bd1_s, hk]
      obtain ⟨r, r', h1, h2, a1, a2, a3, a4⟩ := e13 (sc.2 (i + 1)) (sc.2 (i + 2)) 0
      refine ⟨h2, a4, ?_⟩
      simp only [bd1_s, a1, bd2_s, if_pos z0, a2, a3]
      rw [l5]
    · rw [if_neg z0]
      unfold f_QuotaLawsLaw_law_625 f_QuotaLawsLaw_law_653 f_QuotaLawsLaw_law_1342
      simp only [l1, l2, l3, l4, x1, x2, x3, x4, bd1_s, hk]
      obtain ⟨r, r', h1, h2, a1, a2, a3, a4⟩ := e13 (sc.2 (i + 1)) (sc.2 (i + 2)) 1
      refine ⟨h2, a4, ?_⟩
      simp only [bd1_s, a1, bd2_s, if_neg z0, a2, a3]
      rw [l5]
  rw [if_neg c13]
  by_cases c14 : oc = (14 : Int32)
  · rw [if_pos c14]
    simp only [l1, l2, l3, l4, x1, x2, x3, x4, bd1_s]
    unfold f_QuotaLawsLaw_law_1342
    obtain ⟨r, r', h1, h2, a1, a2, a3, a4⟩ := e14 (sc.2 (i + 1)) (sc.2 (i + 2))
    refine ⟨h2, a4, ?_⟩
    simp only [hk, bd1_s, a1, bd2_s, a2, a3]
    rw [l5]
  rw [if_neg c14]
  by_cases c15 : oc = (15 : Int32)
  · rw [if_pos c15]
    simp only [l1, l2, l3, l4, x1, x2, x3, x4, bd1_s]
    unfold f_QuotaLawsLaw_law_1342
    obtain ⟨r, h1, h2, a1, a2, a3, a4⟩ := e15 (sc.2 (i + 1))
    refine ⟨h2, a4, ?_⟩
    simp only [hk, bd1_s, a1, bd2_s, a2, a3]
    rw [if_pos trivial, l5]
  rw [if_neg c15]
  by_cases c16 : oc = (16 : Int32)
  · rw [if_pos c16]
    simp only [l1, l2, l3, l4, x1, x2, x3, x4, bd1_s]
    unfold f_QuotaLawsLaw_law_1342
    obtain ⟨r, r', h1, h2, a1, a2, a3, a4⟩ := e16 (sc.2 (i + 1)) (sc.2 (i + 2))
    refine ⟨h2, a4, ?_⟩
    simp only [hk, bd1_s, a1, bd2_s, a2, a3]
    rw [l5]
  rw [if_neg c16]
  by_cases c17 : oc = (17 : Int32)
  · rw [if_pos c17]
    skip
    unfold f_QuotaLawsLaw_law_1342
    obtain ⟨r, r', h1, h2, a1, a2, a3, a4⟩ := e17
    refine ⟨h2, a4, ?_⟩
    simp only [hk, bd1_s, a1, bd2_s, a2, a3]
    rw [l5]
  rw [if_neg c17]
  by_cases c18 : oc = (18 : Int32)
  · rw [if_pos c18]
    skip
    unfold f_QuotaLawsLaw_law_1342
    obtain ⟨r, r', h1, h2, a1, a2, a3, a4⟩ := e18
    refine ⟨h2, a4, ?_⟩
    simp only [hk, bd1_s, a1, bd2_s, a2, a3]
    rw [l5]
  rw [if_neg c18]
  by_cases c19 : oc = (19 : Int32)
  · rw [if_pos c19]
    simp only [l1, l2, l3, l4, x1, x2, x3, x4, bd1_s]
    unfold f_QuotaLawsLaw_law_1342
    obtain ⟨r, r', h1, h2, a1, a2, a3, a4⟩ := e19 (sc.2 (i + 1))
    refine ⟨h2, a4, ?_⟩
    simp only [hk, bd1_s, a1, bd2_s, a2, a3]
    rw [l5]
  rw [if_neg c19]
  by_cases c20 : oc = (20 : Int32)
  · rw [if_pos c20]
    simp only [l1, l2, l3, l4, x1, x2, x3, x4, bd1_s]
    unfold f_QuotaLawsLaw_law_1342
    obtain ⟨r, r', h1, h2, a1, a2, a3, a4⟩ := e20 (sc.2 (i + 1))
    refine ⟨h2, a4, ?_⟩
    simp only [hk, bd1_s, a1, bd2_s, a2, a3]
    rw [l5]
  rw [if_neg c20]
  by_cases c21 : oc = (21 : Int32)
  · rw [if_pos c21]
    simp only [l1, l2, l3, l4, x1, x2, x3, x4, bd1_s]
    unfold f_QuotaLawsLaw_law_1342
    obtain ⟨r, r', h1, h2, a1, a2, a3, a4⟩ := e21 (sc.2 (i + 1))
    refine ⟨h2, a4, ?_⟩
    simp only [hk, bd1_s, a1, bd2_s, a2, a3]
    rw [l5]
  rw [if_neg c21]
  by_cases c22 : oc = (22 : Int32)
  · rw [if_pos c22]
    simp only [l1, l2, l3, l4, x1, x2, x3, x4, bd1_s]
    unfold f_QuotaLawsLaw_law_1342
    obtain ⟨r, r', h1, h2, a1, a2, a3, a4⟩ := e22 (sc.2 (i + 1))
    refine ⟨h2, a4, ?_⟩
    simp only [hk, bd1_s, a1, bd2_s, a2, a3]
    rw [l5]
  rw [if_neg c22]
  by_cases c23 : oc = (23 : Int32)
  · rw [if_pos c23]
    simp only [l1, l2, l3, l4, x1, x2, x3, x4, bd1_s]
    unfold f_QuotaLawsLaw_law_1342
    obtain ⟨r, r', h1, h2, a1, a2, a3, a4⟩ := e23 (sc.2 (i + 1)) (sc.2 (i + 2))
    refine ⟨h2, a4, ?_⟩
    simp only [hk, bd1_s, a1, bd2_s, a2, a3]
    rw [l5]
  rw [if_neg c23]
  by_cases c24 : oc = (24 : Int32)
  · rw [if_pos c24]
    simp only [l1, l2, l3, l4, x1, x2, x3, x4, bd1_s]
    unfold f_QuotaLawsLaw_law_1342
    obtain ⟨r, r', h1, h2, a1, a2, a3, a4⟩ := e24 (sc.2 (i + 1))
    refine ⟨h2, a4, ?_⟩
    simp only [hk, bd1_s, a1, bd2_s, a2, a3]
    rw [l5]
  rw [if_neg c24]
  by_cases c25 : oc = (25 : Int32)
  · rw [if_pos c25]
    simp only [l1, l2, l3, l4, x1, x2, x3, x4, bd1_s]
    unfold f_QuotaLawsLaw_law_1342
    obtain ⟨r, r', h1, h2, a1, a2, a3, a4⟩ := e25 (sc.2 (i + 1)) (sc.2 (i + 2))
    refine ⟨h2, a4, ?_⟩
    simp only [hk, bd1_s, a1, bd2_s, a2, a3]
    rw [l5]
  rw [if_neg c25]
  by_cases c26 : oc = (26 : Int32)
  · rw [if_pos c26]
    simp only [l1, l2, l3, l4, x1, x2, x3, x4, bd1_s]
    unfold f_QuotaLawsLaw_law_1342
    obtain ⟨r, r', h1, h2, a1, a2, a3, a4⟩ := e26 (sc.2 (i + 1)) (sc.2 (i + 2)) (sc.2 (i + 3))
    refine ⟨h2, a4, ?_⟩
    simp only [hk, bd1_s, a1, bd2_s, a2, a3]
    rw [l5]
  rw [if_neg c26]
  by_cases c27 : oc = (27 : Int32)
  · rw [if_pos c27]
    simp only [l1, l2, l3, l4, x1, x2, x3, x4, bd1_s]
    unfold f_QuotaLawsLaw_law_1342
    obtain ⟨r, r', h1, h2, a1, a2, a3, a4⟩ := e27 (sc.2 (i + 1))
    refine ⟨h2, a4, ?_⟩
    simp only [hk, bd1_s, a1, bd2_s, a2, a3]
    rw [l5]
  rw [if_neg c27]
  by_cases c28 : oc = (28 : Int32)
  · rw [if_pos c28]
    skip
    unfold f_QuotaLawsLaw_law_1342
    obtain ⟨r, r', h1, h2, a1, a2, a3, a4⟩ := e28
    refine ⟨h2, a4, ?_⟩
    simp only [hk, bd1_s, a1, bd2_s, a2, a3]
    rw [l5]
  rw [if_neg c28]
  by_cases c29 : oc = (29 : Int32)
  · rw [if_pos c29]
    simp only [l1, l2, l3, l4, x1, x2, x3, x4, bd1_s]
    unfold f_QuotaLawsLaw_law_1342
    obtain ⟨r, r', h1, h2, a1, a2, a3, a4⟩ := e29 (sc.2 (i + 1)) (sc.2 (i + 2)) (sc.2 (i + 3))
    refine ⟨h2, a4, ?_⟩
    simp only [hk, bd1_s, a1, bd2_s, a2, a3]
    rw [l5]
  rw [if_neg c29]
  by_cases c30 : oc = (30 : Int32)
  · rw [if_pos c30]
    simp only [l1, l2, l3, l4, x1, x2, x3, x4, bd1_s]
    unfold f_QuotaLawsLaw_law_1342
    obtain ⟨r, r', h1, h2, a1, a2, a3, a4⟩ := e30 (sc.2 (i + 1)) (sc.2 (i + 2)) (sc.2 (i + 3))
    refine ⟨h2, a4, ?_⟩
    simp only [hk, bd1_s, a1, bd2_s, a2, a3]
    rw [l5]
  rw [if_neg c30]
  by_cases c31 : oc = (31 : Int32)
  · rw [if_pos c31]
    simp only [l1, l2, l3, l4, x1, x2, x3, x4, bd1_s]
    unfold f_QuotaLawsLaw_law_1342
    obtain ⟨r, r', h1, h2, a1, a2, a3, a4⟩ := e31 (sc.2 (i + 1))
    refine ⟨h2, a4, ?_⟩
    simp only [hk, bd1_s, a1, bd2_s, a2, a3]
    rw [l5]
  rw [if_neg c31]
  by_cases c32 : oc = (32 : Int32)
  · rw [if_pos c32]
    simp only [l1, l2, l3, l4, x1, x2, x3, x4, bd1_s]
    unfold f_QuotaLawsLaw_law_1342
    obtain ⟨r, r', h1, h2, a1, a2, a3, a4⟩ := e32 (sc.2 (i + 1))
    refine ⟨h2, a4, ?_⟩
    simp only [hk, bd1_s, a1, bd2_s, a2, a3]
    rw [l5]
  rw [if_neg c32]
  by_cases c33 : oc = (33 : Int32)
  · rw [if_pos c33]
    simp only [l1, l2, l3, l4, x1, x2, x3, x4, bd1_s]
    unfold f_QuotaLawsLaw_law_1342
    obtain ⟨r, r', h1, h2, a1, a2, a3, a4⟩ := e33 (sc.2 (i + 1)) (sc.2 (i + 2)) (sc.2 (i + 3))
    refine ⟨h2, a4, ?_⟩
    simp only [hk, bd1_s, a1, bd2_s, a2, a3]
    rw [l5]
  rw [if_neg c33]
  by_cases c34 : oc = (34 : Int32)
  · rw [if_pos c34]
    simp only [l1, l2, l3, l4, x1, x2, x3, x4, bd1_s]
    unfold f_QuotaLawsLaw_law_1342
    obtain ⟨r, r', h1, h2, a1, a2, a3, a4⟩ := e34 (sc.2 (i + 1)) (sc.2 (i + 2)) (sc.2 (i + 3))
    refine ⟨h2, a4, ?_⟩
    simp only [hk, bd1_s, a1, bd2_s, a2, a3]
    rw [l5]
  rw [if_neg c34]
  by_cases c35 : oc = (35 : Int32)
  · rw [if_pos c35]
    simp only [l1, l2, l3, l4, x1, x2, x3, x4, bd1_s]
    unfold f_QuotaLawsLaw_law_1342
    obtain ⟨r, r', h1, h2, a1, a2, a3, a4⟩ := e35 (sc.2 (i + 1)) (sc.2 (i + 2)) (sc.2 (i + 3)) (sc.2 (i + 4))
    refine ⟨h2, a4, ?_⟩
    simp only [hk, bd1_s, a1, bd2_s, a2, a3]
    rw [l5]
  rw [if_neg c35]
  by_cases c36 : oc = (36 : Int32)
  · rw [if_pos c36]
    skip
    unfold f_QuotaLawsLaw_law_1342
    obtain ⟨r, r', h1, h2, a1, a2, a3, a4⟩ := e36
    refine ⟨h2, a4, ?_⟩
    simp only [hk, bd1_s, a1, bd2_s, a2, a3]
    rw [l5]
  rw [if_neg c36]
  by_cases c37 : oc = (37 : Int32)
  · rw [if_pos c37]
    simp only [l1, l2, l3, l4, x1, x2, x3, x4, bd1_s]
    unfold f_QuotaLawsLaw_law_1342
    obtain ⟨r, r', h1, h2, a1, a2, a3, a4⟩ := e37 (sc.2 (i + 1))
    refine ⟨h2, a4, ?_⟩
    simp only [hk, bd1_s, a1, bd2_s, a2, a3]
    rw [l5]
  rw [if_neg c37]
  unfold f_QuotaLawsLaw_law_1342
  exact ⟨h, h0, by rw [l5]⟩
