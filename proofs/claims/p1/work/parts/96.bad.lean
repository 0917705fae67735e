/-! what is refused on a fresh object -/
section
variable {v : Nat → Nat → Int32} {w : Nat → Nat → Int64}
theorem noL (x : Int32) : ¬ (0 ≤ x.toInt ∧ x.toInt < ((S0.1 0 0 : Nat) : Int)) := by
  show ¬ (0 ≤ x.toInt ∧ x.toInt < ((0 : Nat) : Int))
  omega
theorem noP (x : Int32) : ¬ (0 ≤ x.toInt ∧ x.toInt < ((S0.1 0 1 : Nat) : Int)) := by
  show ¬ (0 ≤ x.toInt ∧ x.toInt < ((0 : Nat) : Int))
  omega
theorem b_kill (hc : CI S0 v) (hm : MI S0 v) (x y : Int32) : E1 (bh v w) (f_Q_kill 0 x y) (f_M_kill 100 x y) := by
  refine EqT.e1 (S := S0) (Eqv.query (r := -1) SOK0 hc hm ?_ ?_)
  · simp only [f_Q_kill, f_Q_kill_0, f_Q_kill_20, q_now, hRl rl3 v w, bd1_s]
    rw [C_hasLaw rl3 hc.1 (Nat.zero_le _), bd2_s, if_neg (noL x), if_pos rfl]
  · simp only [f_M_kill, f_M_kill_0, f_M_kill_18, hM v w, bd1_s]
    rw [M_isLaw hm.1.1 (Nat.zero_le _), bd2_s, if_neg (noL x), if_pos rfl]
theorem b_luck (hc : CI S0 v) (hm : MI S0 v) (x y : Int32) : E1 (bh v w) (f_Q_luck 0 x y) (f_M_luck 100 x y) := by
  refine EqT.e1 (S := S0) ⟨-1, v, w, v, w, S0, ?_, ?_, SOK0, hc, hm⟩
  · simp only [f_Q_luck, f_Q_luck_0, f_Q_luck_20, q_now, hRl rl3 v w, bd1_s]
    rw [C_hasLaw rl3 hc.1 (Nat.zero_le _), bd2_s, if_neg (noL x), if_pos rfl]
  · simp only [f_M_luck, f_M_luck_0, f_M_luck_18, hM v w, bd1_s]
    rw [M_isLaw hm.1.1 (Nat.zero_le _), bd2_s, if_neg (noL x), if_pos rfl]
theorem b_more (hc : CI S0 v) (hm : MI S0 v) (x : Int32) : E1 (bh v w) (f_Q_more 0 x) (f_M_more 100 x) := by
  refine EqT.e1 (S := S0) (Eqv.query (r := -1) SOK0 hc hm ?_ ?_)
  · simp only [f_Q_more, f_Q_more_0, q_now, hRl rl3 v w, bd1_s]
    rw [C_hasOne rl3 hc.1 (Nat.zero_le _), bd2_s, if_neg (noP x), if_pos rfl]
  · simp only [f_M_more, f_M_more_0, hM v w, bd1_s]
    rw [M_isOne hm.1.1 (Nat.zero_le _), bd2_s, if_neg (noP x), if_pos rfl]
theorem b_entry (hc : CI S0 v) (hm : MI S0 v) (x y z : Int32) : E1 (bh v w) (f_Q_entry 0 x y z) (f_M_entry 100 x y z) := by
  refine EqT.e1 (S := S0) (Eqv.query (r := -1) SOK0 hc hm ?_ ?_)
  · simp only [f_Q_entry, f_Q_entry_0, f_Q_entry_21, f_Realm_hasBoth, f_Realm_hasBoth_0, f_Realm_hasBoth_20, q_now, hRl rl3 v w, bd1_s]
    rw [C_hasOne rl3 hc.1 (Nat.zero_le _), bd2_s, if_neg (noP x), if_pos rfl, bd2_s, if_pos rfl]
  · simp only [f_M_entry, f_M_entry_0, f_M_entry_26, hM v w, bd1_s]
    rw [M_isOne hm.1.1 (Nat.zero_le _), bd2_s, if_neg (noP x), if_pos rfl]
theorem b_rota (hc : CI S0 v) (hm : MI S0 v) (x : Int32) (hx : ¬ x = 0) : E1 (bh v w) (f_Q_rota 0 x) (f_M_rota 100 x) := by
  refine EqT.e1 (S := S0) (Eqv.query (r := -1) SOK0 hc hm ?_ ?_)
  · simp only [f_Q_rota, f_Q_rota_0, f_Q_rota_31, f_Q_rota_32, f_Realm_hasBoth, f_Realm_hasBoth_0, f_Realm_hasBoth_20, q_now, hRl rl3 v w, bd1_s]
    rw [C_hasOne rl3 hc.1 (Nat.zero_le _), bd2_s, if_neg (noP _)]
    simp [hx, bd2_s]
  · simp only [f_M_rota, f_M_rota_0, f_M_rota_36, hM v w, bd1_s]
    rw [M_isLaw hm.1.1 (Nat.zero_le _), bd2_s, if_neg (noL _), if_neg hx, if_pos rfl]
    split <;> rfl
theorem b_together (hc : CI S0 v) (hm : MI S0 v) (x : Int32) (hx : ¬ (0 ≤ x.toInt ∧ x.toInt < ((1 + 1 : Nat) : Int))) : E1 (bh v w) (f_Q_together 0 x) (f_M_together 100 x) := by
  refine EqT.e1 (S := S0) (Eqv.query (r := -1) SOK0 hc hm ?_ ?_)
  · simp only [f_Q_together, f_Q_together_0, Q_isWithin, bd2_s]
    rw [show (1 : Int32).toInt = (nI 1).toInt from rfl, if_neg (fun q => hx ((in_rng (by decide)).mp q)), if_pos rfl]
  · simp only [f_M_together, f_M_together_0, M_in, bd2_s]
    rw [show (1 : Int64) = (nI 1).toInt64 from rfl, if_neg (fun q => hx ((in_rngL (by decide)).mp q)), if_pos rfl]
theorem b_selfish (hc : CI S0 v) (hm : MI S0 v) (x : Int32) (hx : ¬ (0 ≤ x.toInt ∧ x.toInt < ((2 + 1 : Nat) : Int))) : E1 (bh v w) (f_Q_selfish 0 x) (f_M_selfish 100 x) := by
  refine EqT.e1 (S := S0) (Eqv.query (r := -1) SOK0 hc hm ?_ ?_)
  · simp only [f_Q_selfish, f_Q_selfish_0, Q_isWithin, bd2_s]
    rw [show (2 : Int32).toInt = (nI 2).toInt from rfl, if_neg (fun q => hx ((in_rng (by decide)).mp q)), if_pos rfl]
  · simp only [f_M_selfish, f_M_selfish_0, M_in, bd2_s]
    rw [show (2 : Int64) = (nI 2).toInt64 from rfl, if_neg (fun q => hx ((in_rngL (by decide)).mp q)), if_pos rfl]
theorem b_wild (hc : CI S0 v) (hm : MI S0 v) (x y z : Int32) : E1 (bh v w) (f_Q_wild 0 x y z) (f_M_wild 100 x y z) := by
  have e1 : v 3 1 = 0 := hc.1.1.2.1
  have m1 : v 100 3 = 0 := hm.1.1.2.1
  have w1 : (1 : Int64) ≤ y.toInt64 ∧ y.toInt64 ≤ 60 ↔ (1 : Int32).toInt ≤ y.toInt ∧ y.toInt ≤ (60 : Int32).toInt := by
    rw [show (1 : Int64) = (1 : Int32).toInt64 from rfl, show (60 : Int64) = (60 : Int32).toInt64 from rfl, i64_le, i64_le]
  have w2 : (0 : Int64) ≤ z.toInt64 ∧ z.toInt64 ≤ 1 ↔ (0 : Int32).toInt ≤ z.toInt ∧ z.toInt ≤ (1 : Int32).toInt := by
    rw [show (0 : Int64) = (0 : Int32).toInt64 from rfl, show (1 : Int64) = (1 : Int32).toInt64 from rfl, i64_le, i64_le]
  by_cases h1 : (1 : Int32).toInt ≤ y.toInt ∧ y.toInt ≤ (60 : Int32).toInt
  · by_cases h2 : (0 : Int32).toInt ≤ z.toInt ∧ z.toInt ≤ (1 : Int32).toInt
    · refine EqT.e1 (S := S0) (Eqv.query (r := -2) SOK0 hc hm ?_ ?_)
      · simp only [f_Q_wild, f_Q_wild_0, f_Q_wild_19, f_Q_wild_41, Q_isWithin, bd2_s]
        rw [if_pos h1, if_neg (by decide), if_pos h2, if_neg (by decide)]
        simp only [q_now, hRl rl3 v w, bd1_s]
        rw [e1, if_pos (by decide)]
      · simp only [f_M_wild, f_M_wild_0, f_M_wild_22, f_M_wild_38, M_in, bd2_s]
        rw [if_pos (w1.mpr h1), if_neg (by decide), if_pos (w2.mpr h2), if_neg (by decide)]
        simp only [hM v w, bd1_s]
        rw [m1, if_pos rfl]
    · refine EqT.e1 (S := S0) (Eqv.query (r := -1) SOK0 hc hm ?_ ?_)
      · simp only [f_Q_wild, f_Q_wild_0, f_Q_wild_19, Q_isWithin, bd2_s]
        rw [if_pos h1, if_neg (by decide), if_neg h2, if_pos rfl]
      · simp only [f_M_wild, f_M_wild_0, f_M_wild_22, M_in, bd2_s]
        rw [if_pos (w1.mpr h1), if_neg (by decide), if_neg (fun q => h2 (w2.mp q)), if_pos rfl]
  · refine EqT.e1 (S := S0) (Eqv.query (r := -1) SOK0 hc hm ?_ ?_)
    · simp only [f_Q_wild, f_Q_wild_0, f_Q_wild_19, Q_isWithin, bd2_s]
      rw [if_neg h1, if_pos rfl]
    · simp only [f_M_wild, f_M_wild_0, f_M_wild_22, M_in, bd2_s]
      rw [if_neg (fun q => h1 (w1.mp q)), if_pos rfl]
end
theorem fun_claim : FunClaim := by
  intro sc hsc
  obtain ⟨h, v, w, eh, eb, hl, hc, hm⟩ := first
  rw [hl sc]
  have fin : ∀ {i : Nat} (n : Nat) (h2 : mH), i ≤ 320 → sc.1 < i + 5 → f_QuotaLawsLaw_law_18 sc (n + 1) 0 100 (nI i) h2 = some (1, h2) := by
    intro i n h2 hi hlt
    show f_QuotaLawsLaw_law_18b sc (f_QuotaLawsLaw_law_18 sc n) 0 100 (nI i) h2 = _
    unfold f_QuotaLawsLaw_law_18b
    rw [if_pos ((law_cond (by omega) hi).mpr hlt)]
  have k0 : K1 h := by rw [eb]; exact ⟨show 126 ≤ 600000 by decide, show 27134 ≤ 7302250 by decide⟩
  by_cases h5 : 5 ≤ sc.1
  · show ∃ h', f_QuotaLawsLaw_law_18b sc (f_QuotaLawsLaw_law_18 sc 599) 0 100 (nI 0) h = some (1, h') ∧ h'.1 ≤ 600000 ∧ h'.2.1 ≤ 7302250
    have hk : kC h 0 0 = some () := by rw [eb]; rfl
    have T : ∀ {α : Type} {fq fm : mH → Option (α × mH)}, EqT S0 v w fq fm → St h K1 fq fm := fun e => by rw [eb]; exact e.e1
    have G : ∀ {α : Type} {fq fm : mH → Option (α × mH)}, E1 hD fq fm → St h K1 fq fm := fun e => by rw [eh]; exact e
    have B : ∀ {α : Type} {fq fm : mH → Option (α × mH)}, E1 (bh v w) fq fm → St h K1 fq fm := fun e => by rw [eb]; exact e
    have s2 : ∀ x : Int32, St h K1 (f_Q_selfish 0 x) (f_M_selfish 100 x) := by
      intro x
      by_cases hx : 0 ≤ x.toInt ∧ x.toInt < ((2 + 1 : Nat) : Int)
      · obtain ⟨j, hj, rfl⟩ := ix (by omega) hx
        rcases (show j = 0 ∨ j = 1 ∨ j = 2 by omega) with rfl | rfl | rfl
        · exact G k_self0
        · exact G k_self1
        · exact G k_self2
      · exact B (b_selfish hc hm x hx)
    have t2 : ∀ x : Int32, St h K1 (f_Q_together 0 x) (f_M_together 100 x) := by
      intro x
      by_cases hx : 0 ≤ x.toInt ∧ x.toInt < ((1 + 1 : Nat) : Int)
      · obtain ⟨j, hj, rfl⟩ := ix (by omega) hx
        rcases (show j = 0 ∨ j = 1 by omega) with rfl | rfl
        · exact G k_tog0
        · exact G k_tog1
      · exact B (b_together hc hm x hx)
    have r2 : ∀ x : Int32, St h K1 (f_Q_rota 0 x) (f_M_rota 100 x) := by
      intro x
      by_cases hx : x = 0
      · subst hx; exact G k_rota
      · exact B (b_rota hc hm x hx)
    obtain ⟨h2, k2, e2⟩ := step (i := 0) (K := K1) (by omega) (by omega) (f_QuotaLawsLaw_law_18 sc 599) hk k0
      (fun x => T (E_feed x SOK0 hc hm).T) (fun x => T (E_end x SOK0 hc hm).T) (G k_text) (T (E_fault SOK0 hc hm).T) (fun x => T (E_rule x SOK0 hc hm).T) (fun x y => T (E_law x y SOK0 hc hm).T) (fun x y => T (E_one x y SOK0 hc hm).T) (fun x y => T (E_broken x y SOK0 hc hm).T)
      (fun x y => T (E_quota x y SOK0 hc hm).T) (fun x y => T (E_carry x y SOK0 hc hm).T) (fun x y => T (E_watch x y SOK0 hc hm).T) (fun x y => T (E_time x y SOK0 hc hm).T) (fun x y z => T (E_refuse x y z SOK0 hc hm).T) (fun x y z => T (E_want x y z SOK0 hc hm).T) (fun x y => T (E_fund x y SOK0 hc hm).T) (fun x => T (E_revive x SOK0 hc hm).T)
      (fun x y => T (E_breaks x y SOK0 hc hm).T) (T (E_year SOK0 hc hm).T) (T (E_falls SOK0 hc hm).T) (fun x => T (E_most x SOK0 hc hm).T) r2 (fun x => B (b_more hc hm x)) t2 (fun x y => B (b_kill hc hm x y)) s2 (fun x y => B (b_luck hc hm x y)) (fun x y z => T (E_see x y z SOK0 hc hm).T) (fun x => T (E_forget x SOK0 hc hm).T) (G k_books)
      (fun x y z => B (b_entry hc hm x y z)) (fun x y z => B (b_wild hc hm x y z)) (fun x => T (E_keep x SOK0 hc hm).T) (fun x => T (E_back x SOK0 hc hm).T) (fun x y z => T (E_sheet x y z SOK0 hc hm).T) (fun x y z => T (E_lay x y z SOK0 hc hm).T) (fun x y z t => T (E_read x y z t SOK0 hc hm).T) (T (E_torn SOK0 hc hm rfl).T) (fun x => T (E_count x SOK0 hc hm).T)
    refine ⟨h2, ?_, k2.1, k2.2⟩
    rw [e2]
    exact fin (i := 0 + 5) 598 h2 (by omega) (by omega)
  · exact ⟨h, fin (i := 0) 599 h (by omega) (by omega), k0.1, k0.2⟩
