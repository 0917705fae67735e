/-! the law's loop: printed by wip/gen/gen_loop.py -/
theorem Fi_torn {S : Sg} {v : Nat → Nat → Int32} {w : Nat → Nat → Int64} (hs : SOK S) (hc : CI S v) (hm : MI S v) : FiT S v w (f_Q_torn 0) (f_M_torn 100) := by
  refine FiT.q (r := zI (S.2.2 7 0)) (r' := zI (S.2.2 8 0)) (v1 := v) (v2 := v) (w1 := w) (w2 := w) hs hc hm ?_ (fun _ _ => rfl) ?_ (fun _ _ => rfl)
  · simp only [f_Q_torn, f_Q_torn_0, hQ v w, bd1_s]
    rw [hc.2.2.2.2.2.2.1]
  · simp only [f_M_torn, f_M_torn_0, hM v w, bd1_s]
    rw [hm.2.2.2.2.2.2]
def KK (h : mH) : Prop := ∃ (S : Sg) (v : Nat → Nat → Int32) (w : Nat → Nat → Int64), h = bh v w ∧ SOK S ∧ CI S v ∧ MI S v
theorem EqT.st {α : Type} {S : Sg} {v : Nat → Nat → Int32} {w : Nat → Nat → Int64} {fq fm : mH → Option (α × mH)} (e : EqT S v w fq fm) : St (bh v w) KK fq fm := by
  obtain ⟨r, v1, w1, v2, w2, S', e1, e2, e3, e4, e5⟩ := e
  exact ⟨r, bh v1 w1, bh v2 w2, e1, rfl, e2, S', v2, w2, rfl, e3, e4, e5⟩
theorem FiT.sf {α : Type} {S : Sg} {v : Nat → Nat → Int32} {w : Nat → Nat → Int64} {fq fm : mH → Option (α × mH)} (e : FiT S v w fq fm) : Sf (bh v w) KK fq fm := by
  obtain ⟨r, r', v1, w1, v2, w2, S', e1, e2, e3, e4, e5⟩ := e
  exact ⟨r, r', bh v1 w1, bh v2 w2, e1, rfl, e2, S', v2, w2, rfl, e3, e4, e5⟩
theorem turn {sc : Nat × (Nat → Int32)} {i : Nat} (hi : i + 5 ≤ sc.1) (hN : sc.1 ≤ 320) (rec : Nat → Nat → Int32 → mH → Option (Int32 × mH)) {h : mH} (hK : KK h) : ∃ h2, KK h2 ∧ f_QuotaLawsLaw_law_18b sc rec 0 100 (nI i) h = rec 0 100 (nI (i + 5)) h2 := by
  obtain ⟨S, v, w, rfl, hs, hc, hm⟩ := hK
  refine step hi hN rec rfl ⟨S, v, w, rfl, hs, hc, hm⟩ ?_ ?_ ?_ ?_ ?_ ?_ ?_ ?_ ?_ ?_ ?_ ?_ ?_ ?_ ?_ ?_ ?_ ?_ ?_ ?_ ?_ ?_ ?_ ?_ ?_ ?_ ?_ ?_ ?_ ?_ ?_ ?_ ?_ ?_ ?_ ?_ ?_ ?_
  · exact fun x => St.f (EqT.st (Eqv.T (E_feed x hs hc hm)))
  · exact fun x => St.f (EqT.st (Eqv.T (E_end x hs hc hm)))
  · exact St.f (EqT.st (Eqv.T (E_text hs hc hm)))
  · exact St.f (EqT.st (Eqv.T (E_fault hs hc hm)))
  · exact fun x => St.f (EqT.st (Eqv.T (E_rule x hs hc hm)))
  · exact fun x y => St.f (EqT.st (Eqv.T (E_law x y hs hc hm)))
  · exact fun x y => St.f (EqT.st (Eqv.T (E_one x y hs hc hm)))
  · exact fun x y => St.f (EqT.st (Eqv.T (E_broken x y hs hc hm)))
  · exact fun x y => St.f (EqT.st (Eqv.T (E_quota x y hs hc hm)))
  · exact fun x y => St.f (EqT.st (Eqv.T (E_carry x y hs hc hm)))
  · exact fun x y => St.f (EqT.st (Eqv.T (E_watch x y hs hc hm)))
  · exact fun x y => St.f (EqT.st (Eqv.T (E_time x y hs hc hm)))
  · exact fun x y z => St.f (EqT.st (Eqv.T (E_refuse x y z hs hc hm)))
  · exact fun x y z => St.f (EqT.st (Eqv.T (E_want x y z hs hc hm)))
  · exact fun x y => St.f (EqT.st (Eqv.T (E_fund x y hs hc hm)))
  · exact fun x => EqT.st (Eqv.T (E_revive x hs hc hm))
  · exact fun x y => St.f (EqT.st (Eqv.T (E_breaks x y hs hc hm)))
  · exact St.f (EqT.st (Eqv.T (E_year hs hc hm)))
  · exact St.f (EqT.st (Eqv.T (E_falls hs hc hm)))
  · exact fun x => St.f (EqT.st (Eqv.T (E_most x hs hc hm)))
  · exact fun x => St.f (EqT.st (E_rota x hs hc hm))
  · exact fun x => FiT.sf (Fi_more x hs hc hm)
  · exact fun x => FiT.sf (Fi_together x hs hc hm)
  · exact fun x y => St.f (EqT.st (Eqv.T (E_kill x y hs hc hm)))
  · exact fun x => St.f (EqT.st (Eqv.T (E_selfish x hs hc hm)))
  · exact fun x y => St.f (EqT.st (E_luck x y hs hc hm))
  · exact fun x y z => St.f (EqT.st (Eqv.T (E_see x y z hs hc hm)))
  · exact fun x => St.f (EqT.st (Eqv.T (E_forget x hs hc hm)))
  · exact FiT.sf (Fi_books hs hc hm)
  · exact fun x y z => FiT.sf (Fi_entry x y z hs hc hm)
  · exact fun x y z => St.f (EqT.st (Eqv.T (E_wild x y z hs hc hm)))
  · exact fun x => St.f (EqT.st (Eqv.T (E_keep x hs hc hm)))
  · exact fun x => St.f (EqT.st (Eqv.T (E_back x hs hc hm)))
  · exact fun x y z => St.f (EqT.st (Eqv.T (E_sheet x y z hs hc hm)))
  · exact fun x y z => St.f (EqT.st (Eqv.T (E_lay x y z hs hc hm)))
  · exact fun x y z t => St.f (EqT.st (Eqv.T (E_read x y z t hs hc hm)))
  · exact FiT.sf (Fi_torn hs hc hm)
  · exact fun x => St.f (EqT.st (Eqv.T (E_count x hs hc hm)))
theorem fun_claim : FunClaim := by
  intro sc hsc
  have hN : sc.1 ≤ 320 := hsc
  obtain ⟨h, v, w, -, eb, hl, hc, hm⟩ := first
  rw [hl sc]
  have fin : ∀ {i : Nat} (n : Nat) (h2 : mH), i ≤ 320 → sc.1 < i + 5 → KK h2 → ∃ h', f_QuotaLawsLaw_law_18 sc (n + 1) 0 100 (nI i) h2 = some (1, h') ∧ h'.1 ≤ 600000 ∧ h'.2.1 ≤ 7302250 := by
    intro i n h2 hi hlt hK
    obtain ⟨S, v, w, rfl, -⟩ := hK
    refine ⟨bh v w, ?_, show 126 ≤ 600000 by decide, show 27134 ≤ 7302250 by decide⟩
    show f_QuotaLawsLaw_law_18b sc (f_QuotaLawsLaw_law_18 sc n) 0 100 (nI i) (bh v w) = _
    unfold f_QuotaLawsLaw_law_18b
    rw [if_pos ((law_cond hN hi).mpr hlt)]
  have key : ∀ (k fuel i : Nat) (h : mH), k < fuel → i ≤ 320 → sc.1 < i + 5 * k + 5 → KK h → ∃ h', f_QuotaLawsLaw_law_18 sc fuel 0 100 (nI i) h = some (1, h') ∧ h'.1 ≤ 600000 ∧ h'.2.1 ≤ 7302250 := by
    intro k
    induction k with
    | zero =>
      intro fuel i h hf hi hlt hK
      obtain ⟨n, rfl⟩ : ∃ n, fuel = n + 1 := ⟨fuel - 1, by omega⟩
      exact fin n h hi (by omega) hK
    | succ k ih =>
      intro fuel i h hf hi hlt hK
      obtain ⟨n, rfl⟩ : ∃ n, fuel = n + 1 := ⟨fuel - 1, by omega⟩
      by_cases c : i + 5 ≤ sc.1
      · obtain ⟨h2, k2, e2⟩ := turn c hN (f_QuotaLawsLaw_law_18 sc n) hK
        show ∃ h', f_QuotaLawsLaw_law_18b sc (f_QuotaLawsLaw_law_18 sc n) 0 100 (nI i) h = some (1, h') ∧ _
        rw [e2]
        exact ih n (i + 5) h2 (by omega) (by omega) (by omega) k2
      · exact fin n h hi (by omega) hK
  rw [show (0 : Int32) = nI 0 from rfl]
  exact key 64 FU 0 h (by decide) (by decide) (by omega) ⟨S0, v, w, eb, SOK0, hc, hm⟩
