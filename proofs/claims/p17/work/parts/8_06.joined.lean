/-! 8o.self2.lean.txt -/
section
def rnd1 (p : Nat) (s : Rho × Nat × Nat) : Rho × Nat × Nat := if mnd s.1 p (s.1 0 0) = 0 then s else (bro s.1 p (mnd s.1 p (s.1 0 0) - 1), s.2.1 + 1, s.2.2 + sHurt s.1 p (mnd s.1 p (s.1 0 0) - 1))
def rndK : Nat → Nat → Rho × Nat × Nat → Rho × Nat × Nat
  | 0, _, s => s
  | k + 1, p, s => rndK k (p + 1) (rnd1 p s)
def slf : Nat → Rho × Nat × Nat → Rho × Nat × Nat
  | 0, s => s
  | f + 1, s => if (rndK (s.1 0 1) 0 s).2.1 = s.2.1 then rndK (s.1 0 1) 0 s else slf f (rndK (s.1 0 1) 0 s)
/-- what a round keeps -/
def rkp (s t : Rho × Nat × Nat) : Prop := ROK t.1 ∧ t.1 0 0 = s.1 0 0 ∧ t.1 0 1 = s.1 0 1 ∧ t.1 0 3 = s.1 0 3 ∧ t.2.1 + sLs t.1 = s.2.1 + sLs s.1 ∧ s.2.1 ≤ t.2.1
theorem rnd1_ok {p : Nat} {s : Rho × Nat × Nat} (hk : ROK s.1) (hp : p < s.1 0 1) : rkp s (rnd1 p s) := by
  unfold rnd1
  by_cases h : mnd s.1 p (s.1 0 0) = 0
  · rw [if_pos h]; exact ⟨hk, rfl, rfl, rfl, rfl, Nat.le_refl _⟩
  · rw [if_neg h]
    have ml := mnd_le s.1 p (s.1 0 0)
    have hl : mnd s.1 p (s.1 0 0) - 1 < s.1 0 0 := by omega
    have ht := (ml.2 h).1
    have e := sLs_bro hk hp hl ht
    refine ⟨ROK_bro hk hp hl ht, rfl, rfl, rfl, ?_, Nat.le_succ _⟩
    show s.2.1 + 1 + sLs (bro s.1 p (mnd s.1 p (s.1 0 0) - 1)) = _
    omega
theorem rkp.tr {a b c : Rho × Nat × Nat} (x : rkp a b) (y : rkp b c) : rkp a c :=
  ⟨y.1, y.2.1.trans x.2.1, y.2.2.1.trans x.2.2.1, y.2.2.2.1.trans x.2.2.2.1, y.2.2.2.2.1.trans x.2.2.2.2.1, Nat.le_trans x.2.2.2.2.2 y.2.2.2.2.2⟩
theorem rndK_ok : ∀ (k p : Nat) (s : Rho × Nat × Nat), ROK s.1 → p + k ≤ s.1 0 1 → rkp s (rndK k p s)
  | 0, _, s, hk, _ => ⟨hk, rfl, rfl, rfl, rfl, Nat.le_refl _⟩
  | k + 1, p, s, hk, h => by
    have r := rnd1_ok (p := p) hk (by omega)
    exact r.tr (rndK_ok k (p + 1) (rnd1 p s) r.1 (by rw [r.2.2.1]; omega))
theorem slf_ok : ∀ (f : Nat) (s : Rho × Nat × Nat), ROK s.1 → rkp s (slf f s)
  | 0, s, hk => ⟨hk, rfl, rfl, rfl, rfl, Nat.le_refl _⟩
  | f + 1, s, hk => by
    have r := rndK_ok (s.1 0 1) 0 s hk (by omega)
    unfold slf
    split
    · exact r
    · exact r.tr (slf_ok f _ r.1)
section
variable {ρ : Rho} {v : Nat → Nat → Int32} {w : Nat → Nat → Int64} {o c : Nat}
theorem CRq_done {x : Nat} (h : CRq c o ρ v) : CRq (c + x) o ρ (u2 v o 3 (nI (ρ 0 3 + c + x))) := by
  obtain ⟨⟨a0, a1, a2, a3, a4, a5, a6⟩, h2, h3, h4, h5⟩ := h
  refine ⟨⟨(u2_n (by decide)).trans a0, (u2_n (by decide)).trans a1, (u2_n (by decide)).trans a2, ?_, (u2_n (by decide)).trans a4, (u2_n (by decide)).trans a5, (congrFun (u2_o (by omega)) 0).trans a6⟩, ?_, ?_, ?_, ?_⟩
  · rw [u2_at, Nat.add_assoc]
  · rw [u2_o (show o + 1 ≠ o by omega), u2_o (show o + 2 ≠ o by omega), u2_o (show o + 3 ≠ o by omega), u2_o (show o + 4 ≠ o by omega), u2_o (show o + 5 ≠ o by omega)]; exact h2
  · rw [u2_o (show o + 6 ≠ o by omega), u2_o (show o + 7 ≠ o by omega), u2_o (show o + 8 ≠ o by omega), u2_o (show o + 9 ≠ o by omega), u2_o (show o + 10 ≠ o by omega), u2_o (show o + 11 ≠ o by omega)]; exact h3
  · rw [u2_o (show o + 12 ≠ o by omega)]; exact h4
  · rw [u2_o (show o + 14 ≠ o by omega), u2_o (show o + 15 ≠ o by omega), u2_o (show o + 16 ≠ o by omega)]; exact h5
theorem D_mark (ho : rl o) (hr : CRq c o ρ v) (hk : ROK ρ) {p l : Nat} (hp : p < ρ 0 1) (hl : l < ρ 0 0) : ∃ v', f_Realm_mark o (nI p) (nI l) (bh v w) = some (nI (sHurt ρ p l), bh v' w) ∧ CRq (c + sHurt ρ p l) o (bro ρ p l) v' ∧ ∀ q, q < o ∨ o + 17 ≤ q → v' q = v q := by
  have h1 := hk.1.1
  have h2 := hk.1.2.1
  simp only [f_Realm_mark, f_Realm_mark_0, hRl ho v w, bd1_s]
  rw [rd_nI (by omega) (by decide), bd1_s, rd_nI (by omega) (by decide), bd1_s, (hr.2.1 l hl).2.2.1, (hr.2.2.1 p hp).2.1, nI_add, show (nI p * (5 : Int32)) + nI l = nI (5 * p + l) by rw [show (5 : Int32) = nI 5 from rfl, pk_mul, nI_add, Nat.mul_comm p 5]]
  rw [rd_nI (by omega) (by decide), bd1_s, hr.2.2.2.1 p l hp hl, nI_1, wr_nI (by omega) (by decide), bd1_s]
  have c1 := CRq_broke (x := ρ 12 (5 * p + l) + 1) hp hl hr h1
  simp only [hRl ho (u2 v (o + 12) (5 * p + l) (nI (ρ 12 (5 * p + l) + 1))) w, bd1_s]
  rw [c1.1.2.2.2.1, nI_add]
  refine ⟨_, rfl, CRq_done (x := sHurt ρ p l) c1, fun q hq => ?_⟩
  rw [u2_o (by omega), u2_o (by omega)]
theorem D_met (ho : rl o) (hr : CRq c o ρ v) (hk : ROK ρ) : f_Realm_met o (bh v w) = some (nI (orN (fun l => if sNeed ρ l = 0 then 2 ^ l else 0) (ρ 0 0) &&& ρ 0 4), bh v w) := by
  have h1 := hk.1.1
  have key : ∀ (k fuel l : Nat), k < fuel → l + k = ρ 0 0 → f_Realm_met_4 fuel o (nI (orN (fun l => if sNeed ρ l = 0 then 2 ^ l else 0) l)) (nI l) (bh v w) = some (nI (orN (fun l => if sNeed ρ l = 0 then 2 ^ l else 0) (ρ 0 0) &&& ρ 0 4), bh v w) := by
    intro k
    induction k with
    | zero =>
      intro fuel l hf hl
      obtain ⟨n, rfl⟩ : ∃ n, fuel = n + 1 := ⟨fuel - 1, by omega⟩
      simp only [f_Realm_met_4, f_Realm_met_4b, hRl ho v w, bd1_s]
      rw [hr.1.1, if_pos (nI_le (by omega) (by omega)), hr.1.2.2.2.2.1, and_I, show l = ρ 0 0 by omega]
    | succ k ih =>
      intro fuel l hf hl
      obtain ⟨n, rfl⟩ : ∃ n, fuel = n + 1 := ⟨fuel - 1, by omega⟩
      have hl2 : l < ρ 0 0 := by omega
      have hn := sNeed_le hk hl2
      simp only [f_Realm_met_4, f_Realm_met_4b, f_Realm_met_28, hRl ho v w, bd1_s]
      have e2 : orN (fun l => if sNeed ρ l = 0 then 2 ^ l else 0) (l + 1) = orN (fun l => if sNeed ρ l = 0 then 2 ^ l else 0) l ||| (if sNeed ρ l = 0 then 2 ^ l else 0) := rfl
      have ih2 := ih n (l + 1) (by omega) (by omega)
      rw [hr.1.1, if_neg (nI_ge (by omega) (by omega)), D_needOf ho hr hk hl2, bd2_s, ite_iff (nI_eq0 (by omega))]
      by_cases z : sNeed ρ l = 0
      · rw [if_pos z, nI_1, shl_I (by omega), or_I]
        rw [e2, if_pos z] at ih2
        exact ih2
      · rw [if_neg z, nI_1, show (0 : Int32) = nI 0 from rfl, or_I]
        rw [e2, if_neg z] at ih2
        exact ih2
  exact key (ρ 0 0) FU 0 (by unfold FU; omega) (by omega)
/-- the class's round -/
theorem C_rnd (rec : Nat → Int32 → Int32 → mH → Option (Int32 × mH)) (r b : Int32) : ∀ (k fuel p : Nat) (s : Rho × Nat × Nat) (v : Nat → Nat → Int32), k < fuel → p + k = s.1 0 1 → CRq s.2.2 20 s.1 v → ROK s.1 → ∃ v', f_Realm_eachForHimself_15 rec fuel 20 (nI s.2.1) r b (nI p) (bh v w) = (if nI (rndK k p s).2.1 = b then some (nI (rndK k p s).2.1, bh v' w) else rec 20 (nI (rndK k p s).2.1) (r + 1) (bh v' w)) ∧ CRq (rndK k p s).2.2 20 (rndK k p s).1 v' ∧ ∀ q, q < 20 ∨ 37 ≤ q → v' q = v q := by
  intro k
  induction k with
  | zero =>
    intro fuel p s v hf hp hr hk
    obtain ⟨n, rfl⟩ : ∃ n, fuel = n + 1 := ⟨fuel - 1, by omega⟩
    have h2 := hk.1.2.1
    refine ⟨v, ?_, hr, fun _ _ => rfl⟩
    show f_Realm_eachForHimself_15b rec (f_Realm_eachForHimself_15 rec n) 20 (nI s.2.1) r b (nI p) (bh v w) = _
    unfold f_Realm_eachForHimself_15b f_Realm_eachForHimself_71
    simp only [hRl rl20 v w, bd1_s]
    rw [hr.1.2.1, if_pos (nI_le (by omega) (by omega))]
    rfl
  | succ k ih =>
    intro fuel p s v hf hp hr hk
    obtain ⟨n, rfl⟩ : ∃ n, fuel = n + 1 := ⟨fuel - 1, by omega⟩
    have h1 := hk.1.1
    have h2 := hk.1.2.1
    have hpp : p < s.1 0 1 := by omega
    have rk := rnd1_ok (p := p) hk hpp
    have ml := mnd_le s.1 p (s.1 0 0)
    have e0 : rndK (k + 1) p s = rndK k (p + 1) (rnd1 p s) := rfl
    rw [e0]
    show ∃ v', f_Realm_eachForHimself_15b rec (f_Realm_eachForHimself_15 rec n) 20 (nI s.2.1) r b (nI p) (bh v w) = _ ∧ _
    unfold f_Realm_eachForHimself_15b f_Realm_eachForHimself_51
    simp only [hRl rl20 v w, bd1_s]
    rw [hr.1.2.1, if_neg (nI_ge (by omega) (by omega)), D_mostNeeded rl20 hr hk hpp, bd2_s]
    by_cases h : mnd s.1 p (s.1 0 0) = 0
    · have e1 : rnd1 p s = s := by unfold rnd1; rw [if_pos h]
      rw [if_pos ((cI_4 (by omega)).mpr h), nI_1, e1]
      exact ih n (p + 1) s v (by omega) (by omega) hr hk
    · obtain ⟨l, hl⟩ : ∃ l, mnd s.1 p (s.1 0 0) = l + 1 := ⟨mnd s.1 p (s.1 0 0) - 1, by omega⟩
      have e1 : rnd1 p s = (bro s.1 p l, s.2.1 + 1, s.2.2 + sHurt s.1 p l) := by unfold rnd1; rw [if_neg h, hl]; rfl
      obtain ⟨v1, a1, a2, a3⟩ := D_mark (w := w) rl20 hr hk hpp (show l < s.1 0 0 by omega)
      rw [if_neg (fun q => h ((cI_4 (by omega)).mp q)), hl, cI_s]
      simp only [hRl rl20 v w, bd1_s]
      rw [a1, bd2_s, nI_1, nI_1]
      rw [e1] at rk ⊢
      obtain ⟨v', b1, b2, b3⟩ := ih n (p + 1) (bro s.1 p l, s.2.1 + 1, s.2.2 + sHurt s.1 p l) v1 (by omega) (by rw [rk.2.2.1]; omega) a2 rk.1
      exact ⟨v', b1, b2, fun q hq => (b3 q hq).trans (a3 q (by omega))⟩
theorem C_slf : ∀ (F fuel r : Nat) (s : Rho × Nat × Nat) (v : Nat → Nat → Int32), sLs s.1 < F → F < fuel → r ≤ s.2.1 → s.2.1 + sLs s.1 ≤ 15 → CRq s.2.2 20 s.1 v → ROK s.1 → ∃ v', f_Realm_eachForHimself_4 fuel 20 (nI s.2.1) (nI r) (bh v w) = some (nI (slf F s).2.1, bh v' w) ∧ CRq (slf F s).2.2 20 (slf F s).1 v' ∧ ∀ q, q < 20 ∨ 37 ≤ q → v' q = v q := by
  intro F
  induction F with
  | zero => intro fuel r s v h; omega
  | succ F ih =>
    intro fuel r s v hF hf hr h15 hc hk
    obtain ⟨n, rfl⟩ : ∃ n, fuel = n + 1 := ⟨fuel - 1, by omega⟩
    have h2 := hk.1.2.1
    have rk := rndK_ok (s.1 0 1) 0 s hk (by omega)
    obtain ⟨v1, a1, a2, a3⟩ := C_rnd (w := w) (f_Realm_eachForHimself_4 n) (nI r) (nI s.2.1) (s.1 0 1) FU 0 s v (by unfold FU; omega) (by omega) hc hk
    show ∃ v', f_Realm_eachForHimself_4b (f_Realm_eachForHimself_4 n) 20 (nI s.2.1) (nI r) (bh v w) = _ ∧ _
    unfold f_Realm_eachForHimself_4b
    rw [show (15 : Int32) = nI 15 from rfl, if_neg (fun q => by have := (nI_ltI (by omega) (by omega)).mp q; omega), show (0 : Int32) = nI 0 from rfl, a1]
    have rm := rk.2.2.2.2.1
    have rl := rk.2.2.2.2.2
    unfold slf
    by_cases e : (rndK (s.1 0 1) 0 s).2.1 = s.2.1
    · rw [if_pos (by rw [e]), if_pos e]
      exact ⟨v1, rfl, a2, a3⟩
    · rw [if_neg (fun q => e ((nI_eqI (by omega) (by omega)).mp q)), if_neg e, nI_1]
      obtain ⟨v', b1, b2, b3⟩ := ih n (r + 1) (rndK (s.1 0 1) 0 s) v1 (by omega) (by omega) (by omega) (by omega) a2 rk.1
      exact ⟨v', b1, b2, fun q hq => (b3 q hq).trans (a3 q hq)⟩
/-- the reference's round -/
theorem M_rnd (rec : Nat → Int32 → Int32 → Int32 → Int32 → mH → Option (Int32 × mH)) (x : Int32) : ∀ (k fuel p : Nat) (s : Rho × Nat × Nat) (on : Int32) (v : Nat → Nat → Int32), k < fuel → p + k = s.1 0 1 → MR s.1 v → ROK s.1 → ∃ v', f_M_selfish_36 rec fuel 100 x (nI s.2.1) (nI s.2.2) on (nI p) (bh v w) = rec 100 x (nI (rndK k p s).2.1) (nI (rndK k p s).2.2) (if (rndK k p s).2.1 = s.2.1 then on else 1) (bh v' w) ∧ MR (rndK k p s).1 v' ∧ (∀ q, q ≠ 101 → v' q = v q) ∧ ∀ j, 66 ≤ j → v' 101 j = v 101 j := by
  intro k
  induction k with
  | zero =>
    intro fuel p s on v hf hp hr hk
    obtain ⟨n, rfl⟩ : ∃ n, fuel = n + 1 := ⟨fuel - 1, by omega⟩
    have h2 := hk.1.2.1
    refine ⟨v, ?_, hr, fun _ _ => rfl, fun _ _ => rfl⟩
    show f_M_selfish_36b rec (f_M_selfish_36 rec n) 100 x (nI s.2.1) (nI s.2.2) on (nI p) (bh v w) = _
    unfold f_M_selfish_36b
    simp only [hM v w, bd1_s]
    rw [hr.1.2.1, if_pos (nI_le (by omega) (by omega)), if_pos (show (rndK 0 p s).2.1 = s.2.1 from rfl)]
    rfl
  | succ k ih =>
    intro fuel p s on v hf hp hr hk
    obtain ⟨n, rfl⟩ : ∃ n, fuel = n + 1 := ⟨fuel - 1, by omega⟩
    have h1 := hk.1.1
    have h2 := hk.1.2.1
    have hS := hk.1.2.2.2.2.2.2
    have hpp : p < s.1 0 1 := by omega
    have rk := rnd1_ok (p := p) hk hpp
    have ml := mnd_le s.1 p (s.1 0 0)
    have e0 : rndK (k + 1) p s = rndK k (p + 1) (rnd1 p s) := rfl
    rw [e0]
    show ∃ v', f_M_selfish_36b rec (f_M_selfish_36 rec n) 100 x (nI s.2.1) (nI s.2.2) on (nI p) (bh v w) = _ ∧ _
    unfold f_M_selfish_36b f_M_selfish_103
    simp only [hM v w, bd1_s]
    rw [hr.1.2.1, if_neg (nI_ge (by omega) (by omega)), M_wantedBy hr hk hpp, bd2_s]
    by_cases h : mnd s.1 p (s.1 0 0) = 0
    · have e1 : rnd1 p s = s := by unfold rnd1; rw [if_pos h]
      rw [if_pos ((cI_4 (by omega)).mpr h), nI_1, e1]
      exact ih n (p + 1) s on v (by omega) (by omega) hr hk
    · obtain ⟨l, hl⟩ : ∃ l, mnd s.1 p (s.1 0 0) = l + 1 := ⟨mnd s.1 p (s.1 0 0) - 1, by omega⟩
      have hll : l < s.1 0 0 := by omega
      have e1 : rnd1 p s = (bro s.1 p l, s.2.1 + 1, s.2.2 + sHurt s.1 p l) := by unfold rnd1; rw [if_neg h, hl]; rfl
      have i24 : ((24 : Int32) + (5 : Int32) * nI p) + nI l = nI (24 + 5 * p + l) := by rw [show (24 : Int32) = nI 24 from rfl, show (5 : Int32) = nI 5 from rfl, pk_mul, nI_add, nI_add]
      have a12 : v 101 (24 + 5 * p + l) = nI (s.1 12 (5 * p + l)) := by have := hr.2.2.2.2.2.2.2.2.2.1 p l hpp hll; rwa [show 0 + 24 + 5 * p + l = 24 + 5 * p + l by omega] at this
      have m1 := MB_broke (x := s.1 12 (5 * p + l) + 1) h1 h2 hS hpp hll hr.2
      have mf := MF_u (k := 24 + 5 * p + l) (x := nI (s.1 12 (5 * p + l) + 1)) (ρ' := bro s.1 p l) hr.1 rfl rfl rfl rfl rfl rfl rfl
      rw [if_neg (fun q => h ((cI_4 (by omega)).mp q)), hl, cI_s, i24]
      simp only [hM v w, bd1_s]
      rw [rd_nI (by omega) (by decide), bd1_s, a12, nI_1, wr_nI (by omega) (by decide), bd1_s]
      simp only [hM (u2 v 101 (24 + 5 * p + l) (nI (s.1 12 (5 * p + l) + 1))) w, bd1_s]
      rw [rd_nI (by omega) (by decide), bd1_s, rd_nI (by omega) (by decide), bd1_s, (mf.2.2.1 l hll).2.1, (mf.2.2.2 p hpp).1]
      have eh : nI (bro s.1 p l 3 l) + nI (bro s.1 p l 7 p) = nI (sHurt s.1 p l) := nI_add _ _
      rw [eh, nI_1, nI_1, nI_add]
      rw [e1] at rk ⊢
      obtain ⟨v', b1, b2, b3, b4⟩ := ih n (p + 1) (bro s.1 p l, s.2.1 + 1, s.2.2 + sHurt s.1 p l) 1 (u2 v 101 (24 + 5 * p + l) (nI (s.1 12 (5 * p + l) + 1))) (by omega) (by rw [rk.2.2.1]; omega) ⟨mf, m1⟩ rk.1
      have rk2 := rndK_ok k (p + 1) (bro s.1 p l, s.2.1 + 1, s.2.2 + sHurt s.1 p l) rk.1 (by rw [rk.2.2.1]; omega)
      have g := rk2.2.2.2.2.2
      have g : s.2.1 + 1 ≤ (rndK k (p + 1) (bro s.1 p l, s.2.1 + 1, s.2.2 + sHurt s.1 p l)).2.1 := g
      refine ⟨v', ?_, b2, fun q hq => (b3 q hq).trans (u2_o hq), fun j hj => (b4 j hj).trans (u2_n (by omega))⟩
      rw [b1, if_neg (show ¬ (rndK k (p + 1) (bro s.1 p l, s.2.1 + 1, s.2.2 + sHurt s.1 p l)).2.1 = s.2.1 by omega)]
      congr 1
      split <;> rfl
theorem M_slf (x : Int32) : ∀ (F fuel : Nat) (s : Rho × Nat × Nat) (v : Nat → Nat → Int32), sLs s.1 < F → F + 1 < fuel → MR s.1 v → ROK s.1 → ∃ v', f_M_selfish_25 fuel 100 x (nI s.2.1) (nI s.2.2) 1 (bh v w) = f_M_selfish_118 FU 100 x (nI (slf F s).2.1) (nI (slf F s).2.2) 0 0 (bh v' w) ∧ MR (slf F s).1 v' ∧ (∀ q, q ≠ 101 → v' q = v q) ∧ ∀ j, 66 ≤ j → v' 101 j = v 101 j := by
  intro F
  induction F with
  | zero => intro fuel s v h; omega
  | succ F ih =>
    intro fuel s v hF hf hr hk
    obtain ⟨n, rfl⟩ : ∃ n, fuel = n + 1 + 1 := ⟨fuel - 2, by omega⟩
    have rk := rndK_ok (s.1 0 1) 0 s hk (by omega)
    have h2 := hk.1.2.1
    obtain ⟨v1, a1, a2, a3, a4⟩ := M_rnd (w := w) (f_M_selfish_25 (n + 1)) x (s.1 0 1) FU 0 s 0 v (by unfold FU; omega) (by omega) hr hk
    show ∃ v', f_M_selfish_25b (f_M_selfish_25 (n + 1)) 100 x (nI s.2.1) (nI s.2.2) 1 (bh v w) = _ ∧ _
    unfold f_M_selfish_25b
    rw [if_neg (by decide)]
    have a1' : f_M_selfish_36 (f_M_selfish_25 (n + 1)) FU 100 x (nI s.2.1) (nI s.2.2) 0 0 (bh v w) = _ := a1
    rw [a1']
    have rm := rk.2.2.2.2.1
    have rl := rk.2.2.2.2.2
    unfold slf
    by_cases e : (rndK (s.1 0 1) 0 s).2.1 = s.2.1
    · rw [if_pos e, if_pos e]
      refine ⟨v1, ?_, a2, a3, a4⟩
      show f_M_selfish_25b (f_M_selfish_25 n) 100 x _ _ 0 (bh v1 w) = _
      unfold f_M_selfish_25b
      rw [if_pos rfl]
    · rw [if_neg e, if_neg e]
      obtain ⟨v', b1, b2, b3, b4⟩ := ih (n + 1) (rndK (s.1 0 1) 0 s) v1 (by omega) (by omega) a2 rk.1
      exact ⟨v', b1, b2, fun q hq => (b3 q hq).trans (a3 q hq), fun j hj => (b4 j hj).trans (a4 j hj)⟩
end
end
/-! 8p.self3.lean.txt -/
section
theorem sub_done (a d : Nat) : nI (a + d) - nI a = nI d := by
  rw [← zI_n, zI_subn, ← zI_n]
  congr 1
  omega
def sMet (ρ : Rho) : Nat := orN (fun l => if bit (ρ 0 4) l = 1 ∧ sNeed ρ l = 0 then 2 ^ l else 0) (ρ 0 0)
section
variable {ρ : Rho} {v : Nat → Nat → Int32} {w : Nat → Nat → Int64}
theorem M_118 (hr : MR ρ v) (hk : ROK ρ) (x m d : Int32) : ∃ v', f_M_selfish_118 FU 100 x m d 0 0 (bh v w) = some (if x = 0 then nI (sMet ρ) else if x = 1 then m else d, bh v' w) ∧ (∀ q, q ≠ 101 → v' q = v q) ∧ (∀ j, j < 66 → v' 101 j = v 119 j) ∧ ∀ j, 66 ≤ j → v' 101 j = v 101 j := by
  have h1 := hk.1.1
  have hst := hk.st
  obtain ⟨v1, e1, f1, g1, k1⟩ := M_returns v w
  refine ⟨v1, ?_, f1, g1, k1⟩
  have z0 : ∀ l, l < 5 → (0 : Int32) <<< (nI l &&& 31) = nI 0 := by decide
  have fl0 : ∀ h : mH, f_M_flag 0 h = some (0, h) := fun _ => rfl
  have fl1 : ∀ h : mH, f_M_flag 1 h = some (1, h) := fun _ => rfl
  have key : ∀ (k fuel l : Nat), k < fuel → l + k = ρ 0 0 → f_M_selfish_118 fuel 100 x m d (nI (orN (fun l => if bit (ρ 0 4) l = 1 ∧ sNeed ρ l = 0 then 2 ^ l else 0) l)) (nI l) (bh v w) = some (if x = 0 then nI (sMet ρ) else if x = 1 then m else d, bh v1 w) := by
    intro k
    induction k with
    | zero =>
      intro fuel l hf hl
      obtain ⟨n, rfl⟩ : ∃ n, fuel = n + 1 := ⟨fuel - 1, by omega⟩
      simp only [f_M_selfish_118, f_M_selfish_118b, hM v w, bd1_s]
      rw [hr.1.1, if_pos (nI_le (by omega) (by omega)), e1, bd1_s, show l = ρ 0 0 by omega]
      unfold sMet
      split
      · rfl
      · split <;> rfl
    | succ k ih =>
      intro fuel l hf hl
      obtain ⟨n, rfl⟩ : ∃ n, fuel = n + 1 := ⟨fuel - 1, by omega⟩
      have hl2 : l < ρ 0 0 := by omega
      have hn := sNeed_le hk hl2
      have e2 : orN (fun l => if bit (ρ 0 4) l = 1 ∧ sNeed ρ l = 0 then 2 ^ l else 0) (l + 1) = orN (fun l => if bit (ρ 0 4) l = 1 ∧ sNeed ρ l = 0 then 2 ^ l else 0) l ||| (if bit (ρ 0 4) l = 1 ∧ sNeed ρ l = 0 then 2 ^ l else 0) := rfl
      have ih2 := ih n (l + 1) (by omega) (by omega)
      simp only [f_M_selfish_118, f_M_selfish_118b, f_M_selfish_151, f_M_selfish_152, fl0, fl1, bd2_s, hM v w, bd1_s]
      rw [hr.1.1, if_neg (nI_ge (by omega) (by omega)), M_doesStand hr.2 (by omega) (by omega), bd2_s]
      rcases bit_01 (ρ 0 4) l with g | g
      · rw [g, if_pos (show nI 0 = 0 from rfl), z0 l (by omega), or_I, nI_1]
        rw [e2, if_neg (fun q => by omega)] at ih2
        exact ih2
      · rw [g, if_neg (show ¬ nI 1 = 0 by decide)]
        try simp only [hM v w, bd1_s]
        rw [M_needOf hr hk hl2, bd2_s, ite_iff (nI_eq0 (by omega))]
        by_cases z : sNeed ρ l = 0
        · rw [if_pos z, shl_I (by omega), or_I, nI_1]
          rw [e2, if_pos ⟨g, z⟩] at ih2
          exact ih2
        · rw [if_neg z, z0 l (by omega), or_I, nI_1]
          rw [e2, if_neg (fun q => z q.2)] at ih2
          exact ih2
  exact key (ρ 0 0) FU 0 (by unfold FU; omega) (by omega)
end
section
variable {S : Sg} {v : Nat → Nat → Int32} {w : Nat → Nat → Int64}
theorem E_selfish (x : Int32) (hs : SOK S) (hc : CI S v) (hm : MI S v) : Eqv S v w (f_Q_selfish 0 x) (f_M_selfish 100 x) := by
  by_cases hx : 0 ≤ x.toInt ∧ x.toInt < ((2 + 1 : Nat) : Int)
  · have l15 := sLs_le hs.1
    obtain ⟨v1, e1, d1⟩ := C_copyFrom rl20 rl3 (by decide) v w
    have c1 : CRq (S.1, 0, 0).2.2 20 (S.1, 0, 0).1 v1 := CRq_of (CR_copy hc.1 hs.1 d1)
    obtain ⟨v2, e2, c2, f2⟩ := C_slf (w := w) 16 FU 0 (S.1, 0, 0) v1 (show sLs S.1 < 16 by omega) (by decide) (Nat.le_refl _) (show 0 + sLs S.1 ≤ 15 by omega) c1 hs.1
    have rk := slf_ok 16 (S.1, 0, 0) hs.1
    have q2 : ∀ q, q < 20 ∨ 37 ≤ q → v2 q = v q := fun q hq => (f2 q hq).trans (d1.1 q (by omega))
    have hm2 : MI S v2 := hm.frame (fun p hp => q2 p (by omega))
    obtain ⟨v3, e3, f3, s3⟩ := M_saves v2 w
    have hm3 : MI S v3 := hm2.fr (fun p hp => f3 p (by unfold pM at hp; omega)) (by rw [f3 100 (by decide)]; exact ⟨rfl, rfl, rfl, rfl, rfl⟩)
    obtain ⟨v4, e4, m4, f4, k4⟩ := M_slf (w := w) x 16 FU (S.1, 0, 0) v3 (show sLs S.1 < 16 by omega) (by decide) hm3.1 hs.1
    obtain ⟨v5, e5, f5, s5, k5⟩ := M_118 (w := w) m4 rk.1 x (nI (slf 16 (S.1, 0, 0)).2.1) (nI (slf 16 (S.1, 0, 0)).2.2)
    have q5 : ∀ q, q ≠ 119 → v5 q = v2 q := back_same f3 s3 (fun q hq => (f5 q hq).trans (f4 q hq)) (fun j hj => (s5 j hj).trans (by rw [f4 119 (by decide)])) (fun j hj => (k5 j hj).trans (k4 j hj))
    refine EqT.q (r := if x = 0 then nI (sMet (slf 16 (S.1, 0, 0)).1) else if x = 1 then nI (slf 16 (S.1, 0, 0)).2.1 else nI (slf 16 (S.1, 0, 0)).2.2) (v1 := v2) (w1 := w) (v2 := v5) (w2 := w) hs hc hm ?_ (fun p hp => q2 p (by unfold pC at hp; omega)) ?_ (fun p hp => q5 p (by unfold pM at hp; omega))
    · simp only [f_Q_selfish, f_Q_selfish_0, Q_isWithin, bd2_s]
      rw [show (2 : Int32).toInt = (nI 2).toInt from rfl, if_pos ((in_rng (by decide)).mpr hx), if_neg (by decide)]
      simp only [hQ v w, hRl rl20 v w, bd1_s]
      rw [e1]
      simp only [hQ v1 w, hRl rl20 v1 w, bd1_s]
      have e2' : f_Realm_eachForHimself 20 (bh v1 w) = some (nI (slf 16 (S.1, 0, 0)).2.1, bh v2 w) := e2
      rw [e2', bd2_s]
      simp only [hQ v2 w, hRl rl20 v2 w, hRl rl3 v2 w, bd1_s]
      rw [D_met rl20 c2 rk.1, bd2_s, c2.1.2.2.2.1]
      have e33 : v2 3 3 = nI (S.1 0 3) := by rw [q2 3 (by omega)]; exact hc.1.1.2.2.2.1
      have e03 : (slf 16 (S.1, 0, 0)).1 0 3 = S.1 0 3 := rk.2.2.2.1
      have esub : nI ((slf 16 (S.1, 0, 0)).1 0 3 + (slf 16 (S.1, 0, 0)).2.2) - v2 3 3 = nI (slf 16 (S.1, 0, 0)).2.2 := by
        rw [e33, e03, sub_done]
      rw [esub, orN_and]
      unfold sMet
      split
      · rfl
      · split <;> rfl
    · simp only [f_M_selfish, f_M_selfish_0, M_in, bd2_s]
      rw [show (2 : Int64) = (nI 2).toInt64 from rfl, if_pos ((in_rngL (by decide)).mpr hx), if_neg (by decide)]
      simp only [hM v2 w, bd1_s]
      rw [e3, bd1_s]
      exact e4.trans e5
  · refine Eqv.query (r := -1) hs hc hm ?_ ?_
    · simp only [f_Q_selfish, f_Q_selfish_0, Q_isWithin, bd2_s]
      rw [show (2 : Int32).toInt = (nI 2).toInt from rfl, if_neg (fun q => hx ((in_rng (by decide)).mp q)), if_pos rfl]
    · simp only [f_M_selfish, f_M_selfish_0, M_in, bd2_s]
      rw [show (2 : Int64) = (nI 2).toInt64 from rfl, if_neg (fun q => hx ((in_rngL (by decide)).mp q)), if_pos rfl]
end
end
/-! 8q.luck.lean.txt -/
section
/-! odds: numbers of 64 bits -/
def nL (n : Nat) : Int64 := Int64.ofNat n
theorem nL_add (a b : Nat) : nL a + nL b = nL (a + b) := (Int64.ofNat_add a b).symm
theorem nL_mul (a b : Nat) : nL a * nL b = nL (a * b) := (Int64.ofNat_mul a b).symm
theorem nL_div {a b : Nat} (ha : a < 2 ^ 63) (hb : b < 2 ^ 63) : nL a / nL b = nL (a / b) := (Int64.ofNat_div ha hb).symm
theorem nL_toInt {a : Nat} (ha : a < 2 ^ 63) : (nL a).toInt = a := by
  show (Int64.ofNat a).toInt = a
  rw [Int64.toInt_ofNat', show Int64.size = 18446744073709551616 from rfl]
  exact Int.bmod_eq_of_le (by omega) (by omega)
theorem nL_eq0 {a : Nat} (ha : a < 2 ^ 63) : nL a = 0 ↔ a = 0 := by
  constructor
  · intro h
    have := congrArg Int64.toInt h
    rw [nL_toInt ha] at this
    have e : (0 : Int64).toInt = 0 := rfl
    omega
  · intro h; rw [h]; rfl
theorem nL_64 {a : Nat} (ha : a < 2 ^ 31) : (nI a).toInt64 = nL a := by
  apply Int64.toInt_inj.mp
  rw [Int32.toInt_toInt64, nI_toInt ha, nL_toInt (by omega)]
theorem cmp_eq (a b : Int64) : lg_cmp a b = 0 ↔ a = b := by
  constructor
  · intro h
    unfold lg_cmp at h
    split at h
    · cases h
    · split at h
      · next e => exact e
      · cases h
  · intro h; subst h
    unfold lg_cmp
    rw [if_neg (show ¬ a > a from Int64.lt_irrefl), if_pos rfl]
theorem nL_mod {a b : Nat} (ha : a < 2 ^ 62) (hb : b < 2 ^ 62) : nL a - nL a / nL b * nL b = nL (a % b) := by
  rw [nL_div (by omega) (by omega), nL_mul]
  have h := Nat.div_add_mod a b
  have e : nL a = nL (a % b) + nL (a / b * b) := by rw [nL_add, Nat.mul_comm (a / b) b, Nat.add_comm (a % b), h]
  rw [e]
  apply Int64.toBitVec_inj.mp
  show ((nL (a % b)).toBitVec + (nL (a / b * b)).toBitVec) - (nL (a / b * b)).toBitVec = _
  rw [BitVec.add_sub_cancel]
theorem u2L_at (w : Nat → Nat → Int64) (o k : Nat) (x : Int64) : u2L w o k x o k = x := by unfold u2L; rw [up_at]; simp [vp_updL]
theorem u2L_n {w : Nat → Nat → Int64} {o k j : Nat} {x : Int64} (h : j ≠ k) : u2L w o k x o j = w o j := by unfold u2L; rw [up_at]; simp [vp_updL, h]
theorem u2L_o {w : Nat → Nat → Int64} {o k q : Nat} {x : Int64} (h : q ≠ o) : u2L w o k x q = w q := by unfold u2L; rw [up_ne h]
/-- one try more -/
def stW (n : Nat) (W : Nat → Nat) : Nat → Nat := fun k => W k * (10 - n) + (if k = 0 then 0 else W (k - 1)) * n
def itW (n : Nat) : Nat → (Nat → Nat) → (Nat → Nat)
  | 0, W => W
  | t + 1, W => itW n t (stW n W)
def lkW (ρ : Rho) (l : Nat) : Nat → Nat → (Nat → Nat) → (Nat → Nat)
  | 0, _, W => W
  | k + 1, p, W => lkW ρ l k (p + 1) (itW (ρ 8 p) (sTries ρ p l) W)
def lkT (ρ : Rho) (l : Nat) : Nat → Nat → Nat
  | 0, _ => 0
  | k + 1, p => sTries ρ p l + lkT ρ l k (p + 1)
def W0 : Nat → Nat := fun k => if k = 0 then 1 else 0
/-- after t tries -/
def Wok (t : Nat) (W : Nat → Nat) : Prop := (∀ k, t < k → W k = 0) ∧ ∀ n, sumN W n ≤ 10 ^ t
theorem Wok0 : Wok 0 W0 := by
  refine ⟨fun k hk => if_neg (by omega), fun n => ?_⟩
  have : ∀ n, sumN W0 (n + 1) = 1 := by
    intro n
    induction n with
    | zero => rfl
    | succ n ih => show sumN W0 (n + 1) + W0 (n + 1) = 1; rw [ih]; rfl
  cases n with
  | zero => exact Nat.zero_le _
  | succ n => rw [this]; exact Nat.le_refl _
theorem sum_st (n : Nat) (W : Nat → Nat) : ∀ m, sumN (stW n W) (m + 1) = (10 - n) * sumN W (m + 1) + n * sumN W m
  | 0 => by
    show 0 + (W 0 * (10 - n) + (if 0 = 0 then 0 else W (0 - 1)) * n) = (10 - n) * (0 + W 0) + n * 0
    simp [Nat.mul_comm]
  | m + 1 => by
    have ih := sum_st n W m
    show sumN (stW n W) (m + 1) + stW n W (m + 1) = (10 - n) * (sumN W (m + 1) + W (m + 1)) + n * (sumN W m + W m)
    rw [ih]
    unfold stW
    rw [if_neg (by omega), show m + 1 - 1 = m by omega, Nat.mul_add, Nat.mul_add, Nat.mul_comm (W (m + 1)), Nat.mul_comm (W m)]
    omega
theorem sumN_mono {f : Nat → Nat} : ∀ m, sumN f m ≤ sumN f (m + 1) := fun m => Nat.le_add_right _ _
theorem Wok_st {t n : Nat} {W : Nat → Nat} (h : Wok t W) (hn : n ≤ 10) : Wok (t + 1) (stW n W) := by
  refine ⟨fun k hk => ?_, fun m => ?_⟩
  · unfold stW
    rw [h.1 k (by omega), if_neg (by omega), h.1 (k - 1) (by omega)]
    simp
  · cases m with
    | zero => exact Nat.zero_le _
    | succ m =>
      rw [sum_st, Nat.pow_succ]
      have a := h.2 (m + 1)
      have b : n * sumN W m ≤ n * sumN W (m + 1) := Nat.mul_le_mul_left _ (sumN_mono m)
      have c : (10 - n) * sumN W (m + 1) + n * sumN W (m + 1) = 10 * sumN W (m + 1) := by rw [← Nat.add_mul, show 10 - n + n = 10 by omega]
      have d : 10 * sumN W (m + 1) ≤ 10 * 10 ^ t := Nat.mul_le_mul_left _ a
      omega
theorem Wok_it {n : Nat} (hn : n ≤ 10) : ∀ (k t : Nat) (W : Nat → Nat), Wok t W → Wok (t + k) (itW n k W)
  | 0, _, _, h => h
  | k + 1, t, W, h => by
    have := Wok_it hn k (t + 1) (stW n W) (Wok_st h hn)
    rw [show t + (k + 1) = t + 1 + k by omega]
    exact this
theorem Wok_lk {ρ : Rho} (hk : ROK ρ) (l : Nat) : ∀ (k p t : Nat) (W : Nat → Nat), p + k ≤ ρ 0 1 → Wok t W → Wok (t + lkT ρ l k p) (lkW ρ l k p W)
  | 0, _, _, _, _, h => h
  | k + 1, p, t, W, hp, h => by
    have := Wok_lk hk l k (p + 1) (t + sTries ρ p l) _ (by omega) (Wok_it (hk.2.2.1 p (by omega)).2.2.1 (sTries ρ p l) t W h)
    show Wok (t + (sTries ρ p l + lkT ρ l k (p + 1))) _
    rw [← Nat.add_assoc]
    exact this
theorem lkT_le {ρ : Rho} (hk : ROK ρ) {l : Nat} (hl : l < ρ 0 0) : ∀ (k p : Nat), lkT ρ l k p ≤ 3 * k
  | 0, _ => Nat.le_refl _
  | k + 1, p => by
    have := lkT_le hk hl k (p + 1)
    have := sTries_le hk (p := p) hl
    show sTries ρ p l + lkT ρ l k (p + 1) ≤ 3 * (k + 1)
    omega
theorem ten_I {n : Nat} (hn : n ≤ 10) : ((10 : Int32) - nI n).toInt64 = nL (10 - n) := by
  rw [show (10 : Int32) = nI 10 from rfl, pk_sub hn, nL_64 (by omega)]
section
variable {v : Nat → Nat → Int32} {w : Nat → Nat → Int64}
theorem halve {a b k : Nat} (hb : b < 2 ^ (k + 1)) (hr : a % b ≠ 0) (h0 : b ≠ 0) : b % (a % b) < 2 ^ k := by
  have h1 : a % b < b := Nat.mod_lt _ (Nat.pos_of_ne_zero h0)
  have h2 : b % (a % b) < a % b := Nat.mod_lt _ (Nat.pos_of_ne_zero hr)
  have h3 := Nat.div_add_mod b (a % b)
  have h4 : 1 ≤ b / (a % b) := (Nat.le_div_iff_mul_le (Nat.pos_of_ne_zero hr)).mpr (by omega)
  have h5 : (a % b) * 1 ≤ (a % b) * (b / (a % b)) := Nat.mul_le_mul_left _ h4
  rw [Nat.pow_succ] at hb
  omega
theorem M_common : ∀ (k fuel a b : Nat) (h : mH), a < 2 ^ 62 → b < 2 ^ k → k ≤ 60 → 2 * k < fuel → f_M_common_6 fuel (nL a) (nL b) h = some (nL (Nat.gcd b a), h) := by
  intro k
  induction k with
  | zero =>
    intro fuel a b h ha hb hk hf
    obtain ⟨n, rfl⟩ : ∃ n, fuel = n + 1 := ⟨fuel - 1, by omega⟩
    obtain rfl : b = 0 := by simp at hb; exact hb
    simp only [f_M_common_6, f_M_common_6b]
    rw [if_pos (show lg_cmp (nL 0) 0 = 0 from (cmp_eq _ _).mpr rfl), Nat.gcd_zero_left]
  | succ k ih =>
    intro fuel a b h ha hb hk hf
    obtain ⟨n, rfl⟩ : ∃ n, fuel = n + 1 + 1 := ⟨fuel - 2, by omega⟩
    have hp : 2 ^ (k + 1) ≤ 2 ^ 60 := Nat.pow_le_pow_right (by decide) hk
    have hb62 : b < 2 ^ 62 := by omega
    by_cases h0 : b = 0
    · subst h0
      show f_M_common_6b (f_M_common_6 (n + 1)) (nL a) (nL 0) h = _
      unfold f_M_common_6b
      rw [if_pos (show lg_cmp (nL 0) 0 = 0 from (cmp_eq _ _).mpr rfl), Nat.gcd_zero_left]
    · have hne : ¬ nL b = 0 := fun q => h0 ((nL_eq0 (by omega)).mp q)
      show f_M_common_6b (f_M_common_6 (n + 1)) (nL a) (nL b) h = _
      unfold f_M_common_6b
      rw [if_neg (fun q => hne ((cmp_eq _ _).mp q)), if_neg hne, nL_mod ha hb62]
      have hr : a % b < 2 ^ 62 := Nat.lt_trans (Nat.mod_lt _ (Nat.pos_of_ne_zero h0)) hb62
      show f_M_common_6b (f_M_common_6 n) (nL b) (nL (a % b)) h = _
      unfold f_M_common_6b
      by_cases h1 : a % b = 0
      · rw [h1, if_pos (show lg_cmp (nL 0) 0 = 0 from (cmp_eq _ _).mpr rfl), Nat.gcd_rec b a, h1, Nat.gcd_zero_left]
      · have hne1 : ¬ nL (a % b) = 0 := fun q => h1 ((nL_eq0 (by omega)).mp q)
        rw [if_neg (fun q => hne1 ((cmp_eq _ _).mp q)), if_neg hne1, nL_mod hb62 hr, ih n (a % b) (b % (a % b)) h hr (halve hb h1 h0) (by omega) (by omega), ← Nat.gcd_rec, ← Nat.gcd_rec]
theorem C_red : ∀ (k fuel a b i : Nat), a < 2 ^ 62 → b < 2 ^ k → k ≤ 40 → 2 * k < fuel → i + 2 * k < 100 → f_Odds_reduce_13 fuel 56 (nL a) (nL b) (nI i) (bh v w) = f_Odds_reduce_42 56 (nL (Nat.gcd b a)) (bh v w) := by
  intro k
  induction k with
  | zero =>
    intro fuel a b i ha hb hk hf hi
    obtain ⟨n, rfl⟩ : ∃ n, fuel = n + 1 := ⟨fuel - 1, by omega⟩
    obtain rfl : b = 0 := by simp at hb; exact hb
    simp only [f_Odds_reduce_13, f_Odds_reduce_13b]
    rw [if_pos (show lg_cmp (nL 0) 0 = 0 from (cmp_eq _ _).mpr rfl), Nat.gcd_zero_left]
    split <;> rfl
  | succ k ih =>
    intro fuel a b i ha hb hk hf hi
    obtain ⟨n, rfl⟩ : ∃ n, fuel = n + 1 + 1 := ⟨fuel - 2, by omega⟩
    have hp : 2 ^ (k + 1) ≤ 2 ^ 60 := Nat.pow_le_pow_right (by decide) (by omega)
    have hb62 : b < 2 ^ 62 := by omega
    have c1 : ∀ j, j < 100 → ¬ (100 : Int32) ≤ nI j := fun j hj z => by
      rw [show (100 : Int32) = nI 100 from rfl] at z
      have := (nI_leI (by omega) (by omega)).mp z
      omega
    by_cases h0 : b = 0
    · subst h0
      show f_Odds_reduce_13b (f_Odds_reduce_13 (n + 1)) 56 (nL a) (nL 0) (nI i) (bh v w) = _
      unfold f_Odds_reduce_13b
      rw [if_pos (show lg_cmp (nL 0) 0 = 0 from (cmp_eq _ _).mpr rfl), Nat.gcd_zero_left]
      split <;> rfl
    · have hne : ¬ nL b = 0 := fun q => h0 ((nL_eq0 (by omega)).mp q)
      show f_Odds_reduce_13b (f_Odds_reduce_13 (n + 1)) 56 (nL a) (nL b) (nI i) (bh v w) = _
      unfold f_Odds_reduce_13b
      rw [if_neg (c1 i (by omega)), if_neg (fun q => hne ((cmp_eq _ _).mp q)), if_neg hne, nL_mod ha hb62, nI_1]
      have hr : a % b < 2 ^ 62 := Nat.lt_trans (Nat.mod_lt _ (Nat.pos_of_ne_zero h0)) hb62
      show f_Odds_reduce_13b (f_Odds_reduce_13 n) 56 (nL b) (nL (a % b)) (nI (i + 1)) (bh v w) = _
      unfold f_Odds_reduce_13b
      by_cases h1 : a % b = 0
      · rw [h1, if_pos (show lg_cmp (nL 0) 0 = 0 from (cmp_eq _ _).mpr rfl), Nat.gcd_rec b a, h1, Nat.gcd_zero_left]
        split <;> rfl
      · have hne1 : ¬ nL (a % b) = 0 := fun q => h1 ((nL_eq0 (by omega)).mp q)
        rw [if_neg (c1 (i + 1) (by omega)), if_neg (fun q => hne1 ((cmp_eq _ _).mp q)), if_neg hne1, nL_mod hb62 hr, nI_1, ih n (a % b) (b % (a % b)) (i + 1 + 1) hr (halve hb h1 h0) (by omega) (by omega) (by omega), ← Nat.gcd_rec, ← Nat.gcd_rec]
end
end
/-! 8r.luck2.lean.txt -/
section
section
variable {v : Nat → Nat → Int32} {w : Nat → Nat → Int64}
def hW (o m : Nat) (w : Nat → Nat → Int64) (W : Nat → Nat) : Prop := ∀ k, k < m → w o k = nL (W k)
theorem m1_I (m : Nat) (hm : m < 100) : nI (m + 1) + (-1 : Int32) = nI m := by
  have : ∀ m, m < 100 → nI (m + 1) + (-1 : Int32) = nI m := by decide +kernel
  exact this m hm
theorem s1_I (m : Nat) (hm : m < 100) : nI (m + 1) - (1 : Int32) = nI m := by
  have : ∀ m, m < 100 → nI (m + 1) - (1 : Int32) = nI m := by decide +kernel
  exact this m hm
theorem C_try {n : Nat} (hn : n ≤ 10) {W : Nat → Nat} {a : Nat} (h : hW 57 10 w W) (ha : w 56 1 = nL a) : ∃ w', f_Odds_addTry 56 (nI n) (bh v w) = some (bh v w') ∧ hW 57 10 w' (stW n W) ∧ w' 56 1 = nL (a * 10) := by
  have key : ∀ (m fuel : Nat) (w : Nat → Nat → Int64), m < fuel → m ≤ 9 → (∀ k, k < 10 → w 57 k = if m < k then nL (stW n W k) else nL (W k)) → w 56 1 = nL a → ∃ w', f_Odds_addTry_3 fuel 56 (nI n) (nI m) (bh v w) = some (bh v w') ∧ hW 57 10 w' (stW n W) ∧ w' 56 1 = nL (a * 10) := by
    intro m
    induction m with
    | zero =>
      intro fuel w hf hm hw ha
      obtain ⟨f, rfl⟩ : ∃ f, fuel = f + 1 := ⟨fuel - 1, by omega⟩
      show ∃ w', f_Odds_addTry_3b (f_Odds_addTry_3 f) 56 (nI n) (nI 0) (bh v w) = _ ∧ _
      unfold f_Odds_addTry_3b
      rw [if_pos (show nI 0 ≤ 0 by decide)]
      simp only [hQ v w, bd1_s]
      have e0 : rd (w 57) 10 (0 : Int32) = some (nL (W 0)) := by rw [← (show w 57 0 = nL (W 0) from (hw 0 (by decide)).trans (if_neg (by decide)))]; rfl
      rw [e0, bd1_s, ten_I hn, nL_mul, show (0 : Int32) = nI 0 from rfl, wrL_nI (by decide) (by decide), bd1_s]
      simp only [hQ v (u2L w 57 0 (nL (W 0 * (10 - n)))), bd1_s]
      have e1 : u2L w 57 0 (nL (W 0 * (10 - n))) 56 1 = nL a := by rw [u2L_o (by decide)]; exact ha
      rw [e1, show (10 : Int64) = nL 10 from rfl, nL_mul]
      refine ⟨_, rfl, fun k hk => ?_, u2L_at _ _ _ _⟩
      rw [u2L_o (by decide)]
      by_cases e : k = 0
      · subst e
        rw [u2L_at]
        unfold stW
        rw [if_pos rfl, Nat.zero_mul, Nat.add_zero]
      · rw [u2L_n e, hw k hk, if_pos (by omega)]
    | succ m ih =>
      intro fuel w hf hm hw ha
      obtain ⟨f, rfl⟩ : ∃ f, fuel = f + 1 := ⟨fuel - 1, by omega⟩
      show ∃ w', f_Odds_addTry_3b (f_Odds_addTry_3 f) 56 (nI n) (nI (m + 1)) (bh v w) = _ ∧ _
      unfold f_Odds_addTry_3b
      rw [if_neg (fun z => by have := (nI_leI (a := m + 1) (b := 0) (by omega) (by omega)).mp z; omega)]
      simp only [hQ v w, bd1_s]
      rw [rd_nI (by omega) (by decide), bd1_s, s1_I m (by omega), rd_nI (by omega) (by decide), bd1_s, hw (m + 1) (by omega), if_neg (by omega), hw m (by omega), if_neg (by omega), ten_I hn, nL_64 (by omega), nL_mul, nL_mul, nL_add, wrL_nI (by omega) (by decide), bd1_s, m1_I m (by omega)]
      refine ih f _ (by omega) (by omega) (fun k hk => ?_) ((congrFun (u2L_o (by decide)) 1).trans ha)
      by_cases e : k = m + 1
      · subst e
        rw [u2L_at, if_pos (by omega)]
        unfold stW
        rw [if_neg (by omega), show m + 1 - 1 = m by omega]
      · rw [u2L_n e, hw k hk]
        by_cases g : m + 1 < k
        · rw [if_pos g, if_pos (by omega)]
        · rw [if_neg g, if_neg (by omega)]
  exact key 9 FU w (by decide) (by decide) (fun k hk => by rw [if_neg (by omega)]; exact h k hk) ha
theorem C_tries {ρ : Rho} (hr : CR 3 ρ v) (hk : ROK ρ) {p T : Nat} (hp : p < ρ 0 1) (hT : T ≤ 5) (rec : Nat → Nat → Int32 → Int32 → mH → Option mH) (l : Int32) : ∀ (k fuel i a : Nat) (W : Nat → Nat) (w : Nat → Nat → Int64), k < fuel → i + k = T → hW 57 10 w W → w 56 1 = nL a → ∃ w', f_Odds_weigh_41 rec fuel 56 3 l (nI p) (nI T) (nI i) (bh v w) = rec 56 3 l (nI (p + 1)) (bh v w') ∧ hW 57 10 w' (itW (ρ 8 p) k W) ∧ w' 56 1 = nL (a * 10 ^ k) := by
  have h2 := hk.1.2.1
  have hn := (hk.2.2.1 p hp).2.2.1
  intro k
  induction k with
  | zero =>
    intro fuel i a W w hf hi h ha
    obtain ⟨f, rfl⟩ : ∃ f, fuel = f + 1 := ⟨fuel - 1, by omega⟩
    refine ⟨w, ?_, h, by rw [ha, Nat.pow_zero, Nat.mul_one]⟩
    show f_Odds_weigh_41b rec (f_Odds_weigh_41 rec f) 56 3 l (nI p) (nI T) (nI i) (bh v w) = _
    unfold f_Odds_weigh_41b
    rw [if_pos ((nI_leI (by omega) (by omega)).mpr (by omega)), nI_1]
  | succ k ih =>
    intro fuel i a W w hf hi h ha
    obtain ⟨f, rfl⟩ : ∃ f, fuel = f + 1 := ⟨fuel - 1, by omega⟩
    obtain ⟨w1, e1, g1, a1⟩ := C_try (v := v) hn h ha
    obtain ⟨w2, e2, g2, a2⟩ := ih f (i + 1) (a * 10) (stW (ρ 8 p) W) w1 (by omega) (by omega) g1 a1
    refine ⟨w2, ?_, g2, by rw [a2, Nat.pow_succ, Nat.mul_assoc, Nat.mul_comm 10]⟩
    show f_Odds_weigh_41b rec (f_Odds_weigh_41 rec f) 56 3 l (nI p) (nI T) (nI i) (bh v w) = _
    unfold f_Odds_weigh_41b
    rw [if_neg (fun z => by have := (nI_leI (by omega) (by omega)).mp z; omega)]
    simp only [hRl rl3 v w, hQ v w, bd1_s]
    rw [rd_nI (by omega) (by decide), bd1_s, (hr.2.2.1 p hp).2.2.1, e1, bd1_s, nI_1]
    exact e2
/-- the fraction -/
def lkS (ρ : Rho) (l : Nat) : Nat := sumN (fun i => lkW ρ l (ρ 0 1) 0 W0 (sNeed ρ l + i)) (10 - sNeed ρ l)
def lkA (ρ : Rho) (l : Nat) : Nat := 10 ^ lkT ρ l (ρ 0 1) 0
theorem lk_ok {ρ : Rho} (hk : ROK ρ) {l : Nat} (hl : l < ρ 0 0) : Wok (lkT ρ l (ρ 0 1) 0) (lkW ρ l (ρ 0 1) 0 W0) ∧ lkT ρ l (ρ 0 1) 0 ≤ 9 := by
  have h2 := hk.1.2.1
  have a := Wok_lk hk l (ρ 0 1) 0 0 W0 (by omega) Wok0
  have b := lkT_le hk hl (ρ 0 1) 0
  rw [Nat.zero_add] at a
  exact ⟨a, by omega⟩
theorem sumN_sh {f : Nat → Nat} (n : Nat) : ∀ m, sumN f n + sumN (fun i => f (n + i)) m = sumN f (n + m)
  | 0 => rfl
  | m + 1 => by
    have := sumN_sh (f := f) n m
    show sumN f n + (sumN (fun i => f (n + i)) m + f (n + m)) = sumN f (n + m) + f (n + m)
    omega
theorem lkA_lt {ρ : Rho} (hk : ROK ρ) {l : Nat} (hl : l < ρ 0 0) : lkA ρ l < 2 ^ 30 ∧ 0 < lkA ρ l := by
  have h := (lk_ok hk hl).2
  refine ⟨Nat.lt_of_le_of_lt (Nat.pow_le_pow_right (by decide) h) (by decide), Nat.pow_pos (by decide)⟩
theorem lkS_le {ρ : Rho} (hk : ROK ρ) {l : Nat} (hl : l < ρ 0 0) : lkS ρ l ≤ lkA ρ l := by
  have h := (lk_ok hk hl).1.2 (sNeed ρ l + (10 - sNeed ρ l))
  have e := sumN_sh (f := lkW ρ l (ρ 0 1) 0 W0) (sNeed ρ l) (10 - sNeed ρ l)
  unfold lkS lkA
  omega
theorem C_sum {ρ : Rho} (hk : ROK ρ) {l : Nat} (hl : l < ρ 0 0) : ∀ (k fuel j : Nat) (w : Nat → Nat → Int64), k < fuel → sNeed ρ l + j + k = 10 → hW 57 10 w (lkW ρ l (ρ 0 1) 0 W0) → w 56 1 = nL (lkA ρ l) → w 56 0 = nL (sumN (fun i => lkW ρ l (ρ 0 1) 0 W0 (sNeed ρ l + i)) j) → ∃ w', f_Odds_weigh_81 fuel 56 (nI (sNeed ρ l + j)) (bh v w) = some (bh v w') ∧ w' 56 0 = nL (lkS ρ l / Nat.gcd (lkS ρ l) (lkA ρ l)) ∧ w' 56 1 = nL (lkA ρ l / Nat.gcd (lkS ρ l) (lkA ρ l)) := by
  have hA := lkA_lt hk hl
  have hS := lkS_le hk hl
  have hg : 0 < Nat.gcd (lkS ρ l) (lkA ρ l) := Nat.gcd_pos_of_pos_right _ hA.2
  have hg2 : Nat.gcd (lkS ρ l) (lkA ρ l) ≤ lkA ρ l := Nat.gcd_le_right _ hA.2
  intro k
  induction k with
  | zero =>
    intro fuel j w hf hj h h1 h0
    obtain ⟨f, rfl⟩ : ∃ f, fuel = f + 1 := ⟨fuel - 1, by omega⟩
    have ej : j = 10 - sNeed ρ l := by omega
    subst ej
    have h0 : w 56 0 = nL (lkS ρ l) := h0
    show ∃ w', f_Odds_weigh_81b (f_Odds_weigh_81 f) 56 (nI (sNeed ρ l + (10 - sNeed ρ l))) (bh v w) = _ ∧ _
    unfold f_Odds_weigh_81b
    rw [show (9 : Int32) = nI 9 from rfl, if_pos ((nI_ltI (by omega) (by omega)).mpr (by omega))]
    simp only [hQ v w, bd1_s, f_Odds_reduce, f_Odds_reduce_0]
    rw [h0, h1, show (0 : Int32) = nI 0 from rfl, C_red 30 FU (lkA ρ l) (lkS ρ l) 0 (by omega) (by omega) (by decide) (by decide) (by decide)]
    unfold f_Odds_reduce_42
    have c : ¬ lg_cmp (nL (Nat.gcd (lkS ρ l) (lkA ρ l))) 0 ≤ 0 := by
      intro z
      have q : (0 : Int32) < lg_cmp (nL (Nat.gcd (lkS ρ l) (lkA ρ l))) 0 := by
        rw [cmp_gt, Int64.lt_iff_toInt_lt, nL_toInt (by omega), show (0 : Int64).toInt = 0 from rfl]
        omega
      exact absurd q (Int32.not_lt.mpr z)
    have ne : ¬ nL (Nat.gcd (lkS ρ l) (lkA ρ l)) = 0 := fun q => by have := (nL_eq0 (by omega)).mp q; omega
    rw [if_neg c]
    simp only [hQ v w, bd1_s]
    rw [if_neg ne, h0, nL_div (by omega) (by omega)]
    simp only [hQ v (u2L w 56 0 (nL (lkS ρ l / Nat.gcd (lkS ρ l) (lkA ρ l)))), bd1_s]
    rw [if_neg ne, u2L_n (by decide), h1, nL_div (by omega) (by omega)]
    exact ⟨_, rfl, (u2L_n (by decide)).trans (u2L_at _ _ _ _), u2L_at _ _ _ _⟩
  | succ k ih =>
    intro fuel j w hf hj h h1 h0
    obtain ⟨f, rfl⟩ : ∃ f, fuel = f + 1 := ⟨fuel - 1, by omega⟩
    show ∃ w', f_Odds_weigh_81b (f_Odds_weigh_81 f) 56 (nI (sNeed ρ l + j)) (bh v w) = _ ∧ _
    unfold f_Odds_weigh_81b
    rw [show (9 : Int32) = nI 9 from rfl, if_neg (fun z => by have := (nI_ltI (by omega) (by omega)).mp z; omega)]
    simp only [hQ v w, bd1_s]
    rw [rd_nI (by omega) (by decide), bd1_s, h0, h (sNeed ρ l + j) (by omega), nL_add, nI_1]
    exact ih f (j + 1) _ (by omega) (by omega) (fun i hi => by rw [u2L_o (by decide)]; exact h i hi) ((u2L_n (by decide)).trans h1) (u2L_at _ _ _ _)
theorem C_people {ρ : Rho} (hr : CR 3 ρ v) (hk : ROK ρ) {l : Nat} (hl : l < ρ 0 0) : ∀ (k fuel p a : Nat) (W : Nat → Nat) (w : Nat → Nat → Int64), k < fuel → p + k = ρ 0 1 → hW 57 10 w W → w 56 1 = nL a → lkW ρ l k p W = lkW ρ l (ρ 0 1) 0 W0 → a * 10 ^ lkT ρ l k p = lkA ρ l → ∃ w', f_Odds_weigh_22 fuel 56 3 (nI l) (nI p) (bh v w) = some (bh v w') ∧ w' 56 0 = nL (lkS ρ l / Nat.gcd (lkS ρ l) (lkA ρ l)) ∧ w' 56 1 = nL (lkA ρ l / Nat.gcd (lkS ρ l) (lkA ρ l)) := by
  have h2 := hk.1.2.1
  have hn := sNeed_le hk hl
  intro k
  induction k with
  | zero =>
    intro fuel p a W w hf hp h ha eW eA
    obtain ⟨f, rfl⟩ : ∃ f, fuel = f + 1 := ⟨fuel - 1, by omega⟩
    have eW : W = lkW ρ l (ρ 0 1) 0 W0 := eW
    have eA : a = lkA ρ l := by rw [← eA]; exact (Nat.mul_one a).symm
    show ∃ w', f_Odds_weigh_22b (f_Odds_weigh_22 f) 56 3 (nI l) (nI p) (bh v w) = _ ∧ _
    unfold f_Odds_weigh_22b
    simp only [hRl rl3 v w, hQ v w, bd1_s]
    rw [hr.1.2.1, if_pos (nI_le (by omega) (by omega))]
    simp only [hRl rl3 v (u2L w 56 0 0), bd1_s]
    rw [C_needOf rl3 hr hk hl, bd2_s]
    have := C_sum (v := v) hk hl (10 - sNeed ρ l) FU 0 (u2L w 56 0 0) (by unfold FU; omega) (by omega) (fun i hi => by rw [u2L_o (by decide), ← eW]; exact h i hi) ((u2L_n (by decide)).trans (by rw [ha, eA])) (u2L_at _ _ _ _)
    exact this
  | succ k ih =>
    intro fuel p a W w hf hp h ha eW eA
    obtain ⟨f, rfl⟩ : ∃ f, fuel = f + 1 := ⟨fuel - 1, by omega⟩
    have hpp : p < ρ 0 1 := by omega
    have ht := sTries_le hk (p := p) hl
    obtain ⟨w1, e1, g1, a1⟩ := C_tries (v := v) hr hk hpp (show sTries ρ p l ≤ 5 by omega) (f_Odds_weigh_22 f) (nI l) (sTries ρ p l) FU 0 a W w (by unfold FU; omega) (by omega) h ha
    show ∃ w', f_Odds_weigh_22b (f_Odds_weigh_22 f) 56 3 (nI l) (nI p) (bh v w) = _ ∧ _
    unfold f_Odds_weigh_22b
    simp only [hRl rl3 v w, bd1_s]
    rw [hr.1.2.1, if_neg (nI_ge (by omega) (by omega)), C_ableAlone rl3 hr hk hpp hl, bd2_s]
    have e1' : f_Odds_weigh_41 (f_Odds_weigh_22 f) FU 56 3 (nI l) (nI p) (nI (sTries ρ p l)) 0 (bh v w) = f_Odds_weigh_22 f 56 3 (nI l) (nI (p + 1)) (bh v w1) := e1
    rw [e1']
    exact ih f (p + 1) (a * 10 ^ sTries ρ p l) _ w1 (by omega) (by omega) g1 a1 eW (by rw [← eA, Nat.mul_assoc, ← Nat.pow_add]; rfl)
theorem fill_J (x : Int64) (v : Nat → Nat → Int32) (w : Nat → Nat → Int64) : ∃ w1, f_Arrays_fillJ 57 x (bh v w) = some (bh v w1) ∧ (∀ p, p ≠ 57 → w1 p = w p) ∧ ∀ j, j < 10 → w1 57 j = x := by
  have key : ∀ (k fuel i : Nat) (w : Nat → Nat → Int64), k < fuel → i + k = 10 → ∃ w1, f_Arrays_fillJ_6 fuel 57 x (nI i) (nI 10) (bh v w) = some (bh v w1) ∧ (∀ p, p ≠ 57 → w1 p = w p) ∧ (∀ j, i ≤ j → j < 10 → w1 57 j = x) ∧ ∀ j, j < i → w1 57 j = w 57 j := by
    intro k
    induction k with
    | zero =>
      intro fuel i w hf hi
      obtain ⟨m, rfl⟩ : ∃ m, fuel = m + 1 := ⟨fuel - 1, by omega⟩
      simp only [f_Arrays_fillJ_6, f_Arrays_fillJ_6b]
      rw [if_pos ((nI_leI (by omega) (by omega)).mpr (by omega))]
      exact ⟨w, rfl, fun _ _ => rfl, fun j _ _ => by omega, fun _ _ => rfl⟩
    | succ k ih =>
      intro fuel i w hf hi
      obtain ⟨m, rfl⟩ : ∃ m, fuel = m + 1 := ⟨fuel - 1, by omega⟩
      simp only [f_Arrays_fillJ_6, f_Arrays_fillJ_6b, hQ v w]
      rw [if_neg (fun z => by have := (nI_leI (by omega) (by omega)).mp z; omega), wrL_nI (by omega) (by omega), bd1_s, nI_1]
      obtain ⟨w1, e1, f1, f2, f3⟩ := ih m (i + 1) (u2L w 57 i x) (by omega) (by omega)
      refine ⟨w1, e1, fun p hp => (f1 p hp).trans (u2L_o hp), fun j h1 h2 => ?_, fun j hj => (f3 j (by omega)).trans (u2L_n (by omega))⟩
      by_cases e : j = i
      · subst e; exact (f3 j (by omega)).trans (u2L_at _ _ _ _)
      · exact f2 j (by omega) h2
  obtain ⟨w1, e1, f1, f2, -⟩ := key 10 FU 0 w (by decide) (by omega)
  refine ⟨w1, ?_, f1, fun j hj => f2 j (by omega) hj⟩
  simp only [f_Arrays_fillJ, f_Arrays_fillJ_0]
  rw [show aN (bh v w) 3 57 = some (nI 10) from rfl, bd1_s]
  exact e1
theorem C_weigh {ρ : Rho} (hr : CR 3 ρ v) (hk : ROK ρ) {l : Nat} (hl : l < ρ 0 0) : ∃ w', f_Odds_weigh 56 3 (nI l) (bh v w) = some (bh v w') ∧ w' 56 0 = nL (lkS ρ l / Nat.gcd (lkS ρ l) (lkA ρ l)) ∧ w' 56 1 = nL (lkA ρ l / Nat.gcd (lkS ρ l) (lkA ρ l)) := by
  obtain ⟨w1, e1, f1, g1⟩ := fill_J 0 v w
  simp only [f_Odds_weigh, f_Odds_weigh_0, hQ v w, bd1_s]
  rw [e1, bd1_s]
  simp only [hQ v w1, bd1_s]
  rw [show (0 : Int32) = nI 0 from rfl, wrL_nI (by decide) (by decide), bd1_s]
  simp only [hQ v (u2L w1 57 0 1), bd1_s]
  refine C_people hr hk hl (ρ 0 1) FU 0 1 W0 _ (by have := hk.1.2.1; unfold FU; omega) (by omega) (fun i hi => ?_) (u2L_at _ _ _ _) rfl (Nat.one_mul _)
  rw [u2L_o (by decide)]
  by_cases e : i = 0
  · subst e; rw [u2L_at]; rfl
  · rw [u2L_n e, g1 i hi]
    unfold W0
    rw [if_neg e]
    rfl
end
end
/-! 8s.luck3.lean.txt -/
section
section
variable {v : Nat → Nat → Int32} {w : Nat → Nat → Int64}
theorem M_try {ρ : Rho} (hr : MR ρ v) (hk : ROK ρ) {p : Nat} (hp : p < ρ 0 1) (rec60 : Nat → Int32 → Int32 → Int64 → Int32 → mH → Option (Int64 × mH)) (rec72 : Nat → Int32 → Int32 → Int64 → Int32 → Int32 → mH → Option (Int64 × mH)) (l y : Int32) (a : Int64) (i : Int32) {W : Nat → Nat} (h : hW 120 16 w W) : ∃ w', f_M_luck_88 rec60 rec72 FU 100 l y a (nI p) i 15 (bh v w) = rec72 100 l y (a * 10) (nI p) (i + 1) (bh v w') ∧ hW 120 16 w' (stW (ρ 8 p) W) := by
  have h2 := hk.1.2.1
  have hn := (hk.2.2.1 p hp).2.2.1
  have ev : v 107 p = nI (ρ 8 p) := (hr.1.2.2.2 p hp).2
  have key : ∀ (m fuel : Nat) (w : Nat → Nat → Int64), m + 1 < fuel → m ≤ 15 → (∀ k, k < 16 → w 120 k = if m < k then nL (stW (ρ 8 p) W k) else nL (W k)) → ∃ w', f_M_luck_88 rec60 rec72 fuel 100 l y a (nI p) i (nI m) (bh v w) = rec72 100 l y (a * 10) (nI p) (i + 1) (bh v w') ∧ hW 120 16 w' (stW (ρ 8 p) W) := by
    intro m
    induction m with
    | zero =>
      intro fuel w hf hm hw
      obtain ⟨f, rfl⟩ : ∃ f, fuel = f + 1 + 1 := ⟨fuel - 2, by omega⟩
      have e0 : w 120 0 = nL (W 0) := (hw 0 (by decide)).trans (if_neg (by decide))
      refine ⟨u2L w 120 0 (nL (W 0 * (10 - ρ 8 p) + 0 * ρ 8 p)), ?_, fun k hk => ?_⟩
      · show f_M_luck_88b rec60 rec72 (f_M_luck_88 rec60 rec72 (f + 1)) 100 l y a (nI p) i (nI 0) (bh v w) = _
        unfold f_M_luck_88b f_M_luck_111
        rw [if_neg (show ¬ nI 0 < 0 by decide), if_pos (show nI 0 = 0 from rfl)]
        simp only [hM v w, bd1_s]
        rw [rd_nI (by decide) (by decide), bd1_s, rd_nI (by omega) (by decide), bd1_s, bd1_s, ev, e0, ten_I hn, nL_64 (by omega), show (0 : Int64) = nL 0 from rfl, nL_mul, nL_mul, nL_add, wrL_nI (by decide) (by decide), bd1_s]
        show f_M_luck_88b rec60 rec72 (f_M_luck_88 rec60 rec72 f) 100 l y a (nI p) i (nI 0 + -1) (bh v (u2L w 120 0 (nL (W 0 * (10 - ρ 8 p) + 0 * ρ 8 p)))) = _
        unfold f_M_luck_88b
        rw [if_pos (by decide)]
      · by_cases e : k = 0
        · subst e
          rw [u2L_at]
          unfold stW
          rw [if_pos rfl]
        · rw [u2L_n e, hw k hk, if_pos (by omega)]
    | succ m ih =>
      intro fuel w hf hm hw
      obtain ⟨f, rfl⟩ : ∃ f, fuel = f + 1 := ⟨fuel - 1, by omega⟩
      show ∃ w', f_M_luck_88b rec60 rec72 (f_M_luck_88 rec60 rec72 f) 100 l y a (nI p) i (nI (m + 1)) (bh v w) = _ ∧ _
      unfold f_M_luck_88b f_M_luck_111
      rw [if_neg (fun z => by have := (nI_ltI (a := m + 1) (b := 0) (by omega) (by omega)).mp z; omega), if_neg (fun z => by have := (nI_eqI (a := m + 1) (b := 0) (by omega) (by omega)).mp z; omega)]
      simp only [hM v w, bd1_s]
      rw [s1_I m (by omega), rd_nI (by omega) (by decide), bd1_s, rd_nI (by omega) (by decide), bd1_s, rd_nI (by omega) (by decide), bd1_s, bd1_s, ev, hw (m + 1) (by omega), if_neg (by omega), hw m (by omega), if_neg (by omega), ten_I hn, nL_64 (by omega), nL_mul, nL_mul, nL_add, wrL_nI (by omega) (by decide), bd1_s, m1_I m (by omega)]
      refine ih f _ (by omega) (by omega) (fun k hk => ?_)
      by_cases e : k = m + 1
      · subst e
        rw [u2L_at, if_pos (by omega)]
        unfold stW
        rw [if_neg (by omega), show m + 1 - 1 = m by omega]
      · rw [u2L_n e, hw k hk]
        by_cases g : m + 1 < k
        · rw [if_pos g, if_pos (by omega)]
        · rw [if_neg g, if_neg (by omega)]
  exact key 15 FU w (by decide) (by decide) (fun k hk => by rw [if_neg (by omega)]; exact h k hk)
theorem M_tries {ρ : Rho} (hr : MR ρ v) (hk : ROK ρ) {p l : Nat} (hp : p < ρ 0 1) (hl : l < ρ 0 0) (rec60 : Nat → Int32 → Int32 → Int64 → Int32 → mH → Option (Int64 × mH)) (y : Int32) : ∀ (k fuel i a : Nat) (W : Nat → Nat) (w : Nat → Nat → Int64), k < fuel → i + k = sTries ρ p l → hW 120 16 w W → ∃ w', f_M_luck_72 rec60 fuel 100 (nI l) y (nL a) (nI p) (nI i) (bh v w) = rec60 100 (nI l) y (nL (a * 10 ^ k)) (nI (p + 1)) (bh v w') ∧ hW 120 16 w' (itW (ρ 8 p) k W) := by
  have ht := sTries_le hk (p := p) hl
  intro k
  induction k with
  | zero =>
    intro fuel i a W w hf hi h
    obtain ⟨f, rfl⟩ : ∃ f, fuel = f + 1 := ⟨fuel - 1, by omega⟩
    refine ⟨w, ?_, h⟩
    show f_M_luck_72b rec60 (f_M_luck_72 rec60 f) 100 (nI l) y (nL a) (nI p) (nI i) (bh v w) = _
    unfold f_M_luck_72b
    simp only [hM v w, bd1_s]
    rw [M_triesOf hr hk hp hl, bd2_s, if_pos ((nI_leI (by omega) (by omega)).mpr (by omega)), nI_1, Nat.pow_zero, Nat.mul_one]
  | succ k ih =>
    intro fuel i a W w hf hi h
    obtain ⟨f, rfl⟩ : ∃ f, fuel = f + 1 := ⟨fuel - 1, by omega⟩
    obtain ⟨w1, e1, g1⟩ := M_try (v := v) hr hk hp rec60 (f_M_luck_72 rec60 f) (nI l) y (nL a) (nI i) h
    obtain ⟨w2, e2, g2⟩ := ih f (i + 1) (a * 10) (stW (ρ 8 p) W) w1 (by omega) (by omega) g1
    refine ⟨w2, ?_, g2⟩
    show f_M_luck_72b rec60 (f_M_luck_72 rec60 f) 100 (nI l) y (nL a) (nI p) (nI i) (bh v w) = _
    unfold f_M_luck_72b
    simp only [hM v w, bd1_s]
    rw [M_triesOf hr hk hp hl, bd2_s, if_neg (fun z => by have := (nI_leI (by omega) (by omega)).mp z; omega), e1, show (10 : Int64) = nL 10 from rfl, nL_mul, nI_1, e2, Nat.pow_succ, Nat.mul_assoc, Nat.mul_comm 10]
theorem M_sum {ρ : Rho} (hk : ROK ρ) {l : Nat} (hl : l < ρ 0 0) (y : Int32) (h : hW 120 16 w (lkW ρ l (ρ 0 1) 0 W0)) : ∀ (k fuel j : Nat), k < fuel → sNeed ρ l + j + k = 16 → f_M_luck_185 fuel 100 y (nL (lkA ρ l)) (nL (sumN (fun i => lkW ρ l (ρ 0 1) 0 W0 (sNeed ρ l + i)) j)) (nI (sNeed ρ l + j)) (bh v w) = some (if y = 0 then nL (lkS ρ l / Nat.gcd (lkS ρ l) (lkA ρ l)) else nL (lkA ρ l / Nat.gcd (lkS ρ l) (lkA ρ l)), bh v w) := by
  have hA := lkA_lt hk hl
  have hS := lkS_le hk hl
  have hn := sNeed_le hk hl
  have ok := lk_ok hk hl
  have hg : 0 < Nat.gcd (lkS ρ l) (lkA ρ l) := Nat.gcd_pos_of_pos_right _ hA.2
  have hg2 : Nat.gcd (lkS ρ l) (lkA ρ l) ≤ lkA ρ l := Nat.gcd_le_right _ hA.2
  intro k
  induction k with
  | zero =>
    intro fuel j hf hj
    obtain ⟨f, rfl⟩ : ∃ f, fuel = f + 1 := ⟨fuel - 1, by omega⟩
    have e : sumN (fun i => lkW ρ l (ρ 0 1) 0 W0 (sNeed ρ l + i)) j = lkS ρ l := by
      have a := sumN_sh (f := fun i => lkW ρ l (ρ 0 1) 0 W0 (sNeed ρ l + i)) (10 - sNeed ρ l) 6
      have b : sumN (fun i => lkW ρ l (ρ 0 1) 0 W0 (sNeed ρ l + (10 - sNeed ρ l + i))) 6 = sumN (fun _ => 0) 6 := sumN_congr (fun i hi => ok.1.1 _ (by omega))
      rw [sumN_0] at b
      rw [show j = 10 - sNeed ρ l + 6 by omega]
      unfold lkS
      omega
    rw [e]
    show f_M_luck_185b (f_M_luck_185 f) 100 y (nL (lkA ρ l)) (nL (lkS ρ l)) (nI (sNeed ρ l + j)) (bh v w) = _
    unfold f_M_luck_185b f_M_common f_M_common_0
    have ne : ¬ nL (Nat.gcd (lkS ρ l) (lkA ρ l)) = 0 := fun q => by have := (nL_eq0 (by omega)).mp q; omega
    rw [show (16 : Int32) = nI 16 from rfl, if_pos ((nI_leI (by omega) (by omega)).mpr (by omega)), M_common 30 FU (lkA ρ l) (lkS ρ l) _ (by omega) (by omega) (by decide) (by decide), bd2_s, if_neg ne, if_neg ne, nL_div (by omega) (by omega), nL_div (by omega) (by omega)]
    split <;> rfl
  | succ k ih =>
    intro fuel j hf hj
    obtain ⟨f, rfl⟩ : ∃ f, fuel = f + 1 := ⟨fuel - 1, by omega⟩
    have nx := ih f (j + 1) (by omega) (by omega)
    show f_M_luck_185b (f_M_luck_185 f) 100 y (nL (lkA ρ l)) _ (nI (sNeed ρ l + j)) (bh v w) = _
    unfold f_M_luck_185b
    simp only [hM v w, bd1_s]
    rw [show (16 : Int32) = nI 16 from rfl, if_neg (fun z => by have := (nI_leI (by omega) (by omega)).mp z; omega), rd_nI (by omega) (by decide), bd1_s, h (sNeed ρ l + j) (by omega), nL_add, nI_1]
    exact nx
theorem M_people {ρ : Rho} (hr : MR ρ v) (hk : ROK ρ) {l : Nat} (hl : l < ρ 0 0) (y : Int32) : ∀ (k fuel p a : Nat) (W : Nat → Nat) (w : Nat → Nat → Int64), k < fuel → p + k = ρ 0 1 → hW 120 16 w W → lkW ρ l k p W = lkW ρ l (ρ 0 1) 0 W0 → a * 10 ^ lkT ρ l k p = lkA ρ l → ∃ w', f_M_luck_60 fuel 100 (nI l) y (nL a) (nI p) (bh v w) = some (if y = 0 then nL (lkS ρ l / Nat.gcd (lkS ρ l) (lkA ρ l)) else nL (lkA ρ l / Nat.gcd (lkS ρ l) (lkA ρ l)), bh v w') := by
  have h2 := hk.1.2.1
  have hn := sNeed_le hk hl
  intro k
  induction k with
  | zero =>
    intro fuel p a W w hf hp h eW eA
    obtain ⟨f, rfl⟩ : ∃ f, fuel = f + 1 := ⟨fuel - 1, by omega⟩
    have eW : W = lkW ρ l (ρ 0 1) 0 W0 := eW
    have eA : a = lkA ρ l := by rw [← eA]; exact (Nat.mul_one a).symm
    refine ⟨w, ?_⟩
    show f_M_luck_60b (f_M_luck_60 f) 100 (nI l) y (nL a) (nI p) (bh v w) = _
    unfold f_M_luck_60b
    simp only [hM v w, bd1_s]
    rw [hr.1.2.1, if_pos (nI_le (by omega) (by omega)), M_needOf hr hk hl, bd2_s, eA]
    exact M_sum (v := v) hk hl y (by rw [← eW]; exact h) (16 - sNeed ρ l) FU 0 (by unfold FU; omega) (by omega)
  | succ k ih =>
    intro fuel p a W w hf hp h eW eA
    obtain ⟨f, rfl⟩ : ∃ f, fuel = f + 1 := ⟨fuel - 1, by omega⟩
    have hpp : p < ρ 0 1 := by omega
    have ht := sTries_le hk (p := p) hl
    obtain ⟨w1, e1, g1⟩ := M_tries (v := v) hr hk hpp hl (f_M_luck_60 f) y (sTries ρ p l) FU 0 a W w (by unfold FU; omega) (by omega) h
    obtain ⟨w2, e2⟩ := ih f (p + 1) (a * 10 ^ sTries ρ p l) _ w1 (by omega) (by omega) g1 eW (by rw [← eA, Nat.mul_assoc, ← Nat.pow_add]; rfl)
    refine ⟨w2, ?_⟩
    show f_M_luck_60b (f_M_luck_60 f) 100 (nI l) y (nL a) (nI p) (bh v w) = _
    unfold f_M_luck_60b
    simp only [hM v w, bd1_s]
    rw [hr.1.2.1, if_neg (nI_ge (by omega) (by omega))]
    exact e1.trans e2
theorem M_weigh {ρ : Rho} (hr : MR ρ v) (hk : ROK ρ) {l : Nat} (hl : l < ρ 0 0) (y : Int32) : ∃ w', f_M_luck_27 FU 100 (nI l) y 1 0 (bh v w) = some (if y = 0 then nL (lkS ρ l / Nat.gcd (lkS ρ l) (lkA ρ l)) else nL (lkA ρ l / Nat.gcd (lkS ρ l) (lkA ρ l)), bh v w') := by
  have key : ∀ (k fuel i : Nat) (w : Nat → Nat → Int64), k < fuel → i + k = 16 → hW 120 i w W0 → ∃ w', f_M_luck_27 fuel 100 (nI l) y 1 (nI i) (bh v w) = some (if y = 0 then nL (lkS ρ l / Nat.gcd (lkS ρ l) (lkA ρ l)) else nL (lkA ρ l / Nat.gcd (lkS ρ l) (lkA ρ l)), bh v w') := by
    intro k
    induction k with
    | zero =>
      intro fuel i w hf hi h
      obtain ⟨f, rfl⟩ : ∃ f, fuel = f + 1 := ⟨fuel - 1, by omega⟩
      obtain rfl : i = 16 := by omega
      show ∃ w', f_M_luck_27b (f_M_luck_27 f) 100 (nI l) y 1 (nI 16) (bh v w) = _
      unfold f_M_luck_27b
      rw [if_pos (by decide)]
      exact M_people hr hk hl y (ρ 0 1) FU 0 1 W0 w (by have := hk.1.2.1; unfold FU; omega) (by omega) h rfl (Nat.one_mul _)
    | succ k ih =>
      intro fuel i w hf hi h
      obtain ⟨f, rfl⟩ : ∃ f, fuel = f + 1 := ⟨fuel - 1, by omega⟩
      have nx : ∀ x : Int64, x = nL (W0 i) → ∃ w', f_M_luck_27 f 100 (nI l) y 1 (nI i + 1) (bh v (u2L w 120 i x)) = some (if y = 0 then nL (lkS ρ l / Nat.gcd (lkS ρ l) (lkA ρ l)) else nL (lkA ρ l / Nat.gcd (lkS ρ l) (lkA ρ l)), bh v w') := by
        intro x hx
        rw [nI_1]
        refine ih f (i + 1) _ (by omega) (by omega) (fun j hj => ?_)
        by_cases e : j = i
        · subst e; rw [u2L_at, hx]
        · rw [u2L_n e]; exact h j (by omega)
      show ∃ w', f_M_luck_27b (f_M_luck_27 f) 100 (nI l) y 1 (nI i) (bh v w) = _
      unfold f_M_luck_27b f_M_luck_50
      rw [show (16 : Int32) = nI 16 from rfl, if_neg (fun z => by have := (nI_leI (by omega) (by omega)).mp z; omega)]
      simp only [hM v w, bd1_s]
      rw [wrL_nI (by omega) (by decide), wrL_nI (by omega) (by decide), bd1_s, bd1_s]
      by_cases e : i = 0
      · subst e
        rw [if_pos (show nI 0 = 0 from rfl)]
        exact nx 1 rfl
      · rw [if_neg (show ¬ nI i = 0 from fun z => e ((nI_eqI (a := i) (b := 0) (by omega) (by omega)).mp z))]
        exact nx 0 (by unfold W0; rw [if_neg e]; rfl)
  exact key 16 FU 0 w (by decide) (by omega) (fun j hj => by omega)
end
section
variable {S : Sg} {v : Nat → Nat → Int32} {w : Nat → Nat → Int64}
theorem E_luck (x y : Int32) (hs : SOK S) (hc : CI S v) (hm : MI S v) : EqT S v w (f_Q_luck 0 x y) (f_M_luck 100 x y) := by
  have h1 := hs.1.1.1
  by_cases hx : 0 ≤ x.toInt ∧ x.toInt < (S.1 0 0 : Int)
  · by_cases hy : 0 ≤ y.toInt ∧ y.toInt < ((1 + 1 : Nat) : Int)
    · obtain ⟨l, hl, rfl⟩ := ix (by omega) hx
      obtain ⟨w1, e1, a0, a1⟩ := C_weigh (v := v) (w := w) hc.1 hs.1 hl
      obtain ⟨w2, e2⟩ := M_weigh (v := v) (w := w1) hm.1 hs.1 hl y
      refine EqT.q (r := if y = 0 then nL (lkS S.1 l / Nat.gcd (lkS S.1 l) (lkA S.1 l)) else nL (lkA S.1 l / Nat.gcd (lkS S.1 l) (lkA S.1 l))) (v1 := v) (w1 := w1) (v2 := v) (w2 := w2) hs hc hm ?_ (fun _ _ => rfl) ?_ (fun _ _ => rfl)
      · simp only [f_Q_luck, f_Q_luck_0, q_now, hRl rl3 v w, bd1_s]
        rw [C_hasLaw rl3 hc.1 h1, bd2_s, if_pos hx, if_neg (by decide), Q_isWithin, bd2_s, show (1 : Int32).toInt = (nI 1).toInt from rfl, if_pos ((in_rng (by decide)).mpr hy), if_neg (by decide)]
        simp only [hQ v w, bd1_s]
        rw [e1, bd1_s]
        simp only [hQ v w1, bd1_s]
        rw [a0, a1]
        split <;> rfl
      · simp only [f_M_luck, f_M_luck_0, hM v w1, bd1_s]
        rw [M_isLaw hm.1.1 h1, bd2_s, if_pos hx, if_neg (by decide), M_in, bd2_s, show (1 : Int64) = (nI 1).toInt64 from rfl, if_pos ((in_rngL (by decide)).mpr hy), if_neg (by decide)]
        exact e2
    · refine ⟨-1, v, w, v, w, S, ?_, ?_, hs, hc, hm⟩
      · simp only [f_Q_luck, f_Q_luck_0, f_Q_luck_20, q_now, hRl rl3 v w, bd1_s]
        rw [C_hasLaw rl3 hc.1 h1, bd2_s, if_pos hx, if_neg (by decide), Q_isWithin, bd2_s, show (1 : Int32).toInt = (nI 1).toInt from rfl, if_neg (fun q => hy ((in_rng (by decide)).mp q)), if_pos rfl]
      · simp only [f_M_luck, f_M_luck_0, f_M_luck_18, hM v w, bd1_s]
        rw [M_isLaw hm.1.1 h1, bd2_s, if_pos hx, if_neg (by decide), M_in, bd2_s, show (1 : Int64) = (nI 1).toInt64 from rfl, if_neg (fun q => hy ((in_rngL (by decide)).mp q)), if_pos rfl]
  · refine ⟨-1, v, w, v, w, S, ?_, ?_, hs, hc, hm⟩
    · simp only [f_Q_luck, f_Q_luck_0, f_Q_luck_20, q_now, hRl rl3 v w, bd1_s]
      rw [C_hasLaw rl3 hc.1 h1, bd2_s, if_neg hx, if_pos rfl]
    · simp only [f_M_luck, f_M_luck_0, f_M_luck_18, hM v w, bd1_s]
      rw [M_isLaw hm.1.1 h1, bd2_s, if_neg hx, if_pos rfl]
end
end
/-! 8t.times.lean.txt -/
section
/-! the reference's questions with other TIMES: printed by wip/gen/gen_t.py -/
def MBt (T : Nat → Nat) (q k : Nat) (ρ : Rho) (v : Nat → Nat → Int32) : Prop :=
  (∀ l, l < ρ 0 0 → v q (k + l) = nI (ρ 1 l)) ∧ (∀ l, l < ρ 0 0 → v q (k + 5 + l) = cI (ρ 5 l)) ∧ v q (k + 10) = nI (ρ 0 4) ∧ v q (k + 11) = nI (ρ 0 5) ∧
  (∀ p, p < ρ 0 1 → v q (k + 12 + p) = nI (T p)) ∧ (∀ p, p < ρ 0 1 → v q (k + 15 + p) = nI (ρ 9 p)) ∧ (∀ p, p < ρ 0 1 → v q (k + 18 + p) = nI (ρ 10 p)) ∧ (∀ p, p < ρ 0 1 → v q (k + 21 + p) = nI (ρ 11 p)) ∧
  (∀ p l, p < ρ 0 1 → l < ρ 0 0 → v q (k + 24 + 5 * p + l) = nI (ρ 12 (5 * p + l))) ∧ v q (k + 39) = nI (ρ 0 2) ∧ v q (k + 40) = nI (ρ 0 3) ∧ v q (k + 41) = nI (ρ 0 6) ∧
  (∀ i, i < ρ 0 6 → v q (k + 42 + 3 * i) = nI (ρ 13 i) ∧ v q (k + 42 + 3 * i + 1) = nI (ρ 14 i) ∧ v q (k + 42 + 3 * i + 2) = nI (ρ 15 i))
def MRt (T : Nat → Nat) (ρ : Rho) (v : Nat → Nat → Int32) : Prop := MF ρ v ∧ MBt T 101 0 ρ v
theorem MRt_of {ρ : Rho} {v : Nat → Nat → Int32} (h : MR ρ v) : MRt (ρ 6) ρ v := h
section
variable {ρ : Rho} {v : Nat → Nat → Int32} {w : Nat → Nat → Int64} {T : Nat → Nat}
theorem N_doesStand (hb : MBt T 101 0 ρ v) (hs : ρ 0 4 < 2 ^ 31) {l : Nat} (hl : l < 32) : f_M_doesStand 100 (nI l) (bh v w) = some (nI (bit (ρ 0 4) l), bh v w) := by
  simp only [f_M_doesStand, f_M_doesStand_0, hM v w, bd1_s, bd2_s]
  have e1 : rd (v 101) 198 (10 : Int32) = some (nI (ρ 0 4)) := by rw [← hb.2.2.1]; rfl
  rw [e1, bd1_s, bit_I hs hl]
  rcases bit_01 (ρ 0 4) l with h | h <;> rw [h] <;> rfl
theorem N_brokenBy (hb : MBt T 101 0 ρ v) (hk : ROK ρ) {p l : Nat} (hp : p < ρ 0 1) (hl : l < ρ 0 0) : f_M_brokenBy 100 (nI p) (nI l) (bh v w) = some (nI (ρ 12 (5 * p + l)), bh v w) := by
  have h1 := hk.1.1
  have h2 := hk.1.2.1
  simp only [f_M_brokenBy, f_M_brokenBy_0, hM v w, bd1_s, bd2_s]
  rw [show (24 : Int32) = nI 24 from rfl, show (5 : Int32) = nI 5 from rfl, pk_mul, nI_add, nI_add, rd_nI (by omega) (by decide), bd1_s]
  have := hb.2.2.2.2.2.2.2.2.1 p l hp hl
  rw [show 0 + 24 + 5 * p + l = 24 + 5 * p + l by omega] at this
  rw [this]
theorem N_allBy (hr : MRt T ρ v) (hk : ROK ρ) {p : Nat} (hp : p < ρ 0 1) : f_M_allBy 100 (nI p) (bh v w) = some (nI (sAll ρ p), bh v w) := by
  have h1 := hk.1.1
  have key : ∀ (k fuel l : Nat), k < fuel → l + k = ρ 0 0 → f_M_allBy_4 fuel 100 (nI p) (nI (sumN (fun l => ρ 12 (5 * p + l)) l)) (nI l) (bh v w) = some (nI (sAll ρ p), bh v w) := by
    intro k
    induction k with
    | zero =>
      intro fuel l hf hl
      obtain ⟨n, rfl⟩ : ∃ n, fuel = n + 1 := ⟨fuel - 1, by omega⟩
      simp only [f_M_allBy_4, f_M_allBy_4b, hM v w, bd1_s]
      rw [hr.1.1, if_pos (nI_le (by omega) (by omega)), show l = ρ 0 0 by omega]
      rfl
    | succ k ih =>
      intro fuel l hf hl
      obtain ⟨n, rfl⟩ : ∃ n, fuel = n + 1 := ⟨fuel - 1, by omega⟩
      simp only [f_M_allBy_4, f_M_allBy_4b, hM v w, bd1_s]
      rw [hr.1.1, if_neg (nI_ge (by omega) (by omega)), N_brokenBy hr.2 hk hp (by omega), bd2_s, nI_add, nI_1]
      exact ih n (l + 1) (by omega) (by omega)
  simp only [f_M_allBy, f_M_allBy_0]
  exact key (ρ 0 0) FU 0 (by unfold FU; omega) (by omega)
theorem N_needOf (hr : MRt T ρ v) (hk : ROK ρ) {l : Nat} (hl : l < ρ 0 0) : f_M_needOf 100 (nI l) (bh v w) = some (nI (sNeed ρ l), bh v w) := by
  have h1 := hk.1.1
  have h2 := hk.1.2.1
  have hst : ρ 0 4 < 2 ^ 31 := Nat.lt_of_lt_of_le hk.1.2.2.2.2.1 (Nat.le_trans (Nat.pow_le_pow_right (by decide) h1) (by decide))
  have hq : ρ 1 l ≤ 9 := (hk.2.1 l hl).1
  have hB : ∀ p, p < ρ 0 1 → ρ 12 (5 * p + l) ≤ 3 := fun p hp => Nat.le_trans (hk.2.2.2.1 p l hp hl) (hk.2.1 l hl).2.2.1
  have key : ∀ (k fuel p : Nat) (q : Nat), q ≤ 9 → k < fuel → p + k = ρ 0 1 → f_M_needOf_23 fuel 100 (nI l) (zI ((q : Int) - sumN (fun p => ρ 12 (5 * p + l)) p)) (nI p) (bh v w) = some (nI (q - sumN (fun p => ρ 12 (5 * p + l)) (ρ 0 1)), bh v w) := by
    intro k
    induction k with
    | zero =>
      intro fuel p q hq hf hp
      obtain ⟨n, rfl⟩ : ∃ n, fuel = n + 1 := ⟨fuel - 1, by omega⟩
      have hs : sumN (fun p => ρ 12 (5 * p + l)) p ≤ 3 * p := sumN_c (fun i hi => hB i (by omega))
      simp only [f_M_needOf_23, f_M_needOf_23b, hM v w, bd1_s]
      rw [hr.1.2.1, if_pos (nI_le (by omega) (by omega)), show ρ 0 1 = p by omega]
      by_cases hc : sumN (fun p => ρ 12 (5 * p + l)) p ≤ q
      · rw [if_pos ((zI_ge (by omega) (by omega)).mpr (by omega)), show ((q : Int) - (sumN (fun p => ρ 12 (5 * p + l)) p : Nat)) = ((q - sumN (fun p => ρ 12 (5 * p + l)) p : Nat) : Int) by omega, zI_n]
      · rw [if_neg (fun z => hc (by have := (zI_ge (by omega) (by omega)).mp z; omega)), show q - sumN (fun p => ρ 12 (5 * p + l)) p = 0 by omega]
        rfl
    | succ k ih =>
      intro fuel p q hq hf hp
      obtain ⟨n, rfl⟩ : ∃ n, fuel = n + 1 := ⟨fuel - 1, by omega⟩
      simp only [f_M_needOf_23, f_M_needOf_23b, hM v w, bd1_s]
      rw [hr.1.2.1, if_neg (nI_ge (by omega) (by omega)), N_brokenBy hr.2 hk (by omega) hl, bd2_s, zI_subn, nI_1]
      have := ih n (p + 1) q hq (by omega) (by omega)
      rw [show ((q : Int) - (sumN (fun p => ρ 12 (5 * p + l)) p : Nat)) - (ρ 12 (5 * p + l) : Nat) = (q : Int) - (sumN (fun p => ρ 12 (5 * p + l)) (p + 1) : Nat) by show _ = (q : Int) - ((sumN (fun p => ρ 12 (5 * p + l)) p + ρ 12 (5 * p + l) : Nat) : Int); omega]
      exact this
  simp only [f_M_needOf, f_M_needOf_0, f_M_needOf_20, hM v w, bd1_s]
  rw [N_doesStand hr.2 hst (by omega), bd2_s]
  rcases bit_01 (ρ 0 4) l with h | h
  · rw [h, if_pos (show nI 0 = 0 from rfl)]
    have := key (ρ 0 1) FU 0 0 (by omega) (by unfold FU; omega) (by omega)
    rw [show ((0 : Nat) : Int) - (sumN (fun p => ρ 12 (5 * p + l)) 0 : Nat) = ((0 : Nat) : Int) by rfl, zI_n] at this
    rw [show (0 : Int32) = nI 0 from rfl, this]
    unfold sNeed
    rw [h, if_neg (by decide), Nat.zero_sub]
  · rw [h, if_neg (show ¬ nI 1 = 0 by decide)]
    simp only [hM v w, bd1_s]
    rw [show (0 : Int32) = nI 0 from rfl, nI_add, rd_nI (by omega) (by decide), bd1_s, hr.2.1 l hl]
    have := key (ρ 0 1) FU 0 (ρ 1 l) hq (by unfold FU; omega) (by omega)
    rw [show ((ρ 1 l : Nat) : Int) - (sumN (fun p => ρ 12 (5 * p + l)) 0 : Nat) = ((ρ 1 l : Nat) : Int) by show ((ρ 1 l : Nat) : Int) - ((0 : Nat) : Int) = _; omega, zI_n] at this
    rw [this]
    unfold sNeed
    rw [h, if_pos rfl]
theorem N_roomOf (hr : MRt T ρ v) (hk : ROK ρ) {p l : Nat} (hp : p < ρ 0 1) (hl : l < ρ 0 0) : f_M_roomOf 100 (nI p) (nI l) (bh v w) = some (nI (sRoom ρ p l), bh v w) := by
  have h1 := hk.1.1
  have h2 := hk.1.2.1
  have hst := hk.st
  have hrf : ρ 10 p < 32 := pw_le h1 (hk.2.2.1 p hp).2.2.2.2.1
  have hB : ρ 12 (5 * p + l) ≤ ρ 2 l := hk.2.2.2.1 p l hp hl
  have hc : ρ 2 l ≤ 3 := (hk.2.1 l hl).2.2.1
  simp only [f_M_roomOf, f_M_roomOf_0, f_M_roomOf_28, f_M_roomOf_29, f_M_roomOf_51, hM v w, bd1_s]
  rw [N_doesStand hr.2 (by omega) (by omega), bd2_s]
  unfold sRoom
  rcases bit_01 (ρ 0 4) l with h | h
  · simp [h]
    rfl
  · rw [h, if_neg (show ¬ nI 1 = 0 by decide)]
    simp only [hM v w, bd1_s]
    rw [show (18 : Int32) = nI 18 from rfl, nI_add, rd_nI (by omega) (by decide), bd1_s]
    have e1 := hr.2.2.2.2.2.2.2.1 p hp
    rw [show 0 + 18 + p = 18 + p by omega] at e1
    rw [e1, bit_I (by omega) (by omega), ite_iff (nI_eq0 (by have := bit_lt (ρ 10 p) l; omega))]
    rcases bit_01 (ρ 10 p) l with g | g
    · rw [if_pos g, if_neg (by decide), rd_nI (by omega) (by decide), bd1_s, (hr.1.2.2.1 l hl).1, N_brokenBy hr.2 hk hp hl, bd2_s, pk_sub hB, if_pos (nI_pos' (by omega)), if_pos ⟨trivial, g⟩]
    · rw [if_neg (by omega), if_pos trivial, if_pos (by decide), if_neg (fun z => by have := z.2; omega)]
      rfl
end
end
/-! 8u.rota.lean.txt -/
section
/-! rotas: what the table of least harms holds -/
def FAR : Nat := 1000000
def rN (ρ : Rho) (s l : Nat) : Nat := if bit s l = 1 then sNeed ρ l else 0
def rR (ρ : Rho) (p l : Nat) : Nat := if p < ρ 0 1 then sRoom ρ p l else 0
def rH (ρ : Rho) (p l : Nat) : Nat := if p < ρ 0 1 then ρ 3 l + ρ 7 p else 0
/-- x and y of the first two, z of the third -/
def rCost (ρ : Rho) (l x y z : Nat) : Nat := x * rH ρ 0 l + y * rH ρ 1 l + z * rH ρ 2 l
def rVal (ρ : Rho) (l a b c x y z B : Nat) : Nat := if x ≤ a ∧ y ≤ b ∧ z ≤ c ∧ x ≤ rR ρ 0 l ∧ y ≤ rR ρ 1 l ∧ z ≤ rR ρ 2 l ∧ B < FAR then rCost ρ l x y z + B else FAR
def rOpt (ρ : Rho) (s : Nat) (B : Nat → Nat → Nat → Nat) (l a b c x y : Nat) : Nat := if x + y ≤ rN ρ s l ∧ rN ρ s l - x - y ≤ 3 then rVal ρ l a b c x y (rN ρ s l - x - y) (B (a - x) (b - y) (c - (rN ρ s l - x - y))) else FAR
def rMin (f : Nat → Nat → Nat) : Nat → Nat
  | 0 => FAR
  | t + 1 => if f (t / 4) (t % 4) < rMin f t then f (t / 4) (t % 4) else rMin f t
def rBst (ρ : Rho) (s : Nat) : Nat → Nat → Nat → Nat → Nat
  | 0, _, _, _ => 0
  | k + 1, a, b, c => rMin (rOpt ρ s (rBst ρ s k) (ρ 0 0 - (k + 1)) a b c) 16
theorem rMin_le (f : Nat → Nat → Nat) : ∀ t, rMin f t ≤ FAR
  | 0 => Nat.le_refl _
  | t + 1 => by
    have := rMin_le f t
    unfold rMin
    split <;> omega
theorem rMin_or {f : Nat → Nat → Nat} {m : Nat} (h : ∀ x y, f x y = FAR ∨ f x y ≤ m) : ∀ t, rMin f t = FAR ∨ rMin f t ≤ m
  | 0 => Or.inl rfl
  | t + 1 => by
    have := rMin_or h t
    unfold rMin
    split
    · exact h _ _
    · exact this
section
variable {ρ : Rho} {v : Nat → Nat → Int32} {w : Nat → Nat → Int64} {T : Nat → Nat}
theorem rR_le (hk : ROK ρ) {p l : Nat} (hl : l < ρ 0 0) : rR ρ p l ≤ 3 := by
  unfold rR
  split
  · exact sRoom_le hk hl
  · omega
theorem rH_le (hk : ROK ρ) {p l : Nat} (hl : l < ρ 0 0) : rH ρ p l ≤ 12 := by
  unfold rH
  split
  · next h =>
    have := (hk.2.1 l hl).2.2.2.1
    have := (hk.2.2.1 p h).2.1
    omega
  · omega
theorem rN_le (hk : ROK ρ) {s l : Nat} (hl : l < ρ 0 0) : rN ρ s l ≤ 9 := by
  unfold rN
  split
  · exact sNeed_le hk hl
  · omega
theorem rCost_le (hk : ROK ρ) {l x y z : Nat} (hl : l < ρ 0 0) (hx : x ≤ 3) (hy : y ≤ 3) (hz : z ≤ 3) : rCost ρ l x y z ≤ 108 := by
  have a := Nat.mul_le_mul hx (rH_le hk (p := 0) hl)
  have b := Nat.mul_le_mul hy (rH_le hk (p := 1) hl)
  have c := Nat.mul_le_mul hz (rH_le hk (p := 2) hl)
  unfold rCost
  omega
theorem rVal_or (hk : ROK ρ) {l a b c x y z B m : Nat} (hl : l < ρ 0 0) (hB : B = FAR ∨ B ≤ m) : rVal ρ l a b c x y z B = FAR ∨ rVal ρ l a b c x y z B ≤ m + 108 := by
  unfold rVal
  split
  · next h =>
    have r0 := rR_le hk (p := 0) hl
    have r1 := rR_le hk (p := 1) hl
    have r2 := rR_le hk (p := 2) hl
    have := rCost_le hk (x := x) (y := y) (z := z) hl (by omega) (by omega) (by omega)
    omega
  · exact Or.inl rfl
theorem rBst_or (hk : ROK ρ) (s : Nat) : ∀ (k a b c : Nat), k ≤ ρ 0 0 → rBst ρ s k a b c = FAR ∨ rBst ρ s k a b c ≤ 108 * k
  | 0, _, _, _, _ => Or.inr (Nat.le_refl _)
  | k + 1, a, b, c, h => by
    have ih := fun a b c => rBst_or hk s k a b c (by omega)
    refine rMin_or (m := 108 * (k + 1)) (fun x y => ?_) 16
    unfold rOpt
    split
    · have := rVal_or hk (a := a) (b := b) (c := c) (x := x) (y := y) (z := rN ρ s (ρ 0 0 - (k + 1)) - x - y) (show ρ 0 0 - (k + 1) < ρ 0 0 by omega) (ih (a - x) (b - y) (c - (rN ρ s (ρ 0 0 - (k + 1)) - x - y)))
      omega
    · exact Or.inl rfl
def atN (l a b c : Nat) : Nat := ((16 * l + a) * 16 + b) * 16 + c
theorem M_at (l a b c : Nat) (h : mH) : f_M_at (nI l) (nI a) (nI b) (nI c) h = some (nI (atN l a b c), h) := by
  unfold f_M_at f_M_at_0 atN
  rw [show (16 : Int32) = nI 16 from rfl, pk_mul, nI_add, pk_mul, nI_add, pk_mul, nI_add]
theorem M_roomAt (hr : MRt T ρ v) (hk : ROK ρ) {p l : Nat} (hp : p < 3) (hl : l < ρ 0 0) : f_M_roomAt 100 (nI p) (nI l) (bh v w) = some (nI (rR ρ p l), bh v w) := by
  have h2 := hk.1.2.1
  simp only [f_M_roomAt, f_M_roomAt_0, hM v w, bd1_s]
  rw [hr.1.2.1, ite_iff (nI_leI (by omega) (by omega))]
  unfold rR
  by_cases h : p < ρ 0 1
  · rw [if_neg (by omega), if_pos h, N_roomOf hr hk h hl, bd2_s]
  · rw [if_pos (by omega), if_neg h]
    rfl
theorem h_term (hr : MF ρ v) {p l x : Nat} (hl : l < ρ 0 0) (hx : x ≤ rR ρ p l) : nI x * (v 104 l + v 106 p) = nI (x * rH ρ p l) := by
  unfold rR at hx
  unfold rH
  by_cases h : p < ρ 0 1
  · rw [if_pos h, (hr.2.2.1 l hl).2.1, (hr.2.2.2 p h).1, nI_add, pk_mul]
  · rw [if_neg h] at hx ⊢
    obtain rfl : x = 0 := by omega
    rw [Nat.zero_mul]
    exact Int32.zero_mul
theorem M_harmBy (hr : MRt T ρ v) (hk : ROK ρ) {l a b c x y z B : Nat} (hl : l < ρ 0 0) (ha : a < 16) (hb : b < 16) (hc : c < 16) (hx : x ≤ 3) (hy : y ≤ 3) (hz : z ≤ 3) (hB : B = FAR ∨ B ≤ 1000) (ht : x ≤ a → y ≤ b → z ≤ c → v 115 (atN (l + 1) (a - x) (b - y) (c - z)) = nI B) : f_M_harmBy 100 (nI l) (nI a) (nI b) (nI c) (nI x) (nI y) (nI z) (bh v w) = some (nI (rVal ρ l a b c x y z B), bh v w) := by
  have h1 := hk.1.1
  have r0 := rR_le hk (p := 0) hl
  have r1 := rR_le hk (p := 1) hl
  have r2 := rR_le hk (p := 2) hl
  have fB : B < 2 ^ 31 := by unfold FAR at hB; omega
  simp only [f_M_harmBy, f_M_harmBy_0, f_M_harmBy_52]
  unfold rVal
  rw [ite_iff (nI_ltI (by omega) (by omega))]
  by_cases c1 : a < x
  · rw [if_pos c1, if_neg (fun q => by omega)]; rfl
  rw [if_neg c1, ite_iff (nI_ltI (by omega) (by omega))]
  by_cases c2 : b < y
  · rw [if_pos c2, if_neg (fun q => by omega)]; rfl
  rw [if_neg c2, ite_iff (nI_ltI (by omega) (by omega))]
  by_cases c3 : c < z
  · rw [if_pos c3, if_neg (fun q => by omega)]; rfl
  rw [if_neg c3]
  simp only [hM v w, bd1_s]
  rw [show (0 : Int32) = nI 0 from rfl, show (1 : Int32) = nI 1 from rfl, show (2 : Int32) = nI 2 from rfl, M_roomAt hr hk (by decide) hl, bd2_s, ite_iff (nI_ltI (by omega) (by omega))]
  by_cases c4 : rR ρ 0 l < x
  · rw [if_pos c4, if_neg (fun q => by omega)]; rfl
  rw [if_neg c4]
  simp only [hM v w, bd1_s]
  rw [M_roomAt hr hk (by decide) hl, bd2_s, ite_iff (nI_ltI (by omega) (by omega))]
  by_cases c5 : rR ρ 1 l < y
  · rw [if_pos c5, if_neg (fun q => by omega)]; rfl
  rw [if_neg c5]
  simp only [hM v w, bd1_s]
  rw [M_roomAt hr hk (by decide) hl, bd2_s, ite_iff (nI_leI (by omega) (by omega))]
  by_cases c6 : z ≤ rR ρ 2 l
  · rw [if_pos c6]
    simp only [hM v w, bd1_s]
    rw [rd_nI (by omega) (by decide), bd1_s, rd_nI (by decide) (by decide), bd1_s, bd1_s, rd_nI (by decide) (by decide), bd1_s, bd1_s, rd_nI (by decide) (by decide), bd1_s, nI_add l 1, pk_sub (by omega), pk_sub (by omega), pk_sub (by omega), M_at, bd2_s]
    simp only [hM v w, bd1_s]
    rw [rd_nI (by unfold atN; omega) (by decide), bd1_s, ht (by omega) (by omega) (by omega), h_term hr.1 hl (by omega), h_term hr.1 hl (by omega), h_term hr.1 hl c6, nI_add, nI_add, nI_add, show (1000000 : Int32) = nI FAR from rfl, ite_iff (nI_eqI fB (by decide))]
    by_cases c7 : B = FAR
    · rw [if_pos c7, if_neg (fun q => by omega)]
    · rw [if_neg c7, if_pos ⟨by omega, by omega, by omega, by omega, by omega, c6, by unfold FAR at *; omega⟩]
      rfl
  · rw [if_neg c6, if_neg (fun q => c6 q.2.2.2.2.2.1)]; rfl
end
end
/-! 8v.rota2.lean.txt -/
section
section
variable {ρ : Rho} {v : Nat → Nat → Int32} {w : Nat → Nat → Int64} {T : Nat → Nat} {s A B C : Nat}
def rBase (ρ : Rho) (s : Nat) (T : Nat → Nat) (A B C : Nat) (v : Nat → Nat → Int32) : Prop := MRt T ρ v ∧ (∀ l, l < ρ 0 0 → v 116 l = nI (rN ρ s l)) ∧ v 117 0 = nI A ∧ v 117 1 = nI B ∧ v 117 2 = nI C
theorem MRt.frame {v' : Nat → Nat → Int32} (h : MRt T ρ v) (hq : ∀ q, 100 ≤ q ∧ q < 108 → v' q = v q) : MRt T ρ v' := by
  unfold MRt MF MBt at h ⊢
  rw [hq 100 (by omega), hq 101 (by omega), hq 103 (by omega), hq 104 (by omega), hq 105 (by omega), hq 106 (by omega), hq 107 (by omega)]
  exact h
theorem rBase.frame {v' : Nat → Nat → Int32} (h : rBase ρ s T A B C v) (hq : ∀ q, q ≠ 115 → v' q = v q) : rBase ρ s T A B C v' := by
  obtain ⟨h1, h2, h3, h4, h5⟩ := h
  unfold rBase
  rw [hq 116 (by decide), hq 117 (by decide)]
  exact ⟨h1.frame (fun q z => hq q (by omega)), h2, h3, h4, h5⟩
theorem rBst_s {l : Nat} (hl : l < ρ 0 0) (a b c : Nat) : rBst ρ s (ρ 0 0 - l) a b c = rMin (rOpt ρ s (rBst ρ s (ρ 0 0 - (l + 1))) l a b c) 16 := by
  obtain ⟨k, hk⟩ : ∃ k, ρ 0 0 - l = k + 1 := ⟨ρ 0 0 - l - 1, by omega⟩
  rw [hk]
  show rMin (rOpt ρ s (rBst ρ s k) (ρ 0 0 - (k + 1)) a b c) 16 = _
  rw [show ρ 0 0 - (k + 1) = l by omega, show ρ 0 0 - (l + 1) = k by omega]
theorem M_leastOf (hb : rBase ρ s T A B C v) (hk : ROK ρ) {l a b c : Nat} (hl : l < ρ 0 0) (ha : a < 16) (hb2 : b < 16) (hc : c < 16) (ht : ∀ a' b' c', a' ≤ a → b' ≤ b → c' ≤ c → v 115 (atN (l + 1) a' b' c') = nI (rBst ρ s (ρ 0 0 - (l + 1)) a' b' c')) : f_M_leastOf 100 (nI l) (nI a) (nI b) (nI c) (bh v w) = some (nI (rBst ρ s (ρ 0 0 - l) a b c), bh v w) := by
  have h1 := hk.1.1
  rw [rBst_s hl]
  generalize hf : rOpt ρ s (rBst ρ s (ρ 0 0 - (l + 1))) l a b c = f
  have hN := rN_le hk (s := s) hl
  have fF : FAR < 2 ^ 31 := by decide
  have stp : ∀ (rec7 : Nat → Int32 → Int32 → Int32 → Int32 → Int32 → Int32 → mH → Option (Int32 × mH)) (m x y : Nat), x ≤ 3 → y ≤ 3 → f_M_leastOf_16 rec7 (m + 1) 100 (nI l) (nI a) (nI b) (nI c) (nI (rMin f (4 * x + y))) (nI x) (nI y) (bh v w) = f_M_leastOf_16 rec7 m 100 (nI l) (nI a) (nI b) (nI c) (nI (rMin f (4 * x + (y + 1)))) (nI x) (nI (y + 1)) (bh v w) := by
    intro rec7 m x y hx hy
    have hm := rMin_le f (4 * x + y)
    have e1 : rMin f (4 * x + (y + 1)) = if f x y < rMin f (4 * x + y) then f x y else rMin f (4 * x + y) := by
      show (if f ((4 * x + y) / 4) ((4 * x + y) % 4) < rMin f (4 * x + y) then f ((4 * x + y) / 4) ((4 * x + y) % 4) else rMin f (4 * x + y)) = _
      rw [show (4 * x + y) / 4 = x by omega, show (4 * x + y) % 4 = y by omega]
    show f_M_leastOf_16b rec7 (f_M_leastOf_16 rec7 m) 100 (nI l) (nI a) (nI b) (nI c) (nI (rMin f (4 * x + y))) (nI x) (nI y) (bh v w) = _
    unfold f_M_leastOf_16b f_M_leastOf_69 f_M_leastOf_85
    rw [show (3 : Int32) = nI 3 from rfl, if_neg (fun z => by have := (nI_ltI (by omega) (by omega)).mp z; omega)]
    simp only [hM v w, bd1_s]
    rw [rd_nI (by omega) (by decide), bd1_s, hb.2.1 l hl, show nI (rN ρ s l) - nI x - nI y = zI ((rN ρ s l : Int) - x - y) by rw [← zI_n (rN ρ s l), zI_subn, zI_subn], M_in, bd2_s, show (3 : Int64) = (zI 3).toInt64 from rfl]
    by_cases g : 0 ≤ (rN ρ s l : Int) - x - y ∧ (rN ρ s l : Int) - x - y ≤ 3
    · rw [if_pos ((in_lay (by decide) (by decide)).mpr (by rw [zI_t (by omega) (by omega)]; exact g)), if_neg (by decide)]
      simp only [hM v w, bd1_s]
      obtain ⟨z, hz⟩ : ∃ z : Nat, (rN ρ s l : Int) - x - y = z := ⟨((rN ρ s l : Int) - x - y).toNat, by omega⟩
      have ez : rN ρ s l - x - y = z := by omega
      have hB := rBst_or hk s (ρ 0 0 - (l + 1)) (a - x) (b - y) (c - z) (by omega)
      rw [hz, zI_n, M_harmBy hb.1 hk (B := rBst ρ s (ρ 0 0 - (l + 1)) (a - x) (b - y) (c - z)) hl ha hb2 hc hx hy (by omega) (by omega) (fun _ _ _ => ht _ _ _ (by omega) (by omega) (by omega)), bd2_s]
      have ef : f x y = rVal ρ l a b c x y z (rBst ρ s (ρ 0 0 - (l + 1)) (a - x) (b - y) (c - z)) := by
        rw [← hf]
        unfold rOpt
        rw [if_pos (by omega), ez]
      rw [← ef, e1]
      have hv := rVal_or hk (a := a) (b := b) (c := c) (x := x) (y := y) (z := z) hl hB
      rw [← ef] at hv
      have hfl : f x y < 2 ^ 31 := by unfold FAR at hv; omega
      rw [ite_iff (nI_leI (by omega) hfl), nI_1]
      by_cases q : rMin f (4 * x + y) ≤ f x y
      · rw [if_pos q, if_neg (by omega)]
      · rw [if_neg q, if_pos (by omega)]
    · have gi : ¬ ((0 : Int64) ≤ (zI ((rN ρ s l : Int) - x - y)).toInt64 ∧ (zI ((rN ρ s l : Int) - x - y)).toInt64 ≤ (zI 3).toInt64) := fun q => g (by
        have := (in_lay (y := zI ((rN ρ s l : Int) - x - y)) (m := 3) (by decide) (by decide)).mp q
        rwa [zI_t (by omega) (by omega)] at this)
      rw [if_neg gi, if_pos rfl]
      have ef : f x y = FAR := by
        rw [← hf]
        unfold rOpt
        rw [if_neg (by omega)]
      rw [e1, ef, if_neg (show ¬ FAR < rMin f (4 * x + y) by omega), show (1000000 : Int32) = nI FAR from rfl, if_pos ((nI_leI (by omega) fF).mpr hm), nI_1]
  have row : ∀ (rec7 : Nat → Int32 → Int32 → Int32 → Int32 → Int32 → Int32 → mH → Option (Int32 × mH)) (x : Nat), x ≤ 3 → f_M_leastOf_16 rec7 FU 100 (nI l) (nI a) (nI b) (nI c) (nI (rMin f (4 * x))) (nI x) 0 (bh v w) = rec7 100 (nI l) (nI a) (nI b) (nI c) (nI (rMin f (4 * (x + 1)))) (nI (x + 1)) (bh v w) := by
    intro rec7 x hx
    have s0 := stp rec7 599 x 0 hx (by omega)
    have s1 := stp rec7 598 x 1 hx (by omega)
    have s2 := stp rec7 597 x 2 hx (by omega)
    have s3 := stp rec7 596 x 3 hx (by omega)
    refine (s0.trans (s1.trans (s2.trans s3))).trans ?_
    show f_M_leastOf_16b rec7 (f_M_leastOf_16 rec7 595) 100 (nI l) (nI a) (nI b) (nI c) (nI (rMin f (4 * x + 4))) (nI x) (nI 4) (bh v w) = _
    unfold f_M_leastOf_16b
    rw [if_pos (by decide), nI_1, show 4 * (x + 1) = 4 * x + 4 by omega]
  have r0 : ∀ (m x : Nat), x ≤ 3 → f_M_leastOf_7 (m + 1) 100 (nI l) (nI a) (nI b) (nI c) (nI (rMin f (4 * x))) (nI x) (bh v w) = f_M_leastOf_7 m 100 (nI l) (nI a) (nI b) (nI c) (nI (rMin f (4 * (x + 1)))) (nI (x + 1)) (bh v w) := by
    intro m x hx
    show f_M_leastOf_7b (f_M_leastOf_7 m) 100 (nI l) (nI a) (nI b) (nI c) (nI (rMin f (4 * x))) (nI x) (bh v w) = _
    unfold f_M_leastOf_7b
    rw [show (3 : Int32) = nI 3 from rfl, if_neg (fun z => by have := (nI_ltI (by omega) (by omega)).mp z; omega), row _ x hx]
  have t0 := r0 599 0 (by omega)
  have t1 := r0 598 1 (by omega)
  have t2 := r0 597 2 (by omega)
  have t3 := r0 596 3 (by omega)
  refine (t0.trans (t1.trans (t2.trans t3))).trans ?_
  show f_M_leastOf_7b (f_M_leastOf_7 595) 100 (nI l) (nI a) (nI b) (nI c) (nI (rMin f 16)) (nI 4) (bh v w) = _
  unfold f_M_leastOf_7b
  rw [if_pos (by decide)]
/-- what is done of the table -/
def rP (ρ : Rho) (s A B C l0 a0 b0 c0 : Nat) (v : Nat → Nat → Int32) : Prop := ∀ l a b c, l ≤ ρ 0 0 → a ≤ A → b ≤ B → c ≤ C → (l0 < l ∨ l = l0 ∧ (a < a0 ∨ a = a0 ∧ (b < b0 ∨ b = b0 ∧ c < c0))) → v 115 (atN l a b c) = nI (rBst ρ s (ρ 0 0 - l) a b c)
theorem atN_inj {l a b c l' a' b' c' : Nat} (h : atN l a b c = atN l' a' b' c') (ha : a < 16) (hb : b < 16) (hc : c < 16) (ha' : a' < 16) (hb' : b' < 16) (hc' : c' < 16) : l = l' ∧ a = a' ∧ b = b' ∧ c = c' := by
  unfold atN at h
  omega
theorem M_cLoop (hk : ROK ρ) (hA : A < 16) (hB : B < 16) (hC : C < 16) (rec5 : Nat → Int32 → mH → Option (Int32 × mH)) (rec11 : Nat → Int32 → Int32 → mH → Option (Int32 × mH)) (rec23 : Nat → Int32 → Int32 → Int32 → mH → Option (Int32 × mH)) {l a b : Nat} (hl : l ≤ ρ 0 0) (ha : a ≤ A) (hbb : b ≤ B) : ∀ (k fuel c : Nat) (v : Nat → Nat → Int32), k < fuel → c + k = C + 1 → rBase ρ s T A B C v → rP ρ s A B C l a b c v → ∃ v', f_M_findRota_36 rec5 rec11 rec23 fuel 100 (nI l) (nI a) (nI b) (nI c) (bh v w) = rec23 100 (nI l) (nI a) (nI (b + 1)) (bh v' w) ∧ rP ρ s A B C l a (b + 1) 0 v' ∧ ∀ q, q ≠ 115 → v' q = v q := by
  have h1 := hk.1.1
  intro k
  induction k with
  | zero =>
    intro fuel c v hf hc hb hp
    obtain ⟨n, rfl⟩ : ∃ n, fuel = n + 1 := ⟨fuel - 1, by omega⟩
    refine ⟨v, ?_, fun l' a' b' c' q1 q2 q3 q4 q5 => hp l' a' b' c' q1 q2 q3 q4 (by omega), fun _ _ => rfl⟩
    show f_M_findRota_36b rec5 rec11 rec23 (f_M_findRota_36 rec5 rec11 rec23 n) 100 (nI l) (nI a) (nI b) (nI c) (bh v w) = _
    unfold f_M_findRota_36b
    simp only [hM v w, bd1_s]
    have e2 : rd (v 117) 3 (2 : Int32) = some (nI C) := by rw [← hb.2.2.2.2]; rfl
    rw [e2, bd1_s, if_pos ((nI_ltI (by omega) (by omega)).mpr (by omega)), nI_1]
  | succ k ih =>
    intro fuel c v hf hc hb hp
    obtain ⟨n, rfl⟩ : ∃ n, fuel = n + 1 := ⟨fuel - 1, by omega⟩
    have wr1 : ∀ x : Nat, x = rBst ρ s (ρ 0 0 - l) a b c → ∃ v', f_M_findRota_36 rec5 rec11 rec23 n 100 (nI l) (nI a) (nI b) (nI (c + 1)) (bh (u2 v 115 (atN l a b c) (nI x)) w) = rec23 100 (nI l) (nI a) (nI (b + 1)) (bh v' w) ∧ rP ρ s A B C l a (b + 1) 0 v' ∧ ∀ q, q ≠ 115 → v' q = v q := by
      intro x hx
      have hp' : rP ρ s A B C l a b (c + 1) (u2 v 115 (atN l a b c) (nI x)) := by
        intro l' a' b' c' q1 q2 q3 q4 q5
        by_cases e : atN l' a' b' c' = atN l a b c
        · obtain ⟨z1, z2, z3, z4⟩ := atN_inj e (by omega) (by omega) (by omega) (by omega) (by omega) (by omega)
          rw [z1, z2, z3, z4, u2_at, hx]
        · rw [u2_n e]
          refine hp l' a' b' c' q1 q2 q3 q4 ?_
          have : ¬ (l' = l ∧ a' = a ∧ b' = b ∧ c' = c) := fun z => e (by rw [z.1, z.2.1, z.2.2.1, z.2.2.2])
          omega
      obtain ⟨v', e1, e2, e3⟩ := ih n (c + 1) (u2 v 115 (atN l a b c) (nI x)) (by omega) (by omega) (hb.frame (fun q hq => u2_o hq)) hp'
      exact ⟨v', e1, e2, fun q hq => (e3 q hq).trans (u2_o hq)⟩
    show ∃ v', f_M_findRota_36b rec5 rec11 rec23 (f_M_findRota_36 rec5 rec11 rec23 n) 100 (nI l) (nI a) (nI b) (nI c) (bh v w) = _ ∧ _
    unfold f_M_findRota_36b f_M_findRota_80
    simp only [hM v w, bd1_s]
    have e2 : rd (v 117) 3 (2 : Int32) = some (nI C) := by rw [← hb.2.2.2.2]; rfl
    rw [e2, bd1_s, if_neg (fun z => by have := (nI_ltI (by omega) (by omega)).mp z; omega), M_at, bd2_s]
    simp only [hM v w, bd1_s]
    rw [hb.1.1.1, ite_iff (nI_eqI (by omega) (by omega)), wr_nI (by unfold atN; omega) (by decide), bd1_s, nI_1]
    by_cases e : l = ρ 0 0
    · rw [if_pos e]
      exact wr1 0 (by rw [e, Nat.sub_self]; rfl)
    · rw [if_neg e, M_leastOf hb hk (by omega) (by omega) (by omega) (by omega) (fun a' b' c' q1 q2 q3 => hp (l + 1) a' b' c' (by omega) (by omega) (by omega) (by omega) (by omega)), bd2_s]
      simp only [hM v w, bd1_s]
      rw [wr_nI (by unfold atN; omega) (by decide), bd1_s]
      exact wr1 _ rfl
end
end
