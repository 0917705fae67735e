def rnd1 (p : Nat) (s : Rho × Nat × Nat) : Rho × Nat × Nat := if mnd s.1 p (s.1 0 0) = 0 then s else (bro s.1 p (mnd s.1 p (s.1 0 0) - 1), s.2.1 + 1, s.2.2 + sHurt s.1 p (mnd s.1 p (s.1 0 0) - 1))
def rndK : Nat → Nat → Rho × Nat × Nat → Rho × Nat × Nat
  | 0, _, s => s
  | k + 1, p, s => rndK k (p + 1) (rnd1 p s)
def slf : Nat → Rho × Nat × Nat → Rho × Nat × Nat
  | 0, s => s
  | f + 1, s => if (rndK (s.1 0 1) 0 s).2.1 = s.2.1 then rndK (s.1 0 1) 0 s else slf f (rndK (s.1 0 1) 0 s)
/-- what a round keeps -/
def rkp (s t : Rho × Nat × Nat) : Prop := ROK t.1 ∧ t.1 0 0 = s.1 0 0 ∧ t.1 0 1 = s.1 0 1 ∧ t.1 0 3 = s.1 0 3 ∧ t.2.1 + sLs t.1 = s.2.1 + sLs s.1 ∧ s.2.1 ≤ t.2.1
theorem rnd1_ok {p : Nat} {s : Rho × Nat × Nat} (hk : ROK s.1) (hp : p < s.1 0 1) : rkp s (rnd1 p s) := by
  unfold rnd1
  by_cases h : mnd s.1 p (s.1 0 0) = 0
  · rw [if_pos h]; exact ⟨hk, rfl, rfl, rfl, rfl, Nat.le_refl _⟩
  · rw [if_neg h]
    have ml := mnd_le s.1 p (s.1 0 0)
    have hl : mnd s.1 p (s.1 0 0) - 1 < s.1 0 0 := by omega
    have ht := (ml.2 h).1
    have e := sLs_bro hk hp hl ht
    refine ⟨ROK_bro hk hp hl ht, rfl, rfl, rfl, ?_, Nat.le_succ _⟩
    show s.2.1 + 1 + sLs (bro s.1 p (mnd s.1 p (s.1 0 0) - 1)) = _
    omega
theorem rkp.tr {a b c : Rho × Nat × Nat} (x : rkp a b) (y : rkp b c) : rkp a c :=
  ⟨y.1, y.2.1.trans x.2.1, y.2.2.1.trans x.2.2.1, y.2.2.2.1.trans x.2.2.2.1, y.2.2.2.2.1.trans x.2.2.2.2.1, Nat.le_trans x.2.2.2.2.2 y.2.2.2.2.2⟩
theorem rndK_ok : ∀ (k p : Nat) (s : Rho × Nat × Nat), ROK s.1 → p + k ≤ s.1 0 1 → rkp s (rndK k p s)
  | 0, _, s, hk, _ => ⟨hk, rfl, rfl, rfl, rfl, Nat.le_refl _⟩
  | k + 1, p, s, hk, h => by
    have r := rnd1_ok (p := p) hk (by omega)
    exact r.tr (rndK_ok k (p + 1) (rnd1 p s) r.1 (by rw [r.2.2.1]; omega))
theorem slf_ok : ∀ (f : Nat) (s : Rho × Nat × Nat), ROK s.1 → rkp s (slf f s)
  | 0, s, hk => ⟨hk, rfl, rfl, rfl, rfl, Nat.le_refl _⟩
  | f + 1, s, hk => by
    have r := rndK_ok (s.1 0 1) 0 s hk (by omega)
    unfold slf
    split
    · exact r
    · exact r.tr (slf_ok f _ r.1)
section
variable {ρ : Rho} {v : Nat → Nat → Int32} {w : Nat → Nat → Int64} {o c : Nat}
theorem CRq_done {x : Nat} (h : CRq c o ρ v) : CRq (c + x) o ρ (u2 v o 3 (nI (ρ 0 3 + c + x))) := by
  obtain ⟨⟨a0, a1, a2, a3, a4, a5, a6⟩, h2, h3, h4, h5⟩ := h
  refine ⟨⟨(u2_n (by decide)).trans a0, (u2_n (by decide)).trans a1, (u2_n (by decide)).trans a2, ?_, (u2_n (by decide)).trans a4, (u2_n (by decide)).trans a5, (congrFun (u2_o (by omega)) 0).trans a6⟩, ?_, ?_, ?_, ?_⟩
  · rw [u2_at, Nat.add_assoc]
  · rw [u2_o (show o + 1 ≠ o by omega), u2_o (show o + 2 ≠ o by omega), u2_o (show o + 3 ≠ o by omega), u2_o (show o + 4 ≠ o by omega), u2_o (show o + 5 ≠ o by omega)]; exact h2
  · rw [u2_o (show o + 6 ≠ o by omega), u2_o (show o + 7 ≠ o by omega), u2_o (show o + 8 ≠ o by omega), u2_o (show o + 9 ≠ o by omega), u2_o (show o + 10 ≠ o by omega), u2_o (show o + 11 ≠ o by omega)]; exact h3
  · rw [u2_o (show o + 12 ≠ o by omega)]; exact h4
  · rw [u2_o (show o + 14 ≠ o by omega), u2_o (show o + 15 ≠ o by omega), u2_o (show o + 16 ≠ o by omega)]; exact h5
theorem D_mark (ho : rl o) (hr : CRq c o ρ v) (hk : ROK ρ) {p l : Nat} (hp : p < ρ 0 1) (hl : l < ρ 0 0) : ∃ v', f_Realm_mark o (nI p) (nI l) (bh v w) = some (nI (sHurt ρ p l), bh v' w) ∧ CRq (c + sHurt ρ p l) o (bro ρ p l) v' ∧ ∀ q, q < o ∨ o + 17 ≤ q → v' q = v q := by
  have h1 := hk.1.1
  have h2 := hk.1.2.1
  simp only [f_Realm_mark, f_Realm_mark_0, hRl ho v w, bd1_s]
  rw [rd_nI (by omega) (by decide), bd1_s, rd_nI (by omega) (by decide), bd1_s, (hr.2.1 l hl).2.2.1, (hr.2.2.1 p hp).2.1, nI_add, show (nI p * (5 : Int32)) + nI l = nI (5 * p + l) by rw [show (5 : Int32) = nI 5 from rfl, pk_mul, nI_add, Nat.mul_comm p 5]]
  rw [rd_nI (by omega) (by decide), bd1_s, hr.2.2.2.1 p l hp hl, nI_1, wr_nI (by omega) (by decide), bd1_s]
  have c1 := CRq_broke (x := ρ 12 (5 * p + l) + 1) hp hl hr h1
  simp only [hRl ho (u2 v (o + 12) (5 * p + l) (nI (ρ 12 (5 * p + l) + 1))) w, bd1_s]
  rw [c1.1.2.2.2.1, nI_add]
  refine ⟨_, rfl, CRq_done (x := sHurt ρ p l) c1, fun q hq => ?_⟩
  rw [u2_o (by omega), u2_o (by omega)]
theorem D_met (ho : rl o) (hr : CRq c o ρ v) (hk : ROK ρ) : f_Realm_met o (bh v w) = some (nI (orN (fun l => if sNeed ρ l = 0 then 2 ^ l else 0) (ρ 0 0) &&& ρ 0 4), bh v w) := by
  have h1 := hk.1.1
  have key : ∀ (k fuel l : Nat), k < fuel → l + k = ρ 0 0 → f_Realm_met_4 fuel o (nI (orN (fun l => if sNeed ρ l = 0 then 2 ^ l else 0) l)) (nI l) (bh v w) = some (nI (orN (fun l => if sNeed ρ l = 0 then 2 ^ l else 0) (ρ 0 0) &&& ρ 0 4), bh v w) := by
    intro k
    induction k with
    | zero =>
      intro fuel l hf hl
      obtain ⟨n, rfl⟩ : ∃ n, fuel = n + 1 := ⟨fuel - 1, by omega⟩
      simp only [f_Realm_met_4, f_Realm_met_4b, hRl ho v w, bd1_s]
      rw [hr.1.1, if_pos (nI_le (by omega) (by omega)), hr.1.2.2.2.2.1, and_I, show l = ρ 0 0 by omega]
    | succ k ih =>
      intro fuel l hf hl
      obtain ⟨n, rfl⟩ : ∃ n, fuel = n + 1 := ⟨fuel - 1, by omega⟩
      have hl2 : l < ρ 0 0 := by omega
      have hn := sNeed_le hk hl2
      simp only [f_Realm_met_4, f_Realm_met_4b, f_Realm_met_28, hRl ho v w, bd1_s]
      have e2 : orN (fun l => if sNeed ρ l = 0 then 2 ^ l else 0) (l + 1) = orN (fun l => if sNeed ρ l = 0 then 2 ^ l else 0) l ||| (if sNeed ρ l = 0 then 2 ^ l else 0) := rfl
      have ih2 := ih n (l + 1) (by omega) (by omega)
      rw [hr.1.1, if_neg (nI_ge (by omega) (by omega)), D_needOf ho hr hk hl2, bd2_s, ite_iff (nI_eq0 (by omega))]
      by_cases z : sNeed ρ l = 0
      · rw [if_pos z, nI_1, shl_I (by omega), or_I]
        rw [e2, if_pos z] at ih2
        exact ih2
      · rw [if_neg z, nI_1, show (0 : Int32) = nI 0 from rfl, or_I]
        rw [e2, if_neg z] at ih2
        exact ih2
  exact key (ρ 0 0) FU 0 (by unfold FU; omega) (by omega)
/-- the class's round -/
theorem C_rnd (rec : Nat → Int32 → Int32 → mH → Option (Int32 × mH)) (r b : Int32) : ∀ (k fuel p : Nat) (s : Rho × Nat × Nat) (v : Nat → Nat → Int32), k < fuel → p + k = s.1 0 1 → CRq s.2.2 20 s.1 v → ROK s.1 → ∃ v', f_Realm_eachForHimself_15 rec fuel 20 (nI s.2.1) r b (nI p) (bh v w) = (if nI (rndK k p s).2.1 = b then some (nI (rndK k p s).2.1, bh v' w) else rec 20 (nI (rndK k p s).2.1) (r + 1) (bh v' w)) ∧ CRq (rndK k p s).2.2 20 (rndK k p s).1 v' ∧ ∀ q, q < 20 ∨ 37 ≤ q → v' q = v q := by
  intro k
  induction k with
  | zero =>
    intro fuel p s v hf hp hr hk
    obtain ⟨n, rfl⟩ : ∃ n, fuel = n + 1 := ⟨fuel - 1, by omega⟩
    have h2 := hk.1.2.1
    refine ⟨v, ?_, hr, fun _ _ => rfl⟩
    show f_Realm_eachForHimself_15b rec (f_Realm_eachForHimself_15 rec n) 20 (nI s.2.1) r b (nI p) (bh v w) = _
    unfold f_Realm_eachForHimself_15b f_Realm_eachForHimself_71
    simp only [hRl rl20 v w, bd1_s]
    rw [hr.1.2.1, if_pos (nI_le (by omega) (by omega))]
    rfl
  | succ k ih =>
    intro fuel p s v hf hp hr hk
    obtain ⟨n, rfl⟩ : ∃ n, fuel = n + 1 := ⟨fuel - 1, by omega⟩
    have h1 := hk.1.1
    have h2 := hk.1.2.1
    have hpp : p < s.1 0 1 := by omega
    have rk := rnd1_ok (p := p) hk hpp
    have ml := mnd_le s.1 p (s.1 0 0)
    have e0 : rndK (k + 1) p s = rndK k (p + 1) (rnd1 p s) := rfl
    rw [e0]
    show ∃ v', f_Realm_eachForHimself_15b rec (f_Realm_eachForHimself_15 rec n) 20 (nI s.2.1) r b (nI p) (bh v w) = _ ∧ _
    unfold f_Realm_eachForHimself_15b f_Realm_eachForHimself_51
    simp only [hRl rl20 v w, bd1_s]
    rw [hr.1.2.1, if_neg (nI_ge (by omega) (by omega)), D_mostNeeded rl20 hr hk hpp, bd2_s]
    by_cases h : mnd s.1 p (s.1 0 0) = 0
    · have e1 : rnd1 p s = s := by unfold rnd1; rw [if_pos h]
      rw [if_pos ((cI_4 (by omega)).mpr h), nI_1, e1]
      exact ih n (p + 1) s v (by omega) (by omega) hr hk
    · obtain ⟨l, hl⟩ : ∃ l, mnd s.1 p (s.1 0 0) = l + 1 := ⟨mnd s.1 p (s.1 0 0) - 1, by omega⟩
      have e1 : rnd1 p s = (bro s.1 p l, s.2.1 + 1, s.2.2 + sHurt s.1 p l) := by unfold rnd1; rw [if_neg h, hl]; rfl
      obtain ⟨v1, a1, a2, a3⟩ := D_mark (w := w) rl20 hr hk hpp (show l < s.1 0 0 by omega)
      rw [if_neg (fun q => h ((cI_4 (by omega)).mp q)), hl, cI_s]
      simp only [hRl rl20 v w, bd1_s]
      rw [a1, bd2_s, nI_1, nI_1]
      rw [e1] at rk ⊢
      obtain ⟨v', b1, b2, b3⟩ := ih n (p + 1) (bro s.1 p l, s.2.1 + 1, s.2.2 + sHurt s.1 p l) v1 (by omega) (by rw [rk.2.2.1]; omega) a2 rk.1
      exact ⟨v', b1, b2, fun q hq => (b3 q hq).trans (a3 q (by omega))⟩
theorem C_slf : ∀ (F fuel r : Nat) (s : Rho × Nat × Nat) (v : Nat → Nat → Int32), sLs s.1 < F → F < fuel → r ≤ s.2.1 → s.2.1 + sLs s.1 ≤ 15 → CRq s.2.2 20 s.1 v → ROK s.1 → ∃ v', f_Realm_eachForHimself_4 fuel 20 (nI s.2.1) (nI r) (bh v w) = some (nI (slf F s).2.1, bh v' w) ∧ CRq (slf F s).2.2 20 (slf F s).1 v' ∧ ∀ q, q < 20 ∨ 37 ≤ q → v' q = v q := by
  intro F
  induction F with
  | zero => intro fuel r s v h; omega
  | succ F ih =>
    intro fuel r s v hF hf hr h15 hc hk
    obtain ⟨n, rfl⟩ : ∃ n, fuel = n + 1 := ⟨fuel - 1, by omega⟩
    have h2 := hk.1.2.1
    have rk := rndK_ok (s.1 0 1) 0 s hk (by omega)
    obtain ⟨v1, a1, a2, a3⟩ := C_rnd (w := w) (f_Realm_eachForHimself_4 n) (nI r) (nI s.2.1) (s.1 0 1) FU 0 s v (by unfold FU; omega) (by omega) hc hk
    show ∃ v', f_Realm_eachForHimself_4b (f_Realm_eachForHimself_4 n) 20 (nI s.2.1) (nI r) (bh v w) = _ ∧ _
    unfold f_Realm_eachForHimself_4b
    rw [show (15 : Int32) = nI 15 from rfl, if_neg (fun q => by have := (nI_ltI (by omega) (by omega)).mp q; omega), show (0 : Int32) = nI 0 from rfl, a1]
    have rm := rk.2.2.2.2.1
    have rl := rk.2.2.2.2.2
    unfold slf
    by_cases e : (rndK (s.1 0 1) 0 s).2.1 = s.2.1
    · rw [if_pos (by rw [e]), if_pos e]
      exact ⟨v1, rfl, a2, a3⟩
    · rw [if_neg (fun q => e ((nI_eqI (by omega) (by omega)).mp q)), if_neg e, nI_1]
      obtain ⟨v', b1, b2, b3⟩ := ih n (r + 1) (rndK (s.1 0 1) 0 s) v1 (by omega) (by omega) (by omega) (by omega) a2 rk.1
      exact ⟨v', b1, b2, fun q hq => (b3 q hq).trans (a3 q hq)⟩
/-- the reference's round -/
theorem M_rnd (rec : Nat → Int32 → Int32 → Int32 → Int32 → mH → Option (Int32 × mH)) (x : Int32) : ∀ (k fuel p : Nat) (s : Rho × Nat × Nat) (on : Int32) (v : Nat → Nat → Int32), k < fuel → p + k = s.1 0 1 → MR s.1 v → ROK s.1 → ∃ v', f_M_selfish_36 rec fuel 100 x (nI s.2.1) (nI s.2.2) on (nI p) (bh v w) = rec 100 x (nI (rndK k p s).2.1) (nI (rndK k p s).2.2) (if (rndK k p s).2.1 = s.2.1 then on else 1) (bh v' w) ∧ MR (rndK k p s).1 v' ∧ (∀ q, q ≠ 101 → v' q = v q) ∧ ∀ j, 66 ≤ j → v' 101 j = v 101 j := by
  intro k
  induction k with
  | zero =>
    intro fuel p s on v hf hp hr hk
    obtain ⟨n, rfl⟩ : ∃ n, fuel = n + 1 := ⟨fuel - 1, by omega⟩
    have h2 := hk.1.2.1
    refine ⟨v, ?_, hr, fun _ _ => rfl, fun _ _ => rfl⟩
    show f_M_selfish_36b rec (f_M_selfish_36 rec n) 100 x (nI s.2.1) (nI s.2.2) on (nI p) (bh v w) = _
    unfold f_M_selfish_36b
    simp only [hM v w, bd1_s]
    rw [hr.1.2.1, if_pos (nI_le (by omega) (by omega)), if_pos (show (rndK 0 p s).2.1 = s.2.1 from rfl)]
    rfl
  | succ k ih =>
    intro fuel p s on v hf hp hr hk
    obtain ⟨n, rfl⟩ : ∃ n, fuel = n + 1 := ⟨fuel - 1, by omega⟩
    have h1 := hk.1.1
    have h2 := hk.1.2.1
    have hS := hk.1.2.2.2.2.2.2
    have hpp : p < s.1 0 1 := by omega
    have rk := rnd1_ok (p := p) hk hpp
    have ml := mnd_le s.1 p (s.1 0 0)
    have e0 : rndK (k + 1) p s = rndK k (p + 1) (rnd1 p s) := rfl
    rw [e0]
    show ∃ v', f_M_selfish_36b rec (f_M_selfish_36 rec n) 100 x (nI s.2.1) (nI s.2.2) on (nI p) (bh v w) = _ ∧ _
    unfold f_M_selfish_36b f_M_selfish_103
    simp only [hM v w, bd1_s]
    rw [hr.1.2.1, if_neg (nI_ge (by omega) (by omega)), M_wantedBy hr hk hpp, bd2_s]
    by_cases h : mnd s.1 p (s.1 0 0) = 0
    · have e1 : rnd1 p s = s := by unfold rnd1; rw [if_pos h]
      rw [if_pos ((cI_4 (by omega)).mpr h), nI_1, e1]
      exact ih n (p + 1) s on v (by omega) (by omega) hr hk
    · obtain ⟨l, hl⟩ : ∃ l, mnd s.1 p (s.1 0 0) = l + 1 := ⟨mnd s.1 p (s.1 0 0) - 1, by omega⟩
      have hll : l < s.1 0 0 := by omega
      have e1 : rnd1 p s = (bro s.1 p l, s.2.1 + 1, s.2.2 + sHurt s.1 p l) := by unfold rnd1; rw [if_neg h, hl]; rfl
      have i24 : ((24 : Int32) + (5 : Int32) * nI p) + nI l = nI (24 + 5 * p + l) := by rw [show (24 : Int32) = nI 24 from rfl, show (5 : Int32) = nI 5 from rfl, pk_mul, nI_add, nI_add]
      have a12 : v 101 (24 + 5 * p + l) = nI (s.1 12 (5 * p + l)) := by have := hr.2.2.2.2.2.2.2.2.2.1 p l hpp hll; rwa [show 0 + 24 + 5 * p + l = 24 + 5 * p + l by omega] at this
      have m1 := MB_broke (x := s.1 12 (5 * p + l) + 1) h1 h2 hS hpp hll hr.2
      have mf := MF_u (k := 24 + 5 * p + l) (x := nI (s.1 12 (5 * p + l) + 1)) (ρ' := bro s.1 p l) hr.1 rfl rfl rfl rfl rfl rfl rfl
      rw [if_neg (fun q => h ((cI_4 (by omega)).mp q)), hl, cI_s, i24]
      simp only [hM v w, bd1_s]
      rw [rd_nI (by omega) (by decide), bd1_s, a12, nI_1, wr_nI (by omega) (by decide), bd1_s]
      simp only [hM (u2 v 101 (24 + 5 * p + l) (nI (s.1 12 (5 * p + l) + 1))) w, bd1_s]
      rw [rd_nI (by omega) (by decide), bd1_s, rd_nI (by omega) (by decide), bd1_s, (mf.2.2.1 l hll).2.1, (mf.2.2.2 p hpp).1]
      have eh : nI (bro s.1 p l 3 l) + nI (bro s.1 p l 7 p) = nI (sHurt s.1 p l) := nI_add _ _
      rw [eh, nI_1, nI_1, nI_add]
      rw [e1] at rk ⊢
      obtain ⟨v', b1, b2, b3, b4⟩ := ih n (p + 1) (bro s.1 p l, s.2.1 + 1, s.2.2 + sHurt s.1 p l) 1 (u2 v 101 (24 + 5 * p + l) (nI (s.1 12 (5 * p + l) + 1))) (by omega) (by rw [rk.2.2.1]; omega) ⟨mf, m1⟩ rk.1
      have rk2 := rndK_ok k (p + 1) (bro s.1 p l, s.2.1 + 1, s.2.2 + sHurt s.1 p l) rk.1 (by rw [rk.2.2.1]; omega)
      have g := rk2.2.2.2.2.2
      have g : s.2.1 + 1 ≤ (rndK k (p + 1) (bro s.1 p l, s.2.1 + 1, s.2.2 + sHurt s.1 p l)).2.1 := g
      refine ⟨v', ?_, b2, fun q hq => (b3 q hq).trans (u2_o hq), fun j hj => (b4 j hj).trans (u2_n (by omega))⟩
      rw [b1, if_neg (show ¬ (rndK k (p + 1) (bro s.1 p l, s.2.1 + 1, s.2.2 + sHurt s.1 p l)).2.1 = s.2.1 by omega)]
      congr 1
      split <;> rfl
theorem M_slf (x : Int32) : ∀ (F fuel : Nat) (s : Rho × Nat × Nat) (v : Nat → Nat → Int32), sLs s.1 < F → F + 1 < fuel → MR s.1 v → ROK s.1 → ∃ v', f_M_selfish_25 fuel 100 x (nI s.2.1) (nI s.2.2) 1 (bh v w) = f_M_selfish_118 FU 100 x (nI (slf F s).2.1) (nI (slf F s).2.2) 0 0 (bh v' w) ∧ MR (slf F s).1 v' ∧ (∀ q, q ≠ 101 → v' q = v q) ∧ ∀ j, 66 ≤ j → v' 101 j = v 101 j := by
  intro F
  induction F with
  | zero => intro fuel s v h; omega
  | succ F ih =>
    intro fuel s v hF hf hr hk
    obtain ⟨n, rfl⟩ : ∃ n, fuel = n + 1 + 1 := ⟨fuel - 2, by omega⟩
    have rk := rndK_ok (s.1 0 1) 0 s hk (by omega)
    have h2 := hk.1.2.1
    obtain ⟨v1, a1, a2, a3, a4⟩ := M_rnd (w := w) (f_M_selfish_25 (n + 1)) x (s.1 0 1) FU 0 s 0 v (by unfold FU; omega) (by omega) hr hk
    show ∃ v', f_M_selfish_25b (f_M_selfish_25 (n + 1)) 100 x (nI s.2.1) (nI s.2.2) 1 (bh v w) = _ ∧ _
    unfold f_M_selfish_25b
    rw [if_neg (by decide)]
    have a1' : f_M_selfish_36 (f_M_selfish_25 (n + 1)) FU 100 x (nI s.2.1) (nI s.2.2) 0 0 (bh v w) = _ := a1
    rw [a1']
    have rm := rk.2.2.2.2.1
    have rl := rk.2.2.2.2.2
    unfold slf
    by_cases e : (rndK (s.1 0 1) 0 s).2.1 = s.2.1
    · rw [if_pos e, if_pos e]
      refine ⟨v1, ?_, a2, a3, a4⟩
      show f_M_selfish_25b (f_M_selfish_25 n) 100 x _ _ 0 (bh v1 w) = _
      unfold f_M_selfish_25b
      rw [if_pos rfl]
    · rw [if_neg e, if_neg e]
      obtain ⟨v', b1, b2, b3, b4⟩ := ih (n + 1) (rndK (s.1 0 1) 0 s) v1 (by omega) (by omega) a2 rk.1
      exact ⟨v', b1, b2, fun q hq => (b3 q hq).trans (a3 q hq), fun j hj => (b4 j hj).trans (a4 j hj)⟩
end
