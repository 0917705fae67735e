theorem hU0 (v : Nat → Nat → Int32) (w : Nat → Nat → Int64) : kC (bh v w) 20 4 = some () ∧ gI (bh v w) 20 4 0 = some (v 20 0) ∧ (∀ x, pV (bh v w) 20 4 0 (.int x) = some (bh (u2 v 20 0 x) w)) ∧ gI (bh v w) 20 4 1 = some (v 20 1) ∧ (∀ x, pV (bh v w) 20 4 1 (.int x) = some (bh (u2 v 20 1 x) w)) ∧ gI (bh v w) 20 4 2 = some (v 20 2) ∧ (∀ x, pV (bh v w) 20 4 2 (.int x) = some (bh (u2 v 20 2 x) w)) ∧ gI (bh v w) 20 4 3 = some (v 20 3) ∧ (∀ x, pV (bh v w) 20 4 3 (.int x) = some (bh (u2 v 20 3 x) w)) ∧ gI (bh v w) 20 4 4 = some (v 20 4) ∧ (∀ x, pV (bh v w) 20 4 4 (.int x) = some (bh (u2 v 20 4 x) w)) ∧ gI (bh v w) 20 4 5 = some (v 20 5) ∧ (∀ x, pV (bh v w) 20 4 5 (.int x) = some (bh (u2 v 20 5 x) w)) ∧ gR (bh v w) 20 4 6 = some 21 ∧ gR (bh v w) 20 4 7 = some 22 ∧ gR (bh v w) 20 4 8 = some 23 ∧ gR (bh v w) 20 4 9 = some 24 ∧ gR (bh v w) 20 4 10 = some 25 ∧ gR (bh v w) 20 4 11 = some 26 ∧ gR (bh v w) 20 4 12 = some 27 ∧ gR (bh v w) 20 4 13 = some 28 ∧ gR (bh v w) 20 4 14 = some 29 ∧ gR (bh v w) 20 4 15 = some 30 ∧ gR (bh v w) 20 4 16 = some 31 ∧ gR (bh v w) 20 4 17 = some 32 ∧ gR (bh v w) 20 4 18 = some 33 ∧ (∀ i, aI (bh v w) 0 21 i = rd (v 21) 5 i) ∧ (∀ i x, sI (bh v w) 0 21 i x = wr v w 21 5 i x) ∧ (∀ i, aI (bh v w) 0 22 i = rd (v 22) 5 i) ∧ (∀ i x, sI (bh v w) 0 22 i x = wr v w 22 5 i x) ∧ (∀ i, aI (bh v w) 0 23 i = rd (v 23) 5 i) ∧ (∀ i x, sI (bh v w) 0 23 i x = wr v w 23 5 i x) ∧ (∀ i, aI (bh v w) 0 24 i = rd (v 24) 5 i) ∧ (∀ i x, sI (bh v w) 0 24 i x = wr v w 24 5 i x) ∧ (∀ i, aI (bh v w) 0 25 i = rd (v 25) 5 i) ∧ (∀ i x, sI (bh v w) 0 25 i x = wr v w 25 5 i x) ∧ (∀ i, aI (bh v w) 0 26 i = rd (v 26) 3 i) ∧ (∀ i x, sI (bh v w) 0 26 i x = wr v w 26 3 i x) ∧ (∀ i, aI (bh v w) 0 27 i = rd (v 27) 3 i) ∧ (∀ i x, sI (bh v w) 0 27 i x = wr v w 27 3 i x) ∧ (∀ i, aI (bh v w) 0 28 i = rd (v 28) 3 i) ∧ (∀ i x, sI (bh v w) 0 28 i x = wr v w 28 3 i x) ∧ (∀ i, aI (bh v w) 0 29 i = rd (v 29) 3 i) ∧ (∀ i x, sI (bh v w) 0 29 i x = wr v w 29 3 i x) ∧ (∀ i, aI (bh v w) 0 30 i = rd (v 30) 3 i) ∧ (∀ i x, sI (bh v w) 0 30 i x = wr v w 30 3 i x) ∧ (∀ i, aI (bh v w) 0 31 i = rd (v 31) 3 i) ∧ (∀ i x, sI (bh v w) 0 31 i x = wr v w 31 3 i x) ∧ (∀ i, aI (bh v w) 0 32 i = rd (v 32) 15 i) ∧ (∀ i x, sI (bh v w) 0 32 i x = wr v w 32 15 i x) ∧ gI (bh v w) 33 6 0 = some (v 33 0) ∧ (∀ x, pV (bh v w) 33 6 0 (.int x) = some (bh (u2 v 33 0 x) w)) := ⟨rfl, rfl, (fun _ => pV_bh rfl rfl), rfl, (fun _ => pV_bh rfl rfl), rfl, (fun _ => pV_bh rfl rfl), rfl, (fun _ => pV_bh rfl rfl), rfl, (fun _ => pV_bh rfl rfl), rfl, (fun _ => pV_bh rfl rfl), rfl, rfl, rfl, rfl, rfl, rfl, rfl, rfl, rfl, rfl, rfl, rfl, rfl, aI_bh rfl, sI_bh rfl, aI_bh rfl, sI_bh rfl, aI_bh rfl, sI_bh rfl, aI_bh rfl, sI_bh rfl, aI_bh rfl, sI_bh rfl, aI_bh rfl, sI_bh rfl, aI_bh rfl, sI_bh rfl, aI_bh rfl, sI_bh rfl, aI_bh rfl, sI_bh rfl, aI_bh rfl, sI_bh rfl, aI_bh rfl, sI_bh rfl, aI_bh rfl, sI_bh rfl, rfl, (fun _ => pV_bh rfl rfl)⟩
theorem up2_ap (ρ : Rho) (f i x g j : Nat) : up2 ρ f i x g j = if g = f ∧ j = i then x else ρ g j := by
  by_cases h : g = f
  · subst h
    by_cases k : j = i
    · subst k
      rw [up2_at, if_pos ⟨rfl, rfl⟩]
    · rw [up2_n k, if_neg (fun z => k z.2)]
  · rw [up2_f h, if_neg (fun z => h z.1)]
theorem u2_cg {v v' : Nat → Nat → Int32} {o k q : Nat} {x : Int32} (h : v q = v' q) : u2 v o k x q = u2 v' o k x q := by
  unfold u2 va_up
  by_cases e : q = o
  · subst e; rw [if_pos rfl, if_pos rfl, h]
  · rw [if_neg e, if_neg e, h]
def chkB (K : Tp) (lo hi P : Nat) : Fa ⊕ Nat := if lo ≤ vL K P ∧ vL K P ≤ hi then .inr (vL K P) else .inl (3, sT K P)
def chk (K : Tp) (lo hi P : Nat) : Fa ⊕ Nat := if kD K P = 2 then chkB K lo hi P else .inl (2, sT K P)
def sNum (K : Tp) (lo hi P : Nat) : Fa ⊕ Nat := sb (tokX K P) fun _ => chk K lo hi P
def sStp (K : Tp) (P : Nat) : Fa ⊕ Unit := if kD K P = 3 then .inr () else .inl (2, sT K P)
def addL (σ : Rho) (q c h f m : Nat) : Rho := up2 (up2 (up2 (up2 (up2 (up2 (up2 σ 1 (σ 0 0) q) 2 (σ 0 0) c) 3 (σ 0 0) h) 4 (σ 0 0) f) 5 (σ 0 0) m) 0 0 (σ 0 0 + 1)) 17 0 (max (σ 17 0) m)
def addO (σ : Rho) (t c n u R h : Nat) : Rho := up2 (up2 (up2 (up2 (up2 (up2 (up2 σ 6 (σ 0 1) t) 7 (σ 0 1) c) 8 (σ 0 1) n) 9 (σ 0 1) u) 10 (σ 0 1) R) 0 1 (σ 0 1 + 1)) 17 0 h
def addW (σ : Rho) (p m : Nat) : Rho := up2 (up2 (up2 σ 11 p (σ 11 p ||| 2 ^ m)) 17 0 (max (σ 17 0) (m + 1))) 17 1 (max (σ 17 1) (p + 1))
def addH (σ : Rho) (m : Nat) : Rho := up2 (up2 σ 0 5 (σ 0 5 ||| 2 ^ m)) 17 0 (max (σ 17 0) (m + 1))
def sFin {α : Type} (K : Tp) (P : Nat) (a : α) : Fa ⊕ (α × Nat) := sb (sStp K P) fun _ => .inr (a, eN K P)
def sCar (K : Tp) (σ : Rho) (q c h f Q : Nat) : Fa ⊕ (Rho × Nat) := sb (tokX K Q) fun _ => if kD K Q = 2 then sb (chkB K 0 4 Q) fun m => if m = σ 0 0 then .inl (4, sT K Q) else sb (tokX K (eN K Q)) fun _ => sFin K (eN K Q) (addL σ q c h f (m + 1)) else sFin K Q (addL σ q c h f 0)
def sLaw (K : Tp) (σ : Rho) (Q : Nat) : Fa ⊕ (Rho × Nat) := sb (sNum K 0 9 Q) fun q => sb (sNum K 1 3 (eN K Q)) fun c => sb (sNum K 0 9 (eN K (eN K Q))) fun h => sb (sNum K 0 9 (eN K (eN K (eN K Q)))) fun f => sCar K σ q c h f (eN K (eN K (eN K (eN K Q))))
def sRef (K : Tp) : Nat → Nat → Nat → Nat → Fa ⊕ ((Nat × Nat) × Nat)
  | 0, R, h, Q => .inr ((R, h), Q)
  | n + 1, R, h, Q => if kD K Q = 2 then sb (chkB K 0 4 Q) fun m => if bit R m = 1 then .inl (4, sT K Q) else sb (tokX K (eN K Q)) fun _ => sRef K n (R ||| 2 ^ m) (max h (m + 1)) (eN K Q) else .inr ((R, h), Q)
def sOne (K : Tp) (σ : Rho) (Q : Nat) : Fa ⊕ (Rho × Nat) := sb (sNum K 0 5 Q) fun t => sb (sNum K 0 3 (eN K Q)) fun c => sb (sNum K 0 10 (eN K (eN K Q))) fun n => sb (sNum K 0 99 (eN K (eN K (eN K Q)))) fun u => sb (tokX K (eN K (eN K (eN K (eN K Q))))) fun _ => sb (sRef K 6 0 (σ 17 0) (eN K (eN K (eN K (eN K Q))))) fun x => sFin K x.2 (addO σ t c n u x.1.1 x.1.2)
def sWant (K : Tp) (σ : Rho) (Q : Nat) : Fa ⊕ (Rho × Nat) := sb (sNum K 0 2 Q) fun p => sb (sNum K 0 4 (eN K Q)) fun m => if bit (σ 11 p) m = 1 then .inl (4, sT K (eN K Q)) else sb (tokX K (eN K (eN K Q))) fun _ => sFin K (eN K (eN K Q)) (addW σ p m)
def sWatch (K : Tp) (σ : Rho) (Q : Nat) : Fa ⊕ (Rho × Nat) := sb (sNum K 0 4 Q) fun m => if bit (σ 0 5) m = 1 then .inl (4, sT K Q) else sb (tokX K (eN K Q)) fun _ => sFin K (eN K Q) (addH σ m)
theorem CX01 {α : Type} {X : Fa ⊕ α} {Q : α → (Nat → Nat → Int32) → Prop} {r : Int32} {v : Nat → Nat → Int32} (h : CX X Q r v) : r = 0 ∨ r = 1 := by
  cases X with
  | inl f => exact Or.inl h.1
  | inr a => exact Or.inr h.1
section
variable {K : Tp} {v : Nat → Nat → Int32} {w : Nat → Nat → Int64} {P lo hi : Nat}
theorem vL_lt (hb : ∀ j, j < K.1 → K.2 j ≤ 127) (hP : P ≤ K.1) (hk : kD K P = 2) : vL K P < 2 ^ 31 := by
  have hs := sT_b hP
  have he := eN_b hP
  have h1 := he.2.2 (by omega) (by omega)
  have b1 := hb (sT K P) (by omega)
  unfold vL
  split
  · omega
  · have b2 := hb (sT K P + 1) (by omega)
    omega
theorem C_fail {c s : Nat} (h7 : v 1 7 = nI s) : ∃ v', f_Reader_fail 1 (nI c) (nI s) (bh v w) = some (0, bh v' w) ∧ FrR v v' ∧ v' 1 2 = nI c ∧ v' 1 3 = nI s := by
  unfold f_Reader_fail f_Reader_fail_0
  simp only [hT0, bd1_q]
  exact ⟨_, rfl, ⟨fun q hq => (u2_o hq).trans (u2_o hq), by simp [u2_ap], by simp [u2_ap]⟩, by simp [u2_ap], by simp [u2_ap]⟩
theorem C_isBounded (hk : CTk K P v) (h2 : v 1 2 = 0) (k2 : kD K P = 2) (hv : vL K P < 2 ^ 31) (hlo : lo < 200) (hhi : hi < 200) : ∃ r v', f_Reader_isBounded 1 (nI lo) (nI hi) (bh v w) = some (r, bh v' w) ∧ FrR v v' ∧ CX (chkB K lo hi P) (fun n v' => CTk K P v' ∧ v' 1 8 = nI n ∧ lo ≤ n ∧ n ≤ hi) r v' := by
  obtain ⟨v1, e1, f1, b1, b2⟩ := C_fail (w := w) (c := 3) hk.2.2.1
  unfold f_Reader_isBounded f_Reader_isBounded_0 f_Reader_isBounded_24
  simp only [hT0, bd1_q, Q_isWithin, bd2_q]
  rw [hk.2.2.2 k2, hk.2.2.1, nI_toInt hv, nI_toInt (show lo < 2 ^ 31 by omega), nI_toInt (show hi < 2 ^ 31 by omega)]
  unfold chkB
  by_cases c : lo ≤ vL K P ∧ vL K P ≤ hi
  · rw [if_pos (show ((lo : Nat) : Int) ≤ (vL K P : Nat) ∧ ((vL K P : Nat) : Int) ≤ (hi : Nat) by omega), if_neg (by decide), if_pos c]
    exact ⟨1, v, rfl, FrR.rfl' v, rfl, h2, hk, hk.2.2.2 k2, c⟩
  · rw [if_neg (show ¬ (((lo : Nat) : Int) ≤ (vL K P : Nat) ∧ ((vL K P : Nat) : Int) ≤ (hi : Nat)) by omega), if_pos rfl, if_neg c, show (3 : Int32) = nI 3 from rfl, e1, bd2_s, if_pos rfl]
    exact ⟨0, v1, rfl, f1, rfl, b1, b2⟩
theorem C_takeNumber (hT : CT K v) (h2 : v 1 2 = 0) (h5 : v 1 5 = nI P) (hP : P ≤ K.1) (hlo : lo < 200) (hhi : hi < 200) : ∃ r v', f_Reader_takeNumber 1 (nI lo) (nI hi) (bh v w) = some (r, bh v' w) ∧ FrR v v' ∧ CX (sNum K lo hi P) (fun n v' => CTk K P v' ∧ v' 1 8 = nI n ∧ lo ≤ n ∧ n ≤ hi) r v' := by
  obtain ⟨r, v1, e1, f1, x1⟩ := C_takeToken (w := w) hT h2 h5 hP
  unfold f_Reader_takeNumber f_Reader_takeNumber_0
  simp only [hT0, bd1_q]
  rw [e1, bd2_s]
  unfold sNum
  cases hX : tokX K P with
  | inl f =>
    rw [hX] at x1
    obtain ⟨rfl, a, b⟩ := x1
    rw [if_pos rfl]
    exact ⟨0, v1, rfl, f1, rfl, a, b⟩
  | inr u =>
    rw [hX] at x1
    obtain ⟨rfl, a2, tk⟩ := x1
    rw [if_neg (by decide)]
    simp only [hT0, bd1_q, sb_r]
    rw [tk.2.1, tk.2.2.1]
    have k4 := (kc_s (K := K) (s := sT K P)).2.2.2.2
    have ek : kD K P = kc K (sT K P) := rfl
    rw [show (2 : Int32) = nI 2 from rfl, ite_iff (nI_eqI (by omega) (by omega))]
    unfold chk
    by_cases k : kD K P = 2
    · rw [if_pos k, if_pos k]
      obtain ⟨r, v2, e2, f2, x2⟩ := C_isBounded (w := w) (lo := lo) (hi := hi) tk a2 k (vL_lt (fun j hj => (hT.2.2 j hj).2) hP k) hlo hhi
      rw [e2, bd2_s, if_pos (CX01 x2)]
      exact ⟨r, v2, rfl, f1.tr f2, x2⟩
    · rw [if_neg k, if_neg k]
      obtain ⟨v2, e2, f2, b1, b2⟩ := C_fail (w := w) (c := 2) tk.2.2.1
      rw [e2, bd2_s, if_pos (Or.inl rfl)]
      exact ⟨0, v2, rfl, f1.tr f2, rfl, b1, b2⟩
theorem C_isStop (hk : CTk K P v) (h2 : v 1 2 = 0) : ∃ r v', f_Reader_isStop 1 (bh v w) = some (r, bh v' w) ∧ FrR v v' ∧ CX (sStp K P) (fun _ v' => v' 1 5 = nI (eN K P)) r v' := by
  have k4 := (kc_s (K := K) (s := sT K P)).2.2.2.2
  have ek : kD K P = kc K (sT K P) := rfl
  obtain ⟨v1, e1, f1, b1, b2⟩ := C_fail (w := w) (c := 2) hk.2.2.1
  unfold f_Reader_isStop f_Reader_isStop_0 f_Reader_isStop_20
  simp only [hT0, bd1_q]
  rw [hk.2.1, hk.2.2.1, show (3 : Int32) = nI 3 from rfl, ite_iff (nI_eqI (by omega) (by omega))]
  unfold sStp
  by_cases k : kD K P = 3
  · rw [if_pos k, if_pos k]
    exact ⟨1, v, rfl, FrR.rfl' v, rfl, h2, hk.1⟩
  · rw [if_neg k, if_neg k, show (2 : Int32) = nI 2 from rfl, e1, bd2_s, if_pos rfl]
    exact ⟨0, v1, rfl, f1, rfl, b1, b2⟩
end
