theorem u2_ap (v : Nat → Nat → Int32) (o k : Nat) (x : Int32) (p j : Nat) : u2 v o k x p j = if p = o ∧ j = k then x else v p j := by
  by_cases h : p = o
  · subst h
    by_cases g : j = k
    · subst g
      rw [u2_at, if_pos ⟨rfl, rfl⟩]
    · rw [u2_n g, if_neg (fun z => g z.2)]
  · rw [u2_o h, if_neg (fun z => h z.1)]
def vf (tp : Nat → Nat) : Nat → Int32 → Nat → Int32
  | 0, a, _ => a
  | n + 1, a, i => vf tp n (a * 10 + nI (tp i) - 48) (i + 1)
theorem vf_z (tp : Nat → Nat) (a : Int32) (i : Nat) : vf tp 0 a i = a := rfl
theorem vf_s (tp : Nat → Nat) (n : Nat) (a : Int32) (i : Nat) : vf tp (n + 1) a i = vf tp n (a * 10 + nI (tp i) - 48) (i + 1) := rfl
theorem vf_1 {tp : Nat → Nat} {s : Nat} (h : 48 ≤ tp s) : vf tp 1 0 s = nI (tp s - 48) := by
  show (0 : Int32) * 10 + nI (tp s) - 48 = _
  rw [Int32.zero_mul, Int32.zero_add, show (48 : Int32) = nI 48 from rfl, pk_sub h]
theorem vf_2 {tp : Nat → Nat} {s : Nat} (h : 48 ≤ tp s) (h' : 48 ≤ tp (s + 1)) : vf tp 2 0 s = nI (10 * (tp s - 48) + (tp (s + 1) - 48)) := by
  show (((0 : Int32) * 10 + nI (tp s) - 48) * 10 + nI (tp (s + 1)) - 48 : Int32) = _
  rw [Int32.zero_mul, Int32.zero_add, show (48 : Int32) = nI 48 from rfl, pk_sub h, show (10 : Int32) = nI 10 from rfl, pk_mul, nI_add, pk_sub (by omega)]
  congr 1
  omega
/-- what the reader's calls leave as it was -/
def FrR (v v' : Nat → Nat → Int32) : Prop := (∀ q, q ≠ 1 → v' q = v q) ∧ v' 1 1 = v 1 1 ∧ v' 1 4 = v 1 4
theorem FrR.rfl' (v : Nat → Nat → Int32) : FrR v v := ⟨fun _ _ => rfl, rfl, rfl⟩
theorem FrR.tr {v v1 v2 : Nat → Nat → Int32} (h : FrR v v1) (g : FrR v1 v2) : FrR v v2 := ⟨fun q hq => (g.1 q hq).trans (h.1 q hq), g.2.1.trans h.2.1, g.2.2.trans h.2.2⟩
theorem CT.fR {K : Tp} {v v' : Nat → Nat → Int32} (h : CT K v) (g : FrR v v') : CT K v' := h.fr g.2.1 (g.1 2 (by decide))
/-- the answer of a call of the reader: a FAULT, or what it read -/
def CX {α : Type} (X : Fa ⊕ α) (Q : α → (Nat → Nat → Int32) → Prop) (r : Int32) (v : Nat → Nat → Int32) : Prop := match X with
  | .inl f => r = 0 ∧ v 1 2 = nI f.1 ∧ v 1 3 = nI f.2
  | .inr a => r = 1 ∧ v 1 2 = 0 ∧ Q a v
def CTk (K : Tp) (P : Nat) (v : Nat → Nat → Int32) : Prop := v 1 5 = nI (eN K P) ∧ v 1 6 = nI (kD K P) ∧ v 1 7 = nI (sT K P) ∧ (kD K P = 2 → v 1 8 = nI (vL K P))
section
variable {K : Tp} {v : Nat → Nat → Int32} {w : Nat → Nat → Int64} {P : Nat}
theorem C_value {s e : Nat} (hT : CT K v) (h5 : v 1 5 = nI e) (h7 : v 1 7 = nI s) (hse : s ≤ e) (he : e ≤ K.1) : f_Reader_valueOfRun 1 (bh v w) = some (vf K.2 (e - s) 0 s, bh v w) := by
  have hL := hT.2.1
  have key : ∀ (n fuel i : Nat) (a : Int32), n < fuel → i + n = e → f_Reader_valueOfRun_7 fuel 1 a (nI i) (bh v w) = some (vf K.2 n a i, bh v w) := by
    intro n
    induction n with
    | zero =>
      intro fuel i a hf hi
      obtain ⟨m, rfl⟩ : ∃ m, fuel = m + 1 := ⟨fuel - 1, by omega⟩
      simp only [f_Reader_valueOfRun_7, f_Reader_valueOfRun_7b, hT0 v w, bd1_q]
      rw [h5, if_pos ((nI_leI (by omega) (by omega)).mpr (by omega)), vf_z]
    | succ n ih =>
      intro fuel i a hf hi
      obtain ⟨m, rfl⟩ : ∃ m, fuel = m + 1 := ⟨fuel - 1, by omega⟩
      simp only [f_Reader_valueOfRun_7, f_Reader_valueOfRun_7b, hT0 v w, bd1_q]
      rw [h5, if_neg (fun z => by have := (nI_leI (by omega) (by omega)).mp z; omega), rd_nI (by omega) (by decide), bd1_s, (hT.2.2 i (by omega)).1, nI_1]
      rw [vf_s]
      exact ih m (i + 1) _ (by omega) (by omega)
  unfold f_Reader_valueOfRun f_Reader_valueOfRun_0
  simp only [hT0 v w, bd1_q]
  rw [h7]
  exact key (e - s) FU s 0 (by unfold FU; omega) (by omega)
theorem C_takeToken (hT : CT K v) (h2 : v 1 2 = 0) (h5 : v 1 5 = nI P) (hP : P ≤ K.1) : ∃ r v', f_Reader_takeToken 1 (bh v w) = some (r, bh v' w) ∧ FrR v v' ∧ CX (tokX K P) (fun _ v' => CTk K P v') r v' := by
  have hs := sT_b hP
  have he := eN_b hP
  have hkc := kc_s (K := K) (s := sT K P)
  have ek : kD K P = kc K (sT K P) := rfl
  have hL := hT.2.1
  obtain ⟨v1, e1, a5, fq, fj⟩ := C_passRun (w := w) (lo := 32) (hi := 32) (by decide) (by decide) hT h5 hP
  have a5 : v1 1 5 = nI (sT K P) := a5
  have T1 : CT K v1 := hT.fr (fj 1 (by decide)) (fq 2 (by decide))
  have ekd := C_kindHere (w := w) (v := u2 v1 1 7 (nI (sT K P))) (s := sT K P) (T1.fr (u2_n (by decide)) (u2_o (by decide))) ((u2_n (by decide)).trans a5) hs.2
  have fin : ∀ v', (∀ q, q ≠ 1 → v' q = v1 q) → v' 1 1 = v1 1 1 → v' 1 4 = v1 1 4 → v' 1 2 = v1 1 2 → v' 1 5 = nI (eN K P) → v' 1 6 = nI (kD K P) → v' 1 7 = nI (sT K P) → (kD K P = 2 → v' 1 8 = nI (vL K P)) → ¬ (kD K P = 4 ∨ kD K P = 2 ∧ sT K P + 2 < eN K P) → FrR v v' ∧ CX (tokX K P) (fun _ v' => CTk K P v') 1 v' := by
    intro v' b1 b2 b3 b4 b5 b6 b7 b8 b9
    refine ⟨⟨fun q hq => (b1 q hq).trans (fq q hq), b2.trans (fj 1 (by decide)), b3.trans (fj 4 (by decide))⟩, ?_⟩
    unfold tokX
    rw [if_neg b9]
    exact ⟨rfl, (b4.trans (fj 2 (by decide))).trans h2, b5, b6, b7, b8⟩
  have fal : ∀ v', (∀ q, q ≠ 1 → v' q = v1 q) → v' 1 1 = v1 1 1 → v' 1 4 = v1 1 4 → v' 1 2 = 1 → v' 1 3 = nI (sT K P) → (kD K P = 4 ∨ kD K P = 2 ∧ sT K P + 2 < eN K P) → FrR v v' ∧ CX (tokX K P) (fun _ v' => CTk K P v') 0 v' := by
    intro v' b1 b2 b3 b4 b5 b9
    refine ⟨⟨fun q hq => (b1 q hq).trans (fq q hq), b2.trans (fj 1 (by decide)), b3.trans (fj 4 (by decide))⟩, ?_⟩
    unfold tokX
    rw [if_pos b9]
    exact ⟨rfl, b4, b5⟩
  unfold f_Reader_takeToken f_Reader_takeToken_0 f_Reader_takeToken_111 f_Reader_fail f_Reader_fail_0
  simp only [hT0, bd1_q]
  rw [show (32 : Int32) = nI 32 from rfl, e1]
  simp only [hT0, bd1_q]
  rw [a5, ekd]
  simp only [hT0, bd1_q, bd2_q, u2_at]
  rcases (show kc K (sT K P) = 0 ∨ kc K (sT K P) = 1 ∨ kc K (sT K P) = 2 ∨ kc K (sT K P) = 3 ∨ kc K (sT K P) = 4 by omega) with c | c | c | c | c
  · rw [c, if_pos (show nI 0 = 0 from rfl)]
    refine ⟨1, _, rfl, fin _ (fun q hq => (u2_o hq).trans (u2_o hq)) ?_ ?_ ?_ ?_ ?_ ?_ (fun z => by omega) (by omega)⟩
    · simp [u2_ap]
    · simp [u2_ap]
    · simp [u2_ap]
    · rw [show eN K P = sT K P by unfold eN; rw [if_neg (by omega), if_neg (by omega), if_neg (by omega)]]
      simp [u2_ap, a5]
    · simp [u2_ap, ek, c]
    · simp [u2_ap]
  · rw [c, if_neg (by decide), if_pos (show nI 1 = 1 from rfl)]
    obtain ⟨v2, e2, b5, gq, gj⟩ := C_passRun (w := w) (lo := 97) (hi := 122) (i := sT K P) (v := u2 (u2 v1 1 7 (nI (sT K P))) 1 6 (nI 1)) (by decide) (by decide) ((T1.fr (u2_n (by decide)) (u2_o (by decide))).fr (u2_n (by decide)) (u2_o (by decide))) (by simp [u2_ap, a5]) hs.2
    rw [show (97 : Int32) = nI 97 from rfl, show (122 : Int32) = nI 122 from rfl, e2, bd1_s]
    refine ⟨1, _, rfl, fin _ (fun q hq => (gq q hq).trans ((u2_o hq).trans (u2_o hq))) ?_ ?_ ?_ ?_ ?_ ?_ (fun z => by omega) (by omega)⟩
    · rw [gj 1 (by decide)]; simp [u2_ap]
    · rw [gj 4 (by decide)]; simp [u2_ap]
    · rw [gj 2 (by decide)]; simp [u2_ap]
    · rw [b5]; unfold eN; rw [if_pos (by omega)]
    · rw [gj 6 (by decide)]; simp [u2_ap, ek, c]
    · rw [gj 7 (by decide)]; simp [u2_ap]
  · rw [c, if_neg (by decide), if_neg (by decide), if_pos (show nI 2 = 2 from rfl)]
    obtain ⟨v2, e2, b5, gq, gj⟩ := C_passRun (w := w) (lo := 48) (hi := 57) (i := sT K P) (v := u2 (u2 v1 1 7 (nI (sT K P))) 1 6 (nI 2)) (by decide) (by decide) ((T1.fr (u2_n (by decide)) (u2_o (by decide))).fr (u2_n (by decide)) (u2_o (by decide))) (by simp [u2_ap, a5]) hs.2
    have ee : eN K P = rn K 48 57 (sT K P) := by unfold eN; rw [if_neg (by omega), if_pos (by omega)]
    rw [← ee] at b5
    have c7 : v2 1 7 = nI (sT K P) := by rw [gj 7 (by decide)]; simp [u2_ap]
    have T2 : CT K v2 := ((T1.fr (u2_n (by decide)) (u2_o (by decide))).fr (u2_n (by decide)) (u2_o (by decide))).fr (gj 1 (by decide)) (gq 2 (by decide))
    have ev := C_value (w := w) T2 b5 c7 he.1 he.2.1
    have h1 := he.2.2 (by omega) (by omega)
    rw [show (48 : Int32) = nI 48 from rfl, show (57 : Int32) = nI 57 from rfl, e2]
    simp only [hT0, bd1_q]
    rw [ev]
    simp only [hT0, bd1_q, bd2_q]
    rw [u2_n (show 5 ≠ 8 by decide), u2_n (show 7 ≠ 8 by decide), b5, c7, pk_sub he.1, show (2 : Int32) = nI 2 from rfl, ite_iff (nI_leI (by omega) (by omega))]
    have g1 : ∀ q, q ≠ 1 → u2 v2 1 8 (vf K.2 (eN K P - sT K P) 0 (sT K P)) q = v1 q := fun q hq => (u2_o hq).trans ((gq q hq).trans ((u2_o hq).trans (u2_o hq)))
    by_cases g : eN K P - sT K P ≤ 2
    · rw [if_pos g]
      refine ⟨1, _, rfl, fin _ g1 ?_ ?_ ?_ ?_ ?_ ?_ (fun _ => ?_) (by omega)⟩
      · rw [u2_n (by decide), gj 1 (by decide)]; simp [u2_ap]
      · rw [u2_n (by decide), gj 4 (by decide)]; simp [u2_ap]
      · rw [u2_n (by decide), gj 2 (by decide)]; simp [u2_ap]
      · rw [u2_n (by decide)]; exact b5
      · rw [u2_n (by decide), gj 6 (by decide)]; simp [u2_ap, ek, c]
      · rw [u2_n (by decide)]; exact c7
      · rw [u2_at]
        have d1 := rn_in (K := K) (lo := 48) (hi := 57) (Nat.le_refl (sT K P)) (by rw [← ee]; omega)
        unfold vL
        by_cases z : eN K P = sT K P + 1
        · rw [if_pos z, show eN K P - sT K P = 1 by omega, vf_1 d1.1]
        · have d2 := rn_in (K := K) (lo := 48) (hi := 57) (i := sT K P) (j := sT K P + 1) (by omega) (by rw [← ee]; omega)
          rw [if_neg z, show eN K P - sT K P = 2 by omega, vf_2 d1.1 d2.1]
    · rw [if_neg g, if_pos trivial]
      refine ⟨0, _, rfl, fal _ (fun q hq => (u2_o hq).trans ((u2_o hq).trans (g1 q hq))) ?_ ?_ ?_ ?_ (by omega)⟩
      · rw [u2_n (by decide), u2_n (by decide), u2_n (by decide), gj 1 (by decide)]; simp [u2_ap]
      · rw [u2_n (by decide), u2_n (by decide), u2_n (by decide), gj 4 (by decide)]; simp [u2_ap]
      · simp [u2_ap]
      · simp [u2_ap]
  · rw [c, if_neg (by decide), if_neg (by decide), if_neg (by decide), if_pos (show nI 3 = 3 from rfl)]
    refine ⟨1, _, rfl, fin _ (fun q hq => (u2_o hq).trans ((u2_o hq).trans (u2_o hq))) ?_ ?_ ?_ ?_ ?_ ?_ (fun z => by omega) (by omega)⟩
    · simp [u2_ap]
    · simp [u2_ap]
    · simp [u2_ap]
    · rw [show eN K P = sT K P + 1 by unfold eN; rw [if_neg (by omega), if_neg (by omega), if_pos (by omega)], u2_at, u2_n (show 5 ≠ 6 by decide), u2_n (show 5 ≠ 7 by decide), a5, nI_1]
    · simp [u2_ap, ek, c]
    · simp [u2_ap]
  · rw [c, if_neg (by decide), if_neg (by decide), if_neg (by decide), if_neg (by decide), if_pos (Or.inl trivial)]
    refine ⟨0, _, rfl, fal _ (fun q hq => (u2_o hq).trans ((u2_o hq).trans ((u2_o hq).trans (u2_o hq)))) ?_ ?_ ?_ ?_ (by omega)⟩
    · simp [u2_ap]
    · simp [u2_ap]
    · simp [u2_ap]
    · simp [u2_ap]
end
