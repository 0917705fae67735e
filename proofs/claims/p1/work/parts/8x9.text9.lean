theorem hZ0 (v : Nat → Nat → Int32) (w : Nat → Nat → Int64) : kC (bh v w) 0 0 = some () ∧ gR (bh v w) 0 0 0 = some 1 ∧ gR (bh v w) 0 0 1 = some 3 ∧ gR (bh v w) 0 0 2 = some 20 ∧ gR (bh v w) 0 0 4 = some 38 ∧ kC (bh v w) 3 4 = some () ∧ (∀ i x, sI (bh v w) 2 38 i x = wr v w 38 2 i x) := ⟨rfl, rfl, rfl, rfl, rfl, rfl, sI_bh rfl⟩
section
variable {K : Tp} {σ : Rho} {v : Nat → Nat → Int32} {w : Nat → Nat → Int64} {P : Nat}
theorem C_empty : ∃ v', f_Realm_empty 20 (bh v w) = some (bh v' w) ∧ CS (fun _ _ => 0) v' ∧ ∀ q, q < 20 ∨ 37 ≤ q → v' q = v q := by
  unfold f_Realm_empty f_Realm_empty_0
  simp only [hU0, bd1_q]
  obtain ⟨v1, e1, g1, h1, -⟩ := fill_I (q := 30) (n := 3) (x := 0) (by omega) (fun _ _ => rfl) (fun v w i x => sI_bh rfl i x) (u2 (u2 (u2 (u2 (u2 (u2 (u2 v 20 0 0) 20 1 0) 20 2 0) 20 3 0) 20 4 0) 20 5 0) 33 0 0) w
  rw [e1]
  simp only [hU0, bd1_q]
  obtain ⟨v2, e2, g2, h2, -⟩ := fill_I (q := 31) (n := 3) (x := 0) (by omega) (fun _ _ => rfl) (fun v w i x => sI_bh rfl i x) v1 w
  rw [e2]
  simp only [hU0, bd1_q]
  obtain ⟨v3, e3, g3, h3, -⟩ := fill_I (q := 32) (n := 15) (x := 0) (by omega) (fun _ _ => rfl) (fun v w i x => sI_bh rfl i x) v2 w
  rw [e3]
  simp only [hU0, bd1_q]
  have fr : ∀ q, q ≠ 30 → q ≠ 31 → q ≠ 32 → v3 q = u2 (u2 (u2 (u2 (u2 (u2 (u2 v 20 0 0) 20 1 0) 20 2 0) 20 3 0) 20 4 0) 20 5 0) 33 0 0 q := fun q a b c => (g3 q c).trans ((g2 q b).trans (g1 q a))
  refine ⟨v3, rfl, ⟨?_, fun l hl => absurd hl (Nat.not_lt_zero _), fun p hp => absurd hp (Nat.not_lt_zero _), fun p hp => ⟨?_, ?_⟩, h3⟩, fun q hq => ?_⟩
  · rw [fr 20 (by decide) (by decide) (by decide), fr 33 (by decide) (by decide) (by decide)]
    simp [u2_ap]
    rfl
  · rw [g3 30 (by decide), g2 30 (by decide)]; exact h1 p hp
  · rw [g3 31 (by decide)]; exact h2 p hp
  · rw [fr q (by omega) (by omega) (by omega), u2_o (by omega), u2_o (by omega), u2_o (by omega), u2_o (by omega), u2_o (by omega), u2_o (by omega), u2_o (by omega)]
theorem C_fail0 (c s : Nat) : ∃ v', f_Reader_fail 1 (nI c) (nI s) (bh v w) = some (0, bh v' w) ∧ FrR v v' ∧ v' 1 2 = nI c ∧ v' 1 3 = nI s := by
  unfold f_Reader_fail f_Reader_fail_0
  simp only [hT0, bd1_q]
  exact ⟨_, rfl, ⟨fun q hq => (u2_o hq).trans (u2_o hq), by simp [u2_ap], by simp [u2_ap]⟩, by simp [u2_ap], by simp [u2_ap]⟩
/-- what is left when a text was read -/
def TQ (x : Rho × Nat) (v : Nat → Nat → Int32) : Prop := CS x.1 v ∧ v 1 4 = nI x.2 ∧ SI x.1 ∧ (x.1 17 0 ≤ x.1 0 0 ∧ x.1 17 1 ≤ x.1 0 1)
theorem C_ri86 {c : Nat} (hT : CT K v) (h2 : v 1 2 = 0) (hs : CS σ v) (hI : SI σ) (h4 : v 1 4 = nI c) : ∃ r v', f_Reader_readInto_86 1 20 1 (bh v w) = some (r, bh v' w) ∧ FrR v v' ∧ CX (sEnd K (σ, c)) TQ r v' := by
  unfold f_Reader_readInto_86 f_Reader_readInto_114 f_Reader_readInto_110 sEnd
  rw [if_neg (by decide)]
  obtain ⟨r, er, hr⟩ := C_allThere (w := w) hs hI
  rw [er, bd2_s]
  rcases hr with ⟨rfl, h⟩ | ⟨rfl, h⟩
  · rw [if_neg (by decide), if_pos h]
    exact ⟨1, v, rfl, FrR.rfl' v, rfl, h2, hs, h4, hI, h⟩
  · rw [if_pos rfl, if_neg h]
    simp only [hT0, bd1_q]
    obtain ⟨v1, e1, f1, b1, b2⟩ := C_fail0 (v := v) (w := w) 6 K.1
    rw [hT.1, show (6 : Int32) = nI 6 from rfl, e1, bd2_s, if_pos rfl]
    exact ⟨0, v1, rfl, f1, rfl, b1, b2⟩
theorem C_riF (n b0 b1 : Nat) (i : Int32) (h : mH) : f_Reader_readInto_31 (n + 1) b0 b1 0 i h = some (0, h) := by
  show f_Reader_readInto_31b (f_Reader_readInto_31 n) b0 b1 0 i h = _
  unfold f_Reader_readInto_31b f_Reader_readInto_86 f_Reader_readInto_114
  by_cases c : (160 : Int32) ≤ i
  · rw [if_pos c, if_pos rfl]
  · rw [if_neg c, if_pos rfl, if_pos rfl]
def FrT (v v' : Nat → Nat → Int32) : Prop := (∀ q, q ≠ 1 → q < 20 ∨ 37 ≤ q → v' q = v q) ∧ v' 1 1 = v 1 1
theorem FrT.tr {v1 v2 : Nat → Nat → Int32} (h : FrT v v1) (g : FrT v1 v2) : FrT v v2 := ⟨fun q h1 h2 => (g.1 q h1 h2).trans (h.1 q h1 h2), g.2.trans h.2⟩
theorem FrL.t {v1 : Nat → Nat → Int32} (h : FrL v v1) : FrT v v1 := ⟨h.1, h.2.1⟩
theorem FrT.ln {v1 : Nat → Nat → Int32} {x : Int32} (h : FrT v v1) : FrT v (u2 v1 1 4 x) := ⟨fun q h1 h2 => (u2_o h1).trans (h.1 q h1 h2), (u2_n (by decide)).trans h.2⟩
theorem CT.ft {v1 : Nat → Nat → Int32} (h : CT K v) (g : FrT v v1) : CT K v1 := h.fr g.2 (g.1 2 (by decide) (by decide))
theorem C_readL : ∀ (n fuel i c : Nat) (σ : Rho) (P : Nat) (v : Nat → Nat → Int32), n + 1 < fuel → i + n = 160 → CT K v → v 1 2 = 0 → CTk K P v → CS σ v → SI σ → P ≤ K.1 → v 1 4 = nI c → ∃ r v', f_Reader_readInto_31 fuel 1 20 1 (nI i) (bh v w) = some (r, bh v' w) ∧ FrT v v' ∧ CX (sb (sLines K n σ P c) fun x => sEnd K x) TQ r v' := by
  intro n
  induction n with
  | zero =>
    intro fuel i c σ P v hf hi hT h2 hk hs hI hP h4
    obtain ⟨m, rfl⟩ : ∃ m, fuel = m + 1 := ⟨fuel - 1, by omega⟩
    obtain ⟨r, v1, e1, f1, x1⟩ := C_ri86 (w := w) hT h2 hs hI h4
    refine ⟨r, v1, ?_, f1.fl.t, x1⟩
    show f_Reader_readInto_31b (f_Reader_readInto_31 m) 1 20 1 (nI i) (bh v w) = _
    unfold f_Reader_readInto_31b
    rw [show (160 : Int32) = nI 160 from rfl, if_pos ((nI_leI (by omega) (by omega)).mpr (by omega))]
    exact e1
  | succ n ih =>
    intro fuel i c σ P v hf hi hT h2 hk hs hI hP h4
    obtain ⟨m, rfl⟩ : ∃ m, fuel = m + 1 + 1 := ⟨fuel - 2, by omega⟩
    have k4 := (kc_s (K := K) (s := sT K P)).2.2.2.2
    have ek : kD K P = kc K (sT K P) := rfl
    show ∃ r v', f_Reader_readInto_31b (f_Reader_readInto_31 (m + 1)) 1 20 1 (nI i) (bh v w) = some (r, bh v' w) ∧ _
    unfold f_Reader_readInto_31b f_Reader_readInto_68 f_Reader_readInto_69 sLines
    rw [show (160 : Int32) = nI 160 from rfl, if_neg (fun z => by have := (nI_leI (by omega) (by omega)).mp z; omega), if_neg (by decide)]
    simp only [hT0, bd1_q]
    rw [hk.2.1, ite_iff (nI_eq0 (by omega))]
    by_cases z : kD K P = 0
    · rw [if_pos z, if_pos z]
      obtain ⟨r, v1, e1, f1, x1⟩ := C_ri86 (w := w) hT h2 hs hI h4
      exact ⟨r, v1, e1, f1.fl.t, x1⟩
    rw [if_neg z, if_neg z]
    obtain ⟨r1, v1, e1, f1, x1⟩ := C_takeLine (w := w) hT h2 hk hP hs hI
    rw [e1, bd2_s]
    have T1 : CT K v1 := hT.ft f1.t
    have l4 : v1 1 4 = nI c := f1.2.2.trans h4
    clear e1
    generalize hX : sLine K σ P = X at x1 ⊢
    cases X with
    | inl g =>
      obtain ⟨rfl, a, b⟩ := x1
      rw [if_pos rfl]
      simp only [hT0, bd1_q, C_riF]
      exact ⟨0, _, rfl, f1.t.ln, rfl, (u2_n (by decide)).trans a, (u2_n (by decide)).trans b⟩
    | inr y =>
    obtain ⟨rfl, a2, a5, as⟩ := x1
    obtain ⟨yI, yP, yL⟩ := sLine_ok hX hI hP
    rw [if_neg (by decide), sb_r]
    simp only [hT0, bd1_q]
    obtain ⟨r2, v2, e2, f2, x2⟩ := C_takeToken (w := w) T1 a2 a5 yL
    rw [e2, bd2_s]
    have T2 : CT K v2 := T1.fR f2
    have m4 : v2 1 4 = nI c := f2.2.2.trans l4
    have s2 : CS y.1 v2 := as.of f2.1
    have F2 : FrT v v2 := f1.t.tr f2.fl.t
    clear e2
    generalize tokX K y.2 = X2 at x2 ⊢
    cases X2 with
    | inl g =>
      obtain ⟨rfl, a, b⟩ := x2
      rw [if_pos rfl]
      simp only [hT0, bd1_q, C_riF]
      exact ⟨0, _, rfl, F2.ln, rfl, (u2_n (by decide)).trans a, (u2_n (by decide)).trans b⟩
    | inr u =>
    obtain ⟨rfl, b2, tk⟩ := x2
    rw [if_neg (by decide), sb_r]
    simp only [hT0, bd1_q]
    rw [m4, nI_1, nI_1]
    obtain ⟨r3, v3, e3, f3, x3⟩ := ih (m + 1) (i + 1) (c + 1) y.1 y.2 (u2 v2 1 4 (nI (c + 1))) (by omega) (by omega) (T2.fr (u2_n (by decide)) (u2_o (by decide))) ((u2_n (by decide)).trans b2) ⟨(u2_n (by decide)).trans tk.1, (u2_n (by decide)).trans tk.2.1, (u2_n (by decide)).trans tk.2.2.1, fun q => (u2_n (by decide)).trans (tk.2.2.2 q)⟩ (s2.of (fun q hq => u2_o hq)) yI yL (u2_at _ _ _ _)
    exact ⟨r3, v3, e3, F2.ln.tr f3, x3⟩
theorem C_readInto (hT : CT K v) : ∃ r v', f_Reader_readInto 1 20 (bh v w) = some (r, bh v' w) ∧ FrT v v' ∧ CX (sText K) TQ r v' := by
  unfold f_Reader_readInto f_Reader_readInto_0 sText
  obtain ⟨v1, e1, s1, q1⟩ := C_empty (v := v) (w := w)
  simp only [hU0, bd1_q]
  rw [e1]
  simp only [hT0, bd1_q]
  have z1 : v1 1 = v 1 := q1 1 (by decide)
  have T1 : CT K v1 := hT.fr (by rw [z1]) (q1 2 (by decide))
  have F1 : FrT v (u2 (u2 (u2 (u2 v1 1 2 0) 1 3 0) 1 4 0) 1 5 0) := ⟨fun q h1 h2 => by rw [u2_o h1, u2_o h1, u2_o h1, u2_o h1]; exact q1 q h2, by simp [u2_ap]; rw [z1]⟩
  have T2 : CT K (u2 (u2 (u2 (u2 v1 1 2 0) 1 3 0) 1 4 0) 1 5 0) := hT.ft F1
  have s2 : CS (fun _ _ => 0) (u2 (u2 (u2 (u2 v1 1 2 0) 1 3 0) 1 4 0) 1 5 0) := s1.of (fun q hq => by rw [u2_o hq, u2_o hq, u2_o hq, u2_o hq])
  have a2 : u2 (u2 (u2 (u2 v1 1 2 0) 1 3 0) 1 4 0) 1 5 0 1 2 = 0 := by simp [u2_ap]
  have a4 : u2 (u2 (u2 (u2 v1 1 2 0) 1 3 0) 1 4 0) 1 5 0 1 4 = 0 := by simp [u2_ap]
  have a5 : u2 (u2 (u2 (u2 v1 1 2 0) 1 3 0) 1 4 0) 1 5 0 1 5 = nI 0 := by simp [u2_ap]; rfl
  generalize u2 (u2 (u2 (u2 v1 1 2 0) 1 3 0) 1 4 0) 1 5 0 = v2 at F1 T2 s2 a2 a4 a5 ⊢
  obtain ⟨r3, v3, e3, f3, x3⟩ := C_takeToken (w := w) T2 a2 a5 (Nat.zero_le _)
  rw [e3, bd2_s]
  have F3 : FrT v v3 := F1.tr f3.fl.t
  have T3 : CT K v3 := T2.fR f3
  have b4 : v3 1 4 = nI 0 := f3.2.2.trans a4
  clear e3
  generalize tokX K 0 = X at x3 ⊢
  cases X with
  | inl g =>
    obtain ⟨rfl, a, b⟩ := x3
    rw [show f_Reader_readInto_31 FU 1 20 0 0 (bh v3 w) = some (0, bh v3 w) from C_riF 599 1 20 0 _]
    exact ⟨0, v3, rfl, F3, rfl, a, b⟩
  | inr u =>
  obtain ⟨rfl, b2, tk⟩ := x3
  obtain ⟨r4, v4, e4, f4, x4⟩ := C_readL (w := w) 160 FU 0 0 (fun _ _ => 0) 0 v3 (by decide) (by decide) T3 b2 tk (s2.of f3.1) SI_0 (Nat.zero_le _) b4
  exact ⟨r4, v4, e4, F3.tr f4, x4⟩
/-- the class's text() -/
theorem C_text (hT : CT K v) : ∃ r v', f_Q_text 0 (bh v w) = some (r, bh v' w) ∧ v' 1 1 = 0 ∧ match sText K with
    | .inl f => r = ((-10) : Int32) - nI f.2 ∧ v' 1 2 = nI f.1 ∧ ∀ q, q ≠ 1 → q < 20 ∨ 37 ≤ q → v' q = v q
    | .inr x => r = nI x.2 ∧ v' 1 2 = 0 ∧ CR 3 (fin x.1) v' ∧ v' 38 0 = 0 ∧ v' 38 1 = 0 ∧ (SI x.1 ∧ x.1 17 0 ≤ x.1 0 0 ∧ x.1 17 1 ≤ x.1 0 1) ∧ ∀ q, q ≠ 1 → q ≠ 38 → q < 3 ∨ 37 ≤ q → v' q = v q := by
  unfold f_Q_text f_Q_text_0
  simp only [hZ0, hT0, bd1_q]
  obtain ⟨r1, v1, e1, f1, x1⟩ := C_readInto (w := w) hT
  rw [e1, bd2_s]
  simp only [hZ0, hT0, bd1_q]
  clear e1
  generalize sText K = X at x1 ⊢
  cases X with
  | inl g =>
    obtain ⟨rfl, a, b⟩ := x1
    rw [if_pos rfl, u2_n (show 3 ≠ 1 by decide), b]
    exact ⟨_, _, rfl, u2_at _ _ _ _, rfl, (u2_n (by decide)).trans a, fun q h1 h2 => (u2_o h1).trans (f1.1 q h1 h2)⟩
  | inr y =>
  obtain ⟨rfl, a2, ts, t4, tI, te⟩ := x1
  rw [if_neg (by decide)]
  obtain ⟨v2, e2, c2⟩ := C_copyFrom (a := 3) (b := 20) (Or.inl rfl) (Or.inr (Or.inl rfl)) (by decide) (u2 v1 1 1 0) w
  rw [e2, bd1_s]
  have hR : CR 3 (fin y.1) v2 := CR_copy (CR_fin (ts.of (fun q hq => u2_o hq)) tI) (ROK_fin tI te.1 te.2) c2
  have z1 : v2 1 = u2 v1 1 1 0 1 := c2.1 1 (by decide)
  refine ⟨nI y.2, u2 (u2 v2 38 0 0) 38 1 0, ?_, ?_, rfl, ?_, ?_, ?_, ?_, ⟨tI, te⟩, ?_⟩
  · show f_Q_text_48b (f_Q_text_48 599) 0 0 (bh v2 w) = _
    unfold f_Q_text_48b
    rw [if_neg (by decide)]
    simp only [hZ0, bd1_q]
    rw [show (0 : Int32) = nI 0 from rfl, wr_nI (by decide) (by decide), bd1_s]
    show f_Q_text_48b (f_Q_text_48 598) 0 (nI 1) (bh (u2 v2 38 0 0) w) = _
    unfold f_Q_text_48b
    rw [if_neg (by decide)]
    simp only [hZ0, bd1_q]
    rw [wr_nI (by decide) (by decide), bd1_s]
    show f_Q_text_48b (f_Q_text_48 597) 0 (nI 2) (bh (u2 (u2 v2 38 0 0) 38 1 0) w) = _
    unfold f_Q_text_48b
    rw [if_pos (by decide)]
    simp only [hZ0, hT0, bd1_q]
    rw [u2_o (by decide), u2_o (by decide), z1, u2_n (by decide), t4]
    rfl
  · rw [u2_o (by decide), u2_o (by decide), z1, u2_at]
  · rw [u2_o (by decide), u2_o (by decide), z1, u2_n (by decide)]; exact a2
  · exact hR.frame (fun p h1 h2 => (u2_o (by omega)).trans (u2_o (by omega)))
  · rw [u2_n (by decide), u2_at]
  · rw [u2_at]
  · intro q h1 h2 h3
    rw [u2_o h2, u2_o h2, c2.1 q (by omega), u2_o h1]
    exact f1.1 q h1 (by omega)
end
