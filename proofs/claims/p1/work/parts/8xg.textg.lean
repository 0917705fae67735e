section
variable {K : Tp} {σ : Rho} {v v' : Nat → Nat → Int32} {w : Nat → Nat → Int64} {P : Nat}
theorem M_is {n a b c : Nat} (hT : MT K v) (hk : MTk K P v) (h3 : 3 ≤ n) (hn : n < 200) (ha : a < 200) (hb : b < 200) (hc : c < 200) : f_M_is 100 (nI n) (nI a) (nI b) (nI c) (bh v w) = some (if eN K P = sT K P + n ∧ K.2 (sT K P) = a ∧ K.2 (sT K P + 1) = b ∧ K.2 (sT K P + 2) = c then 1 else 0, bh v w) := by
  have hL := hT.2.1
  have he := eN_b hk.1
  have hs := sT_b hk.1
  unfold f_M_is f_M_is_0 f_M_is_58
  simp only [hN0, bd1_q]
  rw [hk.2.1, hk.2.2.1, pk_sub he.1, ite_iff (nI_eqI (by omega) (by omega))]
  by_cases c1 : eN K P - sT K P = n
  · have t0 := (hT.2.2 (sT K P) (by omega)).2
    have t1 := (hT.2.2 (sT K P + 1) (by omega)).2
    have t2 := (hT.2.2 (sT K P + 2) (by omega)).2
    rw [if_pos c1, M_look hT (by omega), bd2_s, if_pos (show sT K P < K.1 by omega), ite_iff (nI_eqI (by omega) (by omega))]
    by_cases c2 : K.2 (sT K P) = a
    · rw [if_pos c2]
      simp only [hN0, bd1_q]
      rw [hk.2.2.1, nI_1, M_look hT (by omega), bd2_s, if_pos (show sT K P + 1 < K.1 by omega), ite_iff (nI_eqI (by omega) (by omega))]
      by_cases c3 : K.2 (sT K P + 1) = b
      · rw [if_pos c3]
        simp only [hN0, bd1_q]
        rw [hk.2.2.1, show nI (sT K P) + (2 : Int32) = nI (sT K P + 2) from nI_add _ 2, M_look hT (by omega), bd2_s, if_pos (show sT K P + 2 < K.1 by omega), ite_iff (nI_eqI (by omega) (by omega))]
        by_cases c4 : K.2 (sT K P + 2) = c
        · rw [if_pos c4, if_pos ⟨by omega, c2, c3, c4⟩]
        · rw [if_neg c4, if_neg (fun z => c4 z.2.2.2)]
      · rw [if_neg c3, if_neg (fun z => c3 z.2.2.1)]
    · rw [if_neg c2, if_neg (fun z => c2 z.2.1)]
  · rw [if_neg c1, if_neg (fun z => c1 (by omega))]
def lkI (K : Tp) (P : Nat) : Int32 := if isW K P 0 = true then 0 else if isW K P 1 = true then 1 else if isW K P 2 = true then 2 else if isW K P 3 = true then 3 else -4
theorem M_lineNow (hT : MT K v) (hk : MTk K P v) (k1 : kD K P = 1) : f_M_lineNow 100 (bh v w) = some (lkI K P, bh v w) := by
  have hL := hT.2.1
  have he := eN_b hk.1
  have hs := sT_b hk.1
  have w0 : isW K P 0 = true ↔ eN K P = sT K P + 3 ∧ K.2 (sT K P) = 108 ∧ K.2 (sT K P + 1) = 97 ∧ K.2 (sT K P + 2) = 119 := by
    simp [isW, k1, wLn, wLm, wLt]
  have w1 : isW K P 1 = true ↔ eN K P = sT K P + 3 ∧ K.2 (sT K P) = 111 ∧ K.2 (sT K P + 1) = 110 ∧ K.2 (sT K P + 2) = 101 := by
    simp [isW, k1, wLn, wLm, wLt]
  have w2 : isW K P 2 = true ↔ (eN K P = sT K P + 4 ∧ K.2 (sT K P) = 119 ∧ K.2 (sT K P + 1) = 97 ∧ K.2 (sT K P + 2) = 110) ∧ K.2 (sT K P + 3) = 116 := by
    simp [isW, k1, wLn, wLm, wLt, and_assoc]
  have w3 : isW K P 3 = true ↔ (eN K P = sT K P + 5 ∧ K.2 (sT K P) = 119 ∧ K.2 (sT K P + 1) = 97 ∧ K.2 (sT K P + 2) = 116) ∧ K.2 (sT K P + 3) = 99 ∧ K.2 (sT K P + 4) = 104 := by
    simp [isW, k1, wLn, wLm, wLt, and_assoc]
  have i0 : f_M_is 100 (3 : Int32) (108 : Int32) (97 : Int32) (119 : Int32) (bh v w) = _ := M_is (w := w) (n := 3) (a := 108) (b := 97) (c := 119) hT hk (by decide) (by decide) (by decide) (by decide) (by decide)
  have i1 : f_M_is 100 (3 : Int32) (111 : Int32) (110 : Int32) (101 : Int32) (bh v w) = _ := M_is (w := w) (n := 3) (a := 111) (b := 110) (c := 101) hT hk (by decide) (by decide) (by decide) (by decide) (by decide)
  have i2 : f_M_is 100 (4 : Int32) (119 : Int32) (97 : Int32) (110 : Int32) (bh v w) = _ := M_is (w := w) (n := 4) (a := 119) (b := 97) (c := 110) hT hk (by decide) (by decide) (by decide) (by decide) (by decide)
  have i3 : f_M_is 100 (5 : Int32) (119 : Int32) (97 : Int32) (116 : Int32) (bh v w) = _ := M_is (w := w) (n := 5) (a := 119) (b := 97) (c := 116) hT hk (by decide) (by decide) (by decide) (by decide) (by decide)
  have l63 : isW K P 2 ≠ true → f_M_lineNow_63 100 (bh v w) = some (if isW K P 3 = true then 3 else -4, bh v w) := by
    intro n2
    unfold f_M_lineNow_63 f_M_lineNow_111
    simp only [hN0, bd1_q]
    rw [i3, bd2_s]
    by_cases c : eN K P = sT K P + 5 ∧ K.2 (sT K P) = 119 ∧ K.2 (sT K P + 1) = 97 ∧ K.2 (sT K P + 2) = 116
    · have t3 := (hT.2.2 (sT K P + 3) (by omega)).2
      have t4 := (hT.2.2 (sT K P + 4) (by omega)).2
      rw [if_pos c, if_neg (by decide)]
      simp only [hN0, bd1_q]
      rw [hk.2.2.1, show nI (sT K P) + (3 : Int32) = nI (sT K P + 3) from nI_add _ 3, M_look hT (by omega), bd2_s, if_pos (show sT K P + 3 < K.1 by omega), show (99 : Int32) = nI 99 from rfl, ite_iff (nI_eqI (by omega) (by omega))]
      by_cases d : K.2 (sT K P + 3) = 99
      · rw [if_pos d]
        simp only [hN0, bd1_q]
        rw [hk.2.2.1, show nI (sT K P) + (4 : Int32) = nI (sT K P + 4) from nI_add _ 4, M_look hT (by omega), bd2_s, if_pos (show sT K P + 4 < K.1 by omega), show (104 : Int32) = nI 104 from rfl, ite_iff (nI_eqI (by omega) (by omega))]
        by_cases e : K.2 (sT K P + 4) = 104
        · rw [if_pos e, if_pos (w3.mpr ⟨c, d, e⟩)]
        · rw [if_neg e, if_neg (fun z => e (w3.mp z).2.2)]
      · rw [if_neg d, if_neg (fun z => d (w3.mp z).2.1)]
    · rw [if_neg c, if_pos rfl, if_neg (fun z => c (w3.mp z).1)]
  unfold f_M_lineNow f_M_lineNow_0 lkI
  simp only [hN0, bd1_q]
  rw [i0, bd2_s]
  by_cases c0 : isW K P 0 = true
  · rw [if_pos (w0.mp c0), if_neg (by decide), if_pos c0]
  rw [if_neg (fun z => c0 (w0.mpr z)), if_pos rfl, if_neg c0]
  simp only [hN0, bd1_q]
  rw [i1, bd2_s]
  by_cases c1 : isW K P 1 = true
  · rw [if_pos (w1.mp c1), if_neg (by decide), if_pos c1]
  rw [if_neg (fun z => c1 (w1.mpr z)), if_pos rfl, if_neg c1]
  simp only [hN0, bd1_q]
  rw [i2, bd2_s]
  by_cases c : eN K P = sT K P + 4 ∧ K.2 (sT K P) = 119 ∧ K.2 (sT K P + 1) = 97 ∧ K.2 (sT K P + 2) = 110
  · have t3 := (hT.2.2 (sT K P + 3) (by omega)).2
    rw [if_pos c, if_neg (by decide)]
    simp only [hN0, bd1_q]
    rw [hk.2.2.1, show nI (sT K P) + (3 : Int32) = nI (sT K P + 3) from nI_add _ 3, M_look hT (by omega), bd2_s, if_pos (show sT K P + 3 < K.1 by omega), show (116 : Int32) = nI 116 from rfl, ite_iff (nI_eqI (by omega) (by omega))]
    by_cases d : K.2 (sT K P + 3) = 116
    · rw [if_pos d, if_pos (w2.mpr ⟨c, d⟩)]
    · have n2 : ¬ isW K P 2 = true := fun z => d (w2.mp z).2
      rw [if_neg d, l63 n2, if_neg n2]
  · have n2 : ¬ isW K P 2 = true := fun z => c (w2.mp z).1
    rw [if_neg c, if_pos rfl, l63 n2, if_neg n2]
theorem sLaw_eq (Q : Nat) : sLaw K σ Q = sb (tokX K Q) fun _ => sb (sb (sNw K 0 9 (sNw K 0 9 (sNw K 1 3 (sNw K 0 9 ((.inr ((), Q)) : Fa ⊕ (Unit × Nat)))))) fun y => sCr K σ y) fun z => sFin K z.2 z.1 := by
  unfold sLaw sNum sNw sCar sCr
  simp only [sb_r]
  rcases tokX K Q with f | u
  · rfl
  simp only [sb_r]
  rcases chk K 0 9 Q with f | q
  · rfl
  simp only [sb_r]
  rcases tokX K (eN K Q) with f | u
  · rfl
  simp only [sb_r]
  rcases chk K 1 3 (eN K Q) with f | c
  · rfl
  simp only [sb_r]
  rcases tokX K (eN K (eN K Q)) with f | u
  · rfl
  simp only [sb_r]
  rcases chk K 0 9 (eN K (eN K Q)) with f | h
  · rfl
  simp only [sb_r]
  rcases tokX K (eN K (eN K (eN K Q))) with f | u
  · rfl
  simp only [sb_r]
  rcases chk K 0 9 (eN K (eN K (eN K Q))) with f | g
  · rfl
  simp only [sb_r]
  rcases tokX K (eN K (eN K (eN K (eN K Q)))) with f | u
  · rfl
  simp only [sb_r]
  by_cases k : kD K (eN K (eN K (eN K (eN K Q)))) = 2
  · rw [if_pos k, if_pos k]
    rcases chkB K 0 4 (eN K (eN K (eN K (eN K Q)))) with f | m
    · rfl
    simp only [sb_r]
    by_cases z : m = σ 0 0
    · rw [if_pos z, if_pos z]; rfl
    · rw [if_neg z, if_neg z]
      rcases tokX K (eN K (eN K (eN K (eN K (eN K Q))))) with f | u
      · rfl
      · rfl
  · rw [if_neg k, if_neg k]; rfl
theorem sOne_eq (Q : Nat) : sOne K σ Q = sb (tokX K Q) fun _ => sb (sb (sNw K 0 99 (sNw K 0 10 (sNw K 0 3 (sNw K 0 5 ((.inr ((), Q)) : Fa ⊕ (Unit × Nat)))))) fun y => sOr K σ y) fun z => sFin K z.2 z.1 := by
  unfold sOne sNum sNw sOr
  simp only [sb_r]
  rcases tokX K Q with f | u
  · rfl
  simp only [sb_r]
  rcases chk K 0 5 Q with f | q
  · rfl
  simp only [sb_r]
  rcases tokX K (eN K Q) with f | u
  · rfl
  simp only [sb_r]
  rcases chk K 0 3 (eN K Q) with f | c
  · rfl
  simp only [sb_r]
  rcases tokX K (eN K (eN K Q)) with f | u
  · rfl
  simp only [sb_r]
  rcases chk K 0 10 (eN K (eN K Q)) with f | h
  · rfl
  simp only [sb_r]
  rcases tokX K (eN K (eN K (eN K Q))) with f | u
  · rfl
  simp only [sb_r]
  rcases chk K 0 99 (eN K (eN K (eN K Q))) with f | g
  · rfl
  simp only [sb_r]
  rcases tokX K (eN K (eN K (eN K (eN K Q)))) with f | u
  · rfl
  simp only [sb_r]
  rcases sRef K 6 0 (σ 17 0) (eN K (eN K (eN K (eN K Q)))) with f | x
  · rfl
  · rfl
theorem sWant_eq (Q : Nat) : sWant K σ Q = sb (tokX K Q) fun _ => sb (sWr K σ Q) fun z => sFin K z.2 z.1 := by
  unfold sWant sNum sWr sNw sLx
  simp only [sb_r]
  rcases tokX K Q with f | u
  · rfl
  simp only [sb_r]
  rcases chk K 0 2 Q with f | q
  · rfl
  simp only [sb_r]
  rcases tokX K (eN K Q) with f | u
  · rfl
  simp only [sb_r]
  rcases chk K 0 4 (eN K Q) with f | m
  · rfl
  simp only [sb_r]
  by_cases z : bit (σ 11 q) m = 1
  · rw [if_pos z, if_pos z]; rfl
  · rw [if_neg z, if_neg z]
    rcases tokX K (eN K (eN K Q)) with f | u
    · rfl
    · rfl
theorem sWatch_eq (Q : Nat) : sWatch K σ Q = sb (tokX K Q) fun _ => sb (sHr K σ Q) fun z => sFin K z.2 z.1 := by
  unfold sWatch sNum sHr sLx
  rcases tokX K Q with f | u
  · rfl
  simp only [sb_r]
  rcases chk K 0 4 Q with f | m
  · rfl
  simp only [sb_r]
  by_cases z : bit (σ 0 5) m = 1
  · rw [if_pos z, if_pos z]; rfl
  · rw [if_neg z, if_neg z]
    rcases tokX K (eN K Q) with f | u
    · rfl
    · rfl
theorem M_l65F {f : Fa} (hF : FL f v) (b1 s1 : Int32) : f_M_readLine_65 100 b1 100 s1 (bh v w) = some (bh v w) := by
  have := hF.2.2
  unfold f_M_readLine_65
  simp only [hN0, bd1_q]
  rw [M_needsF hF]
  simp only [hN0, bd1_q]
  rw [M_nextF hF]
  simp only [hN0, bd1_q]
  rw [hF.1, if_neg (nI_nle (by omega) (by omega))]
theorem M_l65_5 (hk : MTk K P v) (h25 : v 100 25 = 0) (b1 : Int32) : ∃ v', f_M_readLine_65 100 b1 100 0 (bh v w) = some (bh v' w) ∧ FrD v v' ∧ FL (5, sT K P) v' := by
  have F : FL (5, sT K P) (u2 (u2 v 100 25 5) 100 26 (v 100 22)) := ⟨by simp [u2_ap]; rfl, by simp [u2_ap]; exact hk.2.2.1, show 1 ≤ 5 by decide, show 5 ≤ 6 by decide⟩
  unfold f_M_readLine_65
  simp only [hN0, bd1_q]
  rw [M_needs0 h25]
  simp only [hN0, bd1_q]
  rw [M_nextF F]
  simp only [hN0, bd1_q]
  rw [F.1, if_neg (show ¬ nI 5 ≤ 0 by decide)]
  exact ⟨_, rfl, ((FrD.rf v).u (by decide)).u (by decide), F⟩
theorem M_l65 {X : Fa ⊕ (Rho × Nat)} {b1 : Int32} (hT : MT K v) (hk : MTk K P v) (h25 : v 100 25 = 0) (hS : MS σ v) (h5 : σ 0 0 ≤ 5) (h0 : ∀ z, X = .inr z → z.1 0 0 ≤ 5) (hline : ∀ v2, MT K v2 → MTk K (eN K P) v2 → v2 100 25 = 0 → MS σ v2 → ∃ v3, f_M_readLineOf 100 b1 (bh v2 w) = some (bh v3 w) ∧ FrD v2 v3 ∧ MX X (fun z v' => MTk K z.2 v' ∧ MS z.1 v') v3) : ∃ v', f_M_readLine_65 100 b1 100 1 (bh v w) = some (bh v' w) ∧ FrD v v' ∧ MX (sb (tokX K (eN K P)) fun _ => sb X fun z => sb (sFin K z.2 z.1) fun y => sb (tokX K y.2) fun _ => .inr y) (fun y v' => MTk K y.2 v' ∧ MS y.1 v') v' := by
  unfold f_M_readLine_65
  simp only [hN0, bd1_q]
  rw [M_needs1]
  simp only [hN0, bd1_q]
  obtain ⟨v2, e2, f2, x2⟩ := M_next (w := w) hT h25 hk.2.1 (eN_b hk.1).2.1
  rw [e2]
  simp only [hN0, bd1_q]
  clear e2
  generalize tokX K (eN K P) = Y at x2 ⊢
  cases Y with
  | inl f =>
    have F : FL f v2 := x2
    have := F.2.2
    rw [F.1, if_neg (nI_nle (by omega) (by omega))]
    exact ⟨v2, rfl, f2.d, F⟩
  | inr u =>
    obtain ⟨b25, bk⟩ := x2
    have T2 := hT.fN f2
    obtain ⟨v3, e3, f3, x3⟩ := hline v2 T2 bk b25 (hS.fN h5 f2)
    rw [b25, if_pos (by decide), e3]
    simp only [hN0, bd1_q]
    obtain ⟨v4, e4, f4, x4⟩ := M_tail (w := w) h0 (T2.fD f3) x3
    exact ⟨v4, e4, (f2.d.tr f3).tr f4.d, x4⟩
theorem sb_as {α β γ : Type} (x : Fa ⊕ α) (f : α → Fa ⊕ β) (g : β → Fa ⊕ γ) : sb (sb x f) g = sb x fun a => sb (f a) g := by
  cases x <;> rfl
theorem M_readLine (hT : MT K v) (hk : MTk K P v) (h25 : v 100 25 = 0) (hS : MS σ v) (hI : SI σ) : ∃ v', f_M_readLine 100 (bh v w) = some (bh v' w) ∧ FrD v v' ∧ MX (sb (sLine K σ P) fun y => sb (tokX K y.2) fun _ => .inr y) (fun y v' => MTk K y.2 v' ∧ MS y.1 v') v' := by
  have k4 := (kc_s (K := K) (s := sT K P)).2.2.2.2
  have ek : kD K P = kc K (sT K P) := rfl
  have h5 := hI.1.1
  have h3 := hI.1.2.1
  have e17 : f_M_readLine 100 (bh v w) = f_M_readLine_17 100 (lkI K P) (bh v w) := by
    unfold f_M_readLine f_M_readLine_0
    simp only [hN0, bd1_q]
    have q1 : v 100 23 = (1 : Int32) ↔ kD K P = 1 := by rw [hk.2.2.2.1]; exact nI_eqI (a := kD K P) (b := 1) (by omega) (by omega)
    rw [ite_iff q1]
    by_cases c : kD K P = 1
    · rw [if_pos c, M_lineNow hT hk c, bd2_s]
    · have nw : ∀ o, ¬ isW K P o = true := fun o z => c (isW_k z)
      rw [if_neg c]
      unfold lkI
      rw [if_neg (nw 0), if_neg (nw 1), if_neg (nw 2), if_neg (nw 3)]
  rw [e17]
  unfold f_M_readLine_17 f_M_readLine_30 f_M_readLine_47 f_M_readLine_64 f_M_readLine_60 lkI sLine
  by_cases c0 : isW K P 0 = true
  · rw [if_pos c0, if_pos c0, if_neg (by decide)]
    simp only [hN0, bd1_q]
    rw [M_needs1]
    simp only [hN0, bd1_q]
    rw [if_pos trivial, hS.1.1, show (5 : Int32) = nI 5 from rfl, ite_iff (nI_leI (by omega) (by omega))]
    by_cases g : σ 0 0 < 5
    · rw [if_neg (by omega), if_neg (by decide), if_pos g, sLaw_eq, sb_as]
      have := M_l65 (w := w) (b1 := 0) (X := sb (sNw K 0 9 (sNw K 0 9 (sNw K 1 3 (sNw K 0 9 ((.inr ((), eN K P)) : Fa ⊕ (Unit × Nat)))))) fun y => sCr K σ y) hT hk h25 hS h5 (fun z hz => by
        obtain ⟨y, -, hy⟩ := sb_inr hz
        unfold sCr at hy
        split at hy
        · obtain ⟨m, -, hy⟩ := sb_inr hy
          obtain ⟨-, hy⟩ := ite_inr hy
          obtain ⟨u, -, hy⟩ := sb_inr hy
          cases hy
          simp [addL, up2_ap]
          omega
        · cases hy
          simp [addL, up2_ap]
          omega) (fun v2 a1 a2 a3 a4 => by
        obtain ⟨v3, e3, f3, x3⟩ := M_readLaw (w := w) a1 a2 a3 a4 hI g
        refine ⟨v3, ?_, f3, x3⟩
        unfold f_M_readLineOf f_M_readLineOf_0
        rw [if_pos rfl]
        simp only [hN0, bd1_q]
        rw [e3, bd1_s])
      obtain ⟨v4, e4, f4, x4⟩ := this
      refine ⟨v4, e4, f4, ?_⟩
      simp only [sb_as] at x4 ⊢
      exact x4
    · rw [if_pos (by omega), if_neg g]
      obtain ⟨v4, e4, f4, x4⟩ := M_l65_5 (w := w) hk h25 0
      exact ⟨v4, e4, f4, x4⟩
  rw [if_neg c0, if_neg c0]
  by_cases c1 : isW K P 1 = true
  · rw [if_pos c1, if_pos c1, if_neg (by decide)]
    simp only [hN0, bd1_q]
    rw [M_needs1]
    simp only [hN0, bd1_q]
    rw [if_neg (by decide), if_pos trivial, hS.1.2.1, show (3 : Int32) = nI 3 from rfl, ite_iff (nI_leI (by omega) (by omega))]
    by_cases g : σ 0 1 < 3
    · rw [if_neg (by omega), if_pos g, sOne_eq, sb_as]
      have := M_l65 (w := w) (b1 := 1) (X := sb (sNw K 0 99 (sNw K 0 10 (sNw K 0 3 (sNw K 0 5 ((.inr ((), eN K P)) : Fa ⊕ (Unit × Nat)))))) fun y => sOr K σ y) hT hk h25 hS h5 (fun z hz => by
        obtain ⟨y, -, hy⟩ := sb_inr hz
        obtain ⟨x, -, hy⟩ := sb_inr hy
        cases hy
        simp [addO, up2_ap]
        exact h5) (fun v2 a1 a2 a3 a4 => by
        obtain ⟨v3, e3, f3, x3⟩ := M_readOne (w := w) a1 a2 a3 a4 hI g
        refine ⟨v3, ?_, f3, x3⟩
        unfold f_M_readLineOf f_M_readLineOf_0
        rw [if_neg (by decide), if_pos rfl]
        simp only [hN0, bd1_q]
        rw [e3, bd1_s])
      obtain ⟨v4, e4, f4, x4⟩ := this
      refine ⟨v4, e4, f4, ?_⟩
      simp only [sb_as] at x4 ⊢
      exact x4
    · rw [if_pos (by omega), if_neg g]
      obtain ⟨v4, e4, f4, x4⟩ := M_l65_5 (w := w) hk h25 1
      exact ⟨v4, e4, f4, x4⟩
  rw [if_neg c1, if_neg c1]
  by_cases c2 : isW K P 2 = true
  · rw [if_pos c2, if_pos c2, if_neg (by decide)]
    simp only [hN0, bd1_q]
    rw [M_needs1]
    simp only [hN0, bd1_q]
    rw [if_neg (by decide), if_neg (by decide), sWant_eq, sb_as]
    have := M_l65 (w := w) (b1 := 2) (X := sWr K σ (eN K P)) hT hk h25 hS h5 (fun z hz => by
      obtain ⟨y, -, hy⟩ := sb_inr hz
      obtain ⟨x, -, hy⟩ := sb_inr hy
      cases hy
      simp [addW, up2_ap]
      exact h5) (fun v2 a1 a2 a3 a4 => M_want (w := w) a1 a2 a3 a4 hI)
    obtain ⟨v4, e4, f4, x4⟩ := this
    refine ⟨v4, e4, f4, ?_⟩
    simp only [sb_as] at x4 ⊢
    exact x4
  rw [if_neg c2, if_neg c2]
  by_cases c3 : isW K P 3 = true
  · rw [if_pos c3, if_pos c3, if_neg (by decide)]
    simp only [hN0, bd1_q]
    rw [M_needs1]
    simp only [hN0, bd1_q]
    rw [if_neg (by decide), if_neg (by decide), sWatch_eq, sb_as]
    have := M_l65 (w := w) (b1 := 3) (X := sHr K σ (eN K P)) hT hk h25 hS h5 (fun z hz => by
      obtain ⟨x, -, hy⟩ := sb_inr hz
      cases hy
      simp [addH, up2_ap]
      exact h5) (fun v2 a1 a2 a3 a4 => M_watchL (w := w) a1 a2 a3 a4 hI)
    obtain ⟨v4, e4, f4, x4⟩ := this
    refine ⟨v4, e4, f4, ?_⟩
    simp only [sb_as] at x4 ⊢
    exact x4
  rw [if_neg c3, if_neg c3, if_pos rfl]
  simp only [hN0, bd1_q]
  rw [M_needs0 h25]
  simp only [hN0, bd1_q]
  have F : FL (2, sT K P) (u2 (u2 v 100 25 2) 100 26 (v 100 22)) := ⟨by simp [u2_ap]; rfl, by simp [u2_ap]; exact hk.2.2.1, show 1 ≤ 2 by decide, show 2 ≤ 6 by decide⟩
  rw [if_neg (by decide), if_neg (by decide), M_l65F F]
  exact ⟨_, rfl, ((FrD.rf v).u (by decide)).u (by decide), F⟩
end
