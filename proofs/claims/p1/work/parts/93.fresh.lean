/-! forced copies of functions (for the kernel): printed by wip/gen/gen_fresh.py -/
def g_Arrays_fillI_5b (rec5 : Nat → Int32 → Int32 → Int32 → mH → Option mH) (b0 : Nat) (b1 : Int32) (b2 : Int32) (b3 : Int32) (h : mH) : Option mH :=
  if b3 ≤ b2 then
    some h
  else
    bd1 (sI2 h 0 b0 b2 b1) fun h3 =>
    incI b2 fun bb => rec5 b0 b1 bb b3 h3
theorem g_Arrays_fillI_5b_eq : @g_Arrays_fillI_5b = @f_Arrays_fillI_5b := by
  unfold g_Arrays_fillI_5b f_Arrays_fillI_5b; rw [sI2_eq, incI_eq]
def g_Arrays_fillI_5  : Nat → Nat → Int32 → Int32 → Int32 → mH → Option mH
  | 0 => fun _ _ _ _ _ => none
  | n + 1 => g_Arrays_fillI_5b  (g_Arrays_fillI_5  n)
theorem g_Arrays_fillI_5_eq : @g_Arrays_fillI_5 = @f_Arrays_fillI_5 := by
  funext  n
  induction n with
  | zero => rfl
  | succ n ih => show g_Arrays_fillI_5b  (g_Arrays_fillI_5  n) = f_Arrays_fillI_5b  (f_Arrays_fillI_5  n); rw [ih, g_Arrays_fillI_5b_eq]
def g_Arrays_fillI_0  (a0 : Nat) (a1 : Int32) (h : mH) : Option mH :=
  bd1 (aN h 0 a0) fun x1 =>
  g_Arrays_fillI_5  FU a0 a1 (0 : Int32) x1 h
theorem g_Arrays_fillI_0_eq : @g_Arrays_fillI_0 = @f_Arrays_fillI_0 := by
  unfold g_Arrays_fillI_0 f_Arrays_fillI_0; rw [g_Arrays_fillI_5_eq]
def g_Arrays_fillI (a0 : Nat) (a1 : Int32) (h : mH) : Option mH := g_Arrays_fillI_0 a0 a1 h
theorem g_Arrays_fillI_eq : @g_Arrays_fillI = @f_Arrays_fillI := by
  unfold g_Arrays_fillI f_Arrays_fillI; rw [g_Arrays_fillI_0_eq]
def g_Realm_empty_0  (a0 : Nat) (h : mH) : Option mH :=
  bd1 (pV2 h a0 4 0 (.int (0 : Int32))) fun h1 =>
  bd1 (pV2 h1 a0 4 1 (.int (0 : Int32))) fun h3 =>
  bd1 (pV2 h3 a0 4 2 (.int (0 : Int32))) fun h5 =>
  bd1 (pV2 h5 a0 4 3 (.int (0 : Int32))) fun h7 =>
  bd1 (pV2 h7 a0 4 4 (.int (0 : Int32))) fun h9 =>
  bd1 (pV2 h9 a0 4 5 (.int (0 : Int32))) fun h11 =>
  bd1 (gR h11 a0 4 18) fun x13 =>
  bd1 (pV2 h11 x13 6 0 (.int (0 : Int32))) fun h15 =>
  bd1 (gR h15 a0 4 15) fun x17 =>
  bd1 (g_Arrays_fillI x17 (0 : Int32) h15) fun h19 =>
  bd1 (gR h19 a0 4 16) fun x21 =>
  bd1 (g_Arrays_fillI x21 (0 : Int32) h19) fun h23 =>
  bd1 (gR h23 a0 4 17) fun x25 =>
  bd1 (g_Arrays_fillI x25 (0 : Int32) h23) fun h27 =>
  some h27
theorem g_Realm_empty_0_eq : @g_Realm_empty_0 = @f_Realm_empty_0 := by
  unfold g_Realm_empty_0 f_Realm_empty_0; rw [g_Arrays_fillI_eq, pV2_eq]
def g_Realm_empty (a0 : Nat) (h : mH) : Option mH := g_Realm_empty_0 a0 h
theorem g_Realm_empty_eq : @g_Realm_empty = @f_Realm_empty := by
  unfold g_Realm_empty f_Realm_empty; rw [g_Realm_empty_0_eq]
def g_Reader_passRun_0b (rec0 : Nat → Int32 → Int32 → mH → Option mH) (b0 : Nat) (b1 : Int32) (b2 : Int32) (h : mH) : Option mH :=
  bd1 (gI h b0 3 5) fun x1 =>
  bd1 (gI h b0 3 1) fun x3 =>
  if x3 ≤ x1 then
    some h
  else
    bd1 (gR h b0 3 0) fun x5 =>
    bd1 (gI h b0 3 5) fun x7 =>
    bd1 (aI h 1 x5 x7) fun x9 =>
    if x9 < b1 then
      some h
    else
      bd1 (gR h b0 3 0) fun x11 =>
      bd1 (gI h b0 3 5) fun x13 =>
      bd1 (aI h 1 x11 x13) fun x15 =>
      if b2 < x15 then
        some h
      else
        bd1 (gI h b0 3 5) fun x17 =>
        bd1 (pV2 h b0 3 5 (.int (x17 + (1 : Int32)))) fun h19 =>
        rec0 b0 b1 b2 h19
theorem g_Reader_passRun_0b_eq : @g_Reader_passRun_0b = @f_Reader_passRun_0b := by
  unfold g_Reader_passRun_0b f_Reader_passRun_0b; rw [pV2_eq]
def g_Reader_passRun_0  : Nat → Nat → Int32 → Int32 → mH → Option mH
  | 0 => fun _ _ _ _ => none
  | n + 1 => g_Reader_passRun_0b  (g_Reader_passRun_0  n)
theorem g_Reader_passRun_0_eq : @g_Reader_passRun_0 = @f_Reader_passRun_0 := by
  funext  n
  induction n with
  | zero => rfl
  | succ n ih => show g_Reader_passRun_0b  (g_Reader_passRun_0  n) = f_Reader_passRun_0b  (f_Reader_passRun_0  n); rw [ih, g_Reader_passRun_0b_eq]
def g_Reader_passRun (a0 : Nat) (a1 : Int32) (a2 : Int32) (h : mH) : Option mH := g_Reader_passRun_0 FU a0 a1 a2 h
theorem g_Reader_passRun_eq : @g_Reader_passRun = @f_Reader_passRun := by
  unfold g_Reader_passRun f_Reader_passRun; rw [g_Reader_passRun_0_eq]
def g_Reader_kindHere_61   (h : mH) : Option (Int32 × mH) :=
  some ((4 : Int32), h)
theorem g_Reader_kindHere_61_eq : @g_Reader_kindHere_61 = @f_Reader_kindHere_61 := by
  rfl
def g_Reader_kindHere_45  (b1 : Int32) (h : mH) : Option (Int32 × mH) :=
  if b1 < (48 : Int32) then
    g_Reader_kindHere_61  h
  else
    if (57 : Int32) < b1 then
      g_Reader_kindHere_61  h
    else
      some ((2 : Int32), h)
theorem g_Reader_kindHere_45_eq : @g_Reader_kindHere_45 = @f_Reader_kindHere_45 := by
  unfold g_Reader_kindHere_45 f_Reader_kindHere_45; rw [g_Reader_kindHere_61_eq]
def g_Reader_kindHere_0  (a0 : Nat) (h : mH) : Option (Int32 × mH) :=
  bd1 (gI h a0 3 5) fun x1 =>
  bd1 (gI h a0 3 1) fun x3 =>
  if x1 < x3 then
    bd1 (gR h a0 3 0) fun x5 =>
    bd1 (gI h a0 3 5) fun x7 =>
    bd1 (aI h 1 x5 x7) fun x9 =>
    if x9 = (59 : Int32) then
      some ((3 : Int32), h)
    else
      if x9 < (97 : Int32) then
        g_Reader_kindHere_45  x9 h
      else
        if (122 : Int32) < x9 then
          g_Reader_kindHere_45  x9 h
        else
          some ((1 : Int32), h)
  else
    some ((0 : Int32), h)
theorem g_Reader_kindHere_0_eq : @g_Reader_kindHere_0 = @f_Reader_kindHere_0 := by
  unfold g_Reader_kindHere_0 f_Reader_kindHere_0; rw [g_Reader_kindHere_45_eq]
def g_Reader_kindHere (a0 : Nat) (h : mH) : Option (Int32 × mH) := g_Reader_kindHere_0 a0 h
theorem g_Reader_kindHere_eq : @g_Reader_kindHere = @f_Reader_kindHere := by
  unfold g_Reader_kindHere f_Reader_kindHere; rw [g_Reader_kindHere_0_eq]
def g_Reader_valueOfRun_7b (rec7 : Nat → Int32 → Int32 → mH → Option (Int32 × mH)) (b0 : Nat) (b1 : Int32) (b2 : Int32) (h : mH) : Option (Int32 × mH) :=
  bd1 (gI h b0 3 5) fun x3 =>
  if x3 ≤ b2 then
    some (b1, h)
  else
    bd1 (gR h b0 3 0) fun x5 =>
    bd1 (aI h 1 x5 b2) fun x7 =>
    rec7 b0 (((b1 * (10 : Int32)) + x7) - (48 : Int32)) (b2 + (1 : Int32)) h
theorem g_Reader_valueOfRun_7b_eq : @g_Reader_valueOfRun_7b = @f_Reader_valueOfRun_7b := by
  rfl
def g_Reader_valueOfRun_7  : Nat → Nat → Int32 → Int32 → mH → Option (Int32 × mH)
  | 0 => fun _ _ _ _ => none
  | n + 1 => g_Reader_valueOfRun_7b  (g_Reader_valueOfRun_7  n)
theorem g_Reader_valueOfRun_7_eq : @g_Reader_valueOfRun_7 = @f_Reader_valueOfRun_7 := by
  funext  n
  induction n with
  | zero => rfl
  | succ n ih => show g_Reader_valueOfRun_7b  (g_Reader_valueOfRun_7  n) = f_Reader_valueOfRun_7b  (f_Reader_valueOfRun_7  n); rw [ih, g_Reader_valueOfRun_7b_eq]
def g_Reader_valueOfRun_0  (a0 : Nat) (h : mH) : Option (Int32 × mH) :=
  bd1 (gI h a0 3 7) fun x1 =>
  g_Reader_valueOfRun_7  FU a0 (0 : Int32) x1 h
theorem g_Reader_valueOfRun_0_eq : @g_Reader_valueOfRun_0 = @f_Reader_valueOfRun_0 := by
  unfold g_Reader_valueOfRun_0 f_Reader_valueOfRun_0; rw [g_Reader_valueOfRun_7_eq]
def g_Reader_valueOfRun (a0 : Nat) (h : mH) : Option (Int32 × mH) := g_Reader_valueOfRun_0 a0 h
theorem g_Reader_valueOfRun_eq : @g_Reader_valueOfRun = @f_Reader_valueOfRun := by
  unfold g_Reader_valueOfRun f_Reader_valueOfRun; rw [g_Reader_valueOfRun_0_eq]
def g_Reader_takeToken_111   (h : mH) : Option (Int32 × mH) :=
  some ((1 : Int32), h)
theorem g_Reader_takeToken_111_eq : @g_Reader_takeToken_111 = @f_Reader_takeToken_111 := by
  rfl
def g_Reader_fail_0  (a0 : Nat) (a1 : Int32) (a2 : Int32) (h : mH) : Option (Int32 × mH) :=
  bd1 (pV2 h a0 3 2 (.int a1)) fun h1 =>
  bd1 (pV2 h1 a0 3 3 (.int a2)) fun h3 =>
  some ((0 : Int32), h3)
theorem g_Reader_fail_0_eq : @g_Reader_fail_0 = @f_Reader_fail_0 := by
  unfold g_Reader_fail_0 f_Reader_fail_0; rw [pV2_eq]
def g_Reader_fail (a0 : Nat) (a1 : Int32) (a2 : Int32) (h : mH) : Option (Int32 × mH) := g_Reader_fail_0 a0 a1 a2 h
theorem g_Reader_fail_eq : @g_Reader_fail = @f_Reader_fail := by
  unfold g_Reader_fail f_Reader_fail; rw [g_Reader_fail_0_eq]
def g_Reader_takeToken_0  (a0 : Nat) (h : mH) : Option (Int32 × mH) :=
  bd1 (kC h a0 3) fun _ =>
  bd1 (g_Reader_passRun a0 (32 : Int32) (32 : Int32) h) fun h3 =>
  bd1 (gI h3 a0 3 5) fun x5 =>
  bd1 (pV2 h3 a0 3 7 (.int x5)) fun h7 =>
  bd1 (kC h7 a0 3) fun _ =>
  bd2 (g_Reader_kindHere a0 h7) fun x13 h11 =>
  bd1 (pV2 h11 a0 3 6 (.int x13)) fun h14 =>
  bd1 (gI h14 a0 3 6) fun x16 =>
  if x16 = (0 : Int32) then
    some ((1 : Int32), h14)
  else
  if x16 = (1 : Int32) then
    bd1 (kC h14 a0 3) fun _ =>
    bd1 (g_Reader_passRun a0 (97 : Int32) (122 : Int32) h14) fun h22 =>
    some ((1 : Int32), h22)
  else
  if x16 = (2 : Int32) then
    bd1 (kC h14 a0 3) fun _ =>
    bd1 (g_Reader_passRun a0 (48 : Int32) (57 : Int32) h14) fun h27 =>
    bd1 (kC h27 a0 3) fun _ =>
    bd2 (g_Reader_valueOfRun a0 h27) fun x33 h31 =>
    bd1 (pV2 h31 a0 3 8 (.int x33)) fun h34 =>
    bd1 (gI h34 a0 3 5) fun x36 =>
    bd1 (gI h34 a0 3 7) fun x38 =>
    if (x36 - x38) ≤ (2 : Int32) then
      g_Reader_takeToken_111  h34
    else
      bd1 (gI h34 a0 3 7) fun x40 =>
      bd1 (kC h34 a0 3) fun _ =>
      bd2 (g_Reader_fail a0 (1 : Int32) x40 h34) fun x46 h44 =>
      if x46 = 0 then
        some ((0 : Int32), h44)
      else
        g_Reader_takeToken_111  h44
  else
  if x16 = (3 : Int32) then
    bd1 (gI h14 a0 3 5) fun x50 =>
    bd1 (pV2 h14 a0 3 5 (.int (x50 + (1 : Int32)))) fun h52 =>
    some ((1 : Int32), h52)
  else
  bd1 (gI h14 a0 3 7) fun x54 =>
  bd1 (kC h14 a0 3) fun _ =>
  bd2 (g_Reader_fail a0 (1 : Int32) x54 h14) fun x60 h58 =>
  if x60 = 0 ∨ x60 = 1 then some (x60, h58) else none
theorem g_Reader_takeToken_0_eq : @g_Reader_takeToken_0 = @f_Reader_takeToken_0 := by
  unfold g_Reader_takeToken_0 f_Reader_takeToken_0; rw [g_Reader_passRun_eq, g_Reader_kindHere_eq, g_Reader_valueOfRun_eq, g_Reader_takeToken_111_eq, g_Reader_fail_eq, pV2_eq]
def g_Reader_takeToken (a0 : Nat) (h : mH) : Option (Int32 × mH) := g_Reader_takeToken_0 a0 h
theorem g_Reader_takeToken_eq : @g_Reader_takeToken = @f_Reader_takeToken := by
  unfold g_Reader_takeToken f_Reader_takeToken; rw [g_Reader_takeToken_0_eq]
def g_Reader_readInto_114   (h : mH) : Option (Int32 × mH) :=
  some ((0 : Int32), h)
theorem g_Reader_readInto_114_eq : @g_Reader_readInto_114 = @f_Reader_readInto_114 := by
  rfl
def g_Q_isPart_0  (a0 : Int32) (a1 : Int32) (h : mH) : Option (Int32 × mH) :=
  if (a0 &&& (a1 ^^^ ((-1) : Int32))) = 0 then
    some ((1 : Int32), h)
  else
    some ((0 : Int32), h)
theorem g_Q_isPart_0_eq : @g_Q_isPart_0 = @f_Q_isPart_0 := by
  rfl
def g_Q_isPart (a0 : Int32) (a1 : Int32) (h : mH) : Option (Int32 × mH) := g_Q_isPart_0 a0 a1 h
theorem g_Q_isPart_eq : @g_Q_isPart = @f_Q_isPart := by
  unfold g_Q_isPart f_Q_isPart; rw [g_Q_isPart_0_eq]
def g_Realm_hasOne_16   (h : mH) : Option (Int32 × mH) :=
  some ((0 : Int32), h)
theorem g_Realm_hasOne_16_eq : @g_Realm_hasOne_16 = @f_Realm_hasOne_16 := by
  rfl
def g_Realm_hasOne_0  (a0 : Nat) (a1 : Int32) (h : mH) : Option (Int32 × mH) :=
  if a1 < 0 then
    g_Realm_hasOne_16  h
  else
    bd1 (gI h a0 4 1) fun x1 =>
    if x1 ≤ a1 then
      g_Realm_hasOne_16  h
    else
      some ((1 : Int32), h)
theorem g_Realm_hasOne_0_eq : @g_Realm_hasOne_0 = @f_Realm_hasOne_0 := by
  unfold g_Realm_hasOne_0 f_Realm_hasOne_0; rw [g_Realm_hasOne_16_eq]
def g_Realm_hasOne (a0 : Nat) (a1 : Int32) (h : mH) : Option (Int32 × mH) := g_Realm_hasOne_0 a0 a1 h
theorem g_Realm_hasOne_eq : @g_Realm_hasOne = @f_Realm_hasOne := by
  unfold g_Realm_hasOne f_Realm_hasOne; rw [g_Realm_hasOne_0_eq]
def g_Reader_allThere_118   (h : mH) : Option (Int32 × mH) :=
  some ((0 : Int32), h)
theorem g_Reader_allThere_118_eq : @g_Reader_allThere_118 = @f_Reader_allThere_118 := by
  rfl
def g_Reader_allThere_93 (rec66 : Nat → Int32 → Int32 → mH → Option (Int32 × mH)) (b0 : Nat) (b1 : Int32) (b2 : Int32) (s0 : Int32) (h : mH) : Option (Int32 × mH) :=
  if s0 = 0 then
    bd1 (gR h b0 4 15) fun x39 =>
    bd1 (aI h 0 x39 b2) fun x41 =>
    bd1 (gR h b0 4 16) fun x43 =>
    bd1 (aI h 0 x43 b2) fun x45 =>
    bd2 (g_Q_isPart (x41 ||| x45) b1 h) fun x49 h47 =>
    if x49 = 0 then
      g_Reader_allThere_118  h47
    else
      incI b2 fun bb => rec66 b0 b1 bb h47
  else
    g_Reader_allThere_118  h
theorem g_Reader_allThere_93_eq : @g_Reader_allThere_93 = @f_Reader_allThere_93 := by
  unfold g_Reader_allThere_93 f_Reader_allThere_93; rw [g_Q_isPart_eq, g_Reader_allThere_118_eq, incI_eq]
def g_Reader_allThere_92 (rec66 : Nat → Int32 → Int32 → mH → Option (Int32 × mH)) (b0 : Nat) (b1 : Int32) (b2 : Int32) (h : mH) : Option (Int32 × mH) :=
  g_Reader_allThere_93 rec66 b0 b1 b2 (0 : Int32) h
theorem g_Reader_allThere_92_eq : @g_Reader_allThere_92 = @f_Reader_allThere_92 := by
  unfold g_Reader_allThere_92 f_Reader_allThere_92; rw [g_Reader_allThere_93_eq]
def g_Reader_allThere_66b (rec66 : Nat → Int32 → Int32 → mH → Option (Int32 × mH)) (b0 : Nat) (b1 : Int32) (b2 : Int32) (h : mH) : Option (Int32 × mH) :=
  if (3 : Int32) ≤ b2 then
    some ((1 : Int32), h)
  else
    bd1 (kC h b0 4) fun _ =>
    bd2 (g_Realm_hasOne b0 b2 h) fun x31 h29 =>
    if x31 = 0 then
      bd1 (gR h29 b0 4 16) fun x32 =>
      bd1 (aI h29 0 x32 b2) fun x34 =>
      if x34 = 0 then
        g_Reader_allThere_92 rec66 b0 b1 b2 h29
      else
        g_Reader_allThere_93 rec66 b0 b1 b2 (1 : Int32) h29
    else
      g_Reader_allThere_92 rec66 b0 b1 b2 h29
theorem g_Reader_allThere_66b_eq : @g_Reader_allThere_66b = @f_Reader_allThere_66b := by
  unfold g_Reader_allThere_66b f_Reader_allThere_66b; rw [g_Realm_hasOne_eq, g_Reader_allThere_92_eq, g_Reader_allThere_93_eq]
def g_Reader_allThere_66  : Nat → Nat → Int32 → Int32 → mH → Option (Int32 × mH)
  | 0 => fun _ _ _ _ => none
  | n + 1 => g_Reader_allThere_66b  (g_Reader_allThere_66  n)
theorem g_Reader_allThere_66_eq : @g_Reader_allThere_66 = @f_Reader_allThere_66 := by
  funext  n
  induction n with
  | zero => rfl
  | succ n ih => show g_Reader_allThere_66b  (g_Reader_allThere_66  n) = f_Reader_allThere_66b  (f_Reader_allThere_66  n); rw [ih, g_Reader_allThere_66b_eq]
def g_Reader_allThere_58 (rec24 : Nat → Int32 → Int32 → mH → Option (Int32 × mH)) (b0 : Nat) (b1 : Int32) (b2 : Int32) (h : mH) : Option (Int32 × mH) :=
  incI b2 fun bb => rec24 b0 b1 bb h
theorem g_Reader_allThere_58_eq : @g_Reader_allThere_58 = @f_Reader_allThere_58 := by
  unfold g_Reader_allThere_58 f_Reader_allThere_58; rw [incI_eq]
def g_Realm_hasLaw_16   (h : mH) : Option (Int32 × mH) :=
  some ((0 : Int32), h)
theorem g_Realm_hasLaw_16_eq : @g_Realm_hasLaw_16 = @f_Realm_hasLaw_16 := by
  rfl
def g_Realm_hasLaw_0  (a0 : Nat) (a1 : Int32) (h : mH) : Option (Int32 × mH) :=
  if a1 < 0 then
    g_Realm_hasLaw_16  h
  else
    bd1 (gI h a0 4 0) fun x1 =>
    if x1 ≤ a1 then
      g_Realm_hasLaw_16  h
    else
      some ((1 : Int32), h)
theorem g_Realm_hasLaw_0_eq : @g_Realm_hasLaw_0 = @f_Realm_hasLaw_0 := by
  unfold g_Realm_hasLaw_0 f_Realm_hasLaw_0; rw [g_Realm_hasLaw_16_eq]
def g_Realm_hasLaw (a0 : Nat) (a1 : Int32) (h : mH) : Option (Int32 × mH) := g_Realm_hasLaw_0 a0 a1 h
theorem g_Realm_hasLaw_eq : @g_Realm_hasLaw = @f_Realm_hasLaw := by
  unfold g_Realm_hasLaw f_Realm_hasLaw; rw [g_Realm_hasLaw_0_eq]
def g_Reader_allThere_24b (rec24 : Nat → Int32 → Int32 → mH → Option (Int32 × mH)) (b0 : Nat) (b1 : Int32) (b2 : Int32) (h : mH) : Option (Int32 × mH) :=
  bd1 (gI h b0 4 0) fun x9 =>
  if x9 ≤ b2 then
    g_Reader_allThere_66  FU b0 b1 (0 : Int32) h
  else
    bd1 (gR h b0 4 10) fun x11 =>
    bd1 (aI h 0 x11 b2) fun x13 =>
    if x13 = ((-4) : Int32) then
      g_Reader_allThere_58 rec24 b0 b1 b2 h
    else
      bd1 (gR h b0 4 10) fun x15 =>
      bd1 (aI h 0 x15 b2) fun x17 =>
      bd1 (kC h b0 4) fun _ =>
      bd2 (g_Realm_hasLaw b0 x17 h) fun x23 h21 =>
      if x23 = 0 then
        some ((0 : Int32), h21)
      else
        g_Reader_allThere_58 rec24 b0 b1 b2 h21
theorem g_Reader_allThere_24b_eq : @g_Reader_allThere_24b = @f_Reader_allThere_24b := by
  unfold g_Reader_allThere_24b f_Reader_allThere_24b; rw [g_Reader_allThere_66_eq, g_Reader_allThere_58_eq, g_Realm_hasLaw_eq]
def g_Reader_allThere_24  : Nat → Nat → Int32 → Int32 → mH → Option (Int32 × mH)
  | 0 => fun _ _ _ _ => none
  | n + 1 => g_Reader_allThere_24b  (g_Reader_allThere_24  n)
theorem g_Reader_allThere_24_eq : @g_Reader_allThere_24 = @f_Reader_allThere_24 := by
  funext  n
  induction n with
  | zero => rfl
  | succ n ih => show g_Reader_allThere_24b  (g_Reader_allThere_24  n) = f_Reader_allThere_24b  (f_Reader_allThere_24  n); rw [ih, g_Reader_allThere_24b_eq]
def g_Reader_allThere_0  (a0 : Nat) (h : mH) : Option (Int32 × mH) :=
  bd1 (gI h a0 4 0) fun x1 =>
  bd1 (gI h a0 4 5) fun x3 =>
  bd2 (g_Q_isPart x3 (((1 : Int32) <<< (x1 &&& 31)) - (1 : Int32)) h) fun x7 h5 =>
  if x7 = 0 then
    some ((0 : Int32), h5)
  else
    g_Reader_allThere_24  FU a0 (((1 : Int32) <<< (x1 &&& 31)) - (1 : Int32)) (0 : Int32) h5
theorem g_Reader_allThere_0_eq : @g_Reader_allThere_0 = @f_Reader_allThere_0 := by
  unfold g_Reader_allThere_0 f_Reader_allThere_0; rw [g_Q_isPart_eq, g_Reader_allThere_24_eq]
def g_Reader_allThere (a0 : Nat) (h : mH) : Option (Int32 × mH) := g_Reader_allThere_0 a0 h
theorem g_Reader_allThere_eq : @g_Reader_allThere = @f_Reader_allThere := by
  unfold g_Reader_allThere f_Reader_allThere; rw [g_Reader_allThere_0_eq]
def g_Reader_readInto_110   (h : mH) : Option (Int32 × mH) :=
  some ((1 : Int32), h)
theorem g_Reader_readInto_110_eq : @g_Reader_readInto_110 = @f_Reader_readInto_110 := by
  rfl
def g_Reader_readInto_86  (b0 : Nat) (b1 : Nat) (b2 : Int32) (h : mH) : Option (Int32 × mH) :=
  if b2 = 0 then
    g_Reader_readInto_114  h
  else
    bd2 (g_Reader_allThere b1 h) fun x41 h39 =>
    if x41 = 0 then
      bd1 (gI h39 b0 3 1) fun x42 =>
      bd1 (kC h39 b0 3) fun _ =>
      bd2 (g_Reader_fail b0 (6 : Int32) x42 h39) fun x48 h46 =>
      if x48 = 0 then
        g_Reader_readInto_114  h46
      else
        g_Reader_readInto_110  h46
    else
      g_Reader_readInto_110  h39
theorem g_Reader_readInto_86_eq : @g_Reader_readInto_86 = @f_Reader_readInto_86 := by
  unfold g_Reader_readInto_86 f_Reader_readInto_86; rw [g_Reader_readInto_114_eq, g_Reader_allThere_eq, g_Reader_fail_eq, g_Reader_readInto_110_eq]
def g_Reader_isWord_28b (rec28 : Nat → Nat → Int32 → mH → Option (Int32 × mH)) (b0 : Nat) (b1 : Nat) (b2 : Int32) (h : mH) : Option (Int32 × mH) :=
  bd2 (f_String_length b1 h) fun x14 h12 =>
  if x14 ≤ b2 then
    some ((1 : Int32), h12)
  else
    bd1 (gR h12 b0 3 0) fun x15 =>
    bd1 (gI h12 b0 3 7) fun x17 =>
    bd1 (aI h12 1 x15 (x17 + b2)) fun x19 =>
    bd2 (f_String_charAt b1 b2 h12) fun x23 h21 =>
    if x19 = x23 then
      incI b2 fun bb => rec28 b0 b1 bb h21
    else
      some ((0 : Int32), h21)
theorem g_Reader_isWord_28b_eq : @g_Reader_isWord_28b = @f_Reader_isWord_28b := by
  unfold g_Reader_isWord_28b f_Reader_isWord_28b; rw [incI_eq]
def g_Reader_isWord_28  : Nat → Nat → Nat → Int32 → mH → Option (Int32 × mH)
  | 0 => fun _ _ _ _ => none
  | n + 1 => g_Reader_isWord_28b  (g_Reader_isWord_28  n)
theorem g_Reader_isWord_28_eq : @g_Reader_isWord_28 = @f_Reader_isWord_28 := by
  funext  n
  induction n with
  | zero => rfl
  | succ n ih => show g_Reader_isWord_28b  (g_Reader_isWord_28  n) = f_Reader_isWord_28b  (f_Reader_isWord_28  n); rw [ih, g_Reader_isWord_28b_eq]
def g_Reader_isWord_24   (h : mH) : Option (Int32 × mH) :=
  some ((0 : Int32), h)
theorem g_Reader_isWord_24_eq : @g_Reader_isWord_24 = @f_Reader_isWord_24 := by
  rfl
def g_Reader_isWord_0  (a0 : Nat) (a1 : Nat) (h : mH) : Option (Int32 × mH) :=
  bd1 (gI h a0 3 6) fun x1 =>
  if x1 = (1 : Int32) then
    bd1 (gI h a0 3 5) fun x3 =>
    bd1 (gI h a0 3 7) fun x5 =>
    bd2 (f_String_length a1 h) fun x9 h7 =>
    if (x3 - x5) = x9 then
      g_Reader_isWord_28  FU a0 a1 (0 : Int32) h7
    else
      g_Reader_isWord_24  h7
  else
    g_Reader_isWord_24  h
theorem g_Reader_isWord_0_eq : @g_Reader_isWord_0 = @f_Reader_isWord_0 := by
  unfold g_Reader_isWord_0 f_Reader_isWord_0; rw [g_Reader_isWord_28_eq, g_Reader_isWord_24_eq]
def g_Reader_isWord (a0 : Nat) (a1 : Nat) (h : mH) : Option (Int32 × mH) := g_Reader_isWord_0 a0 a1 h
theorem g_Reader_isWord_eq : @g_Reader_isWord = @f_Reader_isWord := by
  unfold g_Reader_isWord f_Reader_isWord; rw [g_Reader_isWord_0_eq]
def g_Q_isWithin_14   (h : mH) : Option (Int32 × mH) :=
  some ((0 : Int32), h)
theorem g_Q_isWithin_14_eq : @g_Q_isWithin_14 = @f_Q_isWithin_14 := by
  rfl
def g_Q_isWithin_0  (a0 : Int32) (a1 : Int32) (a2 : Int32) (h : mH) : Option (Int32 × mH) :=
  if a0 < a1 then
    g_Q_isWithin_14  h
  else
    if a2 < a0 then
      g_Q_isWithin_14  h
    else
      some ((1 : Int32), h)
theorem g_Q_isWithin_0_eq : @g_Q_isWithin_0 = @f_Q_isWithin_0 := by
  unfold g_Q_isWithin_0 f_Q_isWithin_0; rw [g_Q_isWithin_14_eq]
def g_Q_isWithin (a0 : Int32) (a1 : Int32) (a2 : Int32) (h : mH) : Option (Int32 × mH) := g_Q_isWithin_0 a0 a1 a2 h
theorem g_Q_isWithin_eq : @g_Q_isWithin = @f_Q_isWithin := by
  unfold g_Q_isWithin f_Q_isWithin; rw [g_Q_isWithin_0_eq]
def g_Reader_isBounded_24   (h : mH) : Option (Int32 × mH) :=
  some ((1 : Int32), h)
theorem g_Reader_isBounded_24_eq : @g_Reader_isBounded_24 = @f_Reader_isBounded_24 := by
  rfl
def g_Reader_isBounded_0  (a0 : Nat) (a1 : Int32) (a2 : Int32) (h : mH) : Option (Int32 × mH) :=
  bd1 (gI h a0 3 8) fun x1 =>
  bd2 (g_Q_isWithin x1 a1 a2 h) fun x5 h3 =>
  if x5 = 0 then
    bd1 (gI h3 a0 3 7) fun x6 =>
    bd1 (kC h3 a0 3) fun _ =>
    bd2 (g_Reader_fail a0 (3 : Int32) x6 h3) fun x12 h10 =>
    if x12 = 0 then
      some ((0 : Int32), h10)
    else
      g_Reader_isBounded_24  h10
  else
    g_Reader_isBounded_24  h3
theorem g_Reader_isBounded_0_eq : @g_Reader_isBounded_0 = @f_Reader_isBounded_0 := by
  unfold g_Reader_isBounded_0 f_Reader_isBounded_0; rw [g_Q_isWithin_eq, g_Reader_fail_eq, g_Reader_isBounded_24_eq]
def g_Reader_isBounded (a0 : Nat) (a1 : Int32) (a2 : Int32) (h : mH) : Option (Int32 × mH) := g_Reader_isBounded_0 a0 a1 a2 h
theorem g_Reader_isBounded_eq : @g_Reader_isBounded = @f_Reader_isBounded := by
  unfold g_Reader_isBounded f_Reader_isBounded; rw [g_Reader_isBounded_0_eq]
def g_Reader_takeNumber_0  (a0 : Nat) (a1 : Int32) (a2 : Int32) (h : mH) : Option (Int32 × mH) :=
  bd1 (kC h a0 3) fun _ =>
  bd2 (g_Reader_takeToken a0 h) fun x5 h3 =>
  if x5 = 0 then
    some ((0 : Int32), h3)
  else
    bd1 (gI h3 a0 3 6) fun x6 =>
    if x6 = (2 : Int32) then
      bd1 (kC h3 a0 3) fun _ =>
      bd2 (g_Reader_isBounded a0 a1 a2 h3) fun x20 h18 =>
      if x20 = 0 ∨ x20 = 1 then some (x20, h18) else none
    else
      bd1 (gI h3 a0 3 7) fun x8 =>
      bd1 (kC h3 a0 3) fun _ =>
      bd2 (g_Reader_fail a0 (2 : Int32) x8 h3) fun x14 h12 =>
      if x14 = 0 ∨ x14 = 1 then some (x14, h12) else none
theorem g_Reader_takeNumber_0_eq : @g_Reader_takeNumber_0 = @f_Reader_takeNumber_0 := by
  unfold g_Reader_takeNumber_0 f_Reader_takeNumber_0; rw [g_Reader_takeToken_eq, g_Reader_isBounded_eq, g_Reader_fail_eq]
def g_Reader_takeNumber (a0 : Nat) (a1 : Int32) (a2 : Int32) (h : mH) : Option (Int32 × mH) := g_Reader_takeNumber_0 a0 a1 a2 h
theorem g_Reader_takeNumber_eq : @g_Reader_takeNumber = @f_Reader_takeNumber := by
  unfold g_Reader_takeNumber f_Reader_takeNumber; rw [g_Reader_takeNumber_0_eq]
def g_Q_hasBit_0  (a0 : Int32) (a1 : Int32) (h : mH) : Option (Int32 × mH) :=
  if ((a0 >>> (a1 &&& 31)) &&& (1 : Int32)) = 0 then
    some ((0 : Int32), h)
  else
    some ((1 : Int32), h)
theorem g_Q_hasBit_0_eq : @g_Q_hasBit_0 = @f_Q_hasBit_0 := by
  rfl
def g_Q_hasBit (a0 : Int32) (a1 : Int32) (h : mH) : Option (Int32 × mH) := g_Q_hasBit_0 a0 a1 h
theorem g_Q_hasBit_eq : @g_Q_hasBit = @f_Q_hasBit := by
  unfold g_Q_hasBit f_Q_hasBit; rw [g_Q_hasBit_0_eq]
def g_Reader_takeWatch_68   (h : mH) : Option (Int32 × mH) :=
  some ((0 : Int32), h)
theorem g_Reader_takeWatch_68_eq : @g_Reader_takeWatch_68 = @f_Reader_takeWatch_68 := by
  rfl
def g_Reader_isStop_20   (h : mH) : Option (Int32 × mH) :=
  some ((1 : Int32), h)
theorem g_Reader_isStop_20_eq : @g_Reader_isStop_20 = @f_Reader_isStop_20 := by
  rfl
def g_Reader_isStop_0  (a0 : Nat) (h : mH) : Option (Int32 × mH) :=
  bd1 (gI h a0 3 6) fun x1 =>
  if x1 = (3 : Int32) then
    g_Reader_isStop_20  h
  else
    bd1 (gI h a0 3 7) fun x3 =>
    bd1 (kC h a0 3) fun _ =>
    bd2 (g_Reader_fail a0 (2 : Int32) x3 h) fun x9 h7 =>
    if x9 = 0 then
      some ((0 : Int32), h7)
    else
      g_Reader_isStop_20  h7
theorem g_Reader_isStop_0_eq : @g_Reader_isStop_0 = @f_Reader_isStop_0 := by
  unfold g_Reader_isStop_0 f_Reader_isStop_0; rw [g_Reader_isStop_20_eq, g_Reader_fail_eq]
def g_Reader_isStop (a0 : Nat) (h : mH) : Option (Int32 × mH) := g_Reader_isStop_0 a0 h
theorem g_Reader_isStop_eq : @g_Reader_isStop = @f_Reader_isStop := by
  unfold g_Reader_isStop f_Reader_isStop; rw [g_Reader_isStop_0_eq]
def g_Reader_takeWatch_0  (a0 : Nat) (a1 : Nat) (h : mH) : Option (Int32 × mH) :=
  bd1 (kC h a0 3) fun _ =>
  bd2 (g_Reader_takeNumber a0 (0 : Int32) (4 : Int32) h) fun x5 h3 =>
  if x5 = 0 then
    some ((0 : Int32), h3)
  else
    bd1 (gI h3 a1 4 5) fun x6 =>
    bd1 (gI h3 a0 3 8) fun x8 =>
    bd2 (g_Q_hasBit x6 x8 h3) fun x12 h10 =>
    if x12 = 0 then
      bd1 (gI h10 a1 4 5) fun x13 =>
      bd1 (gI h10 a0 3 8) fun x15 =>
      bd1 (pV2 h10 a1 4 5 (.int (x13 ||| ((1 : Int32) <<< (x15 &&& 31))))) fun h17 =>
      bd1 (kC h17 a0 3) fun _ =>
      bd2 (g_Reader_takeToken a0 h17) fun x23 h21 =>
      if x23 = 0 then
        g_Reader_takeWatch_68  h21
      else
        bd1 (kC h21 a0 3) fun _ =>
        bd2 (g_Reader_isStop a0 h21) fun x28 h26 =>
        if x28 = 0 then
          g_Reader_takeWatch_68  h26
        else
          some ((1 : Int32), h26)
    else
      bd1 (gI h10 a0 3 7) fun x31 =>
      bd1 (kC h10 a0 3) fun _ =>
      bd2 (g_Reader_fail a0 (4 : Int32) x31 h10) fun x37 h35 =>
      if x37 = 0 ∨ x37 = 1 then some (x37, h35) else none
theorem g_Reader_takeWatch_0_eq : @g_Reader_takeWatch_0 = @f_Reader_takeWatch_0 := by
  unfold g_Reader_takeWatch_0 f_Reader_takeWatch_0; rw [g_Reader_takeNumber_eq, g_Q_hasBit_eq, g_Reader_takeToken_eq, g_Reader_takeWatch_68_eq, g_Reader_isStop_eq, g_Reader_fail_eq, pV2_eq]
def g_Reader_takeWatch (a0 : Nat) (a1 : Nat) (h : mH) : Option (Int32 × mH) := g_Reader_takeWatch_0 a0 a1 h
theorem g_Reader_takeWatch_eq : @g_Reader_takeWatch = @f_Reader_takeWatch := by
  unfold g_Reader_takeWatch f_Reader_takeWatch; rw [g_Reader_takeWatch_0_eq]
def g_Reader_takeWant_55   (h : mH) : Option (Int32 × mH) :=
  some ((0 : Int32), h)
theorem g_Reader_takeWant_55_eq : @g_Reader_takeWant_55 = @f_Reader_takeWant_55 := by
  rfl
def g_Reader_addLaw_0  (a0 : Nat) (a1 : Nat) (a2 : Int32) (h : mH) : Option (Int32 × mH) :=
  bd1 (aI h 0 a1 a2) fun x1 =>
  bd1 (gI h a0 3 8) fun x3 =>
  bd2 (g_Q_hasBit x1 x3 h) fun x7 h5 =>
  if x7 = 0 then
    bd1 (aI h5 0 a1 a2) fun x8 =>
    bd1 (gI h5 a0 3 8) fun x10 =>
    bd1 (sI2 h5 0 a1 a2 (x8 ||| ((1 : Int32) <<< (x10 &&& 31)))) fun h12 =>
    some ((1 : Int32), h12)
  else
    bd1 (gI h5 a0 3 7) fun x14 =>
    bd1 (kC h5 a0 3) fun _ =>
    bd2 (g_Reader_fail a0 (4 : Int32) x14 h5) fun x20 h18 =>
    if x20 = 0 ∨ x20 = 1 then some (x20, h18) else none
theorem g_Reader_addLaw_0_eq : @g_Reader_addLaw_0 = @f_Reader_addLaw_0 := by
  unfold g_Reader_addLaw_0 f_Reader_addLaw_0; rw [g_Q_hasBit_eq, g_Reader_fail_eq, sI2_eq]
def g_Reader_addLaw (a0 : Nat) (a1 : Nat) (a2 : Int32) (h : mH) : Option (Int32 × mH) := g_Reader_addLaw_0 a0 a1 a2 h
theorem g_Reader_addLaw_eq : @g_Reader_addLaw = @f_Reader_addLaw := by
  unfold g_Reader_addLaw f_Reader_addLaw; rw [g_Reader_addLaw_0_eq]
def g_Reader_takeWant_0  (a0 : Nat) (a1 : Nat) (h : mH) : Option (Int32 × mH) :=
  bd1 (kC h a0 3) fun _ =>
  bd2 (g_Reader_takeNumber a0 (0 : Int32) (2 : Int32) h) fun x5 h3 =>
  if x5 = 0 then
    some ((0 : Int32), h3)
  else
    bd1 (gI h3 a0 3 8) fun x6 =>
    bd1 (kC h3 a0 3) fun _ =>
    bd2 (g_Reader_takeNumber a0 (0 : Int32) (4 : Int32) h3) fun x12 h10 =>
    if x12 = 0 then
      g_Reader_takeWant_55  h10
    else
      bd1 (gR h10 a1 4 16) fun x13 =>
      bd1 (kC h10 a0 3) fun _ =>
      bd2 (g_Reader_addLaw a0 x13 x6 h10) fun x19 h17 =>
      if x19 = 0 then
        g_Reader_takeWant_55  h17
      else
        bd1 (kC h17 a0 3) fun _ =>
        bd2 (g_Reader_takeToken a0 h17) fun x24 h22 =>
        if x24 = 0 then
          g_Reader_takeWant_55  h22
        else
          bd1 (kC h22 a0 3) fun _ =>
          bd2 (g_Reader_isStop a0 h22) fun x29 h27 =>
          if x29 = 0 then
            g_Reader_takeWant_55  h27
          else
            some ((1 : Int32), h27)
theorem g_Reader_takeWant_0_eq : @g_Reader_takeWant_0 = @f_Reader_takeWant_0 := by
  unfold g_Reader_takeWant_0 f_Reader_takeWant_0; rw [g_Reader_takeNumber_eq, g_Reader_takeWant_55_eq, g_Reader_addLaw_eq, g_Reader_takeToken_eq, g_Reader_isStop_eq]
def g_Reader_takeWant (a0 : Nat) (a1 : Nat) (h : mH) : Option (Int32 × mH) := g_Reader_takeWant_0 a0 a1 h
theorem g_Reader_takeWant_eq : @g_Reader_takeWant = @f_Reader_takeWant := by
  unfold g_Reader_takeWant f_Reader_takeWant; rw [g_Reader_takeWant_0_eq]
def g_Reader_takeOne_200   (h : mH) : Option (Int32 × mH) :=
  some ((0 : Int32), h)
theorem g_Reader_takeOne_200_eq : @g_Reader_takeOne_200 = @f_Reader_takeOne_200 := by
  rfl
def g_Reader_takeOne_185  (b0 : Nat) (b3 : Int32) (h : mH) : Option (Int32 × mH) :=
  if b3 = 0 then
    g_Reader_takeOne_200  h
  else
    bd1 (kC h b0 3) fun _ =>
    bd2 (g_Reader_isStop b0 h) fun x105 h103 =>
    if x105 = 0 then
      g_Reader_takeOne_200  h103
    else
      some ((1 : Int32), h103)
theorem g_Reader_takeOne_185_eq : @g_Reader_takeOne_185 = @f_Reader_takeOne_185 := by
  unfold g_Reader_takeOne_185 f_Reader_takeOne_185; rw [g_Reader_takeOne_200_eq, g_Reader_isStop_eq]
def g_Reader_takeOne_178 (rec127 : Nat → Nat → Int32 → Int32 → Int32 → mH → Option (Int32 × mH)) (b0 : Nat) (b1 : Nat) (b2 : Int32) (b4 : Int32) (s0 : Int32) (h : mH) : Option (Int32 × mH) :=
  incI b4 fun bb => rec127 b0 b1 b2 s0 bb h
theorem g_Reader_takeOne_178_eq : @g_Reader_takeOne_178 = @f_Reader_takeOne_178 := by
  unfold g_Reader_takeOne_178 f_Reader_takeOne_178; rw [incI_eq]
def g_Reader_takeOne_177 (rec127 : Nat → Nat → Int32 → Int32 → Int32 → mH → Option (Int32 × mH)) (b0 : Nat) (b1 : Nat) (b2 : Int32) (b4 : Int32) (h : mH) : Option (Int32 × mH) :=
  g_Reader_takeOne_178 rec127 b0 b1 b2 b4 (0 : Int32) h
theorem g_Reader_takeOne_177_eq : @g_Reader_takeOne_177 = @f_Reader_takeOne_177 := by
  unfold g_Reader_takeOne_177 f_Reader_takeOne_177; rw [g_Reader_takeOne_178_eq]
def g_Reader_takeOne_127b (rec127 : Nat → Nat → Int32 → Int32 → Int32 → mH → Option (Int32 × mH)) (b0 : Nat) (b1 : Nat) (b2 : Int32) (b3 : Int32) (b4 : Int32) (h : mH) : Option (Int32 × mH) :=
  if (5 : Int32) < b4 then
    g_Reader_takeOne_185  b0 b3 h
  else
    if b3 = 0 then
      g_Reader_takeOne_185  b0 b3 h
    else
      bd1 (gI h b0 3 6) fun x76 =>
      if x76 = (2 : Int32) then
        bd1 (kC h b0 3) fun _ =>
        bd2 (g_Reader_isBounded b0 (0 : Int32) (4 : Int32) h) fun x82 h80 =>
        if x82 = 0 then
          g_Reader_takeOne_177 rec127 b0 b1 b2 b4 h80
        else
          bd1 (gR h80 b1 4 15) fun x83 =>
          bd1 (kC h80 b0 3) fun _ =>
          bd2 (g_Reader_addLaw b0 x83 b2 h80) fun x89 h87 =>
          if x89 = 0 then
            g_Reader_takeOne_177 rec127 b0 b1 b2 b4 h87
          else
            bd1 (kC h87 b0 3) fun _ =>
            bd2 (g_Reader_takeToken b0 h87) fun x94 h92 =>
            if x94 = 0 then
              g_Reader_takeOne_177 rec127 b0 b1 b2 b4 h92
            else
              g_Reader_takeOne_178 rec127 b0 b1 b2 b4 (1 : Int32) h92
      else
        g_Reader_takeOne_185  b0 b3 h
theorem g_Reader_takeOne_127b_eq : @g_Reader_takeOne_127b = @f_Reader_takeOne_127b := by
  unfold g_Reader_takeOne_127b f_Reader_takeOne_127b; rw [g_Reader_takeOne_185_eq, g_Reader_isBounded_eq, g_Reader_takeOne_177_eq, g_Reader_addLaw_eq, g_Reader_takeToken_eq, g_Reader_takeOne_178_eq]
def g_Reader_takeOne_127  : Nat → Nat → Nat → Int32 → Int32 → Int32 → mH → Option (Int32 × mH)
  | 0 => fun _ _ _ _ _ _ => none
  | n + 1 => g_Reader_takeOne_127b  (g_Reader_takeOne_127  n)
theorem g_Reader_takeOne_127_eq : @g_Reader_takeOne_127 = @f_Reader_takeOne_127 := by
  funext  n
  induction n with
  | zero => rfl
  | succ n ih => show g_Reader_takeOne_127b  (g_Reader_takeOne_127  n) = f_Reader_takeOne_127b  (f_Reader_takeOne_127  n); rw [ih, g_Reader_takeOne_127b_eq]
def g_Reader_takeOne_123  (b0 : Nat) (b1 : Nat) (b2 : Int32) (s0 : Int32) (h : mH) : Option (Int32 × mH) :=
  g_Reader_takeOne_127  FU b0 b1 b2 s0 (0 : Int32) h
theorem g_Reader_takeOne_123_eq : @g_Reader_takeOne_123 = @f_Reader_takeOne_123 := by
  unfold g_Reader_takeOne_123 f_Reader_takeOne_123; rw [g_Reader_takeOne_127_eq]
def g_Reader_takeOne_122  (b0 : Nat) (b1 : Nat) (b2 : Int32) (h : mH) : Option (Int32 × mH) :=
  g_Reader_takeOne_123  b0 b1 b2 (0 : Int32) h
theorem g_Reader_takeOne_122_eq : @g_Reader_takeOne_122 = @f_Reader_takeOne_122 := by
  unfold g_Reader_takeOne_122 f_Reader_takeOne_122; rw [g_Reader_takeOne_123_eq]
def g_Reader_putInto_0  (a0 : Nat) (a1 : Nat) (a2 : Int32) (h : mH) : Option (Int32 × mH) :=
  bd1 (gI h a0 3 8) fun x1 =>
  bd1 (sI2 h 0 a1 a2 x1) fun h3 =>
  some ((1 : Int32), h3)
theorem g_Reader_putInto_0_eq : @g_Reader_putInto_0 = @f_Reader_putInto_0 := by
  unfold g_Reader_putInto_0 f_Reader_putInto_0; rw [sI2_eq]
def g_Reader_putInto (a0 : Nat) (a1 : Nat) (a2 : Int32) (h : mH) : Option (Int32 × mH) := g_Reader_putInto_0 a0 a1 a2 h
theorem g_Reader_putInto_eq : @g_Reader_putInto = @f_Reader_putInto := by
  unfold g_Reader_putInto f_Reader_putInto; rw [g_Reader_putInto_0_eq]
def g_Reader_takeOne_0  (a0 : Nat) (a1 : Nat) (a2 : Int32) (h : mH) : Option (Int32 × mH) :=
  if a2 < (3 : Int32) then
    bd1 (gI h a1 4 1) fun x1 =>
    bd1 (pV2 h a1 4 1 (.int (x1 + (1 : Int32)))) fun h3 =>
    bd1 (kC h3 a0 3) fun _ =>
    bd2 (g_Reader_takeNumber a0 (0 : Int32) (5 : Int32) h3) fun x9 h7 =>
    if x9 = 0 then
      g_Reader_takeOne_122  a0 a1 a2 h7
    else
      bd1 (gR h7 a1 4 11) fun x10 =>
      bd1 (kC h7 a0 3) fun _ =>
      bd2 (g_Reader_putInto a0 x10 a2 h7) fun x16 h14 =>
      if x16 = 0 then
        g_Reader_takeOne_122  a0 a1 a2 h14
      else
        bd1 (kC h14 a0 3) fun _ =>
        bd2 (g_Reader_takeNumber a0 (0 : Int32) (3 : Int32) h14) fun x21 h19 =>
        if x21 = 0 then
          g_Reader_takeOne_122  a0 a1 a2 h19
        else
          bd1 (gR h19 a1 4 12) fun x22 =>
          bd1 (kC h19 a0 3) fun _ =>
          bd2 (g_Reader_putInto a0 x22 a2 h19) fun x28 h26 =>
          if x28 = 0 then
            g_Reader_takeOne_122  a0 a1 a2 h26
          else
            bd1 (kC h26 a0 3) fun _ =>
            bd2 (g_Reader_takeNumber a0 (0 : Int32) (10 : Int32) h26) fun x33 h31 =>
            if x33 = 0 then
              g_Reader_takeOne_122  a0 a1 a2 h31
            else
              bd1 (gR h31 a1 4 13) fun x34 =>
              bd1 (kC h31 a0 3) fun _ =>
              bd2 (g_Reader_putInto a0 x34 a2 h31) fun x40 h38 =>
              if x40 = 0 then
                g_Reader_takeOne_122  a0 a1 a2 h38
              else
                bd1 (kC h38 a0 3) fun _ =>
                bd2 (g_Reader_takeNumber a0 (0 : Int32) (99 : Int32) h38) fun x45 h43 =>
                if x45 = 0 then
                  g_Reader_takeOne_122  a0 a1 a2 h43
                else
                  bd1 (gR h43 a1 4 14) fun x46 =>
                  bd1 (kC h43 a0 3) fun _ =>
                  bd2 (g_Reader_putInto a0 x46 a2 h43) fun x52 h50 =>
                  if x52 = 0 then
                    g_Reader_takeOne_122  a0 a1 a2 h50
                  else
                    bd1 (kC h50 a0 3) fun _ =>
                    bd2 (g_Reader_takeToken a0 h50) fun x57 h55 =>
                    if x57 = 0 then
                      g_Reader_takeOne_122  a0 a1 a2 h55
                    else
                      g_Reader_takeOne_123  a0 a1 a2 (1 : Int32) h55
  else
    bd1 (gI h a0 3 7) fun x67 =>
    bd1 (kC h a0 3) fun _ =>
    bd2 (g_Reader_fail a0 (5 : Int32) x67 h) fun x73 h71 =>
    if x73 = 0 ∨ x73 = 1 then some (x73, h71) else none
theorem g_Reader_takeOne_0_eq : @g_Reader_takeOne_0 = @f_Reader_takeOne_0 := by
  unfold g_Reader_takeOne_0 f_Reader_takeOne_0; rw [g_Reader_takeNumber_eq, g_Reader_takeOne_122_eq, g_Reader_putInto_eq, g_Reader_takeToken_eq, g_Reader_takeOne_123_eq, g_Reader_fail_eq, pV2_eq]
def g_Reader_takeOne (a0 : Nat) (a1 : Nat) (a2 : Int32) (h : mH) : Option (Int32 × mH) := g_Reader_takeOne_0 a0 a1 a2 h
theorem g_Reader_takeOne_eq : @g_Reader_takeOne = @f_Reader_takeOne := by
  unfold g_Reader_takeOne f_Reader_takeOne; rw [g_Reader_takeOne_0_eq]
def g_Reader_takeLaw_174   (h : mH) : Option (Int32 × mH) :=
  some ((0 : Int32), h)
theorem g_Reader_takeLaw_174_eq : @g_Reader_takeLaw_174 = @f_Reader_takeLaw_174 := by
  rfl
def g_Reader_takeCarried_41   (h : mH) : Option (Int32 × mH) :=
  some ((1 : Int32), h)
theorem g_Reader_takeCarried_41_eq : @g_Reader_takeCarried_41 = @f_Reader_takeCarried_41 := by
  rfl
def g_Reader_takeCarried_0  (a0 : Nat) (a1 : Nat) (a2 : Int32) (h : mH) : Option (Int32 × mH) :=
  bd1 (kC h a0 3) fun _ =>
  bd2 (g_Reader_isBounded a0 (0 : Int32) (4 : Int32) h) fun x5 h3 =>
  if x5 = 0 then
    some ((0 : Int32), h3)
  else
    bd1 (gR h3 a1 4 10) fun x6 =>
    bd1 (gI h3 a0 3 8) fun x8 =>
    bd1 (sI2 h3 0 x6 a2 x8) fun h10 =>
    bd1 (gI h10 a0 3 8) fun x12 =>
    if x12 = a2 then
      bd1 (gI h10 a0 3 7) fun x14 =>
      bd1 (kC h10 a0 3) fun _ =>
      bd2 (g_Reader_fail a0 (4 : Int32) x14 h10) fun x20 h18 =>
      if x20 = 0 then
        some ((0 : Int32), h18)
      else
        g_Reader_takeCarried_41  h18
    else
      g_Reader_takeCarried_41  h10
theorem g_Reader_takeCarried_0_eq : @g_Reader_takeCarried_0 = @f_Reader_takeCarried_0 := by
  unfold g_Reader_takeCarried_0 f_Reader_takeCarried_0; rw [g_Reader_isBounded_eq, g_Reader_fail_eq, g_Reader_takeCarried_41_eq, sI2_eq]
def g_Reader_takeCarried (a0 : Nat) (a1 : Nat) (a2 : Int32) (h : mH) : Option (Int32 × mH) := g_Reader_takeCarried_0 a0 a1 a2 h
theorem g_Reader_takeCarried_eq : @g_Reader_takeCarried = @f_Reader_takeCarried := by
  unfold g_Reader_takeCarried f_Reader_takeCarried; rw [g_Reader_takeCarried_0_eq]
def g_Reader_takeLaw_163  (b0 : Nat) (h : mH) : Option (Int32 × mH) :=
  bd1 (kC h b0 3) fun _ =>
  bd2 (g_Reader_isStop b0 h) fun x103 h101 =>
  if x103 = 0 then
    g_Reader_takeLaw_174  h101
  else
    some ((1 : Int32), h101)
theorem g_Reader_takeLaw_163_eq : @g_Reader_takeLaw_163 = @f_Reader_takeLaw_163 := by
  unfold g_Reader_takeLaw_163 f_Reader_takeLaw_163; rw [g_Reader_isStop_eq, g_Reader_takeLaw_174_eq]
def g_Reader_takeLaw_0  (a0 : Nat) (a1 : Nat) (a2 : Int32) (h : mH) : Option (Int32 × mH) :=
  if a2 < (5 : Int32) then
    bd1 (gR h a1 4 10) fun x1 =>
    bd1 (sI2 h 0 x1 a2 ((-4) : Int32)) fun h3 =>
    bd1 (gI h3 a1 4 4) fun x5 =>
    bd1 (pV2 h3 a1 4 4 (.int (x5 ||| ((1 : Int32) <<< (a2 &&& 31))))) fun h7 =>
    bd1 (gI h7 a1 4 0) fun x9 =>
    bd1 (pV2 h7 a1 4 0 (.int (x9 + (1 : Int32)))) fun h11 =>
    bd1 (kC h11 a0 3) fun _ =>
    bd2 (g_Reader_takeNumber a0 (0 : Int32) (9 : Int32) h11) fun x17 h15 =>
    if x17 = 0 then
      g_Reader_takeLaw_174  h15
    else
      bd1 (gR h15 a1 4 6) fun x18 =>
      bd1 (kC h15 a0 3) fun _ =>
      bd2 (g_Reader_putInto a0 x18 a2 h15) fun x24 h22 =>
      if x24 = 0 then
        g_Reader_takeLaw_174  h22
      else
        bd1 (kC h22 a0 3) fun _ =>
        bd2 (g_Reader_takeNumber a0 (1 : Int32) (3 : Int32) h22) fun x29 h27 =>
        if x29 = 0 then
          g_Reader_takeLaw_174  h27
        else
          bd1 (gR h27 a1 4 7) fun x30 =>
          bd1 (kC h27 a0 3) fun _ =>
          bd2 (g_Reader_putInto a0 x30 a2 h27) fun x36 h34 =>
          if x36 = 0 then
            g_Reader_takeLaw_174  h34
          else
            bd1 (kC h34 a0 3) fun _ =>
            bd2 (g_Reader_takeNumber a0 (0 : Int32) (9 : Int32) h34) fun x41 h39 =>
            if x41 = 0 then
              g_Reader_takeLaw_174  h39
            else
              bd1 (gR h39 a1 4 8) fun x42 =>
              bd1 (kC h39 a0 3) fun _ =>
              bd2 (g_Reader_putInto a0 x42 a2 h39) fun x48 h46 =>
              if x48 = 0 then
                g_Reader_takeLaw_174  h46
              else
                bd1 (kC h46 a0 3) fun _ =>
                bd2 (g_Reader_takeNumber a0 (0 : Int32) (9 : Int32) h46) fun x53 h51 =>
                if x53 = 0 then
                  g_Reader_takeLaw_174  h51
                else
                  bd1 (gR h51 a1 4 9) fun x54 =>
                  bd1 (kC h51 a0 3) fun _ =>
                  bd2 (g_Reader_putInto a0 x54 a2 h51) fun x60 h58 =>
                  if x60 = 0 then
                    g_Reader_takeLaw_174  h58
                  else
                    bd1 (kC h58 a0 3) fun _ =>
                    bd2 (g_Reader_takeToken a0 h58) fun x65 h63 =>
                    if x65 = 0 then
                      g_Reader_takeLaw_174  h63
                    else
                      bd1 (gI h63 a0 3 6) fun x66 =>
                      if x66 = (2 : Int32) then
                        bd1 (kC h63 a0 3) fun _ =>
                        bd2 (g_Reader_takeCarried a0 a1 a2 h63) fun x72 h70 =>
                        if x72 = 0 then
                          g_Reader_takeLaw_174  h70
                        else
                          bd1 (kC h70 a0 3) fun _ =>
                          bd2 (g_Reader_takeToken a0 h70) fun x77 h75 =>
                          if x77 = 0 then
                            g_Reader_takeLaw_174  h75
                          else
                            g_Reader_takeLaw_163  a0 h75
                      else
                        g_Reader_takeLaw_163  a0 h63
  else
    bd1 (gI h a0 3 7) fun x90 =>
    bd1 (kC h a0 3) fun _ =>
    bd2 (g_Reader_fail a0 (5 : Int32) x90 h) fun x96 h94 =>
    if x96 = 0 ∨ x96 = 1 then some (x96, h94) else none
theorem g_Reader_takeLaw_0_eq : @g_Reader_takeLaw_0 = @f_Reader_takeLaw_0 := by
  unfold g_Reader_takeLaw_0 f_Reader_takeLaw_0; rw [g_Reader_takeNumber_eq, g_Reader_takeLaw_174_eq, g_Reader_putInto_eq, g_Reader_takeToken_eq, g_Reader_takeCarried_eq, g_Reader_takeLaw_163_eq, g_Reader_fail_eq, pV2_eq, sI2_eq]
def g_Reader_takeLaw (a0 : Nat) (a1 : Nat) (a2 : Int32) (h : mH) : Option (Int32 × mH) := g_Reader_takeLaw_0 a0 a1 a2 h
theorem g_Reader_takeLaw_eq : @g_Reader_takeLaw = @f_Reader_takeLaw := by
  unfold g_Reader_takeLaw f_Reader_takeLaw; rw [g_Reader_takeLaw_0_eq]
def g_Reader_takeLine_0  (a0 : Nat) (a1 : Nat) (h : mH) : Option (Int32 × mH) :=
  bd1 (kC h a0 3) fun _ =>
  bd2 (g_Reader_isWord a0 1000 h) fun x5 h3 =>
  if x5 = 0 then
    bd1 (kC h3 a0 3) fun _ =>
    bd2 (g_Reader_isWord a0 1001 h3) fun x10 h8 =>
    if x10 = 0 then
      bd1 (kC h8 a0 3) fun _ =>
      bd2 (g_Reader_isWord a0 1002 h8) fun x15 h13 =>
      if x15 = 0 then
        bd1 (kC h13 a0 3) fun _ =>
        bd2 (g_Reader_isWord a0 1003 h13) fun x20 h18 =>
        if x20 = 0 then
          bd1 (gI h18 a0 3 7) fun x21 =>
          bd1 (kC h18 a0 3) fun _ =>
          bd2 (g_Reader_fail a0 (2 : Int32) x21 h18) fun x27 h25 =>
          if x27 = 0 ∨ x27 = 1 then some (x27, h25) else none
        else
          bd1 (kC h18 a0 3) fun _ =>
          bd2 (g_Reader_takeWatch a0 a1 h18) fun x33 h31 =>
          if x33 = 0 ∨ x33 = 1 then some (x33, h31) else none
      else
        bd1 (kC h13 a0 3) fun _ =>
        bd2 (g_Reader_takeWant a0 a1 h13) fun x40 h38 =>
        if x40 = 0 ∨ x40 = 1 then some (x40, h38) else none
    else
      bd1 (gI h8 a1 4 1) fun x43 =>
      bd1 (kC h8 a0 3) fun _ =>
      bd2 (g_Reader_takeOne a0 a1 x43 h8) fun x49 h47 =>
      if x49 = 0 ∨ x49 = 1 then some (x49, h47) else none
  else
    bd1 (gI h3 a1 4 0) fun x52 =>
    bd1 (kC h3 a0 3) fun _ =>
    bd2 (g_Reader_takeLaw a0 a1 x52 h3) fun x58 h56 =>
    if x58 = 0 ∨ x58 = 1 then some (x58, h56) else none
theorem g_Reader_takeLine_0_eq : @g_Reader_takeLine_0 = @f_Reader_takeLine_0 := by
  unfold g_Reader_takeLine_0 f_Reader_takeLine_0; rw [g_Reader_isWord_eq, g_Reader_fail_eq, g_Reader_takeWatch_eq, g_Reader_takeWant_eq, g_Reader_takeOne_eq, g_Reader_takeLaw_eq]
def g_Reader_takeLine (a0 : Nat) (a1 : Nat) (h : mH) : Option (Int32 × mH) := g_Reader_takeLine_0 a0 a1 h
theorem g_Reader_takeLine_eq : @g_Reader_takeLine = @f_Reader_takeLine := by
  unfold g_Reader_takeLine f_Reader_takeLine; rw [g_Reader_takeLine_0_eq]
def g_Reader_readInto_69 (rec31 : Nat → Nat → Int32 → Int32 → mH → Option (Int32 × mH)) (b0 : Nat) (b1 : Nat) (b3 : Int32) (s0 : Int32) (h : mH) : Option (Int32 × mH) :=
  bd1 (gI h b0 3 4) fun x35 =>
  bd1 (pV2 h b0 3 4 (.int (x35 + (1 : Int32)))) fun h37 =>
  incI b3 fun bb => rec31 b0 b1 s0 bb h37
theorem g_Reader_readInto_69_eq : @g_Reader_readInto_69 = @f_Reader_readInto_69 := by
  unfold g_Reader_readInto_69 f_Reader_readInto_69; rw [pV2_eq, incI_eq]
def g_Reader_readInto_68 (rec31 : Nat → Nat → Int32 → Int32 → mH → Option (Int32 × mH)) (b0 : Nat) (b1 : Nat) (b3 : Int32) (h : mH) : Option (Int32 × mH) :=
  g_Reader_readInto_69 rec31 b0 b1 b3 (0 : Int32) h
theorem g_Reader_readInto_68_eq : @g_Reader_readInto_68 = @f_Reader_readInto_68 := by
  unfold g_Reader_readInto_68 f_Reader_readInto_68; rw [g_Reader_readInto_69_eq]
def g_Reader_readInto_31b (rec31 : Nat → Nat → Int32 → Int32 → mH → Option (Int32 × mH)) (b0 : Nat) (b1 : Nat) (b2 : Int32) (b3 : Int32) (h : mH) : Option (Int32 × mH) :=
  if (160 : Int32) ≤ b3 then
    g_Reader_readInto_86  b0 b1 b2 h
  else
    if b2 = 0 then
      g_Reader_readInto_86  b0 b1 b2 h
    else
      bd1 (gI h b0 3 6) fun x18 =>
      if x18 = 0 then
        g_Reader_readInto_86  b0 b1 b2 h
      else
        bd1 (kC h b0 3) fun _ =>
        bd2 (g_Reader_takeLine b0 b1 h) fun x24 h22 =>
        if x24 = 0 then
          g_Reader_readInto_68 rec31 b0 b1 b3 h22
        else
          bd1 (kC h22 b0 3) fun _ =>
          bd2 (g_Reader_takeToken b0 h22) fun x29 h27 =>
          if x29 = 0 then
            g_Reader_readInto_68 rec31 b0 b1 b3 h27
          else
            g_Reader_readInto_69 rec31 b0 b1 b3 (1 : Int32) h27
theorem g_Reader_readInto_31b_eq : @g_Reader_readInto_31b = @f_Reader_readInto_31b := by
  unfold g_Reader_readInto_31b f_Reader_readInto_31b; rw [g_Reader_readInto_86_eq, g_Reader_takeLine_eq, g_Reader_readInto_68_eq, g_Reader_takeToken_eq, g_Reader_readInto_69_eq]
def g_Reader_readInto_31  : Nat → Nat → Nat → Int32 → Int32 → mH → Option (Int32 × mH)
  | 0 => fun _ _ _ _ _ => none
  | n + 1 => g_Reader_readInto_31b  (g_Reader_readInto_31  n)
theorem g_Reader_readInto_31_eq : @g_Reader_readInto_31 = @f_Reader_readInto_31 := by
  funext  n
  induction n with
  | zero => rfl
  | succ n ih => show g_Reader_readInto_31b  (g_Reader_readInto_31  n) = f_Reader_readInto_31b  (f_Reader_readInto_31  n); rw [ih, g_Reader_readInto_31b_eq]
def g_Reader_readInto_0  (a0 : Nat) (a1 : Nat) (h : mH) : Option (Int32 × mH) :=
  bd1 (kC h a1 4) fun _ =>
  bd1 (g_Realm_empty a1 h) fun h3 =>
  bd1 (pV2 h3 a0 3 2 (.int (0 : Int32))) fun h5 =>
  bd1 (pV2 h5 a0 3 3 (.int (0 : Int32))) fun h7 =>
  bd1 (pV2 h7 a0 3 4 (.int (0 : Int32))) fun h9 =>
  bd1 (pV2 h9 a0 3 5 (.int (0 : Int32))) fun h11 =>
  bd1 (kC h11 a0 3) fun _ =>
  bd2 (g_Reader_takeToken a0 h11) fun x17 h15 =>
  g_Reader_readInto_31  FU a0 a1 x17 (0 : Int32) h15
theorem g_Reader_readInto_0_eq : @g_Reader_readInto_0 = @f_Reader_readInto_0 := by
  unfold g_Reader_readInto_0 f_Reader_readInto_0; rw [g_Realm_empty_eq, g_Reader_takeToken_eq, g_Reader_readInto_31_eq, pV2_eq]
def g_Reader_readInto (a0 : Nat) (a1 : Nat) (h : mH) : Option (Int32 × mH) := g_Reader_readInto_0 a0 a1 h
theorem g_Reader_readInto_eq : @g_Reader_readInto = @f_Reader_readInto := by
  unfold g_Reader_readInto f_Reader_readInto; rw [g_Reader_readInto_0_eq]
def g_Sightings_copyFrom_0  (a0 : Nat) (a1 : Nat) (h : mH) : Option mH :=
  bd1 (gI h a1 6 0) fun x1 =>
  bd1 (pV2 h a0 6 0 (.int x1)) fun h3 =>
  bd1 (gR h3 a1 6 1) fun x5 =>
  bd1 (gR h3 a0 6 1) fun x7 =>
  bd1 (cpI h3 0 x5 (0 : Int32) x7 (0 : Int32) (8 : Int32)) fun h9 =>
  bd1 (gR h9 a1 6 2) fun x11 =>
  bd1 (gR h9 a0 6 2) fun x13 =>
  bd1 (cpI h9 0 x11 (0 : Int32) x13 (0 : Int32) (8 : Int32)) fun h15 =>
  bd1 (gR h15 a1 6 3) fun x17 =>
  bd1 (gR h15 a0 6 3) fun x19 =>
  bd1 (cpI h15 0 x17 (0 : Int32) x19 (0 : Int32) (8 : Int32)) fun h21 =>
  some h21
theorem g_Sightings_copyFrom_0_eq : @g_Sightings_copyFrom_0 = @f_Sightings_copyFrom_0 := by
  unfold g_Sightings_copyFrom_0 f_Sightings_copyFrom_0; rw [pV2_eq]
def g_Sightings_copyFrom (a0 : Nat) (a1 : Nat) (h : mH) : Option mH := g_Sightings_copyFrom_0 a0 a1 h
theorem g_Sightings_copyFrom_eq : @g_Sightings_copyFrom = @f_Sightings_copyFrom := by
  unfold g_Sightings_copyFrom f_Sightings_copyFrom; rw [g_Sightings_copyFrom_0_eq]
def g_Realm_copyFrom_0  (a0 : Nat) (a1 : Nat) (h : mH) : Option mH :=
  bd1 (gI h a1 4 0) fun x1 =>
  bd1 (pV2 h a0 4 0 (.int x1)) fun h3 =>
  bd1 (gI h3 a1 4 1) fun x5 =>
  bd1 (pV2 h3 a0 4 1 (.int x5)) fun h7 =>
  bd1 (gI h7 a1 4 2) fun x9 =>
  bd1 (pV2 h7 a0 4 2 (.int x9)) fun h11 =>
  bd1 (gI h11 a1 4 3) fun x13 =>
  bd1 (pV2 h11 a0 4 3 (.int x13)) fun h15 =>
  bd1 (gI h15 a1 4 4) fun x17 =>
  bd1 (pV2 h15 a0 4 4 (.int x17)) fun h19 =>
  bd1 (gI h19 a1 4 5) fun x21 =>
  bd1 (pV2 h19 a0 4 5 (.int x21)) fun h23 =>
  bd1 (gR h23 a1 4 6) fun x25 =>
  bd1 (gR h23 a0 4 6) fun x27 =>
  bd1 (cpI h23 0 x25 (0 : Int32) x27 (0 : Int32) (5 : Int32)) fun h29 =>
  bd1 (gR h29 a1 4 7) fun x31 =>
  bd1 (gR h29 a0 4 7) fun x33 =>
  bd1 (cpI h29 0 x31 (0 : Int32) x33 (0 : Int32) (5 : Int32)) fun h35 =>
  bd1 (gR h35 a1 4 8) fun x37 =>
  bd1 (gR h35 a0 4 8) fun x39 =>
  bd1 (cpI h35 0 x37 (0 : Int32) x39 (0 : Int32) (5 : Int32)) fun h41 =>
  bd1 (gR h41 a1 4 9) fun x43 =>
  bd1 (gR h41 a0 4 9) fun x45 =>
  bd1 (cpI h41 0 x43 (0 : Int32) x45 (0 : Int32) (5 : Int32)) fun h47 =>
  bd1 (gR h47 a1 4 10) fun x49 =>
  bd1 (gR h47 a0 4 10) fun x51 =>
  bd1 (cpI h47 0 x49 (0 : Int32) x51 (0 : Int32) (5 : Int32)) fun h53 =>
  bd1 (gR h53 a1 4 11) fun x55 =>
  bd1 (gR h53 a0 4 11) fun x57 =>
  bd1 (cpI h53 0 x55 (0 : Int32) x57 (0 : Int32) (3 : Int32)) fun h59 =>
  bd1 (gR h59 a1 4 12) fun x61 =>
  bd1 (gR h59 a0 4 12) fun x63 =>
  bd1 (cpI h59 0 x61 (0 : Int32) x63 (0 : Int32) (3 : Int32)) fun h65 =>
  bd1 (gR h65 a1 4 13) fun x67 =>
  bd1 (gR h65 a0 4 13) fun x69 =>
  bd1 (cpI h65 0 x67 (0 : Int32) x69 (0 : Int32) (3 : Int32)) fun h71 =>
  bd1 (gR h71 a1 4 14) fun x73 =>
  bd1 (gR h71 a0 4 14) fun x75 =>
  bd1 (cpI h71 0 x73 (0 : Int32) x75 (0 : Int32) (3 : Int32)) fun h77 =>
  bd1 (gR h77 a1 4 15) fun x79 =>
  bd1 (gR h77 a0 4 15) fun x81 =>
  bd1 (cpI h77 0 x79 (0 : Int32) x81 (0 : Int32) (3 : Int32)) fun h83 =>
  bd1 (gR h83 a1 4 16) fun x85 =>
  bd1 (gR h83 a0 4 16) fun x87 =>
  bd1 (cpI h83 0 x85 (0 : Int32) x87 (0 : Int32) (3 : Int32)) fun h89 =>
  bd1 (gR h89 a1 4 17) fun x91 =>
  bd1 (gR h89 a0 4 17) fun x93 =>
  bd1 (cpI h89 0 x91 (0 : Int32) x93 (0 : Int32) (15 : Int32)) fun h95 =>
  bd1 (gR h95 a0 4 18) fun x97 =>
  bd1 (gR h95 a1 4 18) fun x99 =>
  bd1 (kC h95 x97 6) fun _ =>
  bd1 (g_Sightings_copyFrom x97 x99 h95) fun h103 =>
  some h103
theorem g_Realm_copyFrom_0_eq : @g_Realm_copyFrom_0 = @f_Realm_copyFrom_0 := by
  unfold g_Realm_copyFrom_0 f_Realm_copyFrom_0; rw [g_Sightings_copyFrom_eq, pV2_eq]
def g_Realm_copyFrom (a0 : Nat) (a1 : Nat) (h : mH) : Option mH := g_Realm_copyFrom_0 a0 a1 h
theorem g_Realm_copyFrom_eq : @g_Realm_copyFrom = @f_Realm_copyFrom := by
  unfold g_Realm_copyFrom f_Realm_copyFrom; rw [g_Realm_copyFrom_0_eq]
def g_Q_text_48b (rec48 : Nat → Int32 → mH → Option (Int32 × mH)) (b0 : Nat) (b2 : Int32) (h : mH) : Option (Int32 × mH) :=
  if (2 : Int32) ≤ b2 then
    bd1 (gR h b0 0 0) fun x27 =>
    bd1 (gI h x27 3 4) fun x29 =>
    some (x29, h)
  else
    bd1 (gR h b0 0 4) fun x31 =>
    bd1 (sI2 h 2 x31 b2 (vp_nar .boolean (0 : Int32))) fun h33 =>
    incI b2 fun bb => rec48 b0 bb h33
theorem g_Q_text_48b_eq : @g_Q_text_48b = @f_Q_text_48b := by
  unfold g_Q_text_48b f_Q_text_48b; rw [sI2_eq, incI_eq]
def g_Q_text_48  : Nat → Nat → Int32 → mH → Option (Int32 × mH)
  | 0 => fun _ _ _ => none
  | n + 1 => g_Q_text_48b  (g_Q_text_48  n)
theorem g_Q_text_48_eq : @g_Q_text_48 = @f_Q_text_48 := by
  funext  n
  induction n with
  | zero => rfl
  | succ n ih => show g_Q_text_48b  (g_Q_text_48  n) = f_Q_text_48b  (f_Q_text_48  n); rw [ih, g_Q_text_48b_eq]
def g_Q_text_0  (a0 : Nat) (h : mH) : Option (Int32 × mH) :=
  bd1 (gR h a0 0 0) fun x1 =>
  bd1 (gR h a0 0 2) fun x3 =>
  bd1 (kC h x1 3) fun _ =>
  bd2 (g_Reader_readInto x1 x3 h) fun x9 h7 =>
  bd1 (gR h7 a0 0 0) fun x10 =>
  bd1 (pV2 h7 x10 3 1 (.int (0 : Int32))) fun h12 =>
  if x9 = 0 then
    bd1 (gR h12 a0 0 0) fun x22 =>
    bd1 (gI h12 x22 3 3) fun x24 =>
    some (((-10) : Int32) - x24, h12)
  else
    bd1 (gR h12 a0 0 1) fun x14 =>
    bd1 (gR h12 a0 0 2) fun x16 =>
    bd1 (kC h12 x14 4) fun _ =>
    bd1 (g_Realm_copyFrom x14 x16 h12) fun h20 =>
    g_Q_text_48  FU a0 (0 : Int32) h20
theorem g_Q_text_0_eq : @g_Q_text_0 = @f_Q_text_0 := by
  unfold g_Q_text_0 f_Q_text_0; rw [g_Reader_readInto_eq, g_Realm_copyFrom_eq, g_Q_text_48_eq, pV2_eq]
def g_Q_text (a0 : Nat) (h : mH) : Option (Int32 × mH) := g_Q_text_0 a0 h
theorem g_Q_text_eq : @g_Q_text = @f_Q_text := by
  unfold g_Q_text f_Q_text; rw [g_Q_text_0_eq]
def g_M_look_0  (a0 : Nat) (a1 : Int32) (h : mH) : Option (Int32 × mH) :=
  bd1 (gI h a0 8 20) fun x1 =>
  if x1 ≤ a1 then
    some (((-1) : Int32), h)
  else
    bd1 (gR h a0 8 19) fun x3 =>
    bd1 (aI h 0 x3 a1) fun x5 =>
    some (x5, h)
theorem g_M_look_0_eq : @g_M_look_0 = @f_M_look_0 := by
  rfl
def g_M_look (a0 : Nat) (a1 : Int32) (h : mH) : Option (Int32 × mH) := g_M_look_0 a0 a1 h
theorem g_M_look_eq : @g_M_look = @f_M_look := by
  unfold g_M_look f_M_look; rw [g_M_look_0_eq]
def g_M_in_17   (h : mH) : Option (Int32 × mH) :=
  some ((0 : Int32), h)
theorem g_M_in_17_eq : @g_M_in_17 = @f_M_in_17 := by
  rfl
def g_M_in_0  (a0 : Int64) (a1 : Int64) (a2 : Int64) (h : mH) : Option (Int32 × mH) :=
  if (lg_cmp a0 a1) < 0 then
    g_M_in_17  h
  else
    if 0 < (lg_cmp a0 a2) then
      g_M_in_17  h
    else
      some ((1 : Int32), h)
theorem g_M_in_0_eq : @g_M_in_0 = @f_M_in_0 := by
  unfold g_M_in_0 f_M_in_0; rw [g_M_in_17_eq]
def g_M_in (a0 : Int64) (a1 : Int64) (a2 : Int64) (h : mH) : Option (Int32 × mH) := g_M_in_0 a0 a1 a2 h
theorem g_M_in_eq : @g_M_in = @f_M_in := by
  unfold g_M_in f_M_in; rw [g_M_in_0_eq]
def g_M_needs_0  (a0 : Nat) (a1 : Int32) (a2 : Int32) (h : mH) : Option mH :=
  if a1 = 0 then
    bd1 (gI h a0 8 25) fun x1 =>
    if x1 = 0 then
      bd1 (pV2 h a0 8 25 (.int a2)) fun h3 =>
      bd1 (gI h3 a0 8 22) fun x5 =>
      bd1 (pV2 h3 a0 8 26 (.int x5)) fun h7 =>
      some h7
    else
      some h
  else
    some h
theorem g_M_needs_0_eq : @g_M_needs_0 = @f_M_needs_0 := by
  unfold g_M_needs_0 f_M_needs_0; rw [pV2_eq]
def g_M_needs (a0 : Nat) (a1 : Int32) (a2 : Int32) (h : mH) : Option mH := g_M_needs_0 a0 a1 a2 h
theorem g_M_needs_eq : @g_M_needs = @f_M_needs := by
  unfold g_M_needs f_M_needs; rw [g_M_needs_0_eq]
def g_M_next_260  (b0 : Nat) (s0 : Nat) (s1 : Int32) (h : mH) : Option mH :=
  bd1 (kC h s0 8) fun _ =>
  bd1 (g_M_needs s0 s1 (1 : Int32) h) fun h106 =>
  bd1 (gI h106 b0 8 21) fun x108 =>
  bd1 (pV2 h106 b0 8 21 (.int (x108 + (1 : Int32)))) fun h110 =>
  some h110
theorem g_M_next_260_eq : @g_M_next_260 = @f_M_next_260 := by
  unfold g_M_next_260 f_M_next_260; rw [g_M_needs_eq, pV2_eq]
def g_M_next_236  (s0 : Nat) (s1 : Int32) (h : mH) : Option mH :=
  bd1 (kC h s0 8) fun _ =>
  bd1 (g_M_needs s0 s1 (1 : Int32) h) fun h102 =>
  some h102
theorem g_M_next_236_eq : @g_M_next_236 = @f_M_next_236 := by
  unfold g_M_next_236 f_M_next_236; rw [g_M_needs_eq]
def g_M_next_201 (rec140 : Nat → mH → Option mH) (b0 : Nat) (s0 : Nat) (s1 : Int32) (h : mH) : Option mH :=
  bd1 (pV2 h s0 8 24 (.int s1)) fun h94 =>
  bd1 (gI h94 b0 8 21) fun x96 =>
  bd1 (pV2 h94 b0 8 21 (.int (x96 + (1 : Int32)))) fun h98 =>
  rec140 b0 h98
theorem g_M_next_201_eq : @g_M_next_201 = @f_M_next_201 := by
  unfold g_M_next_201 f_M_next_201; rw [pV2_eq]
def g_M_next_140b (rec140 : Nat → mH → Option mH) (b0 : Nat) (h : mH) : Option mH :=
  bd1 (gI h b0 8 21) fun x62 =>
  bd1 (kC h b0 8) fun _ =>
  bd2 (g_M_look b0 x62 h) fun x68 h66 =>
  bd2 (g_M_in x68.toInt64 (48 : Int64) (57 : Int64) h66) fun x71 h69 =>
  if x71 = 0 then
    bd1 (gI h69 b0 8 21) fun x72 =>
    bd1 (gI h69 b0 8 22) fun x74 =>
    if (2 : Int32) < (x72 - x74) then
      g_M_next_236  b0 (0 : Int32) h69
    else
      g_M_next_236  b0 (1 : Int32) h69
  else
    bd1 (gI h69 b0 8 21) fun x77 =>
    bd1 (gI h69 b0 8 22) fun x79 =>
    if (2 : Int32) ≤ (x77 - x79) then
      bd1 (gI h69 b0 8 24) fun x81 =>
      g_M_next_201 rec140 b0 b0 x81 h69
    else
      bd1 (gI h69 b0 8 24) fun x83 =>
      bd1 (gI h69 b0 8 21) fun x85 =>
      bd1 (kC h69 b0 8) fun _ =>
      bd2 (g_M_look b0 x85 h69) fun x91 h89 =>
      g_M_next_201 rec140 b0 b0 ((((10 : Int32) * x83) + x91) - (48 : Int32)) h89
theorem g_M_next_140b_eq : @g_M_next_140b = @f_M_next_140b := by
  unfold g_M_next_140b f_M_next_140b; rw [g_M_look_eq, g_M_in_eq, g_M_next_236_eq, g_M_next_201_eq]
def g_M_next_140  : Nat → Nat → mH → Option mH
  | 0 => fun _ _ => none
  | n + 1 => g_M_next_140b  (g_M_next_140  n)
theorem g_M_next_140_eq : @g_M_next_140 = @f_M_next_140 := by
  funext  n
  induction n with
  | zero => rfl
  | succ n ih => show g_M_next_140b  (g_M_next_140  n) = f_M_next_140b  (f_M_next_140  n); rw [ih, g_M_next_140b_eq]
def g_M_next_82b (rec82 : Nat → mH → Option mH) (b0 : Nat) (h : mH) : Option mH :=
  bd1 (gI h b0 8 21) fun x47 =>
  bd1 (kC h b0 8) fun _ =>
  bd2 (g_M_look b0 x47 h) fun x53 h51 =>
  bd2 (g_M_in x53.toInt64 (97 : Int64) (122 : Int64) h51) fun x56 h54 =>
  if x56 = 0 then
    some h54
  else
    bd1 (gI h54 b0 8 21) fun x57 =>
    bd1 (pV2 h54 b0 8 21 (.int (x57 + (1 : Int32)))) fun h59 =>
    rec82 b0 h59
theorem g_M_next_82b_eq : @g_M_next_82b = @f_M_next_82b := by
  unfold g_M_next_82b f_M_next_82b; rw [g_M_look_eq, g_M_in_eq, pV2_eq]
def g_M_next_82  : Nat → Nat → mH → Option mH
  | 0 => fun _ _ => none
  | n + 1 => g_M_next_82b  (g_M_next_82  n)
theorem g_M_next_82_eq : @g_M_next_82 = @f_M_next_82 := by
  funext  n
  induction n with
  | zero => rfl
  | succ n ih => show g_M_next_82b  (g_M_next_82  n) = f_M_next_82b  (f_M_next_82  n); rw [ih, g_M_next_82b_eq]
def g_M_next_8b (rec8 : Nat → mH → Option mH) (b0 : Nat) (h : mH) : Option mH :=
  bd1 (gI h b0 8 21) fun x4 =>
  bd1 (kC h b0 8) fun _ =>
  bd2 (g_M_look b0 x4 h) fun x10 h8 =>
  if x10 = (32 : Int32) then
    bd1 (gI h8 b0 8 21) fun x42 =>
    bd1 (pV2 h8 b0 8 21 (.int (x42 + (1 : Int32)))) fun h44 =>
    rec8 b0 h44
  else
    bd1 (gI h8 b0 8 21) fun x11 =>
    bd1 (pV2 h8 b0 8 22 (.int x11)) fun h13 =>
    bd1 (gI h13 b0 8 21) fun x15 =>
    bd1 (kC h13 b0 8) fun _ =>
    bd2 (g_M_look b0 x15 h13) fun x21 h19 =>
    if 0 ≤ x21 then
      bd2 (g_M_in x21.toInt64 (97 : Int64) (122 : Int64) h19) fun x24 h22 =>
      if x24 = 0 then
        bd2 (g_M_in x21.toInt64 (48 : Int64) (57 : Int64) h22) fun x27 h25 =>
        if x27 = 0 then
          bd1 (pV2 h25 b0 8 23 (.int (3 : Int32))) fun h28 =>
          if x21 = (59 : Int32) then
            g_M_next_260  b0 b0 (1 : Int32) h28
          else
            g_M_next_260  b0 b0 (0 : Int32) h28
        else
          bd1 (pV2 h25 b0 8 23 (.int (2 : Int32))) fun h31 =>
          bd1 (pV2 h31 b0 8 24 (.int (0 : Int32))) fun h33 =>
          g_M_next_140  FU b0 h33
      else
        bd1 (pV2 h22 b0 8 23 (.int (1 : Int32))) fun h36 =>
        g_M_next_82  FU b0 h36
    else
      bd1 (pV2 h19 b0 8 23 (.int (0 : Int32))) fun h39 =>
      some h39
theorem g_M_next_8b_eq : @g_M_next_8b = @f_M_next_8b := by
  unfold g_M_next_8b f_M_next_8b; rw [g_M_look_eq, g_M_in_eq, g_M_next_260_eq, g_M_next_140_eq, g_M_next_82_eq, pV2_eq]
def g_M_next_8  : Nat → Nat → mH → Option mH
  | 0 => fun _ _ => none
  | n + 1 => g_M_next_8b  (g_M_next_8  n)
theorem g_M_next_8_eq : @g_M_next_8 = @f_M_next_8 := by
  funext  n
  induction n with
  | zero => rfl
  | succ n ih => show g_M_next_8b  (g_M_next_8  n) = f_M_next_8b  (f_M_next_8  n); rw [ih, g_M_next_8b_eq]
def g_M_next_0  (a0 : Nat) (h : mH) : Option mH :=
  bd1 (gI h a0 8 25) fun x1 =>
  if x1 ≤ 0 then
    g_M_next_8  FU a0 h
  else
    some h
theorem g_M_next_0_eq : @g_M_next_0 = @f_M_next_0 := by
  unfold g_M_next_0 f_M_next_0; rw [g_M_next_8_eq]
def g_M_next (a0 : Nat) (h : mH) : Option mH := g_M_next_0 a0 h
theorem g_M_next_eq : @g_M_next = @f_M_next := by
  unfold g_M_next f_M_next; rw [g_M_next_0_eq]
def g_M_text_84  (b0 : Nat) (b1 : Int32) (h : mH) : Option (Int32 × mH) :=
  bd1 (pV2 h b0 8 20 (.int (0 : Int32))) fun h40 =>
  bd1 (gI h40 b0 8 25) fun x42 =>
  if x42 ≤ 0 then
    bd1 (kC h40 b0 8) fun _ =>
    bd1 (g_M_keepDraft b0 h40) fun h46 =>
    some (b1, h46)
  else
    bd1 (gI h40 b0 8 26) fun x48 =>
    some (((-10) : Int32) - x48, h40)
theorem g_M_text_84_eq : @g_M_text_84 = @f_M_text_84 := by
  unfold g_M_text_84 f_M_text_84; rw [g_M_keepDraft_eq, pV2_eq]
def g_M_text_79  (b0 : Nat) (b1 : Int32) (s0 : Nat) (s1 : Int32) (h : mH) : Option (Int32 × mH) :=
  bd1 (kC h s0 8) fun _ =>
  bd1 (g_M_needs s0 s1 (6 : Int32) h) fun h38 =>
  g_M_text_84  b0 b1 h38
theorem g_M_text_79_eq : @g_M_text_79 = @f_M_text_79 := by
  unfold g_M_text_79 f_M_text_79; rw [g_M_needs_eq, g_M_text_84_eq]
def g_M_text_78  (b0 : Nat) (b1 : Int32) (s0 : Nat) (h : mH) : Option (Int32 × mH) :=
  g_M_text_79  b0 b1 s0 (0 : Int32) h
theorem g_M_text_78_eq : @g_M_text_78 = @f_M_text_78 := by
  unfold g_M_text_78 f_M_text_78; rw [g_M_text_79_eq]
def g_M_text_44  (b0 : Nat) (b1 : Int32) (h : mH) : Option (Int32 × mH) :=
  bd1 (gI h b0 8 25) fun x23 =>
  if x23 = 0 then
    bd1 (gI h b0 8 17) fun x25 =>
    bd1 (gI h b0 8 10) fun x27 =>
    if x27 ≤ x25 then
      g_M_text_78  b0 b1 b0 h
    else
      bd1 (gI h b0 8 18) fun x29 =>
      bd1 (gI h b0 8 11) fun x31 =>
      if x31 ≤ x29 then
        g_M_text_78  b0 b1 b0 h
      else
        g_M_text_79  b0 b1 b0 (1 : Int32) h
  else
    g_M_text_84  b0 b1 h
theorem g_M_text_44_eq : @g_M_text_44 = @f_M_text_44 := by
  unfold g_M_text_44 f_M_text_44; rw [g_M_text_78_eq, g_M_text_79_eq, g_M_text_84_eq]
def g_M_is_58   (h : mH) : Option (Int32 × mH) :=
  some ((0 : Int32), h)
theorem g_M_is_58_eq : @g_M_is_58 = @f_M_is_58 := by
  rfl
def g_M_is_0  (a0 : Nat) (a1 : Int32) (a2 : Int32) (a3 : Int32) (a4 : Int32) (h : mH) : Option (Int32 × mH) :=
  bd1 (gI h a0 8 21) fun x1 =>
  bd1 (gI h a0 8 22) fun x3 =>
  if (x1 - x3) = a1 then
    bd1 (gI h a0 8 22) fun x5 =>
    bd1 (kC h a0 8) fun _ =>
    bd2 (g_M_look a0 x5 h) fun x11 h9 =>
    if x11 = a2 then
      bd1 (gI h9 a0 8 22) fun x12 =>
      bd1 (kC h9 a0 8) fun _ =>
      bd2 (g_M_look a0 (x12 + (1 : Int32)) h9) fun x18 h16 =>
      if x18 = a3 then
        bd1 (gI h16 a0 8 22) fun x19 =>
        bd1 (kC h16 a0 8) fun _ =>
        bd2 (g_M_look a0 (x19 + (2 : Int32)) h16) fun x25 h23 =>
        if x25 = a4 then
          some ((1 : Int32), h23)
        else
          g_M_is_58  h23
      else
        g_M_is_58  h16
    else
      g_M_is_58  h9
  else
    g_M_is_58  h
theorem g_M_is_0_eq : @g_M_is_0 = @f_M_is_0 := by
  unfold g_M_is_0 f_M_is_0; rw [g_M_look_eq, g_M_is_58_eq]
def g_M_is (a0 : Nat) (a1 : Int32) (a2 : Int32) (a3 : Int32) (a4 : Int32) (h : mH) : Option (Int32 × mH) := g_M_is_0 a0 a1 a2 a3 a4 h
theorem g_M_is_eq : @g_M_is = @f_M_is := by
  unfold g_M_is f_M_is; rw [g_M_is_0_eq]
def g_M_lineNow_111   (h : mH) : Option (Int32 × mH) :=
  some (((-4) : Int32), h)
theorem g_M_lineNow_111_eq : @g_M_lineNow_111 = @f_M_lineNow_111 := by
  rfl
def g_M_lineNow_63  (b0 : Nat) (h : mH) : Option (Int32 × mH) :=
  bd1 (kC h b0 8) fun _ =>
  bd2 (g_M_is b0 (5 : Int32) (119 : Int32) (97 : Int32) (116 : Int32) h) fun x31 h29 =>
  if x31 = 0 then
    g_M_lineNow_111  h29
  else
    bd1 (gI h29 b0 8 22) fun x32 =>
    bd1 (kC h29 b0 8) fun _ =>
    bd2 (g_M_look b0 (x32 + (3 : Int32)) h29) fun x38 h36 =>
    if x38 = (99 : Int32) then
      bd1 (gI h36 b0 8 22) fun x39 =>
      bd1 (kC h36 b0 8) fun _ =>
      bd2 (g_M_look b0 (x39 + (4 : Int32)) h36) fun x45 h43 =>
      if x45 = (104 : Int32) then
        some ((3 : Int32), h43)
      else
        g_M_lineNow_111  h43
    else
      g_M_lineNow_111  h36
theorem g_M_lineNow_63_eq : @g_M_lineNow_63 = @f_M_lineNow_63 := by
  unfold g_M_lineNow_63 f_M_lineNow_63; rw [g_M_is_eq, g_M_lineNow_111_eq, g_M_look_eq]
def g_M_lineNow_0  (a0 : Nat) (h : mH) : Option (Int32 × mH) :=
  bd1 (kC h a0 8) fun _ =>
  bd2 (g_M_is a0 (3 : Int32) (108 : Int32) (97 : Int32) (119 : Int32) h) fun x5 h3 =>
  if x5 = 0 then
    bd1 (kC h3 a0 8) fun _ =>
    bd2 (g_M_is a0 (3 : Int32) (111 : Int32) (110 : Int32) (101 : Int32) h3) fun x10 h8 =>
    if x10 = 0 then
      bd1 (kC h8 a0 8) fun _ =>
      bd2 (g_M_is a0 (4 : Int32) (119 : Int32) (97 : Int32) (110 : Int32) h8) fun x15 h13 =>
      if x15 = 0 then
        g_M_lineNow_63  a0 h13
      else
        bd1 (gI h13 a0 8 22) fun x16 =>
        bd1 (kC h13 a0 8) fun _ =>
        bd2 (g_M_look a0 (x16 + (3 : Int32)) h13) fun x22 h20 =>
        if x22 = (116 : Int32) then
          some ((2 : Int32), h20)
        else
          g_M_lineNow_63  a0 h20
    else
      some ((1 : Int32), h8)
  else
    some ((0 : Int32), h3)
theorem g_M_lineNow_0_eq : @g_M_lineNow_0 = @f_M_lineNow_0 := by
  unfold g_M_lineNow_0 f_M_lineNow_0; rw [g_M_is_eq, g_M_lineNow_63_eq, g_M_look_eq]
def g_M_lineNow (a0 : Nat) (h : mH) : Option (Int32 × mH) := g_M_lineNow_0 a0 h
theorem g_M_lineNow_eq : @g_M_lineNow = @f_M_lineNow := by
  unfold g_M_lineNow f_M_lineNow; rw [g_M_lineNow_0_eq]
def g_M_looked_49  (b0 : Nat) (h : mH) : Option (Int32 × mH) :=
  bd1 (gI h b0 8 25) fun x23 =>
  if x23 = 0 then
    bd1 (gI h b0 8 24) fun x25 =>
    some (x25, h)
  else
    some ((0 : Int32), h)
theorem g_M_looked_49_eq : @g_M_looked_49 = @f_M_looked_49 := by
  rfl
def g_M_looked_25  (b0 : Nat) (b1 : Int32) (b2 : Int32) (h : mH) : Option (Int32 × mH) :=
  bd1 (gI h b0 8 25) fun x11 =>
  if x11 = 0 then
    bd1 (gI h b0 8 24) fun x13 =>
    bd2 (g_M_in x13.toInt64 b1.toInt64 b2.toInt64 h) fun x17 h15 =>
    bd1 (kC h15 b0 8) fun _ =>
    bd1 (g_M_needs b0 x17 (3 : Int32) h15) fun h20 =>
    g_M_looked_49  b0 h20
  else
    g_M_looked_49  b0 h
theorem g_M_looked_25_eq : @g_M_looked_25 = @f_M_looked_25 := by
  unfold g_M_looked_25 f_M_looked_25; rw [g_M_in_eq, g_M_needs_eq, g_M_looked_49_eq]
def g_M_looked_21  (b0 : Nat) (b1 : Int32) (b2 : Int32) (s0 : Nat) (s1 : Int32) (h : mH) : Option (Int32 × mH) :=
  bd1 (kC h s0 8) fun _ =>
  bd1 (g_M_needs s0 s1 (2 : Int32) h) fun h9 =>
  g_M_looked_25  b0 b1 b2 h9
theorem g_M_looked_21_eq : @g_M_looked_21 = @f_M_looked_21 := by
  unfold g_M_looked_21 f_M_looked_21; rw [g_M_needs_eq, g_M_looked_25_eq]
def g_M_looked_0  (a0 : Nat) (a1 : Int32) (a2 : Int32) (h : mH) : Option (Int32 × mH) :=
  bd1 (gI h a0 8 25) fun x1 =>
  if x1 = 0 then
    bd1 (gI h a0 8 23) fun x3 =>
    if x3 = (2 : Int32) then
      g_M_looked_21  a0 a1 a2 a0 (1 : Int32) h
    else
      g_M_looked_21  a0 a1 a2 a0 (0 : Int32) h
  else
    g_M_looked_25  a0 a1 a2 h
theorem g_M_looked_0_eq : @g_M_looked_0 = @f_M_looked_0 := by
  unfold g_M_looked_0 f_M_looked_0; rw [g_M_looked_21_eq, g_M_looked_25_eq]
def g_M_looked (a0 : Nat) (a1 : Int32) (a2 : Int32) (h : mH) : Option (Int32 × mH) := g_M_looked_0 a0 a1 a2 h
theorem g_M_looked_eq : @g_M_looked = @f_M_looked := by
  unfold g_M_looked f_M_looked; rw [g_M_looked_0_eq]
def g_M_readNumber_0  (a0 : Nat) (a1 : Int32) (a2 : Int32) (h : mH) : Option (Int32 × mH) :=
  bd1 (kC h a0 8) fun _ =>
  bd2 (g_M_looked a0 a1 a2 h) fun x5 h3 =>
  bd1 (kC h3 a0 8) fun _ =>
  bd1 (g_M_next a0 h3) fun h8 =>
  some (x5, h8)
theorem g_M_readNumber_0_eq : @g_M_readNumber_0 = @f_M_readNumber_0 := by
  unfold g_M_readNumber_0 f_M_readNumber_0; rw [g_M_looked_eq, g_M_next_eq]
def g_M_readNumber (a0 : Nat) (a1 : Int32) (a2 : Int32) (h : mH) : Option (Int32 × mH) := g_M_readNumber_0 a0 a1 a2 h
theorem g_M_readNumber_eq : @g_M_readNumber = @f_M_readNumber := by
  unfold g_M_readNumber f_M_readNumber; rw [g_M_readNumber_0_eq]
def g_M_readLawOf_59  (b0 : Nat) (b1 : Int32) (b2 : Int32) (h : mH) : Option (Int32 × mH) :=
  bd1 (kC h b0 8) fun _ =>
  bd1 (g_M_next b0 h) fun h26 =>
  some (b1 ||| ((1 : Int32) <<< (b2 &&& 31)), h26)
theorem g_M_readLawOf_59_eq : @g_M_readLawOf_59 = @f_M_readLawOf_59 := by
  unfold g_M_readLawOf_59 f_M_readLawOf_59; rw [g_M_next_eq]
def g_M_readLawOf_56  (b0 : Nat) (b1 : Int32) (b2 : Int32) (s0 : Nat) (s1 : Int32) (h : mH) : Option (Int32 × mH) :=
  bd1 (pV2 h s0 8 17 (.int s1)) fun h22 =>
  g_M_readLawOf_59  b0 b1 b2 h22
theorem g_M_readLawOf_56_eq : @g_M_readLawOf_56 = @f_M_readLawOf_56 := by
  unfold g_M_readLawOf_56 f_M_readLawOf_56; rw [g_M_readLawOf_59_eq, pV2_eq]
def g_M_readLawOf_32  (b0 : Nat) (b1 : Int32) (b2 : Int32) (h : mH) : Option (Int32 × mH) :=
  bd1 (gI h b0 8 25) fun x14 =>
  if x14 = 0 then
    bd1 (gI h b0 8 17) fun x16 =>
    if b2 ≤ x16 then
      bd1 (gI h b0 8 17) fun x18 =>
      g_M_readLawOf_56  b0 b1 b2 b0 x18 h
    else
      g_M_readLawOf_56  b0 b1 b2 b0 b2 h
  else
    g_M_readLawOf_59  b0 b1 b2 h
theorem g_M_readLawOf_32_eq : @g_M_readLawOf_32 = @f_M_readLawOf_32 := by
  unfold g_M_readLawOf_32 f_M_readLawOf_32; rw [g_M_readLawOf_56_eq, g_M_readLawOf_59_eq]
def g_M_readLawOf_28  (b0 : Nat) (b1 : Int32) (b2 : Int32) (s0 : Nat) (s1 : Int32) (h : mH) : Option (Int32 × mH) :=
  bd1 (kC h s0 8) fun _ =>
  bd1 (g_M_needs s0 s1 (4 : Int32) h) fun h12 =>
  g_M_readLawOf_32  b0 b1 b2 h12
theorem g_M_readLawOf_28_eq : @g_M_readLawOf_28 = @f_M_readLawOf_28 := by
  unfold g_M_readLawOf_28 f_M_readLawOf_28; rw [g_M_needs_eq, g_M_readLawOf_32_eq]
def g_M_readLawOf_0  (a0 : Nat) (a1 : Int32) (h : mH) : Option (Int32 × mH) :=
  bd1 (kC h a0 8) fun _ =>
  bd2 (g_M_looked a0 (0 : Int32) (4 : Int32) h) fun x5 h3 =>
  bd1 (gI h3 a0 8 25) fun x6 =>
  if x6 = 0 then
    if ((a1 >>> (x5 &&& 31)) &&& (1 : Int32)) = 0 then
      g_M_readLawOf_28  a0 a1 x5 a0 (1 : Int32) h3
    else
      g_M_readLawOf_28  a0 a1 x5 a0 (0 : Int32) h3
  else
    g_M_readLawOf_32  a0 a1 x5 h3
theorem g_M_readLawOf_0_eq : @g_M_readLawOf_0 = @f_M_readLawOf_0 := by
  unfold g_M_readLawOf_0 f_M_readLawOf_0; rw [g_M_looked_eq, g_M_readLawOf_28_eq, g_M_readLawOf_32_eq]
def g_M_readLawOf (a0 : Nat) (a1 : Int32) (h : mH) : Option (Int32 × mH) := g_M_readLawOf_0 a0 a1 h
theorem g_M_readLawOf_eq : @g_M_readLawOf = @f_M_readLawOf := by
  unfold g_M_readLawOf f_M_readLawOf; rw [g_M_readLawOf_0_eq]
def g_M_readLaw_127  (b0 : Nat) (h : mH) : Option mH :=
  bd1 (gI h b0 8 10) fun x60 =>
  bd1 (pV2 h b0 8 10 (.int (x60 + (1 : Int32)))) fun h62 =>
  some h62
theorem g_M_readLaw_127_eq : @g_M_readLaw_127 = @f_M_readLaw_127 := by
  unfold g_M_readLaw_127 f_M_readLaw_127; rw [pV2_eq]
def g_M_readLaw_120 (rec89 : Nat → Int32 → Int32 → Int32 → mH → Option mH) (b0 : Nat) (b1 : Int32) (b2 : Int32) (b3 : Int32) (s0 : Nat) (s1 : Int32) (s2 : Int32) (h : mH) : Option mH :=
  bd1 (sI2 h 0 s0 s1 s2) fun h58 =>
  incI b3 fun bb => rec89 b0 b1 b2 bb h58
theorem g_M_readLaw_120_eq : @g_M_readLaw_120 = @f_M_readLaw_120 := by
  unfold g_M_readLaw_120 f_M_readLaw_120; rw [sI2_eq, incI_eq]
def g_M_readLaw_89b (rec89 : Nat → Int32 → Int32 → Int32 → mH → Option mH) (b0 : Nat) (b1 : Int32) (b2 : Int32) (b3 : Int32) (h : mH) : Option mH :=
  if (5 : Int32) ≤ b3 then
    g_M_readLaw_127  b0 h
  else
    bd1 (gR h b0 8 9) fun x50 =>
    if b2 = ((1 : Int32) <<< (b3 &&& 31)) then
      g_M_readLaw_120 rec89 b0 b1 b2 b3 x50 ((5 : Int32) + b1) b3 h
    else
      bd1 (gR h b0 8 9) fun x52 =>
      bd1 (aI h 0 x52 ((5 : Int32) + b1)) fun x54 =>
      g_M_readLaw_120 rec89 b0 b1 b2 b3 x50 ((5 : Int32) + b1) x54 h
theorem g_M_readLaw_89b_eq : @g_M_readLaw_89b = @f_M_readLaw_89b := by
  unfold g_M_readLaw_89b f_M_readLaw_89b; rw [g_M_readLaw_127_eq, g_M_readLaw_120_eq]
def g_M_readLaw_89  : Nat → Nat → Int32 → Int32 → Int32 → mH → Option mH
  | 0 => fun _ _ _ _ _ => none
  | n + 1 => g_M_readLaw_89b  (g_M_readLaw_89  n)
theorem g_M_readLaw_89_eq : @g_M_readLaw_89 = @f_M_readLaw_89 := by
  funext  n
  induction n with
  | zero => rfl
  | succ n ih => show g_M_readLaw_89b  (g_M_readLaw_89  n) = f_M_readLaw_89b  (f_M_readLaw_89  n); rw [ih, g_M_readLaw_89b_eq]
def g_M_readLaw_0  (a0 : Nat) (h : mH) : Option mH :=
  bd1 (gI h a0 8 10) fun x1 =>
  bd1 (gR h a0 8 9) fun x3 =>
  bd1 (kC h a0 8) fun _ =>
  bd2 (g_M_readNumber a0 (0 : Int32) (9 : Int32) h) fun x9 h7 =>
  bd1 (sI2 h7 0 x3 ((0 : Int32) + x1) x9) fun h10 =>
  bd1 (gR h10 a0 8 12) fun x12 =>
  bd1 (kC h10 a0 8) fun _ =>
  bd2 (g_M_readNumber a0 (1 : Int32) (3 : Int32) h10) fun x18 h16 =>
  bd1 (sI2 h16 0 x12 x1 x18) fun h19 =>
  bd1 (gR h19 a0 8 13) fun x21 =>
  bd1 (kC h19 a0 8) fun _ =>
  bd2 (g_M_readNumber a0 (0 : Int32) (9 : Int32) h19) fun x27 h25 =>
  bd1 (sI2 h25 0 x21 x1 x27) fun h28 =>
  bd1 (gR h28 a0 8 14) fun x30 =>
  bd1 (kC h28 a0 8) fun _ =>
  bd2 (g_M_readNumber a0 (0 : Int32) (9 : Int32) h28) fun x36 h34 =>
  bd1 (sI2 h34 0 x30 x1 x36) fun h37 =>
  bd1 (gI h37 a0 8 25) fun x39 =>
  if x39 = 0 then
    bd1 (gI h37 a0 8 23) fun x41 =>
    if x41 = (2 : Int32) then
      bd1 (kC h37 a0 8) fun _ =>
      bd2 (g_M_readLawOf a0 ((1 : Int32) <<< (x1 &&& 31)) h37) fun x47 h45 =>
      g_M_readLaw_89  FU a0 x1 (x47 &&& (((1 : Int32) <<< (x1 &&& 31)) ^^^ ((-1) : Int32))) (0 : Int32) h45
    else
      g_M_readLaw_127  a0 h37
  else
    g_M_readLaw_127  a0 h37
theorem g_M_readLaw_0_eq : @g_M_readLaw_0 = @f_M_readLaw_0 := by
  unfold g_M_readLaw_0 f_M_readLaw_0; rw [g_M_readNumber_eq, g_M_readLawOf_eq, g_M_readLaw_89_eq, g_M_readLaw_127_eq, sI2_eq]
def g_M_readLaw (a0 : Nat) (h : mH) : Option mH := g_M_readLaw_0 a0 h
theorem g_M_readLaw_eq : @g_M_readLaw = @f_M_readLaw := by
  unfold g_M_readLaw f_M_readLaw; rw [g_M_readLaw_0_eq]
def g_M_readOne_101  (b0 : Nat) (h : mH) : Option mH :=
  bd1 (gI h b0 8 11) fun x58 =>
  bd1 (pV2 h b0 8 11 (.int (x58 + (1 : Int32)))) fun h60 =>
  some h60
theorem g_M_readOne_101_eq : @g_M_readOne_101 = @f_M_readOne_101 := by
  unfold g_M_readOne_101 f_M_readOne_101; rw [pV2_eq]
def g_M_readOne_61b (rec61 : Nat → Int32 → mH → Option mH) (b0 : Nat) (b1 : Int32) (h : mH) : Option mH :=
  bd1 (gI h b0 8 25) fun x39 =>
  if x39 = 0 then
    bd1 (gI h b0 8 23) fun x41 =>
    if x41 = (2 : Int32) then
      bd1 (gR h b0 8 9) fun x43 =>
      bd1 (gR h b0 8 9) fun x45 =>
      bd1 (aI h 0 x45 ((18 : Int32) + b1)) fun x47 =>
      bd1 (kC h b0 8) fun _ =>
      bd2 (g_M_readLawOf b0 x47 h) fun x53 h51 =>
      bd1 (sI2 h51 0 x43 ((18 : Int32) + b1) x53) fun h54 =>
      rec61 b0 b1 h54
    else
      g_M_readOne_101  b0 h
  else
    g_M_readOne_101  b0 h
theorem g_M_readOne_61b_eq : @g_M_readOne_61b = @f_M_readOne_61b := by
  unfold g_M_readOne_61b f_M_readOne_61b; rw [g_M_readLawOf_eq, g_M_readOne_101_eq, sI2_eq]
def g_M_readOne_61  : Nat → Nat → Int32 → mH → Option mH
  | 0 => fun _ _ _ => none
  | n + 1 => g_M_readOne_61b  (g_M_readOne_61  n)
theorem g_M_readOne_61_eq : @g_M_readOne_61 = @f_M_readOne_61 := by
  funext  n
  induction n with
  | zero => rfl
  | succ n ih => show g_M_readOne_61b  (g_M_readOne_61  n) = f_M_readOne_61b  (f_M_readOne_61  n); rw [ih, g_M_readOne_61b_eq]
def g_M_readOne_0  (a0 : Nat) (h : mH) : Option mH :=
  bd1 (gI h a0 8 11) fun x1 =>
  bd1 (gR h a0 8 9) fun x3 =>
  bd1 (kC h a0 8) fun _ =>
  bd2 (g_M_readNumber a0 (0 : Int32) (5 : Int32) h) fun x9 h7 =>
  bd1 (sI2 h7 0 x3 ((12 : Int32) + x1) x9) fun h10 =>
  bd1 (gR h10 a0 8 15) fun x12 =>
  bd1 (kC h10 a0 8) fun _ =>
  bd2 (g_M_readNumber a0 (0 : Int32) (3 : Int32) h10) fun x18 h16 =>
  bd1 (sI2 h16 0 x12 x1 x18) fun h19 =>
  bd1 (gR h19 a0 8 16) fun x21 =>
  bd1 (kC h19 a0 8) fun _ =>
  bd2 (g_M_readNumber a0 (0 : Int32) (10 : Int32) h19) fun x27 h25 =>
  bd1 (sI2 h25 0 x21 x1 x27) fun h28 =>
  bd1 (gR h28 a0 8 9) fun x30 =>
  bd1 (kC h28 a0 8) fun _ =>
  bd2 (g_M_readNumber a0 (0 : Int32) (99 : Int32) h28) fun x36 h34 =>
  bd1 (sI2 h34 0 x30 ((15 : Int32) + x1) x36) fun h37 =>
  g_M_readOne_61  FU a0 x1 h37
theorem g_M_readOne_0_eq : @g_M_readOne_0 = @f_M_readOne_0 := by
  unfold g_M_readOne_0 f_M_readOne_0; rw [g_M_readNumber_eq, g_M_readOne_61_eq, sI2_eq]
def g_M_readOne (a0 : Nat) (h : mH) : Option mH := g_M_readOne_0 a0 h
theorem g_M_readOne_eq : @g_M_readOne = @f_M_readOne := by
  unfold g_M_readOne f_M_readOne; rw [g_M_readOne_0_eq]
def g_M_readLineOf_73  (b0 : Nat) (b2 : Int32) (s0 : Nat) (s1 : Int32) (h : mH) : Option mH :=
  bd1 (pV2 h s0 8 18 (.int s1)) fun h36 =>
  bd1 (gR h36 b0 8 9) fun x38 =>
  bd1 (gR h36 b0 8 9) fun x40 =>
  bd1 (aI h36 0 x40 ((21 : Int32) + b2)) fun x42 =>
  bd1 (kC h36 b0 8) fun _ =>
  bd2 (g_M_readLawOf b0 x42 h36) fun x48 h46 =>
  bd1 (sI2 h46 0 x38 ((21 : Int32) + b2) x48) fun h49 =>
  some h49
theorem g_M_readLineOf_73_eq : @g_M_readLineOf_73 = @f_M_readLineOf_73 := by
  unfold g_M_readLineOf_73 f_M_readLineOf_73; rw [g_M_readLawOf_eq, pV2_eq, sI2_eq]
def g_M_readLineOf_69  (b0 : Nat) (b2 : Int32) (s0 : Nat) (h : mH) : Option mH :=
  bd1 (gI h b0 8 18) fun x51 =>
  g_M_readLineOf_73  b0 b2 s0 x51 h
theorem g_M_readLineOf_69_eq : @g_M_readLineOf_69 = @f_M_readLineOf_69 := by
  unfold g_M_readLineOf_69 f_M_readLineOf_69; rw [g_M_readLineOf_73_eq]
def g_M_readLineOf_0  (a0 : Nat) (a1 : Int32) (h : mH) : Option mH :=
  if a1 = (0 : Int32) then
    bd1 (kC h a0 8) fun _ =>
    bd1 (g_M_readLaw a0 h) fun h4 =>
    some h4
  else
  if a1 = (1 : Int32) then
    bd1 (kC h a0 8) fun _ =>
    bd1 (g_M_readOne a0 h) fun h9 =>
    some h9
  else
  if a1 = (2 : Int32) then
    bd1 (kC h a0 8) fun _ =>
    bd2 (g_M_readNumber a0 (0 : Int32) (2 : Int32) h) fun x16 h14 =>
    bd1 (gI h14 a0 8 25) fun x17 =>
    if x17 = 0 then
      bd1 (gI h14 a0 8 18) fun x19 =>
      if x16 ≤ x19 then
        g_M_readLineOf_69  a0 x16 a0 h14
      else
        g_M_readLineOf_73  a0 x16 a0 x16 h14
    else
      g_M_readLineOf_69  a0 x16 a0 h14
  else
  bd1 (gR h a0 8 9) fun x23 =>
  bd1 (gR h a0 8 9) fun x25 =>
  bd1 (aI h 0 x25 (11 : Int32)) fun x27 =>
  bd1 (kC h a0 8) fun _ =>
  bd2 (g_M_readLawOf a0 x27 h) fun x33 h31 =>
  bd1 (sI2 h31 0 x23 (11 : Int32) x33) fun h34 =>
  some h34
theorem g_M_readLineOf_0_eq : @g_M_readLineOf_0 = @f_M_readLineOf_0 := by
  unfold g_M_readLineOf_0 f_M_readLineOf_0; rw [g_M_readLaw_eq, g_M_readOne_eq, g_M_readNumber_eq, g_M_readLineOf_69_eq, g_M_readLineOf_73_eq, g_M_readLawOf_eq, sI2_eq]
def g_M_readLineOf (a0 : Nat) (a1 : Int32) (h : mH) : Option mH := g_M_readLineOf_0 a0 a1 h
theorem g_M_readLineOf_eq : @g_M_readLineOf = @f_M_readLineOf := by
  unfold g_M_readLineOf f_M_readLineOf; rw [g_M_readLineOf_0_eq]
def g_M_readLine_111  (b0 : Nat) (h : mH) : Option mH :=
  bd1 (kC h b0 8) fun _ =>
  bd1 (g_M_next b0 h) fun h49 =>
  some h49
theorem g_M_readLine_111_eq : @g_M_readLine_111 = @f_M_readLine_111 := by
  unfold g_M_readLine_111 f_M_readLine_111; rw [g_M_next_eq]
def g_M_readLine_107  (b0 : Nat) (s0 : Nat) (s1 : Int32) (h : mH) : Option mH :=
  bd1 (kC h s0 8) fun _ =>
  bd1 (g_M_needs s0 s1 (2 : Int32) h) fun h45 =>
  g_M_readLine_111  b0 h45
theorem g_M_readLine_107_eq : @g_M_readLine_107 = @f_M_readLine_107 := by
  unfold g_M_readLine_107 f_M_readLine_107; rw [g_M_needs_eq, g_M_readLine_111_eq]
def g_M_readLine_65  (b0 : Nat) (b1 : Int32) (s0 : Nat) (s1 : Int32) (h : mH) : Option mH :=
  bd1 (kC h s0 8) fun _ =>
  bd1 (g_M_needs s0 s1 (5 : Int32) h) fun h24 =>
  bd1 (kC h24 b0 8) fun _ =>
  bd1 (g_M_next b0 h24) fun h28 =>
  bd1 (gI h28 b0 8 25) fun x30 =>
  if x30 ≤ 0 then
    bd1 (kC h28 b0 8) fun _ =>
    bd1 (g_M_readLineOf b0 b1 h28) fun h34 =>
    bd1 (gI h34 b0 8 25) fun x36 =>
    if x36 = 0 then
      bd1 (gI h34 b0 8 23) fun x38 =>
      if x38 = (3 : Int32) then
        g_M_readLine_107  b0 b0 (1 : Int32) h34
      else
        g_M_readLine_107  b0 b0 (0 : Int32) h34
    else
      g_M_readLine_111  b0 h34
  else
    some h28
theorem g_M_readLine_65_eq : @g_M_readLine_65 = @f_M_readLine_65 := by
  unfold g_M_readLine_65 f_M_readLine_65; rw [g_M_needs_eq, g_M_next_eq, g_M_readLineOf_eq, g_M_readLine_107_eq, g_M_readLine_111_eq]
def g_M_readLine_64  (b0 : Nat) (b1 : Int32) (s0 : Nat) (h : mH) : Option mH :=
  g_M_readLine_65  b0 b1 s0 (0 : Int32) h
theorem g_M_readLine_64_eq : @g_M_readLine_64 = @f_M_readLine_64 := by
  unfold g_M_readLine_64 f_M_readLine_64; rw [g_M_readLine_65_eq]
def g_M_readLine_60  (b0 : Nat) (b1 : Int32) (s0 : Nat) (h : mH) : Option mH :=
  g_M_readLine_65  b0 b1 s0 (1 : Int32) h
theorem g_M_readLine_60_eq : @g_M_readLine_60 = @f_M_readLine_60 := by
  unfold g_M_readLine_60 f_M_readLine_60; rw [g_M_readLine_65_eq]
def g_M_readLine_47  (b0 : Nat) (b1 : Int32) (s0 : Nat) (h : mH) : Option mH :=
  if b1 = (1 : Int32) then
    bd1 (gI h b0 8 11) fun x18 =>
    if (3 : Int32) ≤ x18 then
      g_M_readLine_64  b0 b1 s0 h
    else
      g_M_readLine_60  b0 b1 s0 h
  else
    g_M_readLine_60  b0 b1 s0 h
theorem g_M_readLine_47_eq : @g_M_readLine_47 = @f_M_readLine_47 := by
  unfold g_M_readLine_47 f_M_readLine_47; rw [g_M_readLine_64_eq, g_M_readLine_60_eq]
def g_M_readLine_30  (b0 : Nat) (b1 : Int32) (s0 : Nat) (s1 : Int32) (h : mH) : Option mH :=
  bd1 (kC h s0 8) fun _ =>
  bd1 (g_M_needs s0 s1 (2 : Int32) h) fun h12 =>
  if b1 = 0 then
    bd1 (gI h12 b0 8 10) fun x14 =>
    if (5 : Int32) ≤ x14 then
      g_M_readLine_64  b0 b1 b0 h12
    else
      g_M_readLine_47  b0 b1 b0 h12
  else
    g_M_readLine_47  b0 b1 b0 h12
theorem g_M_readLine_30_eq : @g_M_readLine_30 = @f_M_readLine_30 := by
  unfold g_M_readLine_30 f_M_readLine_30; rw [g_M_needs_eq, g_M_readLine_64_eq, g_M_readLine_47_eq]
def g_M_readLine_17  (b0 : Nat) (s0 : Int32) (h : mH) : Option mH :=
  if s0 = ((-4) : Int32) then
    g_M_readLine_30  b0 s0 b0 (0 : Int32) h
  else
    g_M_readLine_30  b0 s0 b0 (1 : Int32) h
theorem g_M_readLine_17_eq : @g_M_readLine_17 = @f_M_readLine_17 := by
  unfold g_M_readLine_17 f_M_readLine_17; rw [g_M_readLine_30_eq]
def g_M_readLine_0  (a0 : Nat) (h : mH) : Option mH :=
  bd1 (gI h a0 8 23) fun x1 =>
  if x1 = (1 : Int32) then
    bd1 (kC h a0 8) fun _ =>
    bd2 (g_M_lineNow a0 h) fun x7 h5 =>
    g_M_readLine_17  a0 x7 h5
  else
    g_M_readLine_17  a0 ((-4) : Int32) h
theorem g_M_readLine_0_eq : @g_M_readLine_0 = @f_M_readLine_0 := by
  unfold g_M_readLine_0 f_M_readLine_0; rw [g_M_lineNow_eq, g_M_readLine_17_eq]
def g_M_readLine (a0 : Nat) (h : mH) : Option mH := g_M_readLine_0 a0 h
theorem g_M_readLine_eq : @g_M_readLine = @f_M_readLine := by
  unfold g_M_readLine f_M_readLine; rw [g_M_readLine_0_eq]
def g_M_text_20b (rec20 : Nat → Int32 → mH → Option (Int32 × mH)) (b0 : Nat) (b1 : Int32) (h : mH) : Option (Int32 × mH) :=
  bd1 (gI h b0 8 25) fun x13 =>
  if x13 = 0 then
    bd1 (gI h b0 8 23) fun x15 =>
    if x15 = 0 then
      g_M_text_44  b0 b1 h
    else
      bd1 (kC h b0 8) fun _ =>
      bd1 (g_M_readLine b0 h) fun h19 =>
      incI b1 fun bb => rec20 b0 bb h19
  else
    g_M_text_44  b0 b1 h
theorem g_M_text_20b_eq : @g_M_text_20b = @f_M_text_20b := by
  unfold g_M_text_20b f_M_text_20b; rw [g_M_text_44_eq, g_M_readLine_eq, incI_eq]
def g_M_text_20  : Nat → Nat → Int32 → mH → Option (Int32 × mH)
  | 0 => fun _ _ _ => none
  | n + 1 => g_M_text_20b  (g_M_text_20  n)
theorem g_M_text_20_eq : @g_M_text_20 = @f_M_text_20 := by
  funext  n
  induction n with
  | zero => rfl
  | succ n ih => show g_M_text_20b  (g_M_text_20  n) = f_M_text_20b  (f_M_text_20  n); rw [ih, g_M_text_20b_eq]
def g_M_text_0  (a0 : Nat) (h : mH) : Option (Int32 × mH) :=
  bd1 (pV2 h a0 8 25 (.int (0 : Int32))) fun h1 =>
  bd1 (pV2 h1 a0 8 21 (.int (0 : Int32))) fun h3 =>
  bd1 (kC h3 a0 8) fun _ =>
  bd1 (g_M_firstDraft a0 h3) fun h7 =>
  bd1 (kC h7 a0 8) fun _ =>
  bd1 (g_M_next a0 h7) fun h11 =>
  g_M_text_20  FU a0 (0 : Int32) h11
theorem g_M_text_0_eq : @g_M_text_0 = @f_M_text_0 := by
  unfold g_M_text_0 f_M_text_0; rw [g_M_firstDraft_eq, g_M_next_eq, g_M_text_20_eq, pV2_eq]
def g_M_text (a0 : Nat) (h : mH) : Option (Int32 × mH) := g_M_text_0 a0 h
theorem g_M_text_eq : @g_M_text = @f_M_text := by
  unfold g_M_text f_M_text; rw [g_M_text_0_eq]
def g_Realm_eachForHimself_71  (b1 : Int32) (h : mH) : Option (Int32 × mH) :=
  some (b1, h)
theorem g_Realm_eachForHimself_71_eq : @g_Realm_eachForHimself_71 = @f_Realm_eachForHimself_71 := by
  rfl
def g_Realm_brokenBy_0  (a0 : Nat) (a1 : Int32) (a2 : Int32) (h : mH) : Option (Int32 × mH) :=
  bd1 (gR h a0 4 17) fun x1 =>
  bd1 (aI h 0 x1 ((a1 * (5 : Int32)) + a2)) fun x3 =>
  some (x3, h)
theorem g_Realm_brokenBy_0_eq : @g_Realm_brokenBy_0 = @f_Realm_brokenBy_0 := by
  rfl
def g_Realm_brokenBy (a0 : Nat) (a1 : Int32) (a2 : Int32) (h : mH) : Option (Int32 × mH) := g_Realm_brokenBy_0 a0 a1 a2 h
theorem g_Realm_brokenBy_eq : @g_Realm_brokenBy = @f_Realm_brokenBy := by
  unfold g_Realm_brokenBy f_Realm_brokenBy; rw [g_Realm_brokenBy_0_eq]
def g_Realm_roomOf_29  (b0 : Nat) (b1 : Int32) (b2 : Int32) (s0 : Int32) (h : mH) : Option (Int32 × mH) :=
  if s0 = 0 then
    some ((0 : Int32), h)
  else
    bd1 (gR h b0 4 7) fun x15 =>
    bd1 (aI h 0 x15 b2) fun x17 =>
    bd1 (kC h b0 4) fun _ =>
    bd2 (g_Realm_brokenBy b0 b1 b2 h) fun x23 h21 =>
    some (if (0 : Int32) < (x17 - x23) then (x17 - x23) else (0 : Int32), h21)
theorem g_Realm_roomOf_29_eq : @g_Realm_roomOf_29 = @f_Realm_roomOf_29 := by
  unfold g_Realm_roomOf_29 f_Realm_roomOf_29; rw [g_Realm_brokenBy_eq]
def g_Realm_roomOf_28  (b0 : Nat) (b1 : Int32) (b2 : Int32) (h : mH) : Option (Int32 × mH) :=
  g_Realm_roomOf_29  b0 b1 b2 (0 : Int32) h
theorem g_Realm_roomOf_28_eq : @g_Realm_roomOf_28 = @f_Realm_roomOf_28 := by
  unfold g_Realm_roomOf_28 f_Realm_roomOf_28; rw [g_Realm_roomOf_29_eq]
def g_Realm_roomOf_0  (a0 : Nat) (a1 : Int32) (a2 : Int32) (h : mH) : Option (Int32 × mH) :=
  bd1 (gI h a0 4 4) fun x1 =>
  bd2 (g_Q_hasBit x1 a2 h) fun x5 h3 =>
  if x5 = 0 then
    g_Realm_roomOf_28  a0 a1 a2 h3
  else
    bd1 (gR h3 a0 4 15) fun x6 =>
    bd1 (aI h3 0 x6 a1) fun x8 =>
    bd2 (g_Q_hasBit x8 a2 h3) fun x12 h10 =>
    if x12 = 0 then
      g_Realm_roomOf_29  a0 a1 a2 (1 : Int32) h10
    else
      g_Realm_roomOf_28  a0 a1 a2 h10
theorem g_Realm_roomOf_0_eq : @g_Realm_roomOf_0 = @f_Realm_roomOf_0 := by
  unfold g_Realm_roomOf_0 f_Realm_roomOf_0; rw [g_Q_hasBit_eq, g_Realm_roomOf_28_eq, g_Realm_roomOf_29_eq]
def g_Realm_roomOf (a0 : Nat) (a1 : Int32) (a2 : Int32) (h : mH) : Option (Int32 × mH) := g_Realm_roomOf_0 a0 a1 a2 h
theorem g_Realm_roomOf_eq : @g_Realm_roomOf = @f_Realm_roomOf := by
  unfold g_Realm_roomOf f_Realm_roomOf; rw [g_Realm_roomOf_0_eq]
def g_Realm_brokenByOne_4b (rec4 : Nat → Int32 → Int32 → Int32 → mH → Option (Int32 × mH)) (b0 : Nat) (b1 : Int32) (b2 : Int32) (b3 : Int32) (h : mH) : Option (Int32 × mH) :=
  bd1 (gI h b0 4 0) fun x1 =>
  if x1 ≤ b3 then
    some (b2, h)
  else
    bd1 (gR h b0 4 17) fun x3 =>
    bd1 (aI h 0 x3 ((b1 * (5 : Int32)) + b3)) fun x5 =>
    rec4 b0 b1 (b2 + x5) (b3 + (1 : Int32)) h
theorem g_Realm_brokenByOne_4b_eq : @g_Realm_brokenByOne_4b = @f_Realm_brokenByOne_4b := by
  rfl
def g_Realm_brokenByOne_4  : Nat → Nat → Int32 → Int32 → Int32 → mH → Option (Int32 × mH)
  | 0 => fun _ _ _ _ _ => none
  | n + 1 => g_Realm_brokenByOne_4b  (g_Realm_brokenByOne_4  n)
theorem g_Realm_brokenByOne_4_eq : @g_Realm_brokenByOne_4 = @f_Realm_brokenByOne_4 := by
  funext  n
  induction n with
  | zero => rfl
  | succ n ih => show g_Realm_brokenByOne_4b  (g_Realm_brokenByOne_4  n) = f_Realm_brokenByOne_4b  (f_Realm_brokenByOne_4  n); rw [ih, g_Realm_brokenByOne_4b_eq]
def g_Realm_brokenByOne_0  (a0 : Nat) (a1 : Int32) (h : mH) : Option (Int32 × mH) :=
  g_Realm_brokenByOne_4  FU a0 a1 (0 : Int32) (0 : Int32) h
theorem g_Realm_brokenByOne_0_eq : @g_Realm_brokenByOne_0 = @f_Realm_brokenByOne_0 := by
  unfold g_Realm_brokenByOne_0 f_Realm_brokenByOne_0; rw [g_Realm_brokenByOne_4_eq]
def g_Realm_brokenByOne (a0 : Nat) (a1 : Int32) (h : mH) : Option (Int32 × mH) := g_Realm_brokenByOne_0 a0 a1 h
theorem g_Realm_brokenByOne_eq : @g_Realm_brokenByOne = @f_Realm_brokenByOne := by
  unfold g_Realm_brokenByOne f_Realm_brokenByOne; rw [g_Realm_brokenByOne_0_eq]
def g_Realm_timeLeft_0  (a0 : Nat) (a1 : Int32) (h : mH) : Option (Int32 × mH) :=
  bd1 (gR h a0 4 11) fun x1 =>
  bd1 (aI h 0 x1 a1) fun x3 =>
  bd1 (kC h a0 4) fun _ =>
  bd2 (g_Realm_brokenByOne a0 a1 h) fun x9 h7 =>
  some (if (0 : Int32) < (x3 - x9) then (x3 - x9) else (0 : Int32), h7)
theorem g_Realm_timeLeft_0_eq : @g_Realm_timeLeft_0 = @f_Realm_timeLeft_0 := by
  unfold g_Realm_timeLeft_0 f_Realm_timeLeft_0; rw [g_Realm_brokenByOne_eq]
def g_Realm_timeLeft (a0 : Nat) (a1 : Int32) (h : mH) : Option (Int32 × mH) := g_Realm_timeLeft_0 a0 a1 h
theorem g_Realm_timeLeft_eq : @g_Realm_timeLeft = @f_Realm_timeLeft := by
  unfold g_Realm_timeLeft f_Realm_timeLeft; rw [g_Realm_timeLeft_0_eq]
def g_Realm_ableAlone_0  (a0 : Nat) (a1 : Int32) (a2 : Int32) (h : mH) : Option (Int32 × mH) :=
  bd1 (kC h a0 4) fun _ =>
  bd2 (g_Realm_roomOf a0 a1 a2 h) fun x5 h3 =>
  bd1 (kC h3 a0 4) fun _ =>
  bd2 (g_Realm_timeLeft a0 a1 h3) fun x10 h8 =>
  some (if x10 < x5 then x10 else x5, h8)
theorem g_Realm_ableAlone_0_eq : @g_Realm_ableAlone_0 = @f_Realm_ableAlone_0 := by
  unfold g_Realm_ableAlone_0 f_Realm_ableAlone_0; rw [g_Realm_roomOf_eq, g_Realm_timeLeft_eq]
def g_Realm_ableAlone (a0 : Nat) (a1 : Int32) (a2 : Int32) (h : mH) : Option (Int32 × mH) := g_Realm_ableAlone_0 a0 a1 a2 h
theorem g_Realm_ableAlone_eq : @g_Realm_ableAlone = @f_Realm_ableAlone := by
  unfold g_Realm_ableAlone f_Realm_ableAlone; rw [g_Realm_ableAlone_0_eq]
def g_Realm_breakable_29 (rec4 : Nat → Int32 → Int32 → Int32 → mH → Option (Int32 × mH)) (b0 : Nat) (b1 : Int32) (b3 : Int32) (s0 : Int32) (s1 : Int32) (h : mH) : Option (Int32 × mH) :=
  rec4 b0 b1 (s0 ||| s1) (b3 + (1 : Int32)) h
theorem g_Realm_breakable_29_eq : @g_Realm_breakable_29 = @f_Realm_breakable_29 := by
  rfl
def g_Realm_breakable_4b (rec4 : Nat → Int32 → Int32 → Int32 → mH → Option (Int32 × mH)) (b0 : Nat) (b1 : Int32) (b2 : Int32) (b3 : Int32) (h : mH) : Option (Int32 × mH) :=
  bd1 (gI h b0 4 0) fun x1 =>
  if x1 ≤ b3 then
    some (b2, h)
  else
    bd1 (kC h b0 4) fun _ =>
    bd2 (g_Realm_ableAlone b0 b1 b3 h) fun x7 h5 =>
    if x7 ≤ 0 then
      g_Realm_breakable_29 rec4 b0 b1 b3 b2 (0 : Int32) h5
    else
      g_Realm_breakable_29 rec4 b0 b1 b3 b2 ((1 : Int32) <<< (b3 &&& 31)) h5
theorem g_Realm_breakable_4b_eq : @g_Realm_breakable_4b = @f_Realm_breakable_4b := by
  unfold g_Realm_breakable_4b f_Realm_breakable_4b; rw [g_Realm_ableAlone_eq, g_Realm_breakable_29_eq]
def g_Realm_breakable_4  : Nat → Nat → Int32 → Int32 → Int32 → mH → Option (Int32 × mH)
  | 0 => fun _ _ _ _ _ => none
  | n + 1 => g_Realm_breakable_4b  (g_Realm_breakable_4  n)
theorem g_Realm_breakable_4_eq : @g_Realm_breakable_4 = @f_Realm_breakable_4 := by
  funext  n
  induction n with
  | zero => rfl
  | succ n ih => show g_Realm_breakable_4b  (g_Realm_breakable_4  n) = f_Realm_breakable_4b  (f_Realm_breakable_4  n); rw [ih, g_Realm_breakable_4b_eq]
def g_Realm_breakable_0  (a0 : Nat) (a1 : Int32) (h : mH) : Option (Int32 × mH) :=
  g_Realm_breakable_4  FU a0 a1 (0 : Int32) (0 : Int32) h
theorem g_Realm_breakable_0_eq : @g_Realm_breakable_0 = @f_Realm_breakable_0 := by
  unfold g_Realm_breakable_0 f_Realm_breakable_0; rw [g_Realm_breakable_4_eq]
def g_Realm_breakable (a0 : Nat) (a1 : Int32) (h : mH) : Option (Int32 × mH) := g_Realm_breakable_0 a0 a1 h
theorem g_Realm_breakable_eq : @g_Realm_breakable = @f_Realm_breakable := by
  unfold g_Realm_breakable f_Realm_breakable; rw [g_Realm_breakable_0_eq]
def g_Realm_mostNeeded_62 (rec22 : Nat → Int32 → Int32 → Int32 → Int32 → mH → Option (Int32 × mH)) (b0 : Nat) (b2 : Int32) (b3 : Int32) (b4 : Int32) (b5 : Int32) (h : mH) : Option (Int32 × mH) :=
  incI b5 fun bb => rec22 b0 b2 b3 b4 bb h
theorem g_Realm_mostNeeded_62_eq : @g_Realm_mostNeeded_62 = @f_Realm_mostNeeded_62 := by
  unfold g_Realm_mostNeeded_62 f_Realm_mostNeeded_62; rw [incI_eq]
def g_Realm_needOf_22b (rec22 : Nat → Int32 → Int32 → Int32 → mH → Option (Int32 × mH)) (b0 : Nat) (b1 : Int32) (b2 : Int32) (b3 : Int32) (h : mH) : Option (Int32 × mH) :=
  bd1 (gI h b0 4 1) fun x11 =>
  if x11 ≤ b3 then
    some (if (0 : Int32) < b2 then b2 else (0 : Int32), h)
  else
    bd1 (kC h b0 4) fun _ =>
    bd2 (g_Realm_brokenBy b0 b3 b1 h) fun x17 h15 =>
    rec22 b0 b1 (b2 - x17) (b3 + (1 : Int32)) h15
theorem g_Realm_needOf_22b_eq : @g_Realm_needOf_22b = @f_Realm_needOf_22b := by
  unfold g_Realm_needOf_22b f_Realm_needOf_22b; rw [g_Realm_brokenBy_eq]
def g_Realm_needOf_22  : Nat → Nat → Int32 → Int32 → Int32 → mH → Option (Int32 × mH)
  | 0 => fun _ _ _ _ _ => none
  | n + 1 => g_Realm_needOf_22b  (g_Realm_needOf_22  n)
theorem g_Realm_needOf_22_eq : @g_Realm_needOf_22 = @f_Realm_needOf_22 := by
  funext  n
  induction n with
  | zero => rfl
  | succ n ih => show g_Realm_needOf_22b  (g_Realm_needOf_22  n) = f_Realm_needOf_22b  (f_Realm_needOf_22  n); rw [ih, g_Realm_needOf_22b_eq]
def g_Realm_needOf_0  (a0 : Nat) (a1 : Int32) (h : mH) : Option (Int32 × mH) :=
  bd1 (gI h a0 4 4) fun x1 =>
  bd2 (g_Q_hasBit x1 a1 h) fun x5 h3 =>
  if x5 = 0 then
    some ((0 : Int32), h3)
  else
    bd1 (gR h3 a0 4 6) fun x6 =>
    bd1 (aI h3 0 x6 a1) fun x8 =>
    g_Realm_needOf_22  FU a0 a1 x8 (0 : Int32) h3
theorem g_Realm_needOf_0_eq : @g_Realm_needOf_0 = @f_Realm_needOf_0 := by
  unfold g_Realm_needOf_0 f_Realm_needOf_0; rw [g_Q_hasBit_eq, g_Realm_needOf_22_eq]
def g_Realm_needOf (a0 : Nat) (a1 : Int32) (h : mH) : Option (Int32 × mH) := g_Realm_needOf_0 a0 a1 h
theorem g_Realm_needOf_eq : @g_Realm_needOf = @f_Realm_needOf := by
  unfold g_Realm_needOf f_Realm_needOf; rw [g_Realm_needOf_0_eq]
def g_Realm_mostNeeded_22b (rec22 : Nat → Int32 → Int32 → Int32 → Int32 → mH → Option (Int32 × mH)) (b0 : Nat) (b2 : Int32) (b3 : Int32) (b4 : Int32) (b5 : Int32) (h : mH) : Option (Int32 × mH) :=
  bd1 (gI h b0 4 0) fun x10 =>
  if x10 ≤ b5 then
    some (b3, h)
  else
    bd2 (g_Q_hasBit b2 b5 h) fun x14 h12 =>
    if x14 = 0 then
      g_Realm_mostNeeded_62 rec22 b0 b2 b3 b4 b5 h12
    else
      bd1 (kC h12 b0 4) fun _ =>
      bd2 (g_Realm_needOf b0 b5 h12) fun x19 h17 =>
      if x19 ≤ b4 then
        g_Realm_mostNeeded_62 rec22 b0 b2 b3 b4 b5 h17
      else
        bd1 (kC h17 b0 4) fun _ =>
        bd2 (g_Realm_needOf b0 b5 h17) fun x24 h22 =>
        g_Realm_mostNeeded_62 rec22 b0 b2 b5 x24 b5 h22
theorem g_Realm_mostNeeded_22b_eq : @g_Realm_mostNeeded_22b = @f_Realm_mostNeeded_22b := by
  unfold g_Realm_mostNeeded_22b f_Realm_mostNeeded_22b; rw [g_Q_hasBit_eq, g_Realm_mostNeeded_62_eq, g_Realm_needOf_eq]
def g_Realm_mostNeeded_22  : Nat → Nat → Int32 → Int32 → Int32 → Int32 → mH → Option (Int32 × mH)
  | 0 => fun _ _ _ _ _ _ => none
  | n + 1 => g_Realm_mostNeeded_22b  (g_Realm_mostNeeded_22  n)
theorem g_Realm_mostNeeded_22_eq : @g_Realm_mostNeeded_22 = @f_Realm_mostNeeded_22 := by
  funext  n
  induction n with
  | zero => rfl
  | succ n ih => show g_Realm_mostNeeded_22b  (g_Realm_mostNeeded_22  n) = f_Realm_mostNeeded_22b  (f_Realm_mostNeeded_22  n); rw [ih, g_Realm_mostNeeded_22b_eq]
def g_Realm_mostNeeded_0  (a0 : Nat) (a1 : Int32) (h : mH) : Option (Int32 × mH) :=
  bd1 (kC h a0 4) fun _ =>
  bd2 (g_Realm_breakable a0 a1 h) fun x5 h3 =>
  bd1 (gR h3 a0 4 16) fun x6 =>
  bd1 (aI h3 0 x6 a1) fun x8 =>
  g_Realm_mostNeeded_22  FU a0 (x5 &&& x8) ((-4) : Int32) (0 : Int32) (0 : Int32) h3
theorem g_Realm_mostNeeded_0_eq : @g_Realm_mostNeeded_0 = @f_Realm_mostNeeded_0 := by
  unfold g_Realm_mostNeeded_0 f_Realm_mostNeeded_0; rw [g_Realm_breakable_eq, g_Realm_mostNeeded_22_eq]
def g_Realm_mostNeeded (a0 : Nat) (a1 : Int32) (h : mH) : Option (Int32 × mH) := g_Realm_mostNeeded_0 a0 a1 h
theorem g_Realm_mostNeeded_eq : @g_Realm_mostNeeded = @f_Realm_mostNeeded := by
  unfold g_Realm_mostNeeded f_Realm_mostNeeded; rw [g_Realm_mostNeeded_0_eq]
def g_Realm_eachForHimself_51 (rec4 : Nat → Int32 → Int32 → mH → Option (Int32 × mH)) (rec15 : Nat → Int32 → Int32 → Int32 → Int32 → mH → Option (Int32 × mH)) (b0 : Nat) (b1 : Int32) (b2 : Int32) (b3 : Int32) (b4 : Int32) (h : mH) : Option (Int32 × mH) :=
  incI b4 fun bb => rec15 b0 b1 b2 b3 bb h
theorem g_Realm_eachForHimself_51_eq : @g_Realm_eachForHimself_51 = @f_Realm_eachForHimself_51 := by
  unfold g_Realm_eachForHimself_51 f_Realm_eachForHimself_51; rw [incI_eq]
def g_Realm_mark_0  (a0 : Nat) (a1 : Int32) (a2 : Int32) (h : mH) : Option (Int32 × mH) :=
  bd1 (gR h a0 4 8) fun x1 =>
  bd1 (aI h 0 x1 a2) fun x3 =>
  bd1 (gR h a0 4 12) fun x5 =>
  bd1 (aI h 0 x5 a1) fun x7 =>
  bd1 (gR h a0 4 17) fun x9 =>
  bd1 (aI h 0 x9 ((a1 * (5 : Int32)) + a2)) fun x11 =>
  bd1 (sI2 h 0 x9 ((a1 * (5 : Int32)) + a2) (x11 + (1 : Int32))) fun h13 =>
  bd1 (gI h13 a0 4 3) fun x15 =>
  bd1 (pV2 h13 a0 4 3 (.int (x15 + (x3 + x7)))) fun h17 =>
  some (x3 + x7, h17)
theorem g_Realm_mark_0_eq : @g_Realm_mark_0 = @f_Realm_mark_0 := by
  unfold g_Realm_mark_0 f_Realm_mark_0; rw [pV2_eq, sI2_eq]
def g_Realm_mark (a0 : Nat) (a1 : Int32) (a2 : Int32) (h : mH) : Option (Int32 × mH) := g_Realm_mark_0 a0 a1 a2 h
theorem g_Realm_mark_eq : @g_Realm_mark = @f_Realm_mark := by
  unfold g_Realm_mark f_Realm_mark; rw [g_Realm_mark_0_eq]
def g_Realm_eachForHimself_15b (rec4 : Nat → Int32 → Int32 → mH → Option (Int32 × mH)) (rec15 : Nat → Int32 → Int32 → Int32 → Int32 → mH → Option (Int32 × mH)) (b0 : Nat) (b1 : Int32) (b2 : Int32) (b3 : Int32) (b4 : Int32) (h : mH) : Option (Int32 × mH) :=
  bd1 (gI h b0 4 1) fun x2 =>
  if x2 ≤ b4 then
    if b1 = b3 then
      g_Realm_eachForHimself_71  b1 h
    else
      incI b2 fun bb => rec4 b0 b1 bb h
  else
    bd1 (kC h b0 4) fun _ =>
    bd2 (g_Realm_mostNeeded b0 b4 h) fun x9 h7 =>
    if x9 = ((-4) : Int32) then
      g_Realm_eachForHimself_51 rec4 rec15 b0 b1 b2 b3 b4 h7
    else
      bd1 (kC h7 b0 4) fun _ =>
      bd2 (g_Realm_mark b0 b4 x9 h7) fun x14 h12 =>
      g_Realm_eachForHimself_51 rec4 rec15 b0 (b1 + (1 : Int32)) b2 b3 b4 h12
theorem g_Realm_eachForHimself_15b_eq : @g_Realm_eachForHimself_15b = @f_Realm_eachForHimself_15b := by
  unfold g_Realm_eachForHimself_15b f_Realm_eachForHimself_15b; rw [g_Realm_eachForHimself_71_eq, g_Realm_mostNeeded_eq, g_Realm_eachForHimself_51_eq, g_Realm_mark_eq, incI_eq]
def g_Realm_eachForHimself_15 (rec4 : Nat → Int32 → Int32 → mH → Option (Int32 × mH)) : Nat → Nat → Int32 → Int32 → Int32 → Int32 → mH → Option (Int32 × mH)
  | 0 => fun _ _ _ _ _ _ => none
  | n + 1 => g_Realm_eachForHimself_15b rec4 (g_Realm_eachForHimself_15 rec4 n)
theorem g_Realm_eachForHimself_15_eq : @g_Realm_eachForHimself_15 = @f_Realm_eachForHimself_15 := by
  funext rec4 n
  induction n with
  | zero => rfl
  | succ n ih => show g_Realm_eachForHimself_15b rec4 (g_Realm_eachForHimself_15 rec4 n) = f_Realm_eachForHimself_15b rec4 (f_Realm_eachForHimself_15 rec4 n); rw [ih, g_Realm_eachForHimself_15b_eq]
def g_Realm_eachForHimself_4b (rec4 : Nat → Int32 → Int32 → mH → Option (Int32 × mH)) (b0 : Nat) (b1 : Int32) (b2 : Int32) (h : mH) : Option (Int32 × mH) :=
  if (15 : Int32) < b2 then
    g_Realm_eachForHimself_71  b1 h
  else
    g_Realm_eachForHimself_15 rec4 FU b0 b1 b2 b1 (0 : Int32) h
theorem g_Realm_eachForHimself_4b_eq : @g_Realm_eachForHimself_4b = @f_Realm_eachForHimself_4b := by
  unfold g_Realm_eachForHimself_4b f_Realm_eachForHimself_4b; rw [g_Realm_eachForHimself_71_eq, g_Realm_eachForHimself_15_eq]
def g_Realm_eachForHimself_4  : Nat → Nat → Int32 → Int32 → mH → Option (Int32 × mH)
  | 0 => fun _ _ _ _ => none
  | n + 1 => g_Realm_eachForHimself_4b  (g_Realm_eachForHimself_4  n)
theorem g_Realm_eachForHimself_4_eq : @g_Realm_eachForHimself_4 = @f_Realm_eachForHimself_4 := by
  funext  n
  induction n with
  | zero => rfl
  | succ n ih => show g_Realm_eachForHimself_4b  (g_Realm_eachForHimself_4  n) = f_Realm_eachForHimself_4b  (f_Realm_eachForHimself_4  n); rw [ih, g_Realm_eachForHimself_4b_eq]
def g_Realm_eachForHimself_0  (a0 : Nat) (h : mH) : Option (Int32 × mH) :=
  g_Realm_eachForHimself_4  FU a0 (0 : Int32) (0 : Int32) h
theorem g_Realm_eachForHimself_0_eq : @g_Realm_eachForHimself_0 = @f_Realm_eachForHimself_0 := by
  unfold g_Realm_eachForHimself_0 f_Realm_eachForHimself_0; rw [g_Realm_eachForHimself_4_eq]
def g_Realm_eachForHimself (a0 : Nat) (h : mH) : Option (Int32 × mH) := g_Realm_eachForHimself_0 a0 h
theorem g_Realm_eachForHimself_eq : @g_Realm_eachForHimself = @f_Realm_eachForHimself := by
  unfold g_Realm_eachForHimself f_Realm_eachForHimself; rw [g_Realm_eachForHimself_0_eq]
def g_Realm_met_28 (rec4 : Nat → Int32 → Int32 → mH → Option (Int32 × mH)) (b0 : Nat) (b2 : Int32) (s0 : Int32) (s1 : Int32) (h : mH) : Option (Int32 × mH) :=
  rec4 b0 (s0 ||| s1) (b2 + (1 : Int32)) h
theorem g_Realm_met_28_eq : @g_Realm_met_28 = @f_Realm_met_28 := by
  rfl
def g_Realm_met_4b (rec4 : Nat → Int32 → Int32 → mH → Option (Int32 × mH)) (b0 : Nat) (b1 : Int32) (b2 : Int32) (h : mH) : Option (Int32 × mH) :=
  bd1 (gI h b0 4 0) fun x1 =>
  if x1 ≤ b2 then
    bd1 (gI h b0 4 4) fun x3 =>
    some (b1 &&& x3, h)
  else
    bd1 (kC h b0 4) fun _ =>
    bd2 (g_Realm_needOf b0 b2 h) fun x9 h7 =>
    if x9 = 0 then
      g_Realm_met_28 rec4 b0 b2 b1 ((1 : Int32) <<< (b2 &&& 31)) h7
    else
      g_Realm_met_28 rec4 b0 b2 b1 (0 : Int32) h7
theorem g_Realm_met_4b_eq : @g_Realm_met_4b = @f_Realm_met_4b := by
  unfold g_Realm_met_4b f_Realm_met_4b; rw [g_Realm_needOf_eq, g_Realm_met_28_eq]
def g_Realm_met_4  : Nat → Nat → Int32 → Int32 → mH → Option (Int32 × mH)
  | 0 => fun _ _ _ _ => none
  | n + 1 => g_Realm_met_4b  (g_Realm_met_4  n)
theorem g_Realm_met_4_eq : @g_Realm_met_4 = @f_Realm_met_4 := by
  funext  n
  induction n with
  | zero => rfl
  | succ n ih => show g_Realm_met_4b  (g_Realm_met_4  n) = f_Realm_met_4b  (f_Realm_met_4  n); rw [ih, g_Realm_met_4b_eq]
def g_Realm_met_0  (a0 : Nat) (h : mH) : Option (Int32 × mH) :=
  g_Realm_met_4  FU a0 (0 : Int32) (0 : Int32) h
theorem g_Realm_met_0_eq : @g_Realm_met_0 = @f_Realm_met_0 := by
  unfold g_Realm_met_0 f_Realm_met_0; rw [g_Realm_met_4_eq]
def g_Realm_met (a0 : Nat) (h : mH) : Option (Int32 × mH) := g_Realm_met_0 a0 h
theorem g_Realm_met_eq : @g_Realm_met = @f_Realm_met := by
  unfold g_Realm_met f_Realm_met; rw [g_Realm_met_0_eq]
def g_Q_selfish_0  (a0 : Nat) (a1 : Int32) (h : mH) : Option (Int32 × mH) :=
  bd2 (g_Q_isWithin a1 (0 : Int32) (2 : Int32) h) fun x3 h1 =>
  if x3 = 0 then
    some (((-1) : Int32), h1)
  else
    bd1 (gR h1 a0 0 2) fun x4 =>
    bd1 (gR h1 a0 0 1) fun x6 =>
    bd1 (kC h1 x4 4) fun _ =>
    bd1 (g_Realm_copyFrom x4 x6 h1) fun h10 =>
    bd1 (gR h10 a0 0 2) fun x12 =>
    bd1 (kC h10 x12 4) fun _ =>
    bd2 (g_Realm_eachForHimself x12 h10) fun x18 h16 =>
    if a1 = (0 : Int32) then
      bd1 (gR h16 a0 0 2) fun x20 =>
      bd1 (kC h16 x20 4) fun _ =>
      bd2 (g_Realm_met x20 h16) fun x26 h24 =>
      some (x26, h24)
    else
    if a1 = (1 : Int32) then
      some (x18, h16)
    else
    bd1 (gR h16 a0 0 2) fun x28 =>
    bd1 (gI h16 x28 4 3) fun x30 =>
    bd1 (gR h16 a0 0 1) fun x32 =>
    bd1 (gI h16 x32 4 3) fun x34 =>
    some (x30 - x34, h16)
theorem g_Q_selfish_0_eq : @g_Q_selfish_0 = @f_Q_selfish_0 := by
  unfold g_Q_selfish_0 f_Q_selfish_0; rw [g_Q_isWithin_eq, g_Realm_copyFrom_eq, g_Realm_eachForHimself_eq, g_Realm_met_eq]
def g_Q_selfish (a0 : Nat) (a1 : Int32) (h : mH) : Option (Int32 × mH) := g_Q_selfish_0 a0 a1 h
theorem g_Q_selfish_eq : @g_Q_selfish = @f_Q_selfish := by
  unfold g_Q_selfish f_Q_selfish; rw [g_Q_selfish_0_eq]
def g_M_saves_2b (rec2 : Nat → Int32 → mH → Option mH) (b0 : Nat) (b1 : Int32) (h : mH) : Option mH :=
  if (66 : Int32) ≤ b1 then
    some h
  else
    bd1 (gR h b0 8 31) fun x1 =>
    bd1 (gR h b0 8 0) fun x3 =>
    bd1 (aI h 0 x3 b1) fun x5 =>
    bd1 (sI2 h 0 x1 b1 x5) fun h7 =>
    incI b1 fun bb => rec2 b0 bb h7
theorem g_M_saves_2b_eq : @g_M_saves_2b = @f_M_saves_2b := by
  unfold g_M_saves_2b f_M_saves_2b; rw [sI2_eq, incI_eq]
def g_M_saves_2  : Nat → Nat → Int32 → mH → Option mH
  | 0 => fun _ _ _ => none
  | n + 1 => g_M_saves_2b  (g_M_saves_2  n)
theorem g_M_saves_2_eq : @g_M_saves_2 = @f_M_saves_2 := by
  funext  n
  induction n with
  | zero => rfl
  | succ n ih => show g_M_saves_2b  (g_M_saves_2  n) = f_M_saves_2b  (f_M_saves_2  n); rw [ih, g_M_saves_2b_eq]
def g_M_saves_0  (a0 : Nat) (h : mH) : Option mH :=
  g_M_saves_2  FU a0 (0 : Int32) h
theorem g_M_saves_0_eq : @g_M_saves_0 = @f_M_saves_0 := by
  unfold g_M_saves_0 f_M_saves_0; rw [g_M_saves_2_eq]
def g_M_saves (a0 : Nat) (h : mH) : Option mH := g_M_saves_0 a0 h
theorem g_M_saves_eq : @g_M_saves = @f_M_saves := by
  unfold g_M_saves f_M_saves; rw [g_M_saves_0_eq]
def g_M_returns_2b (rec2 : Nat → Int32 → mH → Option mH) (b0 : Nat) (b1 : Int32) (h : mH) : Option mH :=
  if (66 : Int32) ≤ b1 then
    some h
  else
    bd1 (gR h b0 8 0) fun x1 =>
    bd1 (gR h b0 8 31) fun x3 =>
    bd1 (aI h 0 x3 b1) fun x5 =>
    bd1 (sI2 h 0 x1 b1 x5) fun h7 =>
    incI b1 fun bb => rec2 b0 bb h7
theorem g_M_returns_2b_eq : @g_M_returns_2b = @f_M_returns_2b := by
  unfold g_M_returns_2b f_M_returns_2b; rw [sI2_eq, incI_eq]
def g_M_returns_2  : Nat → Nat → Int32 → mH → Option mH
  | 0 => fun _ _ _ => none
  | n + 1 => g_M_returns_2b  (g_M_returns_2  n)
theorem g_M_returns_2_eq : @g_M_returns_2 = @f_M_returns_2 := by
  funext  n
  induction n with
  | zero => rfl
  | succ n ih => show g_M_returns_2b  (g_M_returns_2  n) = f_M_returns_2b  (f_M_returns_2  n); rw [ih, g_M_returns_2b_eq]
def g_M_returns_0  (a0 : Nat) (h : mH) : Option mH :=
  g_M_returns_2  FU a0 (0 : Int32) h
theorem g_M_returns_0_eq : @g_M_returns_0 = @f_M_returns_0 := by
  unfold g_M_returns_0 f_M_returns_0; rw [g_M_returns_2_eq]
def g_M_returns (a0 : Nat) (h : mH) : Option mH := g_M_returns_0 a0 h
theorem g_M_returns_eq : @g_M_returns = @f_M_returns := by
  unfold g_M_returns f_M_returns; rw [g_M_returns_0_eq]
def g_M_doesStand_0  (a0 : Nat) (a1 : Int32) (h : mH) : Option (Int32 × mH) :=
  bd1 (gR h a0 8 0) fun x1 =>
  bd1 (aI h 0 x1 (10 : Int32)) fun x3 =>
  if ((x3 >>> (a1 &&& 31)) &&& (1 : Int32)) = (1 : Int32) then
    some ((1 : Int32), h)
  else
    some ((0 : Int32), h)
theorem g_M_doesStand_0_eq : @g_M_doesStand_0 = @f_M_doesStand_0 := by
  rfl
def g_M_doesStand (a0 : Nat) (a1 : Int32) (h : mH) : Option (Int32 × mH) := g_M_doesStand_0 a0 a1 h
theorem g_M_doesStand_eq : @g_M_doesStand = @f_M_doesStand := by
  unfold g_M_doesStand f_M_doesStand; rw [g_M_doesStand_0_eq]
def g_M_flag_0  (a0 : Int32) (h : mH) : Option (Int32 × mH) :=
  if a0 = 0 then
    some ((0 : Int32), h)
  else
    some ((1 : Int32), h)
theorem g_M_flag_0_eq : @g_M_flag_0 = @f_M_flag_0 := by
  rfl
def g_M_flag (a0 : Int32) (h : mH) : Option (Int32 × mH) := g_M_flag_0 a0 h
theorem g_M_flag_eq : @g_M_flag = @f_M_flag := by
  unfold g_M_flag f_M_flag; rw [g_M_flag_0_eq]
def g_M_selfish_152 (rec118 : Nat → Int32 → Int32 → Int32 → Int32 → Int32 → mH → Option (Int32 × mH)) (b0 : Nat) (b1 : Int32) (b2 : Int32) (b3 : Int32) (b6 : Int32) (s0 : Int32) (s1 : Int32) (h : mH) : Option (Int32 × mH) :=
  bd2 (g_M_flag s1 h) fun x56 h54 =>
  rec118 b0 b1 b2 b3 (s0 ||| (x56 <<< (b6 &&& 31))) (b6 + (1 : Int32)) h54
theorem g_M_selfish_152_eq : @g_M_selfish_152 = @f_M_selfish_152 := by
  unfold g_M_selfish_152 f_M_selfish_152; rw [g_M_flag_eq]
def g_M_selfish_151 (rec118 : Nat → Int32 → Int32 → Int32 → Int32 → Int32 → mH → Option (Int32 × mH)) (b0 : Nat) (b1 : Int32) (b2 : Int32) (b3 : Int32) (b6 : Int32) (s0 : Int32) (h : mH) : Option (Int32 × mH) :=
  g_M_selfish_152 rec118 b0 b1 b2 b3 b6 s0 (0 : Int32) h
theorem g_M_selfish_151_eq : @g_M_selfish_151 = @f_M_selfish_151 := by
  unfold g_M_selfish_151 f_M_selfish_151; rw [g_M_selfish_152_eq]
def g_M_brokenBy_0  (a0 : Nat) (a1 : Int32) (a2 : Int32) (h : mH) : Option (Int32 × mH) :=
  bd1 (gR h a0 8 0) fun x1 =>
  bd1 (aI h 0 x1 (((24 : Int32) + ((5 : Int32) * a1)) + a2)) fun x3 =>
  some (x3, h)
theorem g_M_brokenBy_0_eq : @g_M_brokenBy_0 = @f_M_brokenBy_0 := by
  rfl
def g_M_brokenBy (a0 : Nat) (a1 : Int32) (a2 : Int32) (h : mH) : Option (Int32 × mH) := g_M_brokenBy_0 a0 a1 a2 h
theorem g_M_brokenBy_eq : @g_M_brokenBy = @f_M_brokenBy := by
  unfold g_M_brokenBy f_M_brokenBy; rw [g_M_brokenBy_0_eq]
def g_M_needOf_23b (rec23 : Nat → Int32 → Int32 → Int32 → mH → Option (Int32 × mH)) (b0 : Nat) (b1 : Int32) (b2 : Int32) (b3 : Int32) (h : mH) : Option (Int32 × mH) :=
  bd1 (gI h b0 8 3) fun x11 =>
  if x11 ≤ b3 then
    if 0 ≤ b2 then
      some (b2, h)
    else
      some ((0 : Int32), h)
  else
    bd1 (kC h b0 8) fun _ =>
    bd2 (g_M_brokenBy b0 b3 b1 h) fun x18 h16 =>
    rec23 b0 b1 (b2 - x18) (b3 + (1 : Int32)) h16
theorem g_M_needOf_23b_eq : @g_M_needOf_23b = @f_M_needOf_23b := by
  unfold g_M_needOf_23b f_M_needOf_23b; rw [g_M_brokenBy_eq]
def g_M_needOf_23  : Nat → Nat → Int32 → Int32 → Int32 → mH → Option (Int32 × mH)
  | 0 => fun _ _ _ _ _ => none
  | n + 1 => g_M_needOf_23b  (g_M_needOf_23  n)
theorem g_M_needOf_23_eq : @g_M_needOf_23 = @f_M_needOf_23 := by
  funext  n
  induction n with
  | zero => rfl
  | succ n ih => show g_M_needOf_23b  (g_M_needOf_23  n) = f_M_needOf_23b  (f_M_needOf_23  n); rw [ih, g_M_needOf_23b_eq]
def g_M_needOf_20  (b0 : Nat) (b1 : Int32) (s0 : Int32) (h : mH) : Option (Int32 × mH) :=
  g_M_needOf_23  FU b0 b1 s0 (0 : Int32) h
theorem g_M_needOf_20_eq : @g_M_needOf_20 = @f_M_needOf_20 := by
  unfold g_M_needOf_20 f_M_needOf_20; rw [g_M_needOf_23_eq]
def g_M_needOf_0  (a0 : Nat) (a1 : Int32) (h : mH) : Option (Int32 × mH) :=
  bd1 (kC h a0 8) fun _ =>
  bd2 (g_M_doesStand a0 a1 h) fun x5 h3 =>
  if x5 = 0 then
    g_M_needOf_20  a0 a1 (0 : Int32) h3
  else
    bd1 (gR h3 a0 8 0) fun x6 =>
    bd1 (aI h3 0 x6 ((0 : Int32) + a1)) fun x8 =>
    g_M_needOf_20  a0 a1 x8 h3
theorem g_M_needOf_0_eq : @g_M_needOf_0 = @f_M_needOf_0 := by
  unfold g_M_needOf_0 f_M_needOf_0; rw [g_M_doesStand_eq, g_M_needOf_20_eq]
def g_M_needOf (a0 : Nat) (a1 : Int32) (h : mH) : Option (Int32 × mH) := g_M_needOf_0 a0 a1 h
theorem g_M_needOf_eq : @g_M_needOf = @f_M_needOf := by
  unfold g_M_needOf f_M_needOf; rw [g_M_needOf_0_eq]
def g_M_selfish_118b (rec118 : Nat → Int32 → Int32 → Int32 → Int32 → Int32 → mH → Option (Int32 × mH)) (b0 : Nat) (b1 : Int32) (b2 : Int32) (b3 : Int32) (b5 : Int32) (b6 : Int32) (h : mH) : Option (Int32 × mH) :=
  bd1 (gI h b0 8 2) fun x33 =>
  if x33 ≤ b6 then
    bd1 (kC h b0 8) fun _ =>
    bd1 (g_M_returns b0 h) fun h37 =>
    if b1 = 0 then
      some (b5, h37)
    else
      if b1 = (1 : Int32) then
        some (b2, h37)
      else
        some (b3, h37)
  else
    bd1 (kC h b0 8) fun _ =>
    bd2 (g_M_doesStand b0 b6 h) fun x45 h43 =>
    if x45 = 0 then
      g_M_selfish_151 rec118 b0 b1 b2 b3 b6 b5 h43
    else
      bd1 (kC h43 b0 8) fun _ =>
      bd2 (g_M_needOf b0 b6 h43) fun x50 h48 =>
      if x50 = 0 then
        g_M_selfish_152 rec118 b0 b1 b2 b3 b6 b5 (1 : Int32) h48
      else
        g_M_selfish_151 rec118 b0 b1 b2 b3 b6 b5 h48
theorem g_M_selfish_118b_eq : @g_M_selfish_118b = @f_M_selfish_118b := by
  unfold g_M_selfish_118b f_M_selfish_118b; rw [g_M_returns_eq, g_M_doesStand_eq, g_M_selfish_151_eq, g_M_needOf_eq, g_M_selfish_152_eq]
def g_M_selfish_118  : Nat → Nat → Int32 → Int32 → Int32 → Int32 → Int32 → mH → Option (Int32 × mH)
  | 0 => fun _ _ _ _ _ _ _ => none
  | n + 1 => g_M_selfish_118b  (g_M_selfish_118  n)
theorem g_M_selfish_118_eq : @g_M_selfish_118 = @f_M_selfish_118 := by
  funext  n
  induction n with
  | zero => rfl
  | succ n ih => show g_M_selfish_118b  (g_M_selfish_118  n) = f_M_selfish_118b  (f_M_selfish_118  n); rw [ih, g_M_selfish_118b_eq]
def g_M_roomOf_51  (s0 : Int32) (h : mH) : Option (Int32 × mH) :=
  if 0 ≤ s0 then
    some (s0, h)
  else
    some ((0 : Int32), h)
theorem g_M_roomOf_51_eq : @g_M_roomOf_51 = @f_M_roomOf_51 := by
  rfl
def g_M_roomOf_29  (b0 : Nat) (b1 : Int32) (b2 : Int32) (s0 : Int32) (h : mH) : Option (Int32 × mH) :=
  if s0 = 0 then
    g_M_roomOf_51  (0 : Int32) h
  else
    bd1 (gR h b0 8 4) fun x12 =>
    bd1 (aI h 0 x12 b2) fun x14 =>
    bd1 (kC h b0 8) fun _ =>
    bd2 (g_M_brokenBy b0 b1 b2 h) fun x20 h18 =>
    g_M_roomOf_51  (x14 - x20) h18
theorem g_M_roomOf_29_eq : @g_M_roomOf_29 = @f_M_roomOf_29 := by
  unfold g_M_roomOf_29 f_M_roomOf_29; rw [g_M_roomOf_51_eq, g_M_brokenBy_eq]
def g_M_roomOf_28  (b0 : Nat) (b1 : Int32) (b2 : Int32) (h : mH) : Option (Int32 × mH) :=
  g_M_roomOf_29  b0 b1 b2 (0 : Int32) h
theorem g_M_roomOf_28_eq : @g_M_roomOf_28 = @f_M_roomOf_28 := by
  unfold g_M_roomOf_28 f_M_roomOf_28; rw [g_M_roomOf_29_eq]
def g_M_roomOf_0  (a0 : Nat) (a1 : Int32) (a2 : Int32) (h : mH) : Option (Int32 × mH) :=
  bd1 (kC h a0 8) fun _ =>
  bd2 (g_M_doesStand a0 a2 h) fun x5 h3 =>
  if x5 = 0 then
    g_M_roomOf_28  a0 a1 a2 h3
  else
    bd1 (gR h3 a0 8 0) fun x6 =>
    bd1 (aI h3 0 x6 ((18 : Int32) + a1)) fun x8 =>
    if ((x8 >>> (a2 &&& 31)) &&& (1 : Int32)) = 0 then
      g_M_roomOf_29  a0 a1 a2 (1 : Int32) h3
    else
      g_M_roomOf_28  a0 a1 a2 h3
theorem g_M_roomOf_0_eq : @g_M_roomOf_0 = @f_M_roomOf_0 := by
  unfold g_M_roomOf_0 f_M_roomOf_0; rw [g_M_doesStand_eq, g_M_roomOf_28_eq, g_M_roomOf_29_eq]
def g_M_roomOf (a0 : Nat) (a1 : Int32) (a2 : Int32) (h : mH) : Option (Int32 × mH) := g_M_roomOf_0 a0 a1 a2 h
theorem g_M_roomOf_eq : @g_M_roomOf = @f_M_roomOf := by
  unfold g_M_roomOf f_M_roomOf; rw [g_M_roomOf_0_eq]
def g_M_canBreak_21   (h : mH) : Option (Int32 × mH) :=
  some ((0 : Int32), h)
theorem g_M_canBreak_21_eq : @g_M_canBreak_21 = @f_M_canBreak_21 := by
  rfl
def g_M_allBy_4b (rec4 : Nat → Int32 → Int32 → Int32 → mH → Option (Int32 × mH)) (b0 : Nat) (b1 : Int32) (b2 : Int32) (b3 : Int32) (h : mH) : Option (Int32 × mH) :=
  bd1 (gI h b0 8 2) fun x1 =>
  if x1 ≤ b3 then
    some (b2, h)
  else
    bd1 (kC h b0 8) fun _ =>
    bd2 (g_M_brokenBy b0 b1 b3 h) fun x7 h5 =>
    rec4 b0 b1 (b2 + x7) (b3 + (1 : Int32)) h5
theorem g_M_allBy_4b_eq : @g_M_allBy_4b = @f_M_allBy_4b := by
  unfold g_M_allBy_4b f_M_allBy_4b; rw [g_M_brokenBy_eq]
def g_M_allBy_4  : Nat → Nat → Int32 → Int32 → Int32 → mH → Option (Int32 × mH)
  | 0 => fun _ _ _ _ _ => none
  | n + 1 => g_M_allBy_4b  (g_M_allBy_4  n)
theorem g_M_allBy_4_eq : @g_M_allBy_4 = @f_M_allBy_4 := by
  funext  n
  induction n with
  | zero => rfl
  | succ n ih => show g_M_allBy_4b  (g_M_allBy_4  n) = f_M_allBy_4b  (f_M_allBy_4  n); rw [ih, g_M_allBy_4b_eq]
def g_M_allBy_0  (a0 : Nat) (a1 : Int32) (h : mH) : Option (Int32 × mH) :=
  g_M_allBy_4  FU a0 a1 (0 : Int32) (0 : Int32) h
theorem g_M_allBy_0_eq : @g_M_allBy_0 = @f_M_allBy_0 := by
  unfold g_M_allBy_0 f_M_allBy_0; rw [g_M_allBy_4_eq]
def g_M_allBy (a0 : Nat) (a1 : Int32) (h : mH) : Option (Int32 × mH) := g_M_allBy_0 a0 a1 h
theorem g_M_allBy_eq : @g_M_allBy = @f_M_allBy := by
  unfold g_M_allBy f_M_allBy; rw [g_M_allBy_0_eq]
def g_M_timeLeft_0  (a0 : Nat) (a1 : Int32) (h : mH) : Option (Int32 × mH) :=
  bd1 (gR h a0 8 0) fun x1 =>
  bd1 (aI h 0 x1 ((12 : Int32) + a1)) fun x3 =>
  bd1 (kC h a0 8) fun _ =>
  bd2 (g_M_allBy a0 a1 h) fun x9 h7 =>
  if 0 ≤ (x3 - x9) then
    some (x3 - x9, h7)
  else
    some ((0 : Int32), h7)
theorem g_M_timeLeft_0_eq : @g_M_timeLeft_0 = @f_M_timeLeft_0 := by
  unfold g_M_timeLeft_0 f_M_timeLeft_0; rw [g_M_allBy_eq]
def g_M_timeLeft (a0 : Nat) (a1 : Int32) (h : mH) : Option (Int32 × mH) := g_M_timeLeft_0 a0 a1 h
theorem g_M_timeLeft_eq : @g_M_timeLeft = @f_M_timeLeft := by
  unfold g_M_timeLeft f_M_timeLeft; rw [g_M_timeLeft_0_eq]
def g_M_canBreak_0  (a0 : Nat) (a1 : Int32) (a2 : Int32) (h : mH) : Option (Int32 × mH) :=
  bd1 (kC h a0 8) fun _ =>
  bd2 (g_M_roomOf a0 a1 a2 h) fun x5 h3 =>
  if x5 ≤ 0 then
    g_M_canBreak_21  h3
  else
    bd1 (kC h3 a0 8) fun _ =>
    bd2 (g_M_timeLeft a0 a1 h3) fun x10 h8 =>
    if x10 ≤ 0 then
      g_M_canBreak_21  h8
    else
      some ((1 : Int32), h8)
theorem g_M_canBreak_0_eq : @g_M_canBreak_0 = @f_M_canBreak_0 := by
  unfold g_M_canBreak_0 f_M_canBreak_0; rw [g_M_roomOf_eq, g_M_canBreak_21_eq, g_M_timeLeft_eq]
def g_M_canBreak (a0 : Nat) (a1 : Int32) (a2 : Int32) (h : mH) : Option (Int32 × mH) := g_M_canBreak_0 a0 a1 a2 h
theorem g_M_canBreak_eq : @g_M_canBreak = @f_M_canBreak := by
  unfold g_M_canBreak f_M_canBreak; rw [g_M_canBreak_0_eq]
def g_M_wantedBy_83 (rec5 : Nat → Int32 → Int32 → Int32 → mH → Option (Int32 × mH)) (b0 : Nat) (b1 : Int32) (b3 : Int32) (s0 : Int32) (h : mH) : Option (Int32 × mH) :=
  incI b3 fun bb => rec5 b0 b1 s0 bb h
theorem g_M_wantedBy_83_eq : @g_M_wantedBy_83 = @f_M_wantedBy_83 := by
  unfold g_M_wantedBy_83 f_M_wantedBy_83; rw [incI_eq]
def g_M_wantedBy_82 (rec5 : Nat → Int32 → Int32 → Int32 → mH → Option (Int32 × mH)) (b0 : Nat) (b1 : Int32) (b2 : Int32) (b3 : Int32) (h : mH) : Option (Int32 × mH) :=
  g_M_wantedBy_83 rec5 b0 b1 b3 b2 h
theorem g_M_wantedBy_82_eq : @g_M_wantedBy_82 = @f_M_wantedBy_82 := by
  unfold g_M_wantedBy_82 f_M_wantedBy_82; rw [g_M_wantedBy_83_eq]
def g_M_wantedBy_78 (rec5 : Nat → Int32 → Int32 → Int32 → mH → Option (Int32 × mH)) (b0 : Nat) (b1 : Int32) (b3 : Int32) (h : mH) : Option (Int32 × mH) :=
  g_M_wantedBy_83 rec5 b0 b1 b3 b3 h
theorem g_M_wantedBy_78_eq : @g_M_wantedBy_78 = @f_M_wantedBy_78 := by
  unfold g_M_wantedBy_78 f_M_wantedBy_78; rw [g_M_wantedBy_83_eq]
def g_M_wantedBy_52 (rec5 : Nat → Int32 → Int32 → Int32 → mH → Option (Int32 × mH)) (b0 : Nat) (b1 : Int32) (b2 : Int32) (b3 : Int32) (s0 : Int32) (h : mH) : Option (Int32 × mH) :=
  if s0 = 0 then
    g_M_wantedBy_82 rec5 b0 b1 b2 b3 h
  else
    if b2 = ((-4) : Int32) then
      g_M_wantedBy_78 rec5 b0 b1 b3 h
    else
      bd1 (kC h b0 8) fun _ =>
      bd2 (g_M_needOf b0 b3 h) fun x25 h23 =>
      bd1 (kC h23 b0 8) fun _ =>
      bd2 (g_M_needOf b0 b2 h23) fun x30 h28 =>
      if x25 ≤ x30 then
        g_M_wantedBy_82 rec5 b0 b1 b2 b3 h28
      else
        g_M_wantedBy_78 rec5 b0 b1 b3 h28
theorem g_M_wantedBy_52_eq : @g_M_wantedBy_52 = @f_M_wantedBy_52 := by
  unfold g_M_wantedBy_52 f_M_wantedBy_52; rw [g_M_wantedBy_82_eq, g_M_wantedBy_78_eq, g_M_needOf_eq]
def g_M_wantedBy_51 (rec5 : Nat → Int32 → Int32 → Int32 → mH → Option (Int32 × mH)) (b0 : Nat) (b1 : Int32) (b2 : Int32) (b3 : Int32) (h : mH) : Option (Int32 × mH) :=
  g_M_wantedBy_52 rec5 b0 b1 b2 b3 (0 : Int32) h
theorem g_M_wantedBy_51_eq : @g_M_wantedBy_51 = @f_M_wantedBy_51 := by
  unfold g_M_wantedBy_51 f_M_wantedBy_51; rw [g_M_wantedBy_52_eq]
def g_M_wantedBy_5b (rec5 : Nat → Int32 → Int32 → Int32 → mH → Option (Int32 × mH)) (b0 : Nat) (b1 : Int32) (b2 : Int32) (b3 : Int32) (h : mH) : Option (Int32 × mH) :=
  bd1 (gI h b0 8 2) fun x1 =>
  if x1 ≤ b3 then
    some (b2, h)
  else
    bd1 (gR h b0 8 0) fun x3 =>
    bd1 (aI h 0 x3 ((21 : Int32) + b1)) fun x5 =>
    if ((x5 >>> (b3 &&& 31)) &&& (1 : Int32)) = (1 : Int32) then
      bd1 (kC h b0 8) fun _ =>
      bd2 (g_M_canBreak b0 b1 b3 h) fun x11 h9 =>
      if x11 = 0 then
        g_M_wantedBy_51 rec5 b0 b1 b2 b3 h9
      else
        bd1 (kC h9 b0 8) fun _ =>
        bd2 (g_M_needOf b0 b3 h9) fun x16 h14 =>
        if x16 ≤ 0 then
          g_M_wantedBy_51 rec5 b0 b1 b2 b3 h14
        else
          g_M_wantedBy_52 rec5 b0 b1 b2 b3 (1 : Int32) h14
    else
      g_M_wantedBy_51 rec5 b0 b1 b2 b3 h
theorem g_M_wantedBy_5b_eq : @g_M_wantedBy_5b = @f_M_wantedBy_5b := by
  unfold g_M_wantedBy_5b f_M_wantedBy_5b; rw [g_M_canBreak_eq, g_M_wantedBy_51_eq, g_M_needOf_eq, g_M_wantedBy_52_eq]
def g_M_wantedBy_5  : Nat → Nat → Int32 → Int32 → Int32 → mH → Option (Int32 × mH)
  | 0 => fun _ _ _ _ _ => none
  | n + 1 => g_M_wantedBy_5b  (g_M_wantedBy_5  n)
theorem g_M_wantedBy_5_eq : @g_M_wantedBy_5 = @f_M_wantedBy_5 := by
  funext  n
  induction n with
  | zero => rfl
  | succ n ih => show g_M_wantedBy_5b  (g_M_wantedBy_5  n) = f_M_wantedBy_5b  (f_M_wantedBy_5  n); rw [ih, g_M_wantedBy_5b_eq]
def g_M_wantedBy_0  (a0 : Nat) (a1 : Int32) (h : mH) : Option (Int32 × mH) :=
  g_M_wantedBy_5  FU a0 a1 ((-4) : Int32) (0 : Int32) h
theorem g_M_wantedBy_0_eq : @g_M_wantedBy_0 = @f_M_wantedBy_0 := by
  unfold g_M_wantedBy_0 f_M_wantedBy_0; rw [g_M_wantedBy_5_eq]
def g_M_wantedBy (a0 : Nat) (a1 : Int32) (h : mH) : Option (Int32 × mH) := g_M_wantedBy_0 a0 a1 h
theorem g_M_wantedBy_eq : @g_M_wantedBy = @f_M_wantedBy := by
  unfold g_M_wantedBy f_M_wantedBy; rw [g_M_wantedBy_0_eq]
def g_M_selfish_103 (rec25 : Nat → Int32 → Int32 → Int32 → Int32 → mH → Option (Int32 × mH)) (rec36 : Nat → Int32 → Int32 → Int32 → Int32 → Int32 → mH → Option (Int32 × mH)) (b0 : Nat) (b1 : Int32) (b2 : Int32) (b3 : Int32) (b4 : Int32) (b5 : Int32) (h : mH) : Option (Int32 × mH) :=
  incI b5 fun bb => rec36 b0 b1 b2 b3 b4 bb h
theorem g_M_selfish_103_eq : @g_M_selfish_103 = @f_M_selfish_103 := by
  unfold g_M_selfish_103 f_M_selfish_103; rw [incI_eq]
def g_M_selfish_36b (rec25 : Nat → Int32 → Int32 → Int32 → Int32 → mH → Option (Int32 × mH)) (rec36 : Nat → Int32 → Int32 → Int32 → Int32 → Int32 → mH → Option (Int32 × mH)) (b0 : Nat) (b1 : Int32) (b2 : Int32) (b3 : Int32) (b4 : Int32) (b5 : Int32) (h : mH) : Option (Int32 × mH) :=
  bd1 (gI h b0 8 3) fun x10 =>
  if x10 ≤ b5 then
    rec25 b0 b1 b2 b3 b4 h
  else
    bd1 (kC h b0 8) fun _ =>
    bd2 (g_M_wantedBy b0 b5 h) fun x16 h14 =>
    if x16 = ((-4) : Int32) then
      g_M_selfish_103 rec25 rec36 b0 b1 b2 b3 b4 b5 h14
    else
      bd1 (gR h14 b0 8 0) fun x17 =>
      bd1 (aI h14 0 x17 (((24 : Int32) + ((5 : Int32) * b5)) + x16)) fun x19 =>
      bd1 (sI2 h14 0 x17 (((24 : Int32) + ((5 : Int32) * b5)) + x16) (x19 + (1 : Int32))) fun h21 =>
      bd1 (gR h21 b0 8 5) fun x23 =>
      bd1 (aI h21 0 x23 x16) fun x25 =>
      bd1 (gR h21 b0 8 7) fun x27 =>
      bd1 (aI h21 0 x27 b5) fun x29 =>
      g_M_selfish_103 rec25 rec36 b0 b1 (b2 + (1 : Int32)) (b3 + (x25 + x29)) (1 : Int32) b5 h21
theorem g_M_selfish_36b_eq : @g_M_selfish_36b = @f_M_selfish_36b := by
  unfold g_M_selfish_36b f_M_selfish_36b; rw [g_M_wantedBy_eq, g_M_selfish_103_eq, sI2_eq]
def g_M_selfish_36 (rec25 : Nat → Int32 → Int32 → Int32 → Int32 → mH → Option (Int32 × mH)) : Nat → Nat → Int32 → Int32 → Int32 → Int32 → Int32 → mH → Option (Int32 × mH)
  | 0 => fun _ _ _ _ _ _ _ => none
  | n + 1 => g_M_selfish_36b rec25 (g_M_selfish_36 rec25 n)
theorem g_M_selfish_36_eq : @g_M_selfish_36 = @f_M_selfish_36 := by
  funext rec25 n
  induction n with
  | zero => rfl
  | succ n ih => show g_M_selfish_36b rec25 (g_M_selfish_36 rec25 n) = f_M_selfish_36b rec25 (f_M_selfish_36 rec25 n); rw [ih, g_M_selfish_36b_eq]
def g_M_selfish_25b (rec25 : Nat → Int32 → Int32 → Int32 → Int32 → mH → Option (Int32 × mH)) (b0 : Nat) (b1 : Int32) (b2 : Int32) (b3 : Int32) (b4 : Int32) (h : mH) : Option (Int32 × mH) :=
  if b4 = 0 then
    g_M_selfish_118  FU b0 b1 b2 b3 (0 : Int32) (0 : Int32) h
  else
    g_M_selfish_36 rec25 FU b0 b1 b2 b3 (0 : Int32) (0 : Int32) h
theorem g_M_selfish_25b_eq : @g_M_selfish_25b = @f_M_selfish_25b := by
  unfold g_M_selfish_25b f_M_selfish_25b; rw [g_M_selfish_118_eq, g_M_selfish_36_eq]
def g_M_selfish_25  : Nat → Nat → Int32 → Int32 → Int32 → Int32 → mH → Option (Int32 × mH)
  | 0 => fun _ _ _ _ _ _ => none
  | n + 1 => g_M_selfish_25b  (g_M_selfish_25  n)
theorem g_M_selfish_25_eq : @g_M_selfish_25 = @f_M_selfish_25 := by
  funext  n
  induction n with
  | zero => rfl
  | succ n ih => show g_M_selfish_25b  (g_M_selfish_25  n) = f_M_selfish_25b  (f_M_selfish_25  n); rw [ih, g_M_selfish_25b_eq]
def g_M_selfish_0  (a0 : Nat) (a1 : Int32) (h : mH) : Option (Int32 × mH) :=
  bd2 (g_M_in a1.toInt64 (0 : Int64) (2 : Int64) h) fun x3 h1 =>
  if x3 = 0 then
    some (((-1) : Int32), h1)
  else
    bd1 (kC h1 a0 8) fun _ =>
    bd1 (g_M_saves a0 h1) fun h6 =>
    g_M_selfish_25  FU a0 a1 (0 : Int32) (0 : Int32) (1 : Int32) h6
theorem g_M_selfish_0_eq : @g_M_selfish_0 = @f_M_selfish_0 := by
  unfold g_M_selfish_0 f_M_selfish_0; rw [g_M_in_eq, g_M_saves_eq, g_M_selfish_25_eq]
def g_M_selfish (a0 : Nat) (a1 : Int32) (h : mH) : Option (Int32 × mH) := g_M_selfish_0 a0 a1 h
theorem g_M_selfish_eq : @g_M_selfish = @f_M_selfish := by
  unfold g_M_selfish f_M_selfish; rw [g_M_selfish_0_eq]
def g_Planner_load_96b (rec54 : Nat → Nat → Int32 → mH → Option mH) (rec96 : Nat → Nat → Int32 → Int32 → mH → Option mH) (b0 : Nat) (b1 : Nat) (b2 : Int32) (b3 : Int32) (h : mH) : Option mH :=
  bd1 (gI h b1 4 1) fun x49 =>
  if x49 ≤ b3 then
    incI b2 fun bb => rec54 b0 b1 bb h
  else
    bd1 (gR h b0 2 4) fun x51 =>
    bd1 (kC h b1 4) fun _ =>
    bd2 (g_Realm_roomOf b1 b3 b2 h) fun x57 h55 =>
    bd1 (sI2 h55 0 x51 ((b3 * (5 : Int32)) + b2) x57) fun h58 =>
    bd1 (gR h58 b0 2 5) fun x60 =>
    bd1 (gR h58 b1 4 8) fun x62 =>
    bd1 (aI h58 0 x62 b2) fun x64 =>
    bd1 (gR h58 b1 4 12) fun x66 =>
    bd1 (aI h58 0 x66 b3) fun x68 =>
    bd1 (sI2 h58 0 x60 ((b3 * (5 : Int32)) + b2) (x64 + x68)) fun h70 =>
    incI b3 fun bb => rec96 b0 b1 b2 bb h70
theorem g_Planner_load_96b_eq : @g_Planner_load_96b = @f_Planner_load_96b := by
  unfold g_Planner_load_96b f_Planner_load_96b; rw [g_Realm_roomOf_eq, sI2_eq, incI_eq]
def g_Planner_load_96 (rec54 : Nat → Nat → Int32 → mH → Option mH) : Nat → Nat → Nat → Int32 → Int32 → mH → Option mH
  | 0 => fun _ _ _ _ _ => none
  | n + 1 => g_Planner_load_96b rec54 (g_Planner_load_96 rec54 n)
theorem g_Planner_load_96_eq : @g_Planner_load_96 = @f_Planner_load_96 := by
  funext rec54 n
  induction n with
  | zero => rfl
  | succ n ih => show g_Planner_load_96b rec54 (g_Planner_load_96 rec54 n) = f_Planner_load_96b rec54 (f_Planner_load_96 rec54 n); rw [ih, g_Planner_load_96b_eq]
def g_Planner_load_54b (rec54 : Nat → Nat → Int32 → mH → Option mH) (b0 : Nat) (b1 : Nat) (b2 : Int32) (h : mH) : Option mH :=
  bd1 (gI h b0 2 0) fun x25 =>
  if x25 ≤ b2 then
    some h
  else
    bd1 (gR h b0 2 2) fun x27 =>
    bd1 (kC h b1 4) fun _ =>
    bd2 (g_Realm_needOf b1 b2 h) fun x33 h31 =>
    bd1 (sI2 h31 0 x27 b2 x33) fun h34 =>
    bd1 (gR h34 b0 2 3) fun x36 =>
    bd1 (gR h34 b0 2 3) fun x38 =>
    bd1 (aI h34 0 x38 b2) fun x40 =>
    bd1 (gR h34 b0 2 2) fun x42 =>
    bd1 (aI h34 0 x42 b2) fun x44 =>
    bd1 (sI2 h34 0 x36 (b2 + (1 : Int32)) (x40 + x44)) fun h46 =>
    g_Planner_load_96 rec54 FU b0 b1 b2 (0 : Int32) h46
theorem g_Planner_load_54b_eq : @g_Planner_load_54b = @f_Planner_load_54b := by
  unfold g_Planner_load_54b f_Planner_load_54b; rw [g_Realm_needOf_eq, g_Planner_load_96_eq, sI2_eq]
def g_Planner_load_54  : Nat → Nat → Nat → Int32 → mH → Option mH
  | 0 => fun _ _ _ _ => none
  | n + 1 => g_Planner_load_54b  (g_Planner_load_54  n)
theorem g_Planner_load_54_eq : @g_Planner_load_54 = @f_Planner_load_54 := by
  funext  n
  induction n with
  | zero => rfl
  | succ n ih => show g_Planner_load_54b  (g_Planner_load_54  n) = f_Planner_load_54b  (f_Planner_load_54  n); rw [ih, g_Planner_load_54b_eq]
def g_Planner_load_45 (rec18 : Nat → Nat → Int32 → mH → Option mH) (b0 : Nat) (b1 : Nat) (b2 : Int32) (s0 : Nat) (s1 : Int32) (s2 : Int32) (h : mH) : Option mH :=
  bd1 (sI2 h 0 s0 s1 s2) fun h23 =>
  incI b2 fun bb => rec18 b0 b1 bb h23
theorem g_Planner_load_45_eq : @g_Planner_load_45 = @f_Planner_load_45 := by
  unfold g_Planner_load_45 f_Planner_load_45; rw [sI2_eq, incI_eq]
def g_Planner_load_18b (rec18 : Nat → Nat → Int32 → mH → Option mH) (b0 : Nat) (b1 : Nat) (b2 : Int32) (h : mH) : Option mH :=
  if (3 : Int32) ≤ b2 then
    g_Planner_load_54  FU b0 b1 (0 : Int32) h
  else
    bd1 (gR h b0 2 1) fun x9 =>
    bd1 (kC h b1 4) fun _ =>
    bd2 (g_Realm_hasOne b1 b2 h) fun x15 h13 =>
    if x15 = 0 then
      g_Planner_load_45 rec18 b0 b1 b2 x9 b2 (0 : Int32) h13
    else
      bd1 (kC h13 b1 4) fun _ =>
      bd2 (g_Realm_timeLeft b1 b2 h13) fun x20 h18 =>
      g_Planner_load_45 rec18 b0 b1 b2 x9 b2 x20 h18
theorem g_Planner_load_18b_eq : @g_Planner_load_18b = @f_Planner_load_18b := by
  unfold g_Planner_load_18b f_Planner_load_18b; rw [g_Planner_load_54_eq, g_Realm_hasOne_eq, g_Planner_load_45_eq, g_Realm_timeLeft_eq]
def g_Planner_load_18  : Nat → Nat → Nat → Int32 → mH → Option mH
  | 0 => fun _ _ _ _ => none
  | n + 1 => g_Planner_load_18b  (g_Planner_load_18  n)
theorem g_Planner_load_18_eq : @g_Planner_load_18 = @f_Planner_load_18 := by
  funext  n
  induction n with
  | zero => rfl
  | succ n ih => show g_Planner_load_18b  (g_Planner_load_18  n) = f_Planner_load_18b  (f_Planner_load_18  n); rw [ih, g_Planner_load_18b_eq]
def g_Planner_load_0  (a0 : Nat) (a1 : Nat) (h : mH) : Option mH :=
  bd1 (gI h a1 4 0) fun x1 =>
  bd1 (pV2 h a0 2 0 (.int x1)) fun h3 =>
  bd1 (gR h3 a0 2 4) fun x5 =>
  bd1 (g_Arrays_fillI x5 (0 : Int32) h3) fun h7 =>
  g_Planner_load_18  FU a0 a1 (0 : Int32) h7
theorem g_Planner_load_0_eq : @g_Planner_load_0 = @f_Planner_load_0 := by
  unfold g_Planner_load_0 f_Planner_load_0; rw [g_Arrays_fillI_eq, g_Planner_load_18_eq, pV2_eq]
def g_Planner_load (a0 : Nat) (a1 : Nat) (h : mH) : Option mH := g_Planner_load_0 a0 a1 h
theorem g_Planner_load_eq : @g_Planner_load = @f_Planner_load := by
  unfold g_Planner_load f_Planner_load; rw [g_Planner_load_0_eq]
def g_Integer_bitCount_0  (a0 : Int32) (h : mH) : Option (Int32 × mH) :=
  some ((((((((a0 - (((a0.toUInt32 >>> ((1 : Int32).toUInt32 &&& Int32.toUInt32 31)).toInt32) &&& (1431655765 : Int32))) &&& (858993459 : Int32)) + ((((a0 - (((a0.toUInt32 >>> ((1 : Int32).toUInt32 &&& Int32.toUInt32 31)).toInt32) &&& (1431655765 : Int32))).toUInt32 >>> ((2 : Int32).toUInt32 &&& Int32.toUInt32 31)).toInt32) &&& (858993459 : Int32))) + (((((a0 - (((a0.toUInt32 >>> ((1 : Int32).toUInt32 &&& Int32.toUInt32 31)).toInt32) &&& (1431655765 : Int32))) &&& (858993459 : Int32)) + ((((a0 - (((a0.toUInt32 >>> ((1 : Int32).toUInt32 &&& Int32.toUInt32 31)).toInt32) &&& (1431655765 : Int32))).toUInt32 >>> ((2 : Int32).toUInt32 &&& Int32.toUInt32 31)).toInt32) &&& (858993459 : Int32))).toUInt32 >>> ((4 : Int32).toUInt32 &&& Int32.toUInt32 31)).toInt32)) &&& (252645135 : Int32)) + (((((((a0 - (((a0.toUInt32 >>> ((1 : Int32).toUInt32 &&& Int32.toUInt32 31)).toInt32) &&& (1431655765 : Int32))) &&& (858993459 : Int32)) + ((((a0 - (((a0.toUInt32 >>> ((1 : Int32).toUInt32 &&& Int32.toUInt32 31)).toInt32) &&& (1431655765 : Int32))).toUInt32 >>> ((2 : Int32).toUInt32 &&& Int32.toUInt32 31)).toInt32) &&& (858993459 : Int32))) + (((((a0 - (((a0.toUInt32 >>> ((1 : Int32).toUInt32 &&& Int32.toUInt32 31)).toInt32) &&& (1431655765 : Int32))) &&& (858993459 : Int32)) + ((((a0 - (((a0.toUInt32 >>> ((1 : Int32).toUInt32 &&& Int32.toUInt32 31)).toInt32) &&& (1431655765 : Int32))).toUInt32 >>> ((2 : Int32).toUInt32 &&& Int32.toUInt32 31)).toInt32) &&& (858993459 : Int32))).toUInt32 >>> ((4 : Int32).toUInt32 &&& Int32.toUInt32 31)).toInt32)) &&& (252645135 : Int32)).toUInt32 >>> ((8 : Int32).toUInt32 &&& Int32.toUInt32 31)).toInt32)) + ((((((((a0 - (((a0.toUInt32 >>> ((1 : Int32).toUInt32 &&& Int32.toUInt32 31)).toInt32) &&& (1431655765 : Int32))) &&& (858993459 : Int32)) + ((((a0 - (((a0.toUInt32 >>> ((1 : Int32).toUInt32 &&& Int32.toUInt32 31)).toInt32) &&& (1431655765 : Int32))).toUInt32 >>> ((2 : Int32).toUInt32 &&& Int32.toUInt32 31)).toInt32) &&& (858993459 : Int32))) + (((((a0 - (((a0.toUInt32 >>> ((1 : Int32).toUInt32 &&& Int32.toUInt32 31)).toInt32) &&& (1431655765 : Int32))) &&& (858993459 : Int32)) + ((((a0 - (((a0.toUInt32 >>> ((1 : Int32).toUInt32 &&& Int32.toUInt32 31)).toInt32) &&& (1431655765 : Int32))).toUInt32 >>> ((2 : Int32).toUInt32 &&& Int32.toUInt32 31)).toInt32) &&& (858993459 : Int32))).toUInt32 >>> ((4 : Int32).toUInt32 &&& Int32.toUInt32 31)).toInt32)) &&& (252645135 : Int32)) + (((((((a0 - (((a0.toUInt32 >>> ((1 : Int32).toUInt32 &&& Int32.toUInt32 31)).toInt32) &&& (1431655765 : Int32))) &&& (858993459 : Int32)) + ((((a0 - (((a0.toUInt32 >>> ((1 : Int32).toUInt32 &&& Int32.toUInt32 31)).toInt32) &&& (1431655765 : Int32))).toUInt32 >>> ((2 : Int32).toUInt32 &&& Int32.toUInt32 31)).toInt32) &&& (858993459 : Int32))) + (((((a0 - (((a0.toUInt32 >>> ((1 : Int32).toUInt32 &&& Int32.toUInt32 31)).toInt32) &&& (1431655765 : Int32))) &&& (858993459 : Int32)) + ((((a0 - (((a0.toUInt32 >>> ((1 : Int32).toUInt32 &&& Int32.toUInt32 31)).toInt32) &&& (1431655765 : Int32))).toUInt32 >>> ((2 : Int32).toUInt32 &&& Int32.toUInt32 31)).toInt32) &&& (858993459 : Int32))).toUInt32 >>> ((4 : Int32).toUInt32 &&& Int32.toUInt32 31)).toInt32)) &&& (252645135 : Int32)).toUInt32 >>> ((8 : Int32).toUInt32 &&& Int32.toUInt32 31)).toInt32)).toUInt32 >>> ((16 : Int32).toUInt32 &&& Int32.toUInt32 31)).toInt32)) &&& (63 : Int32), h)
theorem g_Integer_bitCount_0_eq : @g_Integer_bitCount_0 = @f_Integer_bitCount_0 := by
  rfl
def g_Integer_bitCount (a0 : Int32) (h : mH) : Option (Int32 × mH) := g_Integer_bitCount_0 a0 h
theorem g_Integer_bitCount_eq : @g_Integer_bitCount = @f_Integer_bitCount := by
  unfold g_Integer_bitCount f_Integer_bitCount; rw [g_Integer_bitCount_0_eq]
def g_Q_together_87 (rec26 : Nat → Int32 → Int32 → Int32 → mH → Option (Int32 × mH)) (b0 : Nat) (b1 : Int32) (b2 : Int32) (b3 : Int32) (h : mH) : Option (Int32 × mH) :=
  incI b3 fun bb => rec26 b0 b1 b2 bb h
theorem g_Q_together_87_eq : @g_Q_together_87 = @f_Q_together_87 := by
  unfold g_Q_together_87 f_Q_together_87; rw [incI_eq]
def g_Planner_canMeet_30 (rec2 : Nat → Int32 → Int32 → mH → Option (Int32 × mH)) (b0 : Nat) (b1 : Int32) (b2 : Int32) (h : mH) : Option (Int32 × mH) :=
  incI b2 fun bb => rec2 b0 b1 bb h
theorem g_Planner_canMeet_30_eq : @g_Planner_canMeet_30 = @f_Planner_canMeet_30 := by
  unfold g_Planner_canMeet_30 f_Planner_canMeet_30; rw [incI_eq]
def g_Planner_needOfAll_31 (rec4 : Nat → Int32 → Int32 → Int32 → mH → Option (Int32 × mH)) (b0 : Nat) (b1 : Int32) (b3 : Int32) (s0 : Int32) (s1 : Int32) (h : mH) : Option (Int32 × mH) :=
  rec4 b0 b1 (s0 + s1) (b3 + (1 : Int32)) h
theorem g_Planner_needOfAll_31_eq : @g_Planner_needOfAll_31 = @f_Planner_needOfAll_31 := by
  rfl
def g_Planner_needOfAll_4b (rec4 : Nat → Int32 → Int32 → Int32 → mH → Option (Int32 × mH)) (b0 : Nat) (b1 : Int32) (b2 : Int32) (b3 : Int32) (h : mH) : Option (Int32 × mH) :=
  bd1 (gI h b0 2 0) fun x1 =>
  if x1 ≤ b3 then
    some (b2, h)
  else
    bd2 (g_Q_hasBit b1 b3 h) fun x5 h3 =>
    if x5 = 0 then
      g_Planner_needOfAll_31 rec4 b0 b1 b3 b2 (0 : Int32) h3
    else
      bd1 (gR h3 b0 2 2) fun x6 =>
      bd1 (aI h3 0 x6 b3) fun x8 =>
      g_Planner_needOfAll_31 rec4 b0 b1 b3 b2 x8 h3
theorem g_Planner_needOfAll_4b_eq : @g_Planner_needOfAll_4b = @f_Planner_needOfAll_4b := by
  unfold g_Planner_needOfAll_4b f_Planner_needOfAll_4b; rw [g_Q_hasBit_eq, g_Planner_needOfAll_31_eq]
def g_Planner_needOfAll_4  : Nat → Nat → Int32 → Int32 → Int32 → mH → Option (Int32 × mH)
  | 0 => fun _ _ _ _ _ => none
  | n + 1 => g_Planner_needOfAll_4b  (g_Planner_needOfAll_4  n)
theorem g_Planner_needOfAll_4_eq : @g_Planner_needOfAll_4 = @f_Planner_needOfAll_4 := by
  funext  n
  induction n with
  | zero => rfl
  | succ n ih => show g_Planner_needOfAll_4b  (g_Planner_needOfAll_4  n) = f_Planner_needOfAll_4b  (f_Planner_needOfAll_4  n); rw [ih, g_Planner_needOfAll_4b_eq]
def g_Planner_needOfAll_0  (a0 : Nat) (a1 : Int32) (h : mH) : Option (Int32 × mH) :=
  g_Planner_needOfAll_4  FU a0 a1 (0 : Int32) (0 : Int32) h
theorem g_Planner_needOfAll_0_eq : @g_Planner_needOfAll_0 = @f_Planner_needOfAll_0 := by
  unfold g_Planner_needOfAll_0 f_Planner_needOfAll_0; rw [g_Planner_needOfAll_4_eq]
def g_Planner_needOfAll (a0 : Nat) (a1 : Int32) (h : mH) : Option (Int32 × mH) := g_Planner_needOfAll_0 a0 a1 h
theorem g_Planner_needOfAll_eq : @g_Planner_needOfAll = @f_Planner_needOfAll := by
  unfold g_Planner_needOfAll f_Planner_needOfAll; rw [g_Planner_needOfAll_0_eq]
def g_Planner_givenTo_50 (rec4 : Nat → Int32 → Int32 → Int32 → mH → Option (Int32 × mH)) (rec15 : Nat → Int32 → Int32 → Int32 → Int32 → Int32 → mH → Option (Int32 × mH)) (b0 : Nat) (b1 : Int32) (b2 : Int32) (b3 : Int32) (b5 : Int32) (s0 : Int32) (s1 : Int32) (h : mH) : Option (Int32 × mH) :=
  rec15 b0 b1 b2 b3 (s0 + s1) (b5 + (1 : Int32)) h
theorem g_Planner_givenTo_50_eq : @g_Planner_givenTo_50 = @f_Planner_givenTo_50 := by
  rfl
def g_Planner_givenTo_15b (rec4 : Nat → Int32 → Int32 → Int32 → mH → Option (Int32 × mH)) (rec15 : Nat → Int32 → Int32 → Int32 → Int32 → Int32 → mH → Option (Int32 × mH)) (b0 : Nat) (b1 : Int32) (b2 : Int32) (b3 : Int32) (b4 : Int32) (b5 : Int32) (h : mH) : Option (Int32 × mH) :=
  bd1 (gI h b0 2 0) fun x2 =>
  if x2 ≤ b5 then
    bd1 (gR h b0 2 1) fun x4 =>
    bd1 (aI h 0 x4 b3) fun x6 =>
    rec4 b0 b1 (b2 + (if x6 < b4 then x6 else b4)) (b3 + (1 : Int32)) h
  else
    bd2 (g_Q_hasBit b1 b5 h) fun x10 h8 =>
    if x10 = 0 then
      g_Planner_givenTo_50 rec4 rec15 b0 b1 b2 b3 b5 b4 (0 : Int32) h8
    else
      bd1 (gR h8 b0 2 4) fun x11 =>
      bd1 (aI h8 0 x11 ((b3 * (5 : Int32)) + b5)) fun x13 =>
      g_Planner_givenTo_50 rec4 rec15 b0 b1 b2 b3 b5 b4 x13 h8
theorem g_Planner_givenTo_15b_eq : @g_Planner_givenTo_15b = @f_Planner_givenTo_15b := by
  unfold g_Planner_givenTo_15b f_Planner_givenTo_15b; rw [g_Q_hasBit_eq, g_Planner_givenTo_50_eq]
def g_Planner_givenTo_15 (rec4 : Nat → Int32 → Int32 → Int32 → mH → Option (Int32 × mH)) : Nat → Nat → Int32 → Int32 → Int32 → Int32 → Int32 → mH → Option (Int32 × mH)
  | 0 => fun _ _ _ _ _ _ _ => none
  | n + 1 => g_Planner_givenTo_15b rec4 (g_Planner_givenTo_15 rec4 n)
theorem g_Planner_givenTo_15_eq : @g_Planner_givenTo_15 = @f_Planner_givenTo_15 := by
  funext rec4 n
  induction n with
  | zero => rfl
  | succ n ih => show g_Planner_givenTo_15b rec4 (g_Planner_givenTo_15 rec4 n) = f_Planner_givenTo_15b rec4 (f_Planner_givenTo_15 rec4 n); rw [ih, g_Planner_givenTo_15b_eq]
def g_Planner_givenTo_4b (rec4 : Nat → Int32 → Int32 → Int32 → mH → Option (Int32 × mH)) (b0 : Nat) (b1 : Int32) (b2 : Int32) (b3 : Int32) (h : mH) : Option (Int32 × mH) :=
  if (3 : Int32) ≤ b3 then
    some (b2, h)
  else
    g_Planner_givenTo_15 rec4 FU b0 b1 b2 b3 (0 : Int32) (0 : Int32) h
theorem g_Planner_givenTo_4b_eq : @g_Planner_givenTo_4b = @f_Planner_givenTo_4b := by
  unfold g_Planner_givenTo_4b f_Planner_givenTo_4b; rw [g_Planner_givenTo_15_eq]
def g_Planner_givenTo_4  : Nat → Nat → Int32 → Int32 → Int32 → mH → Option (Int32 × mH)
  | 0 => fun _ _ _ _ _ => none
  | n + 1 => g_Planner_givenTo_4b  (g_Planner_givenTo_4  n)
theorem g_Planner_givenTo_4_eq : @g_Planner_givenTo_4 = @f_Planner_givenTo_4 := by
  funext  n
  induction n with
  | zero => rfl
  | succ n ih => show g_Planner_givenTo_4b  (g_Planner_givenTo_4  n) = f_Planner_givenTo_4b  (f_Planner_givenTo_4  n); rw [ih, g_Planner_givenTo_4b_eq]
def g_Planner_givenTo_0  (a0 : Nat) (a1 : Int32) (h : mH) : Option (Int32 × mH) :=
  g_Planner_givenTo_4  FU a0 a1 (0 : Int32) (0 : Int32) h
theorem g_Planner_givenTo_0_eq : @g_Planner_givenTo_0 = @f_Planner_givenTo_0 := by
  unfold g_Planner_givenTo_0 f_Planner_givenTo_0; rw [g_Planner_givenTo_4_eq]
def g_Planner_givenTo (a0 : Nat) (a1 : Int32) (h : mH) : Option (Int32 × mH) := g_Planner_givenTo_0 a0 a1 h
theorem g_Planner_givenTo_eq : @g_Planner_givenTo = @f_Planner_givenTo := by
  unfold g_Planner_givenTo f_Planner_givenTo; rw [g_Planner_givenTo_0_eq]
def g_Planner_canMeet_2b (rec2 : Nat → Int32 → Int32 → mH → Option (Int32 × mH)) (b0 : Nat) (b1 : Int32) (b2 : Int32) (h : mH) : Option (Int32 × mH) :=
  if b1 < b2 then
    some ((1 : Int32), h)
  else
    bd2 (g_Q_isPart b2 b1 h) fun x3 h1 =>
    if x3 = 0 then
      g_Planner_canMeet_30 rec2 b0 b1 b2 h1
    else
      bd1 (kC h1 b0 2) fun _ =>
      bd2 (g_Planner_needOfAll b0 b2 h1) fun x8 h6 =>
      bd1 (kC h6 b0 2) fun _ =>
      bd2 (g_Planner_givenTo b0 b2 h6) fun x13 h11 =>
      if x8 ≤ x13 then
        g_Planner_canMeet_30 rec2 b0 b1 b2 h11
      else
        some ((0 : Int32), h11)
theorem g_Planner_canMeet_2b_eq : @g_Planner_canMeet_2b = @f_Planner_canMeet_2b := by
  unfold g_Planner_canMeet_2b f_Planner_canMeet_2b; rw [g_Q_isPart_eq, g_Planner_canMeet_30_eq, g_Planner_needOfAll_eq, g_Planner_givenTo_eq]
def g_Planner_canMeet_2  : Nat → Nat → Int32 → Int32 → mH → Option (Int32 × mH)
  | 0 => fun _ _ _ _ => none
  | n + 1 => g_Planner_canMeet_2b  (g_Planner_canMeet_2  n)
theorem g_Planner_canMeet_2_eq : @g_Planner_canMeet_2 = @f_Planner_canMeet_2 := by
  funext  n
  induction n with
  | zero => rfl
  | succ n ih => show g_Planner_canMeet_2b  (g_Planner_canMeet_2  n) = f_Planner_canMeet_2b  (f_Planner_canMeet_2  n); rw [ih, g_Planner_canMeet_2b_eq]
def g_Planner_canMeet_0  (a0 : Nat) (a1 : Int32) (h : mH) : Option (Int32 × mH) :=
  g_Planner_canMeet_2  FU a0 a1 (1 : Int32) h
theorem g_Planner_canMeet_0_eq : @g_Planner_canMeet_0 = @f_Planner_canMeet_0 := by
  unfold g_Planner_canMeet_0 f_Planner_canMeet_0; rw [g_Planner_canMeet_2_eq]
def g_Planner_canMeet (a0 : Nat) (a1 : Int32) (h : mH) : Option (Int32 × mH) := g_Planner_canMeet_0 a0 a1 h
theorem g_Planner_canMeet_eq : @g_Planner_canMeet = @f_Planner_canMeet := by
  unfold g_Planner_canMeet f_Planner_canMeet; rw [g_Planner_canMeet_0_eq]
def g_Q_together_53 (rec26 : Nat → Int32 → Int32 → Int32 → mH → Option (Int32 × mH)) (b0 : Nat) (b1 : Int32) (b2 : Int32) (b3 : Int32) (s0 : Int32) (h : mH) : Option (Int32 × mH) :=
  if s0 = 0 then
    g_Q_together_87 rec26 b0 b1 b2 b3 h
  else
    bd1 (gR h b0 0 1) fun x29 =>
    bd1 (gI h x29 4 4) fun x31 =>
    bd2 (g_Q_isPart b3 x31 h) fun x35 h33 =>
    if x35 = 0 then
      g_Q_together_87 rec26 b0 b1 b2 b3 h33
    else
      bd1 (gR h33 b0 0 6) fun x36 =>
      bd1 (kC h33 x36 2) fun _ =>
      bd2 (g_Planner_canMeet x36 b3 h33) fun x42 h40 =>
      if x42 = 0 then
        g_Q_together_87 rec26 b0 b1 b2 b3 h40
      else
        g_Q_together_87 rec26 b0 b1 b3 b3 h40
theorem g_Q_together_53_eq : @g_Q_together_53 = @f_Q_together_53 := by
  unfold g_Q_together_53 f_Q_together_53; rw [g_Q_together_87_eq, g_Q_isPart_eq, g_Planner_canMeet_eq]
def g_Q_together_26b (rec26 : Nat → Int32 → Int32 → Int32 → mH → Option (Int32 × mH)) (b0 : Nat) (b1 : Int32) (b2 : Int32) (b3 : Int32) (h : mH) : Option (Int32 × mH) :=
  bd1 (gR h b0 0 1) fun x13 =>
  bd1 (gI h x13 4 4) fun x15 =>
  if x15 < b3 then
    if b1 = 0 then
      bd2 (g_Integer_bitCount b2 h) fun x19 h17 =>
      some (x19, h17)
    else
      some (b2, h)
  else
    bd2 (g_Integer_bitCount b3 h) fun x23 h21 =>
    bd2 (g_Integer_bitCount b2 h21) fun x26 h24 =>
    if x23 ≤ x26 then
      g_Q_together_53 rec26 b0 b1 b2 b3 (0 : Int32) h24
    else
      g_Q_together_53 rec26 b0 b1 b2 b3 (1 : Int32) h24
theorem g_Q_together_26b_eq : @g_Q_together_26b = @f_Q_together_26b := by
  unfold g_Q_together_26b f_Q_together_26b; rw [g_Integer_bitCount_eq, g_Q_together_53_eq]
def g_Q_together_26  : Nat → Nat → Int32 → Int32 → Int32 → mH → Option (Int32 × mH)
  | 0 => fun _ _ _ _ _ => none
  | n + 1 => g_Q_together_26b  (g_Q_together_26  n)
theorem g_Q_together_26_eq : @g_Q_together_26 = @f_Q_together_26 := by
  funext  n
  induction n with
  | zero => rfl
  | succ n ih => show g_Q_together_26b  (g_Q_together_26  n) = f_Q_together_26b  (f_Q_together_26  n); rw [ih, g_Q_together_26b_eq]
def g_Q_together_0  (a0 : Nat) (a1 : Int32) (h : mH) : Option (Int32 × mH) :=
  bd2 (g_Q_isWithin a1 (0 : Int32) (1 : Int32) h) fun x3 h1 =>
  if x3 = 0 then
    some (((-1) : Int32), h1)
  else
    bd1 (gR h1 a0 0 6) fun x4 =>
    bd1 (gR h1 a0 0 1) fun x6 =>
    bd1 (kC h1 x4 2) fun _ =>
    bd1 (g_Planner_load x4 x6 h1) fun h10 =>
    g_Q_together_26  FU a0 a1 (0 : Int32) (0 : Int32) h10
theorem g_Q_together_0_eq : @g_Q_together_0 = @f_Q_together_0 := by
  unfold g_Q_together_0 f_Q_together_0; rw [g_Q_isWithin_eq, g_Planner_load_eq, g_Q_together_26_eq]
def g_Q_together (a0 : Nat) (a1 : Int32) (h : mH) : Option (Int32 × mH) := g_Q_together_0 a0 a1 h
theorem g_Q_together_eq : @g_Q_together = @f_Q_together := by
  unfold g_Q_together f_Q_together; rw [g_Q_together_0_eq]
def g_M_startsRota_69 (rec42 : Nat → Int32 → mH → Option mH) (b0 : Nat) (b2 : Int32) (s0 : Nat) (s1 : Int32) (s2 : Int32) (h : mH) : Option mH :=
  bd1 (sI2 h 0 s0 s1 s2) fun h25 =>
  incI b2 fun bb => rec42 b0 bb h25
theorem g_M_startsRota_69_eq : @g_M_startsRota_69 = @f_M_startsRota_69 := by
  unfold g_M_startsRota_69 f_M_startsRota_69; rw [sI2_eq, incI_eq]
def g_M_startsRota_42b (rec42 : Nat → Int32 → mH → Option mH) (b0 : Nat) (b2 : Int32) (h : mH) : Option mH :=
  if (3 : Int32) ≤ b2 then
    some h
  else
    bd1 (gR h b0 8 29) fun x14 =>
    bd1 (gI h b0 8 3) fun x16 =>
    if x16 ≤ b2 then
      g_M_startsRota_69 rec42 b0 b2 x14 b2 (0 : Int32) h
    else
      bd1 (kC h b0 8) fun _ =>
      bd2 (g_M_timeLeft b0 b2 h) fun x22 h20 =>
      g_M_startsRota_69 rec42 b0 b2 x14 b2 x22 h20
theorem g_M_startsRota_42b_eq : @g_M_startsRota_42b = @f_M_startsRota_42b := by
  unfold g_M_startsRota_42b f_M_startsRota_42b; rw [g_M_startsRota_69_eq, g_M_timeLeft_eq]
def g_M_startsRota_42  : Nat → Nat → Int32 → mH → Option mH
  | 0 => fun _ _ _ => none
  | n + 1 => g_M_startsRota_42b  (g_M_startsRota_42  n)
theorem g_M_startsRota_42_eq : @g_M_startsRota_42 = @f_M_startsRota_42 := by
  funext  n
  induction n with
  | zero => rfl
  | succ n ih => show g_M_startsRota_42b  (g_M_startsRota_42  n) = f_M_startsRota_42b  (f_M_startsRota_42  n); rw [ih, g_M_startsRota_42b_eq]
def g_M_startsRota_33 (rec2 : Nat → Int32 → Int32 → mH → Option mH) (b0 : Nat) (b1 : Int32) (b2 : Int32) (s0 : Nat) (s1 : Int32) (s2 : Int32) (h : mH) : Option mH :=
  bd1 (sI2 h 0 s0 s1 s2) fun h12 =>
  incI b2 fun bb => rec2 b0 b1 bb h12
theorem g_M_startsRota_33_eq : @g_M_startsRota_33 = @f_M_startsRota_33 := by
  unfold g_M_startsRota_33 f_M_startsRota_33; rw [sI2_eq, incI_eq]
def g_M_startsRota_2b (rec2 : Nat → Int32 → Int32 → mH → Option mH) (b0 : Nat) (b1 : Int32) (b2 : Int32) (h : mH) : Option mH :=
  bd1 (gI h b0 8 2) fun x1 =>
  if x1 ≤ b2 then
    g_M_startsRota_42  FU b0 (0 : Int32) h
  else
    bd1 (gR h b0 8 28) fun x3 =>
    if ((b1 >>> (b2 &&& 31)) &&& (1 : Int32)) = (1 : Int32) then
      bd1 (kC h b0 8) fun _ =>
      bd2 (g_M_needOf b0 b2 h) fun x9 h7 =>
      g_M_startsRota_33 rec2 b0 b1 b2 x3 b2 x9 h7
    else
      g_M_startsRota_33 rec2 b0 b1 b2 x3 b2 (0 : Int32) h
theorem g_M_startsRota_2b_eq : @g_M_startsRota_2b = @f_M_startsRota_2b := by
  unfold g_M_startsRota_2b f_M_startsRota_2b; rw [g_M_startsRota_42_eq, g_M_needOf_eq, g_M_startsRota_33_eq]
def g_M_startsRota_2  : Nat → Nat → Int32 → Int32 → mH → Option mH
  | 0 => fun _ _ _ _ => none
  | n + 1 => g_M_startsRota_2b  (g_M_startsRota_2  n)
theorem g_M_startsRota_2_eq : @g_M_startsRota_2 = @f_M_startsRota_2 := by
  funext  n
  induction n with
  | zero => rfl
  | succ n ih => show g_M_startsRota_2b  (g_M_startsRota_2  n) = f_M_startsRota_2b  (f_M_startsRota_2  n); rw [ih, g_M_startsRota_2b_eq]
def g_M_startsRota_0  (a0 : Nat) (a1 : Int32) (h : mH) : Option mH :=
  g_M_startsRota_2  FU a0 a1 (0 : Int32) h
theorem g_M_startsRota_0_eq : @g_M_startsRota_0 = @f_M_startsRota_0 := by
  unfold g_M_startsRota_0 f_M_startsRota_0; rw [g_M_startsRota_2_eq]
def g_M_startsRota (a0 : Nat) (a1 : Int32) (h : mH) : Option mH := g_M_startsRota_0 a0 a1 h
theorem g_M_startsRota_eq : @g_M_startsRota = @f_M_startsRota := by
  unfold g_M_startsRota f_M_startsRota; rw [g_M_startsRota_0_eq]
def g_M_bitsOf_4b (rec4 : Int32 → Int32 → Int32 → mH → Option (Int32 × mH)) (b0 : Int32) (b1 : Int32) (b2 : Int32) (h : mH) : Option (Int32 × mH) :=
  if (5 : Int32) ≤ b2 then
    some (b1, h)
  else
    rec4 b0 (b1 + ((b0 >>> (b2 &&& 31)) &&& (1 : Int32))) (b2 + (1 : Int32)) h
theorem g_M_bitsOf_4b_eq : @g_M_bitsOf_4b = @f_M_bitsOf_4b := by
  rfl
def g_M_bitsOf_4  : Nat → Int32 → Int32 → Int32 → mH → Option (Int32 × mH)
  | 0 => fun _ _ _ _ => none
  | n + 1 => g_M_bitsOf_4b  (g_M_bitsOf_4  n)
theorem g_M_bitsOf_4_eq : @g_M_bitsOf_4 = @f_M_bitsOf_4 := by
  funext  n
  induction n with
  | zero => rfl
  | succ n ih => show g_M_bitsOf_4b  (g_M_bitsOf_4  n) = f_M_bitsOf_4b  (f_M_bitsOf_4  n); rw [ih, g_M_bitsOf_4b_eq]
def g_M_bitsOf_0  (a0 : Int32) (h : mH) : Option (Int32 × mH) :=
  g_M_bitsOf_4  FU a0 (0 : Int32) (0 : Int32) h
theorem g_M_bitsOf_0_eq : @g_M_bitsOf_0 = @f_M_bitsOf_0 := by
  unfold g_M_bitsOf_0 f_M_bitsOf_0; rw [g_M_bitsOf_4_eq]
def g_M_bitsOf (a0 : Int32) (h : mH) : Option (Int32 × mH) := g_M_bitsOf_0 a0 h
theorem g_M_bitsOf_eq : @g_M_bitsOf = @f_M_bitsOf := by
  unfold g_M_bitsOf f_M_bitsOf; rw [g_M_bitsOf_0_eq]
def g_M_together_102 (rec19 : Nat → Int32 → Int32 → Int32 → Int32 → mH → Option (Int32 × mH)) (b0 : Nat) (b1 : Int32) (b3 : Int32) (b4 : Int32) (s0 : Int32) (h : mH) : Option (Int32 × mH) :=
  incI b4 fun bb => rec19 b0 b1 s0 b3 bb h
theorem g_M_together_102_eq : @g_M_together_102 = @f_M_together_102 := by
  unfold g_M_together_102 f_M_together_102; rw [incI_eq]
def g_M_together_87 (rec19 : Nat → Int32 → Int32 → Int32 → Int32 → mH → Option (Int32 × mH)) (b0 : Nat) (b1 : Int32) (b2 : Int32) (b4 : Int32) (b5 : Int32) (s0 : Int32) (h : mH) : Option (Int32 × mH) :=
  if b5 = 0 then
    g_M_together_102 rec19 b0 b1 s0 b4 b2 h
  else
    bd2 (g_M_bitsOf b4 h) fun x31 h29 =>
    g_M_together_102 rec19 b0 b1 s0 b4 x31 h29
theorem g_M_together_87_eq : @g_M_together_87 = @f_M_together_87 := by
  unfold g_M_together_87 f_M_together_87; rw [g_M_together_102_eq, g_M_bitsOf_eq]
def g_M_together_74 (rec19 : Nat → Int32 → Int32 → Int32 → Int32 → mH → Option (Int32 × mH)) (b0 : Nat) (b1 : Int32) (b2 : Int32) (b3 : Int32) (b4 : Int32) (s0 : Int32) (h : mH) : Option (Int32 × mH) :=
  if s0 = 0 then
    g_M_together_87 rec19 b0 b1 b2 b4 s0 b3 h
  else
    g_M_together_87 rec19 b0 b1 b2 b4 s0 b4 h
theorem g_M_together_74_eq : @g_M_together_74 = @f_M_together_74 := by
  unfold g_M_together_74 f_M_together_74; rw [g_M_together_87_eq]
def g_M_together_73 (rec19 : Nat → Int32 → Int32 → Int32 → Int32 → mH → Option (Int32 × mH)) (b0 : Nat) (b1 : Int32) (b2 : Int32) (b3 : Int32) (b4 : Int32) (h : mH) : Option (Int32 × mH) :=
  g_M_together_74 rec19 b0 b1 b2 b3 b4 (0 : Int32) h
theorem g_M_together_73_eq : @g_M_together_73 = @f_M_together_73 := by
  unfold g_M_together_73 f_M_together_73; rw [g_M_together_74_eq]
def g_M_at_0  (a0 : Int32) (a1 : Int32) (a2 : Int32) (a3 : Int32) (h : mH) : Option (Int32 × mH) :=
  some (((((((16 : Int32) * a0) + a1) * (16 : Int32)) + a2) * (16 : Int32)) + a3, h)
theorem g_M_at_0_eq : @g_M_at_0 = @f_M_at_0 := by
  rfl
def g_M_at (a0 : Int32) (a1 : Int32) (a2 : Int32) (a3 : Int32) (h : mH) : Option (Int32 × mH) := g_M_at_0 a0 a1 a2 a3 h
theorem g_M_at_eq : @g_M_at = @f_M_at := by
  unfold g_M_at f_M_at; rw [g_M_at_0_eq]
def g_M_findRota_80 (rec5 : Nat → Int32 → mH → Option (Int32 × mH)) (rec11 : Nat → Int32 → Int32 → mH → Option (Int32 × mH)) (rec23 : Nat → Int32 → Int32 → Int32 → mH → Option (Int32 × mH)) (rec36 : Nat → Int32 → Int32 → Int32 → Int32 → mH → Option (Int32 × mH)) (b0 : Nat) (b1 : Int32) (b2 : Int32) (b3 : Int32) (b4 : Int32) (s0 : Nat) (s1 : Int32) (s2 : Int32) (h : mH) : Option (Int32 × mH) :=
  bd1 (sI2 h 0 s0 s1 s2) fun h51 =>
  incI b4 fun bb => rec36 b0 b1 b2 b3 bb h51
theorem g_M_findRota_80_eq : @g_M_findRota_80 = @f_M_findRota_80 := by
  unfold g_M_findRota_80 f_M_findRota_80; rw [sI2_eq, incI_eq]
def g_M_leastOf_85 (rec7 : Nat → Int32 → Int32 → Int32 → Int32 → Int32 → Int32 → mH → Option (Int32 × mH)) (rec16 : Nat → Int32 → Int32 → Int32 → Int32 → Int32 → Int32 → Int32 → mH → Option (Int32 × mH)) (b0 : Nat) (b1 : Int32) (b2 : Int32) (b3 : Int32) (b4 : Int32) (b6 : Int32) (b7 : Int32) (s0 : Int32) (h : mH) : Option (Int32 × mH) :=
  incI b7 fun bb => rec16 b0 b1 b2 b3 b4 s0 b6 bb h
theorem g_M_leastOf_85_eq : @g_M_leastOf_85 = @f_M_leastOf_85 := by
  unfold g_M_leastOf_85 f_M_leastOf_85; rw [incI_eq]
def g_M_leastOf_69 (rec7 : Nat → Int32 → Int32 → Int32 → Int32 → Int32 → Int32 → mH → Option (Int32 × mH)) (rec16 : Nat → Int32 → Int32 → Int32 → Int32 → Int32 → Int32 → Int32 → mH → Option (Int32 × mH)) (b0 : Nat) (b1 : Int32) (b2 : Int32) (b3 : Int32) (b4 : Int32) (b5 : Int32) (b6 : Int32) (b7 : Int32) (s0 : Int32) (h : mH) : Option (Int32 × mH) :=
  if b5 ≤ s0 then
    g_M_leastOf_85 rec7 rec16 b0 b1 b2 b3 b4 b6 b7 b5 h
  else
    g_M_leastOf_85 rec7 rec16 b0 b1 b2 b3 b4 b6 b7 s0 h
theorem g_M_leastOf_69_eq : @g_M_leastOf_69 = @f_M_leastOf_69 := by
  unfold g_M_leastOf_69 f_M_leastOf_69; rw [g_M_leastOf_85_eq]
def g_M_harmBy_52   (h : mH) : Option (Int32 × mH) :=
  some ((1000000 : Int32), h)
theorem g_M_harmBy_52_eq : @g_M_harmBy_52 = @f_M_harmBy_52 := by
  rfl
def g_M_roomAt_0  (a0 : Nat) (a1 : Int32) (a2 : Int32) (h : mH) : Option (Int32 × mH) :=
  bd1 (gI h a0 8 3) fun x1 =>
  if x1 ≤ a1 then
    some ((0 : Int32), h)
  else
    bd1 (kC h a0 8) fun _ =>
    bd2 (g_M_roomOf a0 a1 a2 h) fun x7 h5 =>
    some (x7, h5)
theorem g_M_roomAt_0_eq : @g_M_roomAt_0 = @f_M_roomAt_0 := by
  unfold g_M_roomAt_0 f_M_roomAt_0; rw [g_M_roomOf_eq]
def g_M_roomAt (a0 : Nat) (a1 : Int32) (a2 : Int32) (h : mH) : Option (Int32 × mH) := g_M_roomAt_0 a0 a1 a2 h
theorem g_M_roomAt_eq : @g_M_roomAt = @f_M_roomAt := by
  unfold g_M_roomAt f_M_roomAt; rw [g_M_roomAt_0_eq]
def g_M_harmBy_0  (a0 : Nat) (a1 : Int32) (a2 : Int32) (a3 : Int32) (a4 : Int32) (a5 : Int32) (a6 : Int32) (a7 : Int32) (h : mH) : Option (Int32 × mH) :=
  if a2 < a5 then
    g_M_harmBy_52  h
  else
    if a3 < a6 then
      g_M_harmBy_52  h
    else
      if a4 < a7 then
        g_M_harmBy_52  h
      else
        bd1 (kC h a0 8) fun _ =>
        bd2 (g_M_roomAt a0 (0 : Int32) a1 h) fun x5 h3 =>
        if x5 < a5 then
          g_M_harmBy_52  h3
        else
          bd1 (kC h3 a0 8) fun _ =>
          bd2 (g_M_roomAt a0 (1 : Int32) a1 h3) fun x10 h8 =>
          if x10 < a6 then
            g_M_harmBy_52  h8
          else
            bd1 (kC h8 a0 8) fun _ =>
            bd2 (g_M_roomAt a0 (2 : Int32) a1 h8) fun x15 h13 =>
            if a7 ≤ x15 then
              bd1 (gR h13 a0 8 5) fun x16 =>
              bd1 (aI h13 0 x16 a1) fun x18 =>
              bd1 (gR h13 a0 8 7) fun x20 =>
              bd1 (aI h13 0 x20 (0 : Int32)) fun x22 =>
              bd1 (gR h13 a0 8 5) fun x24 =>
              bd1 (aI h13 0 x24 a1) fun x26 =>
              bd1 (gR h13 a0 8 7) fun x28 =>
              bd1 (aI h13 0 x28 (1 : Int32)) fun x30 =>
              bd1 (gR h13 a0 8 5) fun x32 =>
              bd1 (aI h13 0 x32 a1) fun x34 =>
              bd1 (gR h13 a0 8 7) fun x36 =>
              bd1 (aI h13 0 x36 (2 : Int32)) fun x38 =>
              bd1 (gR h13 a0 8 27) fun x40 =>
              bd2 (g_M_at (a1 + (1 : Int32)) (a2 - a5) (a3 - a6) (a4 - a7) h13) fun x44 h42 =>
              bd1 (aI h42 0 x40 x44) fun x45 =>
              if x45 = (1000000 : Int32) then
                some ((1000000 : Int32), h42)
              else
                some ((((a5 * (x18 + x22)) + (a6 * (x26 + x30))) + (a7 * (x34 + x38))) + x45, h42)
            else
              g_M_harmBy_52  h13
theorem g_M_harmBy_0_eq : @g_M_harmBy_0 = @f_M_harmBy_0 := by
  unfold g_M_harmBy_0 f_M_harmBy_0; rw [g_M_harmBy_52_eq, g_M_roomAt_eq, g_M_at_eq]
def g_M_harmBy (a0 : Nat) (a1 : Int32) (a2 : Int32) (a3 : Int32) (a4 : Int32) (a5 : Int32) (a6 : Int32) (a7 : Int32) (h : mH) : Option (Int32 × mH) := g_M_harmBy_0 a0 a1 a2 a3 a4 a5 a6 a7 h
theorem g_M_harmBy_eq : @g_M_harmBy = @f_M_harmBy := by
  unfold g_M_harmBy f_M_harmBy; rw [g_M_harmBy_0_eq]
def g_M_leastOf_16b (rec7 : Nat → Int32 → Int32 → Int32 → Int32 → Int32 → Int32 → mH → Option (Int32 × mH)) (rec16 : Nat → Int32 → Int32 → Int32 → Int32 → Int32 → Int32 → Int32 → mH → Option (Int32 × mH)) (b0 : Nat) (b1 : Int32) (b2 : Int32) (b3 : Int32) (b4 : Int32) (b5 : Int32) (b6 : Int32) (b7 : Int32) (h : mH) : Option (Int32 × mH) :=
  if (3 : Int32) < b7 then
    incI b6 fun bb => rec7 b0 b1 b2 b3 b4 b5 bb h
  else
    bd1 (gR h b0 8 28) fun x2 =>
    bd1 (aI h 0 x2 b1) fun x4 =>
    bd2 (g_M_in (((x4 - b6) - b7).toInt64) (0 : Int64) (3 : Int64) h) fun x8 h6 =>
    if x8 = 0 then
      g_M_leastOf_69 rec7 rec16 b0 b1 b2 b3 b4 b5 b6 b7 (1000000 : Int32) h6
    else
      bd1 (kC h6 b0 8) fun _ =>
      bd2 (g_M_harmBy b0 b1 b2 b3 b4 b6 b7 ((x4 - b6) - b7) h6) fun x13 h11 =>
      g_M_leastOf_69 rec7 rec16 b0 b1 b2 b3 b4 b5 b6 b7 x13 h11
theorem g_M_leastOf_16b_eq : @g_M_leastOf_16b = @f_M_leastOf_16b := by
  unfold g_M_leastOf_16b f_M_leastOf_16b; rw [g_M_in_eq, g_M_leastOf_69_eq, g_M_harmBy_eq, incI_eq]
def g_M_leastOf_16 (rec7 : Nat → Int32 → Int32 → Int32 → Int32 → Int32 → Int32 → mH → Option (Int32 × mH)) : Nat → Nat → Int32 → Int32 → Int32 → Int32 → Int32 → Int32 → Int32 → mH → Option (Int32 × mH)
  | 0 => fun _ _ _ _ _ _ _ _ _ => none
  | n + 1 => g_M_leastOf_16b rec7 (g_M_leastOf_16 rec7 n)
theorem g_M_leastOf_16_eq : @g_M_leastOf_16 = @f_M_leastOf_16 := by
  funext rec7 n
  induction n with
  | zero => rfl
  | succ n ih => show g_M_leastOf_16b rec7 (g_M_leastOf_16 rec7 n) = f_M_leastOf_16b rec7 (f_M_leastOf_16 rec7 n); rw [ih, g_M_leastOf_16b_eq]
def g_M_leastOf_7b (rec7 : Nat → Int32 → Int32 → Int32 → Int32 → Int32 → Int32 → mH → Option (Int32 × mH)) (b0 : Nat) (b1 : Int32) (b2 : Int32) (b3 : Int32) (b4 : Int32) (b5 : Int32) (b6 : Int32) (h : mH) : Option (Int32 × mH) :=
  if (3 : Int32) < b6 then
    some (b5, h)
  else
    g_M_leastOf_16 rec7 FU b0 b1 b2 b3 b4 b5 b6 (0 : Int32) h
theorem g_M_leastOf_7b_eq : @g_M_leastOf_7b = @f_M_leastOf_7b := by
  unfold g_M_leastOf_7b f_M_leastOf_7b; rw [g_M_leastOf_16_eq]
def g_M_leastOf_7  : Nat → Nat → Int32 → Int32 → Int32 → Int32 → Int32 → Int32 → mH → Option (Int32 × mH)
  | 0 => fun _ _ _ _ _ _ _ _ => none
  | n + 1 => g_M_leastOf_7b  (g_M_leastOf_7  n)
theorem g_M_leastOf_7_eq : @g_M_leastOf_7 = @f_M_leastOf_7 := by
  funext  n
  induction n with
  | zero => rfl
  | succ n ih => show g_M_leastOf_7b  (g_M_leastOf_7  n) = f_M_leastOf_7b  (f_M_leastOf_7  n); rw [ih, g_M_leastOf_7b_eq]
def g_M_leastOf_0  (a0 : Nat) (a1 : Int32) (a2 : Int32) (a3 : Int32) (a4 : Int32) (h : mH) : Option (Int32 × mH) :=
  g_M_leastOf_7  FU a0 a1 a2 a3 a4 (1000000 : Int32) (0 : Int32) h
theorem g_M_leastOf_0_eq : @g_M_leastOf_0 = @f_M_leastOf_0 := by
  unfold g_M_leastOf_0 f_M_leastOf_0; rw [g_M_leastOf_7_eq]
def g_M_leastOf (a0 : Nat) (a1 : Int32) (a2 : Int32) (a3 : Int32) (a4 : Int32) (h : mH) : Option (Int32 × mH) := g_M_leastOf_0 a0 a1 a2 a3 a4 h
theorem g_M_leastOf_eq : @g_M_leastOf = @f_M_leastOf := by
  unfold g_M_leastOf f_M_leastOf; rw [g_M_leastOf_0_eq]
def g_M_findRota_36b (rec5 : Nat → Int32 → mH → Option (Int32 × mH)) (rec11 : Nat → Int32 → Int32 → mH → Option (Int32 × mH)) (rec23 : Nat → Int32 → Int32 → Int32 → mH → Option (Int32 × mH)) (rec36 : Nat → Int32 → Int32 → Int32 → Int32 → mH → Option (Int32 × mH)) (b0 : Nat) (b1 : Int32) (b2 : Int32) (b3 : Int32) (b4 : Int32) (h : mH) : Option (Int32 × mH) :=
  bd1 (gR h b0 8 29) fun x33 =>
  bd1 (aI h 0 x33 (2 : Int32)) fun x35 =>
  if x35 < b4 then
    incI b3 fun bb => rec23 b0 b1 b2 bb h
  else
    bd1 (gR h b0 8 27) fun x37 =>
    bd2 (g_M_at b1 b2 b3 b4 h) fun x41 h39 =>
    bd1 (gI h39 b0 8 2) fun x42 =>
    if b1 = x42 then
      g_M_findRota_80 rec5 rec11 rec23 rec36 b0 b1 b2 b3 b4 x37 x41 (0 : Int32) h39
    else
      bd1 (kC h39 b0 8) fun _ =>
      bd2 (g_M_leastOf b0 b1 b2 b3 b4 h39) fun x48 h46 =>
      g_M_findRota_80 rec5 rec11 rec23 rec36 b0 b1 b2 b3 b4 x37 x41 x48 h46
theorem g_M_findRota_36b_eq : @g_M_findRota_36b = @f_M_findRota_36b := by
  unfold g_M_findRota_36b f_M_findRota_36b; rw [g_M_at_eq, g_M_findRota_80_eq, g_M_leastOf_eq, incI_eq]
def g_M_findRota_36 (rec5 : Nat → Int32 → mH → Option (Int32 × mH)) (rec11 : Nat → Int32 → Int32 → mH → Option (Int32 × mH)) (rec23 : Nat → Int32 → Int32 → Int32 → mH → Option (Int32 × mH)) : Nat → Nat → Int32 → Int32 → Int32 → Int32 → mH → Option (Int32 × mH)
  | 0 => fun _ _ _ _ _ _ => none
  | n + 1 => g_M_findRota_36b rec5 rec11 rec23 (g_M_findRota_36 rec5 rec11 rec23 n)
theorem g_M_findRota_36_eq : @g_M_findRota_36 = @f_M_findRota_36 := by
  funext rec5 rec11 rec23 n
  induction n with
  | zero => rfl
  | succ n ih => show g_M_findRota_36b rec5 rec11 rec23 (g_M_findRota_36 rec5 rec11 rec23 n) = f_M_findRota_36b rec5 rec11 rec23 (f_M_findRota_36 rec5 rec11 rec23 n); rw [ih, g_M_findRota_36b_eq]
def g_M_findRota_23b (rec5 : Nat → Int32 → mH → Option (Int32 × mH)) (rec11 : Nat → Int32 → Int32 → mH → Option (Int32 × mH)) (rec23 : Nat → Int32 → Int32 → Int32 → mH → Option (Int32 × mH)) (b0 : Nat) (b1 : Int32) (b2 : Int32) (b3 : Int32) (h : mH) : Option (Int32 × mH) :=
  bd1 (gR h b0 8 29) fun x28 =>
  bd1 (aI h 0 x28 (1 : Int32)) fun x30 =>
  if x30 < b3 then
    incI b2 fun bb => rec11 b0 b1 bb h
  else
    g_M_findRota_36 rec5 rec11 rec23 FU b0 b1 b2 b3 (0 : Int32) h
theorem g_M_findRota_23b_eq : @g_M_findRota_23b = @f_M_findRota_23b := by
  unfold g_M_findRota_23b f_M_findRota_23b; rw [g_M_findRota_36_eq, incI_eq]
def g_M_findRota_23 (rec5 : Nat → Int32 → mH → Option (Int32 × mH)) (rec11 : Nat → Int32 → Int32 → mH → Option (Int32 × mH)) : Nat → Nat → Int32 → Int32 → Int32 → mH → Option (Int32 × mH)
  | 0 => fun _ _ _ _ _ => none
  | n + 1 => g_M_findRota_23b rec5 rec11 (g_M_findRota_23 rec5 rec11 n)
theorem g_M_findRota_23_eq : @g_M_findRota_23 = @f_M_findRota_23 := by
  funext rec5 rec11 n
  induction n with
  | zero => rfl
  | succ n ih => show g_M_findRota_23b rec5 rec11 (g_M_findRota_23 rec5 rec11 n) = f_M_findRota_23b rec5 rec11 (f_M_findRota_23 rec5 rec11 n); rw [ih, g_M_findRota_23b_eq]
def g_M_findRota_11b (rec5 : Nat → Int32 → mH → Option (Int32 × mH)) (rec11 : Nat → Int32 → Int32 → mH → Option (Int32 × mH)) (b0 : Nat) (b1 : Int32) (b2 : Int32) (h : mH) : Option (Int32 × mH) :=
  bd1 (gR h b0 8 29) fun x23 =>
  bd1 (aI h 0 x23 (0 : Int32)) fun x25 =>
  if x25 < b2 then
    rec5 b0 (b1 + ((-1) : Int32)) h
  else
    g_M_findRota_23 rec5 rec11 FU b0 b1 b2 (0 : Int32) h
theorem g_M_findRota_11b_eq : @g_M_findRota_11b = @f_M_findRota_11b := by
  unfold g_M_findRota_11b f_M_findRota_11b; rw [g_M_findRota_23_eq]
def g_M_findRota_11 (rec5 : Nat → Int32 → mH → Option (Int32 × mH)) : Nat → Nat → Int32 → Int32 → mH → Option (Int32 × mH)
  | 0 => fun _ _ _ _ => none
  | n + 1 => g_M_findRota_11b rec5 (g_M_findRota_11 rec5 n)
theorem g_M_findRota_11_eq : @g_M_findRota_11 = @f_M_findRota_11 := by
  funext rec5 n
  induction n with
  | zero => rfl
  | succ n ih => show g_M_findRota_11b rec5 (g_M_findRota_11 rec5 n) = f_M_findRota_11b rec5 (f_M_findRota_11 rec5 n); rw [ih, g_M_findRota_11b_eq]
def g_M_findRota_5b (rec5 : Nat → Int32 → mH → Option (Int32 × mH)) (b0 : Nat) (b1 : Int32) (h : mH) : Option (Int32 × mH) :=
  if b1 < 0 then
    bd1 (gR h b0 8 27) fun x3 =>
    bd1 (gR h b0 8 29) fun x5 =>
    bd1 (aI h 0 x5 (0 : Int32)) fun x7 =>
    bd1 (gR h b0 8 29) fun x9 =>
    bd1 (aI h 0 x9 (1 : Int32)) fun x11 =>
    bd1 (gR h b0 8 29) fun x13 =>
    bd1 (aI h 0 x13 (2 : Int32)) fun x15 =>
    bd2 (g_M_at (0 : Int32) x7 x11 x15 h) fun x19 h17 =>
    bd1 (aI h17 0 x3 x19) fun x20 =>
    some (x20, h17)
  else
    g_M_findRota_11 rec5 FU b0 b1 (0 : Int32) h
theorem g_M_findRota_5b_eq : @g_M_findRota_5b = @f_M_findRota_5b := by
  unfold g_M_findRota_5b f_M_findRota_5b; rw [g_M_at_eq, g_M_findRota_11_eq]
def g_M_findRota_5  : Nat → Nat → Int32 → mH → Option (Int32 × mH)
  | 0 => fun _ _ _ => none
  | n + 1 => g_M_findRota_5b  (g_M_findRota_5  n)
theorem g_M_findRota_5_eq : @g_M_findRota_5 = @f_M_findRota_5 := by
  funext  n
  induction n with
  | zero => rfl
  | succ n ih => show g_M_findRota_5b  (g_M_findRota_5  n) = f_M_findRota_5b  (f_M_findRota_5  n); rw [ih, g_M_findRota_5b_eq]
def g_M_findRota_0  (a0 : Nat) (h : mH) : Option (Int32 × mH) :=
  bd1 (gI h a0 8 2) fun x1 =>
  g_M_findRota_5  FU a0 x1 h
theorem g_M_findRota_0_eq : @g_M_findRota_0 = @f_M_findRota_0 := by
  unfold g_M_findRota_0 f_M_findRota_0; rw [g_M_findRota_5_eq]
def g_M_findRota (a0 : Nat) (h : mH) : Option (Int32 × mH) := g_M_findRota_0 a0 h
theorem g_M_findRota_eq : @g_M_findRota = @f_M_findRota := by
  unfold g_M_findRota f_M_findRota; rw [g_M_findRota_0_eq]
def g_M_together_19b (rec19 : Nat → Int32 → Int32 → Int32 → Int32 → mH → Option (Int32 × mH)) (b0 : Nat) (b1 : Int32) (b2 : Int32) (b3 : Int32) (b4 : Int32) (h : mH) : Option (Int32 × mH) :=
  bd1 (gI h b0 8 2) fun x5 =>
  if ((1 : Int32) <<< (x5 &&& 31)) ≤ b4 then
    if b1 = 0 then
      some (b2, h)
    else
      some (b3, h)
  else
    bd1 (kC h b0 8) fun _ =>
    bd1 (g_M_startsRota b0 b4 h) fun h10 =>
    bd1 (gR h10 b0 8 0) fun x12 =>
    bd1 (aI h10 0 x12 (10 : Int32)) fun x14 =>
    if (b4 &&& (x14 ^^^ ((-1) : Int32))) = 0 then
      bd2 (g_M_bitsOf b4 h10) fun x18 h16 =>
      if x18 ≤ b2 then
        g_M_together_73 rec19 b0 b1 b2 b3 b4 h16
      else
        bd1 (kC h16 b0 8) fun _ =>
        bd2 (g_M_findRota b0 h16) fun x23 h21 =>
        if x23 = (1000000 : Int32) then
          g_M_together_73 rec19 b0 b1 b2 b3 b4 h21
        else
          g_M_together_74 rec19 b0 b1 b2 b3 b4 (1 : Int32) h21
    else
      g_M_together_73 rec19 b0 b1 b2 b3 b4 h10
theorem g_M_together_19b_eq : @g_M_together_19b = @f_M_together_19b := by
  unfold g_M_together_19b f_M_together_19b; rw [g_M_startsRota_eq, g_M_bitsOf_eq, g_M_together_73_eq, g_M_findRota_eq, g_M_together_74_eq]
def g_M_together_19  : Nat → Nat → Int32 → Int32 → Int32 → Int32 → mH → Option (Int32 × mH)
  | 0 => fun _ _ _ _ _ _ => none
  | n + 1 => g_M_together_19b  (g_M_together_19  n)
theorem g_M_together_19_eq : @g_M_together_19 = @f_M_together_19 := by
  funext  n
  induction n with
  | zero => rfl
  | succ n ih => show g_M_together_19b  (g_M_together_19  n) = f_M_together_19b  (f_M_together_19  n); rw [ih, g_M_together_19b_eq]
def g_M_together_0  (a0 : Nat) (a1 : Int32) (h : mH) : Option (Int32 × mH) :=
  bd2 (g_M_in a1.toInt64 (0 : Int64) (1 : Int64) h) fun x3 h1 =>
  if x3 = 0 then
    some (((-1) : Int32), h1)
  else
    g_M_together_19  FU a0 a1 ((-1) : Int32) (0 : Int32) (0 : Int32) h1
theorem g_M_together_0_eq : @g_M_together_0 = @f_M_together_0 := by
  unfold g_M_together_0 f_M_together_0; rw [g_M_in_eq, g_M_together_19_eq]
def g_M_together (a0 : Nat) (a1 : Int32) (h : mH) : Option (Int32 × mH) := g_M_together_0 a0 a1 h
theorem g_M_together_eq : @g_M_together = @f_M_together := by
  unfold g_M_together f_M_together; rw [g_M_together_0_eq]
def g_Planner_stateOf_0  (a0 : Int32) (a1 : Int32) (a2 : Int32) (h : mH) : Option (Int32 × mH) :=
  some ((((a0 * (6 : Int32)) + a1) * (6 : Int32)) + a2, h)
theorem g_Planner_stateOf_0_eq : @g_Planner_stateOf_0 = @f_Planner_stateOf_0 := by
  rfl
def g_Planner_stateOf (a0 : Int32) (a1 : Int32) (a2 : Int32) (h : mH) : Option (Int32 × mH) := g_Planner_stateOf_0 a0 a1 a2 h
theorem g_Planner_stateOf_eq : @g_Planner_stateOf = @f_Planner_stateOf := by
  unfold g_Planner_stateOf f_Planner_stateOf; rw [g_Planner_stateOf_0_eq]
def g_Planner_leftToLast_0  (a0 : Nat) (a1 : Int32) (a2 : Int32) (a3 : Int32) (h : mH) : Option (Int32 × mH) :=
  bd1 (gR h a0 2 1) fun x1 =>
  bd1 (aI h 0 x1 (2 : Int32)) fun x3 =>
  bd1 (gR h a0 2 3) fun x5 =>
  bd1 (aI h 0 x5 a1) fun x7 =>
  bd1 (gR h a0 2 1) fun x9 =>
  bd1 (aI h 0 x9 (0 : Int32)) fun x11 =>
  bd1 (gR h a0 2 1) fun x13 =>
  bd1 (aI h 0 x13 (1 : Int32)) fun x15 =>
  some (((((x3 - x7) + x11) - a2) + x15) - a3, h)
theorem g_Planner_leftToLast_0_eq : @g_Planner_leftToLast_0 = @f_Planner_leftToLast_0 := by
  rfl
def g_Planner_leftToLast (a0 : Nat) (a1 : Int32) (a2 : Int32) (a3 : Int32) (h : mH) : Option (Int32 × mH) := g_Planner_leftToLast_0 a0 a1 a2 a3 h
theorem g_Planner_leftToLast_eq : @g_Planner_leftToLast = @f_Planner_leftToLast := by
  unfold g_Planner_leftToLast f_Planner_leftToLast; rw [g_Planner_leftToLast_0_eq]
def g_Planner_leastHarm_82 (rec14 : Nat → Int32 → mH → Option (Int32 × mH)) (rec20 : Nat → Int32 → Int32 → mH → Option (Int32 × mH)) (rec32 : Nat → Int32 → Int32 → Int32 → mH → Option (Int32 × mH)) (b0 : Nat) (b1 : Int32) (b2 : Int32) (b3 : Int32) (h : mH) : Option (Int32 × mH) :=
  incI b3 fun bb => rec32 b0 b1 b2 bb h
theorem g_Planner_leastHarm_82_eq : @g_Planner_leastHarm_82 = @f_Planner_leastHarm_82 := by
  unfold g_Planner_leastHarm_82 f_Planner_leastHarm_82; rw [incI_eq]
def g_Planner_leastHarm_81 (rec14 : Nat → Int32 → mH → Option (Int32 × mH)) (rec20 : Nat → Int32 → Int32 → mH → Option (Int32 × mH)) (rec32 : Nat → Int32 → Int32 → Int32 → mH → Option (Int32 × mH)) (b0 : Nat) (b1 : Int32) (b2 : Int32) (b3 : Int32) (s0 : Nat) (s1 : Int32) (s2 : Int32) (h : mH) : Option (Int32 × mH) :=
  bd1 (sI2 h 0 s0 s1 s2) fun h53 =>
  g_Planner_leastHarm_82 rec14 rec20 rec32 b0 b1 b2 b3 h53
theorem g_Planner_leastHarm_81_eq : @g_Planner_leastHarm_81 = @f_Planner_leastHarm_81 := by
  unfold g_Planner_leastHarm_81 f_Planner_leastHarm_81; rw [g_Planner_leastHarm_82_eq, sI2_eq]
def g_Planner_search_192 (rec54 : Nat → Int32 → Int32 → Int32 → Int32 → Int32 → Int32 → Int32 → Int32 → mH → Option (Int32 × mH)) (rec64 : Nat → Int32 → Int32 → Int32 → Int32 → Int32 → Int32 → Int32 → Int32 → Int32 → mH → Option (Int32 × mH)) (b0 : Nat) (b1 : Int32) (b2 : Int32) (b3 : Int32) (b4 : Int32) (b5 : Int32) (b6 : Int32) (b7 : Int32) (b8 : Int32) (b9 : Int32) (h : mH) : Option (Int32 × mH) :=
  incI b9 fun bb => rec64 b0 b1 b2 b3 b4 b5 b6 b7 b8 bb h
theorem g_Planner_search_192_eq : @g_Planner_search_192 = @f_Planner_search_192 := by
  unfold g_Planner_search_192 f_Planner_search_192; rw [incI_eq]
def g_Planner_search_64b (rec54 : Nat → Int32 → Int32 → Int32 → Int32 → Int32 → Int32 → Int32 → Int32 → mH → Option (Int32 × mH)) (rec64 : Nat → Int32 → Int32 → Int32 → Int32 → Int32 → Int32 → Int32 → Int32 → Int32 → mH → Option (Int32 × mH)) (b0 : Nat) (b1 : Int32) (b2 : Int32) (b3 : Int32) (b4 : Int32) (b5 : Int32) (b6 : Int32) (b7 : Int32) (b8 : Int32) (b9 : Int32) (h : mH) : Option (Int32 × mH) :=
  if b6 < b9 then
    incI b8 fun bb => rec54 b0 b1 b2 b3 b4 b5 b6 b7 bb h
  else
    bd1 (gR h b0 2 2) fun x19 =>
    bd1 (aI h 0 x19 b1) fun x21 =>
    bd2 (g_Q_isWithin ((x21 - b8) - b9) (0 : Int32) b7 h) fun x25 h23 =>
    if x25 = 0 then
      g_Planner_search_192 rec54 rec64 b0 b1 b2 b3 b4 b5 b6 b7 b8 b9 h23
    else
      bd1 (gR h23 b0 2 5) fun x26 =>
      bd1 (aI h23 0 x26 b1) fun x28 =>
      bd1 (gR h23 b0 2 5) fun x30 =>
      bd1 (aI h23 0 x30 ((5 : Int32) + b1)) fun x32 =>
      bd1 (gR h23 b0 2 5) fun x34 =>
      bd1 (aI h23 0 x34 ((10 : Int32) + b1)) fun x36 =>
      bd1 (gR h23 b0 2 7) fun x38 =>
      bd2 (g_Planner_stateOf (b1 + (1 : Int32)) (b2 - b8) (b3 - b9) h23) fun x42 h40 =>
      bd1 (aI h40 0 x38 x42) fun x43 =>
      if b4 ≤ ((((b8 * x28) + (b9 * x32)) + (((x21 - b8) - b9) * x36)) + x43) then
        g_Planner_search_192 rec54 rec64 b0 b1 b2 b3 b4 b5 b6 b7 b8 b9 h40
      else
        bd1 (gR h40 b0 2 6) fun x45 =>
        bd1 (sI2 h40 0 x45 b1 b8) fun h47 =>
        bd1 (gR h47 b0 2 6) fun x49 =>
        bd1 (sI2 h47 0 x49 ((5 : Int32) + b1) b9) fun h51 =>
        bd1 (gR h51 b0 2 6) fun x53 =>
        bd1 (sI2 h51 0 x53 ((10 : Int32) + b1) ((x21 - b8) - b9)) fun h55 =>
        g_Planner_search_192 rec54 rec64 b0 b1 b2 b3 ((((b8 * x28) + (b9 * x32)) + (((x21 - b8) - b9) * x36)) + x43) b5 b6 b7 b8 b9 h55
theorem g_Planner_search_64b_eq : @g_Planner_search_64b = @f_Planner_search_64b := by
  unfold g_Planner_search_64b f_Planner_search_64b; rw [g_Q_isWithin_eq, g_Planner_search_192_eq, g_Planner_stateOf_eq, sI2_eq, incI_eq]
def g_Planner_search_64 (rec54 : Nat → Int32 → Int32 → Int32 → Int32 → Int32 → Int32 → Int32 → Int32 → mH → Option (Int32 × mH)) : Nat → Nat → Int32 → Int32 → Int32 → Int32 → Int32 → Int32 → Int32 → Int32 → Int32 → mH → Option (Int32 × mH)
  | 0 => fun _ _ _ _ _ _ _ _ _ _ _ => none
  | n + 1 => g_Planner_search_64b rec54 (g_Planner_search_64 rec54 n)
theorem g_Planner_search_64_eq : @g_Planner_search_64 = @f_Planner_search_64 := by
  funext rec54 n
  induction n with
  | zero => rfl
  | succ n ih => show g_Planner_search_64b rec54 (g_Planner_search_64 rec54 n) = f_Planner_search_64b rec54 (f_Planner_search_64 rec54 n); rw [ih, g_Planner_search_64b_eq]
def g_Planner_search_54b (rec54 : Nat → Int32 → Int32 → Int32 → Int32 → Int32 → Int32 → Int32 → Int32 → mH → Option (Int32 × mH)) (b0 : Nat) (b1 : Int32) (b2 : Int32) (b3 : Int32) (b4 : Int32) (b5 : Int32) (b6 : Int32) (b7 : Int32) (b8 : Int32) (h : mH) : Option (Int32 × mH) :=
  if b5 < b8 then
    some (b4, h)
  else
    g_Planner_search_64 rec54 FU b0 b1 b2 b3 b4 b5 b6 b7 b8 (0 : Int32) h
theorem g_Planner_search_54b_eq : @g_Planner_search_54b = @f_Planner_search_54b := by
  unfold g_Planner_search_54b f_Planner_search_54b; rw [g_Planner_search_64_eq]
def g_Planner_search_54  : Nat → Nat → Int32 → Int32 → Int32 → Int32 → Int32 → Int32 → Int32 → Int32 → mH → Option (Int32 × mH)
  | 0 => fun _ _ _ _ _ _ _ _ _ _ => none
  | n + 1 => g_Planner_search_54b  (g_Planner_search_54  n)
theorem g_Planner_search_54_eq : @g_Planner_search_54 = @f_Planner_search_54 := by
  funext  n
  induction n with
  | zero => rfl
  | succ n ih => show g_Planner_search_54b  (g_Planner_search_54  n) = f_Planner_search_54b  (f_Planner_search_54  n); rw [ih, g_Planner_search_54b_eq]
def g_Planner_search_0  (a0 : Nat) (a1 : Int32) (a2 : Int32) (a3 : Int32) (h : mH) : Option (Int32 × mH) :=
  bd1 (gR h a0 2 4) fun x1 =>
  bd1 (aI h 0 x1 a1) fun x3 =>
  bd1 (gR h a0 2 4) fun x5 =>
  bd1 (aI h 0 x5 ((5 : Int32) + a1)) fun x7 =>
  bd1 (gR h a0 2 4) fun x9 =>
  bd1 (aI h 0 x9 ((10 : Int32) + a1)) fun x11 =>
  bd1 (kC h a0 2) fun _ =>
  bd2 (g_Planner_leftToLast a0 a1 a2 a3 h) fun x17 h15 =>
  g_Planner_search_54  FU a0 a1 a2 a3 (1000000 : Int32) (if a2 < x3 then a2 else x3) (if a3 < x7 then a3 else x7) (if x17 < x11 then x17 else x11) (0 : Int32) h15
theorem g_Planner_search_0_eq : @g_Planner_search_0 = @f_Planner_search_0 := by
  unfold g_Planner_search_0 f_Planner_search_0; rw [g_Planner_leftToLast_eq, g_Planner_search_54_eq]
def g_Planner_search (a0 : Nat) (a1 : Int32) (a2 : Int32) (a3 : Int32) (h : mH) : Option (Int32 × mH) := g_Planner_search_0 a0 a1 a2 a3 h
theorem g_Planner_search_eq : @g_Planner_search = @f_Planner_search := by
  unfold g_Planner_search f_Planner_search; rw [g_Planner_search_0_eq]
def g_Planner_leastHarm_32b (rec14 : Nat → Int32 → mH → Option (Int32 × mH)) (rec20 : Nat → Int32 → Int32 → mH → Option (Int32 × mH)) (rec32 : Nat → Int32 → Int32 → Int32 → mH → Option (Int32 × mH)) (b0 : Nat) (b1 : Int32) (b2 : Int32) (b3 : Int32) (h : mH) : Option (Int32 × mH) :=
  bd1 (gR h b0 2 1) fun x29 =>
  bd1 (aI h 0 x29 (1 : Int32)) fun x31 =>
  if x31 < b3 then
    incI b2 fun bb => rec20 b0 b1 bb h
  else
    bd1 (kC h b0 2) fun _ =>
    bd2 (g_Planner_leftToLast b0 b1 b2 b3 h) fun x37 h35 =>
    if x37 < 0 then
      g_Planner_leastHarm_82 rec14 rec20 rec32 b0 b1 b2 b3 h35
    else
      bd1 (gR h35 b0 2 7) fun x38 =>
      bd2 (g_Planner_stateOf b1 b2 b3 h35) fun x42 h40 =>
      bd1 (gI h40 b0 2 0) fun x43 =>
      if b1 = x43 then
        g_Planner_leastHarm_81 rec14 rec20 rec32 b0 b1 b2 b3 x38 x42 (0 : Int32) h40
      else
        bd1 (kC h40 b0 2) fun _ =>
        bd2 (g_Planner_search b0 b1 b2 b3 h40) fun x49 h47 =>
        g_Planner_leastHarm_81 rec14 rec20 rec32 b0 b1 b2 b3 x38 x42 x49 h47
theorem g_Planner_leastHarm_32b_eq : @g_Planner_leastHarm_32b = @f_Planner_leastHarm_32b := by
  unfold g_Planner_leastHarm_32b f_Planner_leastHarm_32b; rw [g_Planner_leftToLast_eq, g_Planner_leastHarm_82_eq, g_Planner_stateOf_eq, g_Planner_leastHarm_81_eq, g_Planner_search_eq, incI_eq]
def g_Planner_leastHarm_32 (rec14 : Nat → Int32 → mH → Option (Int32 × mH)) (rec20 : Nat → Int32 → Int32 → mH → Option (Int32 × mH)) : Nat → Nat → Int32 → Int32 → Int32 → mH → Option (Int32 × mH)
  | 0 => fun _ _ _ _ _ => none
  | n + 1 => g_Planner_leastHarm_32b rec14 rec20 (g_Planner_leastHarm_32 rec14 rec20 n)
theorem g_Planner_leastHarm_32_eq : @g_Planner_leastHarm_32 = @f_Planner_leastHarm_32 := by
  funext rec14 rec20 n
  induction n with
  | zero => rfl
  | succ n ih => show g_Planner_leastHarm_32b rec14 rec20 (g_Planner_leastHarm_32 rec14 rec20 n) = f_Planner_leastHarm_32b rec14 rec20 (f_Planner_leastHarm_32 rec14 rec20 n); rw [ih, g_Planner_leastHarm_32b_eq]
def g_Planner_leastHarm_20b (rec14 : Nat → Int32 → mH → Option (Int32 × mH)) (rec20 : Nat → Int32 → Int32 → mH → Option (Int32 × mH)) (b0 : Nat) (b1 : Int32) (b2 : Int32) (h : mH) : Option (Int32 × mH) :=
  bd1 (gR h b0 2 1) fun x24 =>
  bd1 (aI h 0 x24 (0 : Int32)) fun x26 =>
  if x26 < b2 then
    rec14 b0 (b1 + ((-1) : Int32)) h
  else
    g_Planner_leastHarm_32 rec14 rec20 FU b0 b1 b2 (0 : Int32) h
theorem g_Planner_leastHarm_20b_eq : @g_Planner_leastHarm_20b = @f_Planner_leastHarm_20b := by
  unfold g_Planner_leastHarm_20b f_Planner_leastHarm_20b; rw [g_Planner_leastHarm_32_eq]
def g_Planner_leastHarm_20 (rec14 : Nat → Int32 → mH → Option (Int32 × mH)) : Nat → Nat → Int32 → Int32 → mH → Option (Int32 × mH)
  | 0 => fun _ _ _ _ => none
  | n + 1 => g_Planner_leastHarm_20b rec14 (g_Planner_leastHarm_20 rec14 n)
theorem g_Planner_leastHarm_20_eq : @g_Planner_leastHarm_20 = @f_Planner_leastHarm_20 := by
  funext rec14 n
  induction n with
  | zero => rfl
  | succ n ih => show g_Planner_leastHarm_20b rec14 (g_Planner_leastHarm_20 rec14 n) = f_Planner_leastHarm_20b rec14 (f_Planner_leastHarm_20 rec14 n); rw [ih, g_Planner_leastHarm_20b_eq]
def g_Planner_leastHarm_14b (rec14 : Nat → Int32 → mH → Option (Int32 × mH)) (b0 : Nat) (b1 : Int32) (h : mH) : Option (Int32 × mH) :=
  if b1 < 0 then
    bd1 (gR h b0 2 7) fun x7 =>
    bd1 (gR h b0 2 1) fun x9 =>
    bd1 (aI h 0 x9 (0 : Int32)) fun x11 =>
    bd1 (gR h b0 2 1) fun x13 =>
    bd1 (aI h 0 x13 (1 : Int32)) fun x15 =>
    bd2 (g_Planner_stateOf (0 : Int32) x11 x15 h) fun x19 h17 =>
    bd1 (aI h17 0 x7 x19) fun x20 =>
    if (1000000 : Int32) ≤ x20 then
      some (((-4) : Int32), h17)
    else
      some (x20, h17)
  else
    g_Planner_leastHarm_20 rec14 FU b0 b1 (0 : Int32) h
theorem g_Planner_leastHarm_14b_eq : @g_Planner_leastHarm_14b = @f_Planner_leastHarm_14b := by
  unfold g_Planner_leastHarm_14b f_Planner_leastHarm_14b; rw [g_Planner_stateOf_eq, g_Planner_leastHarm_20_eq]
def g_Planner_leastHarm_14  : Nat → Nat → Int32 → mH → Option (Int32 × mH)
  | 0 => fun _ _ _ => none
  | n + 1 => g_Planner_leastHarm_14b  (g_Planner_leastHarm_14  n)
theorem g_Planner_leastHarm_14_eq : @g_Planner_leastHarm_14 = @f_Planner_leastHarm_14 := by
  funext  n
  induction n with
  | zero => rfl
  | succ n ih => show g_Planner_leastHarm_14b  (g_Planner_leastHarm_14  n) = f_Planner_leastHarm_14b  (f_Planner_leastHarm_14  n); rw [ih, g_Planner_leastHarm_14b_eq]
def g_Planner_leastHarm_0  (a0 : Nat) (h : mH) : Option (Int32 × mH) :=
  bd1 (gR h a0 2 7) fun x1 =>
  bd1 (g_Arrays_fillI x1 (1000000 : Int32) h) fun h3 =>
  bd1 (gI h3 a0 2 0) fun x5 =>
  g_Planner_leastHarm_14  FU a0 x5 h3
theorem g_Planner_leastHarm_0_eq : @g_Planner_leastHarm_0 = @f_Planner_leastHarm_0 := by
  unfold g_Planner_leastHarm_0 f_Planner_leastHarm_0; rw [g_Arrays_fillI_eq, g_Planner_leastHarm_14_eq]
def g_Planner_leastHarm (a0 : Nat) (h : mH) : Option (Int32 × mH) := g_Planner_leastHarm_0 a0 h
theorem g_Planner_leastHarm_eq : @g_Planner_leastHarm = @f_Planner_leastHarm := by
  unfold g_Planner_leastHarm f_Planner_leastHarm; rw [g_Planner_leastHarm_0_eq]
def g_Q_rota_74  (b4 : Int32) (h : mH) : Option (Int32 × mH) :=
  some (b4, h)
theorem g_Q_rota_74_eq : @g_Q_rota_74 = @f_Q_rota_74 := by
  rfl
def g_Planner_timesInFirst_18b (rec18 : Nat → Int32 → Int32 → Int32 → Int32 → Int32 → mH → Option (Int32 × mH)) (b0 : Nat) (b1 : Int32) (b2 : Int32) (b3 : Int32) (b4 : Int32) (b5 : Int32) (h : mH) : Option (Int32 × mH) :=
  if b2 < b5 then
    bd1 (gR h b0 2 6) fun x9 =>
    bd1 (aI h 0 x9 ((b1 * (5 : Int32)) + b2)) fun x11 =>
    some (x11, h)
  else
    bd1 (kC h b0 2) fun _ =>
    bd2 (g_Planner_search b0 b5 b3 b4 h) fun x17 h15 =>
    bd1 (gR h15 b0 2 6) fun x18 =>
    bd1 (aI h15 0 x18 b5) fun x20 =>
    bd1 (gR h15 b0 2 6) fun x22 =>
    bd1 (aI h15 0 x22 ((5 : Int32) + b5)) fun x24 =>
    rec18 b0 b1 b2 (b3 - x20) (b4 - x24) (b5 + (1 : Int32)) h15
theorem g_Planner_timesInFirst_18b_eq : @g_Planner_timesInFirst_18b = @f_Planner_timesInFirst_18b := by
  unfold g_Planner_timesInFirst_18b f_Planner_timesInFirst_18b; rw [g_Planner_search_eq]
def g_Planner_timesInFirst_18  : Nat → Nat → Int32 → Int32 → Int32 → Int32 → Int32 → mH → Option (Int32 × mH)
  | 0 => fun _ _ _ _ _ _ _ => none
  | n + 1 => g_Planner_timesInFirst_18b  (g_Planner_timesInFirst_18  n)
theorem g_Planner_timesInFirst_18_eq : @g_Planner_timesInFirst_18 = @f_Planner_timesInFirst_18 := by
  funext  n
  induction n with
  | zero => rfl
  | succ n ih => show g_Planner_timesInFirst_18b  (g_Planner_timesInFirst_18  n) = f_Planner_timesInFirst_18b  (f_Planner_timesInFirst_18  n); rw [ih, g_Planner_timesInFirst_18b_eq]
def g_Planner_timesInFirst_0  (a0 : Nat) (a1 : Int32) (a2 : Int32) (h : mH) : Option (Int32 × mH) :=
  bd1 (gR h a0 2 1) fun x1 =>
  bd1 (aI h 0 x1 (0 : Int32)) fun x3 =>
  bd1 (gR h a0 2 1) fun x5 =>
  bd1 (aI h 0 x5 (1 : Int32)) fun x7 =>
  g_Planner_timesInFirst_18  FU a0 a1 a2 x3 x7 (0 : Int32) h
theorem g_Planner_timesInFirst_0_eq : @g_Planner_timesInFirst_0 = @f_Planner_timesInFirst_0 := by
  unfold g_Planner_timesInFirst_0 f_Planner_timesInFirst_0; rw [g_Planner_timesInFirst_18_eq]
def g_Planner_timesInFirst (a0 : Nat) (a1 : Int32) (a2 : Int32) (h : mH) : Option (Int32 × mH) := g_Planner_timesInFirst_0 a0 a1 a2 h
theorem g_Planner_timesInFirst_eq : @g_Planner_timesInFirst = @f_Planner_timesInFirst := by
  unfold g_Planner_timesInFirst f_Planner_timesInFirst; rw [g_Planner_timesInFirst_0_eq]
def g_Q_rota_43  (b0 : Nat) (b1 : Int32) (b2 : Int32) (h : mH) : Option (Int32 × mH) :=
  bd1 (gR h b0 0 6) fun x12 =>
  bd1 (gR h b0 0 1) fun x14 =>
  bd1 (kC h x12 2) fun _ =>
  bd1 (g_Planner_load x12 x14 h) fun h18 =>
  bd1 (gR h18 b0 0 6) fun x20 =>
  bd1 (kC h18 x20 2) fun _ =>
  bd2 (g_Planner_leastHarm x20 h18) fun x26 h24 =>
  if x26 = ((-4) : Int32) then
    g_Q_rota_74  x26 h24
  else
    if b1 = 0 then
      g_Q_rota_74  x26 h24
    else
      bd1 (gR h24 b0 0 6) fun x27 =>
      bd1 (kC h24 x27 2) fun _ =>
      bd2 (g_Planner_timesInFirst x27 (b2 - b2 / (3 : Int32) * (3 : Int32)) (b2 / (3 : Int32)) h24) fun x33 h31 =>
      some (x33, h31)
theorem g_Q_rota_43_eq : @g_Q_rota_43 = @f_Q_rota_43 := by
  unfold g_Q_rota_43 f_Q_rota_43; rw [g_Planner_load_eq, g_Planner_leastHarm_eq, g_Q_rota_74_eq, g_Planner_timesInFirst_eq]
def g_Q_rota_32  (b0 : Nat) (b1 : Int32) (b2 : Int32) (s0 : Int32) (h : mH) : Option (Int32 × mH) :=
  if b1 = 0 then
    g_Q_rota_43  b0 b1 b2 h
  else
    if s0 = 0 then
      some (((-1) : Int32), h)
    else
      g_Q_rota_43  b0 b1 b2 h
theorem g_Q_rota_32_eq : @g_Q_rota_32 = @f_Q_rota_32 := by
  unfold g_Q_rota_32 f_Q_rota_32; rw [g_Q_rota_43_eq]
def g_Q_rota_31  (b0 : Nat) (b1 : Int32) (b2 : Int32) (h : mH) : Option (Int32 × mH) :=
  g_Q_rota_32  b0 b1 b2 (0 : Int32) h
theorem g_Q_rota_31_eq : @g_Q_rota_31 = @f_Q_rota_31 := by
  unfold g_Q_rota_31 f_Q_rota_31; rw [g_Q_rota_32_eq]
def g_Realm_hasBoth_20   (h : mH) : Option (Int32 × mH) :=
  some ((0 : Int32), h)
theorem g_Realm_hasBoth_20_eq : @g_Realm_hasBoth_20 = @f_Realm_hasBoth_20 := by
  rfl
def g_Realm_hasBoth_0  (a0 : Nat) (a1 : Int32) (a2 : Int32) (h : mH) : Option (Int32 × mH) :=
  bd1 (kC h a0 4) fun _ =>
  bd2 (g_Realm_hasOne a0 a1 h) fun x5 h3 =>
  if x5 = 0 then
    g_Realm_hasBoth_20  h3
  else
    bd1 (kC h3 a0 4) fun _ =>
    bd2 (g_Realm_hasLaw a0 a2 h3) fun x10 h8 =>
    if x10 = 0 then
      g_Realm_hasBoth_20  h8
    else
      some ((1 : Int32), h8)
theorem g_Realm_hasBoth_0_eq : @g_Realm_hasBoth_0 = @f_Realm_hasBoth_0 := by
  unfold g_Realm_hasBoth_0 f_Realm_hasBoth_0; rw [g_Realm_hasOne_eq, g_Realm_hasBoth_20_eq, g_Realm_hasLaw_eq]
def g_Realm_hasBoth (a0 : Nat) (a1 : Int32) (a2 : Int32) (h : mH) : Option (Int32 × mH) := g_Realm_hasBoth_0 a0 a1 a2 h
theorem g_Realm_hasBoth_eq : @g_Realm_hasBoth = @f_Realm_hasBoth := by
  unfold g_Realm_hasBoth f_Realm_hasBoth; rw [g_Realm_hasBoth_0_eq]
def g_Q_rota_0  (a0 : Nat) (a1 : Int32) (h : mH) : Option (Int32 × mH) :=
  if a1 < (10 : Int32) then
    g_Q_rota_31  a0 a1 (a1 - (10 : Int32)) h
  else
    bd1 (gR h a0 0 1) fun x1 =>
    bd1 (kC h x1 4) fun _ =>
    bd2 (g_Realm_hasBoth x1 ((a1 - (10 : Int32)) - (a1 - (10 : Int32)) / (3 : Int32) * (3 : Int32)) ((a1 - (10 : Int32)) / (3 : Int32)) h) fun x7 h5 =>
    if x7 = 0 then
      g_Q_rota_31  a0 a1 (a1 - (10 : Int32)) h5
    else
      g_Q_rota_32  a0 a1 (a1 - (10 : Int32)) (1 : Int32) h5
theorem g_Q_rota_0_eq : @g_Q_rota_0 = @f_Q_rota_0 := by
  unfold g_Q_rota_0 f_Q_rota_0; rw [g_Q_rota_31_eq, g_Realm_hasBoth_eq, g_Q_rota_32_eq]
def g_Q_rota (a0 : Nat) (a1 : Int32) (h : mH) : Option (Int32 × mH) := g_Q_rota_0 a0 a1 h
theorem g_Q_rota_eq : @g_Q_rota = @f_Q_rota := by
  unfold g_Q_rota f_Q_rota; rw [g_Q_rota_0_eq]
def g_M_rota_64  (b2 : Int32) (h : mH) : Option (Int32 × mH) :=
  if b2 = (1000000 : Int32) then
    some (((-4) : Int32), h)
  else
    some (b2, h)
theorem g_M_rota_64_eq : @g_M_rota_64 = @f_M_rota_64 := by
  rfl
def g_M_sharesOf_115 (rec21 : Nat → Int32 → Int32 → Int32 → Int32 → Int32 → Int32 → Int32 → mH → Option mH) (rec30 : Nat → Int32 → Int32 → Int32 → Int32 → Int32 → Int32 → Int32 → Int32 → mH → Option mH) (b0 : Nat) (b1 : Int32) (b2 : Int32) (b3 : Int32) (b4 : Int32) (b5 : Int32) (b6 : Int32) (b7 : Int32) (b8 : Int32) (h : mH) : Option mH :=
  incI b8 fun bb => rec30 b0 b1 b2 b3 b4 b5 b6 b7 bb h
theorem g_M_sharesOf_115_eq : @g_M_sharesOf_115 = @f_M_sharesOf_115 := by
  unfold g_M_sharesOf_115 f_M_sharesOf_115; rw [incI_eq]
def g_M_sharesOf_30b (rec21 : Nat → Int32 → Int32 → Int32 → Int32 → Int32 → Int32 → Int32 → mH → Option mH) (rec30 : Nat → Int32 → Int32 → Int32 → Int32 → Int32 → Int32 → Int32 → Int32 → mH → Option mH) (b0 : Nat) (b1 : Int32) (b2 : Int32) (b3 : Int32) (b4 : Int32) (b5 : Int32) (b6 : Int32) (b7 : Int32) (b8 : Int32) (h : mH) : Option mH :=
  if (3 : Int32) < b8 then
    incI b7 fun bb => rec21 b0 b1 b2 b3 b4 b5 b6 bb h
  else
    bd1 (gR h b0 8 28) fun x9 =>
    bd1 (aI h 0 x9 b1) fun x11 =>
    if b6 = 0 then
      bd2 (g_M_in (((x11 - b7) - b8).toInt64) (0 : Int64) (3 : Int64) h) fun x15 h13 =>
      if x15 = 0 then
        g_M_sharesOf_115 rec21 rec30 b0 b1 b2 b3 b4 b5 b6 b7 b8 h13
      else
        bd1 (kC h13 b0 8) fun _ =>
        bd2 (g_M_harmBy b0 b1 b2 b3 b4 b7 b8 ((x11 - b7) - b8) h13) fun x20 h18 =>
        if x20 = b5 then
          bd1 (gR h18 b0 8 30) fun x21 =>
          bd1 (sI2 h18 0 x21 (0 : Int32) b7) fun h23 =>
          bd1 (gR h23 b0 8 30) fun x25 =>
          bd1 (sI2 h23 0 x25 (1 : Int32) b8) fun h27 =>
          bd1 (gR h27 b0 8 30) fun x29 =>
          bd1 (sI2 h27 0 x29 (2 : Int32) ((x11 - b7) - b8)) fun h31 =>
          g_M_sharesOf_115 rec21 rec30 b0 b1 b2 b3 b4 b5 (1 : Int32) b7 b8 h31
        else
          g_M_sharesOf_115 rec21 rec30 b0 b1 b2 b3 b4 b5 b6 b7 b8 h18
    else
      g_M_sharesOf_115 rec21 rec30 b0 b1 b2 b3 b4 b5 b6 b7 b8 h
theorem g_M_sharesOf_30b_eq : @g_M_sharesOf_30b = @f_M_sharesOf_30b := by
  unfold g_M_sharesOf_30b f_M_sharesOf_30b; rw [g_M_in_eq, g_M_sharesOf_115_eq, g_M_harmBy_eq, sI2_eq, incI_eq]
def g_M_sharesOf_30 (rec21 : Nat → Int32 → Int32 → Int32 → Int32 → Int32 → Int32 → Int32 → mH → Option mH) : Nat → Nat → Int32 → Int32 → Int32 → Int32 → Int32 → Int32 → Int32 → Int32 → mH → Option mH
  | 0 => fun _ _ _ _ _ _ _ _ _ _ => none
  | n + 1 => g_M_sharesOf_30b rec21 (g_M_sharesOf_30 rec21 n)
theorem g_M_sharesOf_30_eq : @g_M_sharesOf_30 = @f_M_sharesOf_30 := by
  funext rec21 n
  induction n with
  | zero => rfl
  | succ n ih => show g_M_sharesOf_30b rec21 (g_M_sharesOf_30 rec21 n) = f_M_sharesOf_30b rec21 (f_M_sharesOf_30 rec21 n); rw [ih, g_M_sharesOf_30b_eq]
def g_M_sharesOf_21b (rec21 : Nat → Int32 → Int32 → Int32 → Int32 → Int32 → Int32 → Int32 → mH → Option mH) (b0 : Nat) (b1 : Int32) (b2 : Int32) (b3 : Int32) (b4 : Int32) (b5 : Int32) (b6 : Int32) (b7 : Int32) (h : mH) : Option mH :=
  if (3 : Int32) < b7 then
    some h
  else
    g_M_sharesOf_30 rec21 FU b0 b1 b2 b3 b4 b5 b6 b7 (0 : Int32) h
theorem g_M_sharesOf_21b_eq : @g_M_sharesOf_21b = @f_M_sharesOf_21b := by
  unfold g_M_sharesOf_21b f_M_sharesOf_21b; rw [g_M_sharesOf_30_eq]
def g_M_sharesOf_21  : Nat → Nat → Int32 → Int32 → Int32 → Int32 → Int32 → Int32 → Int32 → mH → Option mH
  | 0 => fun _ _ _ _ _ _ _ _ _ => none
  | n + 1 => g_M_sharesOf_21b  (g_M_sharesOf_21  n)
theorem g_M_sharesOf_21_eq : @g_M_sharesOf_21 = @f_M_sharesOf_21 := by
  funext  n
  induction n with
  | zero => rfl
  | succ n ih => show g_M_sharesOf_21b  (g_M_sharesOf_21  n) = f_M_sharesOf_21b  (f_M_sharesOf_21  n); rw [ih, g_M_sharesOf_21b_eq]
def g_M_sharesOf_0  (a0 : Nat) (a1 : Int32) (a2 : Int32) (a3 : Int32) (a4 : Int32) (h : mH) : Option mH :=
  bd1 (gR h a0 8 27) fun x1 =>
  bd2 (g_M_at a1 a2 a3 a4 h) fun x5 h3 =>
  bd1 (aI h3 0 x1 x5) fun x6 =>
  g_M_sharesOf_21  FU a0 a1 a2 a3 a4 x6 (0 : Int32) (0 : Int32) h3
theorem g_M_sharesOf_0_eq : @g_M_sharesOf_0 = @f_M_sharesOf_0 := by
  unfold g_M_sharesOf_0 f_M_sharesOf_0; rw [g_M_at_eq, g_M_sharesOf_21_eq]
def g_M_sharesOf (a0 : Nat) (a1 : Int32) (a2 : Int32) (a3 : Int32) (a4 : Int32) (h : mH) : Option mH := g_M_sharesOf_0 a0 a1 a2 a3 a4 h
theorem g_M_sharesOf_eq : @g_M_sharesOf = @f_M_sharesOf := by
  unfold g_M_sharesOf f_M_sharesOf; rw [g_M_sharesOf_0_eq]
def g_M_rota_103b (rec103 : Nat → Int32 → Int32 → Int32 → Int32 → Int32 → mH → Option (Int32 × mH)) (b0 : Nat) (b1 : Int32) (b3 : Int32) (b4 : Int32) (b5 : Int32) (b6 : Int32) (h : mH) : Option (Int32 × mH) :=
  if ((b1 - (10 : Int32)) / (3 : Int32)) < b6 then
    bd1 (gR h b0 8 30) fun x43 =>
    bd1 (aI h 0 x43 ((b1 - (10 : Int32)) - (b1 - (10 : Int32)) / (3 : Int32) * (3 : Int32))) fun x45 =>
    some (x45, h)
  else
    bd1 (kC h b0 8) fun _ =>
    bd1 (g_M_sharesOf b0 b6 b3 b4 b5 h) fun h49 =>
    bd1 (gR h49 b0 8 30) fun x51 =>
    bd1 (aI h49 0 x51 (0 : Int32)) fun x53 =>
    bd1 (gR h49 b0 8 30) fun x55 =>
    bd1 (aI h49 0 x55 (1 : Int32)) fun x57 =>
    bd1 (gR h49 b0 8 30) fun x59 =>
    bd1 (aI h49 0 x59 (2 : Int32)) fun x61 =>
    rec103 b0 b1 (b3 - x53) (b4 - x57) (b5 - x61) (b6 + (1 : Int32)) h49
theorem g_M_rota_103b_eq : @g_M_rota_103b = @f_M_rota_103b := by
  unfold g_M_rota_103b f_M_rota_103b; rw [g_M_sharesOf_eq]
def g_M_rota_103  : Nat → Nat → Int32 → Int32 → Int32 → Int32 → Int32 → mH → Option (Int32 × mH)
  | 0 => fun _ _ _ _ _ _ _ => none
  | n + 1 => g_M_rota_103b  (g_M_rota_103  n)
theorem g_M_rota_103_eq : @g_M_rota_103 = @f_M_rota_103 := by
  funext  n
  induction n with
  | zero => rfl
  | succ n ih => show g_M_rota_103b  (g_M_rota_103  n) = f_M_rota_103b  (f_M_rota_103  n); rw [ih, g_M_rota_103b_eq]
def g_M_rota_38  (b0 : Nat) (b1 : Int32) (h : mH) : Option (Int32 × mH) :=
  bd1 (gR h b0 8 0) fun x15 =>
  bd1 (aI h 0 x15 (10 : Int32)) fun x17 =>
  bd1 (kC h b0 8) fun _ =>
  bd1 (g_M_startsRota b0 x17 h) fun h21 =>
  bd1 (kC h21 b0 8) fun _ =>
  bd2 (g_M_findRota b0 h21) fun x27 h25 =>
  if x27 = (1000000 : Int32) then
    g_M_rota_64  x27 h25
  else
    if b1 = 0 then
      g_M_rota_64  x27 h25
    else
      bd1 (gR h25 b0 8 29) fun x28 =>
      bd1 (aI h25 0 x28 (0 : Int32)) fun x30 =>
      bd1 (gR h25 b0 8 29) fun x32 =>
      bd1 (aI h25 0 x32 (1 : Int32)) fun x34 =>
      bd1 (gR h25 b0 8 29) fun x36 =>
      bd1 (aI h25 0 x36 (2 : Int32)) fun x38 =>
      g_M_rota_103  FU b0 b1 x30 x34 x38 (0 : Int32) h25
theorem g_M_rota_38_eq : @g_M_rota_38 = @f_M_rota_38 := by
  unfold g_M_rota_38 f_M_rota_38; rw [g_M_startsRota_eq, g_M_findRota_eq, g_M_rota_64_eq, g_M_rota_103_eq]
def g_M_rota_36   (h : mH) : Option (Int32 × mH) :=
  some (((-1) : Int32), h)
theorem g_M_rota_36_eq : @g_M_rota_36 = @f_M_rota_36 := by
  rfl
def g_M_isLaw_0  (a0 : Nat) (a1 : Int32) (h : mH) : Option (Int32 × mH) :=
  bd1 (gI h a0 8 2) fun x1 =>
  bd2 (g_M_in a1.toInt64 (0 : Int64) ((x1 - (1 : Int32)).toInt64) h) fun x5 h3 =>
  if x5 = 0 ∨ x5 = 1 then some (x5, h3) else none
theorem g_M_isLaw_0_eq : @g_M_isLaw_0 = @f_M_isLaw_0 := by
  unfold g_M_isLaw_0 f_M_isLaw_0; rw [g_M_in_eq]
def g_M_isLaw (a0 : Nat) (a1 : Int32) (h : mH) : Option (Int32 × mH) := g_M_isLaw_0 a0 a1 h
theorem g_M_isLaw_eq : @g_M_isLaw = @f_M_isLaw := by
  unfold g_M_isLaw f_M_isLaw; rw [g_M_isLaw_0_eq]
def g_M_isOne_0  (a0 : Nat) (a1 : Int32) (h : mH) : Option (Int32 × mH) :=
  bd1 (gI h a0 8 3) fun x1 =>
  bd2 (g_M_in a1.toInt64 (0 : Int64) ((x1 - (1 : Int32)).toInt64) h) fun x5 h3 =>
  if x5 = 0 ∨ x5 = 1 then some (x5, h3) else none
theorem g_M_isOne_0_eq : @g_M_isOne_0 = @f_M_isOne_0 := by
  unfold g_M_isOne_0 f_M_isOne_0; rw [g_M_in_eq]
def g_M_isOne (a0 : Nat) (a1 : Int32) (h : mH) : Option (Int32 × mH) := g_M_isOne_0 a0 a1 h
theorem g_M_isOne_eq : @g_M_isOne = @f_M_isOne := by
  unfold g_M_isOne f_M_isOne; rw [g_M_isOne_0_eq]
def g_M_rota_0  (a0 : Nat) (a1 : Int32) (h : mH) : Option (Int32 × mH) :=
  if a1 = 0 then
    g_M_rota_38  a0 a1 h
  else
    if a1 < (10 : Int32) then
      g_M_rota_36  h
    else
      bd1 (kC h a0 8) fun _ =>
      bd2 (g_M_isLaw a0 ((a1 - (10 : Int32)) / (3 : Int32)) h) fun x5 h3 =>
      if x5 = 0 then
        g_M_rota_36  h3
      else
        bd1 (kC h3 a0 8) fun _ =>
        bd2 (g_M_isOne a0 ((a1 - (10 : Int32)) - (a1 - (10 : Int32)) / (3 : Int32) * (3 : Int32)) h3) fun x10 h8 =>
        if x10 = 0 then
          g_M_rota_36  h8
        else
          g_M_rota_38  a0 a1 h8
theorem g_M_rota_0_eq : @g_M_rota_0 = @f_M_rota_0 := by
  unfold g_M_rota_0 f_M_rota_0; rw [g_M_rota_38_eq, g_M_rota_36_eq, g_M_isLaw_eq, g_M_isOne_eq]
def g_M_rota (a0 : Nat) (a1 : Int32) (h : mH) : Option (Int32 × mH) := g_M_rota_0 a0 a1 h
theorem g_M_rota_eq : @g_M_rota = @f_M_rota := by
  unfold g_M_rota f_M_rota; rw [g_M_rota_0_eq]
def g_Tables_load_174 (rec57 : Nat → Nat → Int32 → mH → Option mH) (rec114 : Nat → Nat → Int32 → Int32 → Int32 → mH → Option mH) (b0 : Nat) (b1 : Nat) (b2 : Int32) (b3 : Int32) (b4 : Int32) (s0 : Nat) (s1 : Int32) (s2 : Int32) (h : mH) : Option mH :=
  bd1 (sI2 h 0 s0 s1 s2) fun h73 =>
  incI b4 fun bb => rec114 b0 b1 b2 b3 bb h73
theorem g_Tables_load_174_eq : @g_Tables_load_174 = @f_Tables_load_174 := by
  unfold g_Tables_load_174 f_Tables_load_174; rw [sI2_eq, incI_eq]
def g_Tables_load_146 (rec57 : Nat → Nat → Int32 → mH → Option mH) (rec114 : Nat → Nat → Int32 → Int32 → Int32 → mH → Option mH) (b0 : Nat) (b1 : Nat) (b2 : Int32) (b3 : Int32) (b4 : Int32) (s0 : Int32) (h : mH) : Option mH :=
  bd1 (gR h b0 7 2) fun x66 =>
  if s0 = 0 then
    g_Tables_load_174 rec57 rec114 b0 b1 b2 b3 b4 x66 ((b2 * (5 : Int32)) + b4) (0 : Int32) h
  else
    bd1 (gR h b1 4 7) fun x68 =>
    bd1 (aI h 0 x68 b4) fun x70 =>
    g_Tables_load_174 rec57 rec114 b0 b1 b2 b3 b4 x66 ((b2 * (5 : Int32)) + b4) x70 h
theorem g_Tables_load_146_eq : @g_Tables_load_146 = @f_Tables_load_146 := by
  unfold g_Tables_load_146 f_Tables_load_146; rw [g_Tables_load_174_eq]
def g_Tables_load_145 (rec57 : Nat → Nat → Int32 → mH → Option mH) (rec114 : Nat → Nat → Int32 → Int32 → Int32 → mH → Option mH) (b0 : Nat) (b1 : Nat) (b2 : Int32) (b3 : Int32) (b4 : Int32) (h : mH) : Option mH :=
  g_Tables_load_146 rec57 rec114 b0 b1 b2 b3 b4 (0 : Int32) h
theorem g_Tables_load_145_eq : @g_Tables_load_145 = @f_Tables_load_145 := by
  unfold g_Tables_load_145 f_Tables_load_145; rw [g_Tables_load_146_eq]
def g_Tables_load_114b (rec57 : Nat → Nat → Int32 → mH → Option mH) (rec114 : Nat → Nat → Int32 → Int32 → Int32 → mH → Option mH) (b0 : Nat) (b1 : Nat) (b2 : Int32) (b3 : Int32) (b4 : Int32) (h : mH) : Option mH :=
  bd1 (gI h b0 7 0) fun x54 =>
  if x54 ≤ b4 then
    incI b2 fun bb => rec57 b0 b1 bb h
  else
    if b3 = 0 then
      g_Tables_load_145 rec57 rec114 b0 b1 b2 b3 b4 h
    else
      bd1 (gR h b1 4 15) fun x56 =>
      bd1 (aI h 0 x56 b2) fun x58 =>
      bd2 (g_Q_hasBit x58 b4 h) fun x62 h60 =>
      if x62 = 0 then
        g_Tables_load_146 rec57 rec114 b0 b1 b2 b3 b4 (1 : Int32) h60
      else
        g_Tables_load_145 rec57 rec114 b0 b1 b2 b3 b4 h60
theorem g_Tables_load_114b_eq : @g_Tables_load_114b = @f_Tables_load_114b := by
  unfold g_Tables_load_114b f_Tables_load_114b; rw [g_Tables_load_145_eq, g_Q_hasBit_eq, g_Tables_load_146_eq, incI_eq]
def g_Tables_load_114 (rec57 : Nat → Nat → Int32 → mH → Option mH) : Nat → Nat → Nat → Int32 → Int32 → Int32 → mH → Option mH
  | 0 => fun _ _ _ _ _ _ => none
  | n + 1 => g_Tables_load_114b rec57 (g_Tables_load_114 rec57 n)
theorem g_Tables_load_114_eq : @g_Tables_load_114 = @f_Tables_load_114 := by
  funext rec57 n
  induction n with
  | zero => rfl
  | succ n ih => show g_Tables_load_114b rec57 (g_Tables_load_114 rec57 n) = f_Tables_load_114b rec57 (f_Tables_load_114 rec57 n); rw [ih, g_Tables_load_114b_eq]
def g_Tables_load_110 (rec57 : Nat → Nat → Int32 → mH → Option mH) (b0 : Nat) (b1 : Nat) (b2 : Int32) (b3 : Int32) (s0 : Nat) (s1 : Int32) (s2 : Int32) (h : mH) : Option mH :=
  bd1 (sI2 h 0 s0 s1 s2) fun h52 =>
  g_Tables_load_114 rec57 FU b0 b1 b2 b3 (0 : Int32) h52
theorem g_Tables_load_110_eq : @g_Tables_load_110 = @f_Tables_load_110 := by
  unfold g_Tables_load_110 f_Tables_load_110; rw [g_Tables_load_114_eq, sI2_eq]
def g_Tables_load_90 (rec57 : Nat → Nat → Int32 → mH → Option mH) (b0 : Nat) (b1 : Nat) (b2 : Int32) (b3 : Int32) (s0 : Nat) (s1 : Int32) (s2 : Int32) (h : mH) : Option mH :=
  bd1 (sI2 h 0 s0 s1 s2) fun h43 =>
  bd1 (gR h43 b0 7 5) fun x45 =>
  if b3 = 0 then
    g_Tables_load_110 rec57 b0 b1 b2 b3 x45 b2 (0 : Int32) h43
  else
    bd1 (gR h43 b1 4 11) fun x47 =>
    bd1 (aI h43 0 x47 b2) fun x49 =>
    g_Tables_load_110 rec57 b0 b1 b2 b3 x45 b2 x49 h43
theorem g_Tables_load_90_eq : @g_Tables_load_90 = @f_Tables_load_90 := by
  unfold g_Tables_load_90 f_Tables_load_90; rw [g_Tables_load_110_eq, sI2_eq]
def g_Sightings_sumDue_65 (rec5 : Nat → Int32 → Int32 → Int32 → Int32 → mH → Option (Int32 × mH)) (b0 : Nat) (b1 : Int32) (b2 : Int32) (b3 : Int32) (b4 : Int32) (h : mH) : Option (Int32 × mH) :=
  incI b4 fun bb => rec5 b0 b1 b2 b3 bb h
theorem g_Sightings_sumDue_65_eq : @g_Sightings_sumDue_65 = @f_Sightings_sumDue_65 := by
  unfold g_Sightings_sumDue_65 f_Sightings_sumDue_65; rw [incI_eq]
def g_Sightings_sumDue_64 (rec5 : Nat → Int32 → Int32 → Int32 → Int32 → mH → Option (Int32 × mH)) (b0 : Nat) (b1 : Int32) (b2 : Int32) (b4 : Int32) (s0 : Int32) (h : mH) : Option (Int32 × mH) :=
  g_Sightings_sumDue_65 rec5 b0 b1 b2 s0 b4 h
theorem g_Sightings_sumDue_64_eq : @g_Sightings_sumDue_64 = @f_Sightings_sumDue_64 := by
  unfold g_Sightings_sumDue_64 f_Sightings_sumDue_64; rw [g_Sightings_sumDue_65_eq]
def g_Sightings_sumDue_52 (rec5 : Nat → Int32 → Int32 → Int32 → Int32 → mH → Option (Int32 × mH)) (b0 : Nat) (b1 : Int32) (b2 : Int32) (b4 : Int32) (h : mH) : Option (Int32 × mH) :=
  bd1 (gR h b0 6 3) fun x20 =>
  bd1 (aI h 0 x20 b4) fun x22 =>
  g_Sightings_sumDue_64 rec5 b0 b1 b2 b4 x22 h
theorem g_Sightings_sumDue_52_eq : @g_Sightings_sumDue_52 = @f_Sightings_sumDue_52 := by
  unfold g_Sightings_sumDue_52 f_Sightings_sumDue_52; rw [g_Sightings_sumDue_64_eq]
def g_Sightings_sumDue_5b (rec5 : Nat → Int32 → Int32 → Int32 → Int32 → mH → Option (Int32 × mH)) (b0 : Nat) (b1 : Int32) (b2 : Int32) (b3 : Int32) (b4 : Int32) (h : mH) : Option (Int32 × mH) :=
  bd1 (gI h b0 6 0) fun x1 =>
  if x1 ≤ b4 then
    some (b3, h)
  else
    bd1 (gR h b0 6 1) fun x3 =>
    bd1 (aI h 0 x3 b4) fun x5 =>
    if x5 = b1 then
      bd1 (gR h b0 6 2) fun x7 =>
      bd1 (aI h 0 x7 b4) fun x9 =>
      if x9 = b2 then
        if b3 = ((-1) : Int32) then
          g_Sightings_sumDue_52 rec5 b0 b1 b2 b4 h
        else
          bd1 (gR h b0 6 3) fun x11 =>
          bd1 (aI h 0 x11 b4) fun x13 =>
          if b3 = x13 then
            g_Sightings_sumDue_52 rec5 b0 b1 b2 b4 h
          else
            g_Sightings_sumDue_64 rec5 b0 b1 b2 b4 (99 : Int32) h
      else
        g_Sightings_sumDue_65 rec5 b0 b1 b2 b3 b4 h
    else
      g_Sightings_sumDue_65 rec5 b0 b1 b2 b3 b4 h
theorem g_Sightings_sumDue_5b_eq : @g_Sightings_sumDue_5b = @f_Sightings_sumDue_5b := by
  unfold g_Sightings_sumDue_5b f_Sightings_sumDue_5b; rw [g_Sightings_sumDue_52_eq, g_Sightings_sumDue_64_eq, g_Sightings_sumDue_65_eq]
def g_Sightings_sumDue_5  : Nat → Nat → Int32 → Int32 → Int32 → Int32 → mH → Option (Int32 × mH)
  | 0 => fun _ _ _ _ _ _ => none
  | n + 1 => g_Sightings_sumDue_5b  (g_Sightings_sumDue_5  n)
theorem g_Sightings_sumDue_5_eq : @g_Sightings_sumDue_5 = @f_Sightings_sumDue_5 := by
  funext  n
  induction n with
  | zero => rfl
  | succ n ih => show g_Sightings_sumDue_5b  (g_Sightings_sumDue_5  n) = f_Sightings_sumDue_5b  (f_Sightings_sumDue_5  n); rw [ih, g_Sightings_sumDue_5b_eq]
def g_Sightings_sumDue_0  (a0 : Nat) (a1 : Int32) (a2 : Int32) (h : mH) : Option (Int32 × mH) :=
  g_Sightings_sumDue_5  FU a0 a1 a2 ((-1) : Int32) (0 : Int32) h
theorem g_Sightings_sumDue_0_eq : @g_Sightings_sumDue_0 = @f_Sightings_sumDue_0 := by
  unfold g_Sightings_sumDue_0 f_Sightings_sumDue_0; rw [g_Sightings_sumDue_5_eq]
def g_Sightings_sumDue (a0 : Nat) (a1 : Int32) (a2 : Int32) (h : mH) : Option (Int32 × mH) := g_Sightings_sumDue_0 a0 a1 a2 h
theorem g_Sightings_sumDue_eq : @g_Sightings_sumDue = @f_Sightings_sumDue := by
  unfold g_Sightings_sumDue f_Sightings_sumDue; rw [g_Sightings_sumDue_0_eq]
def g_Tables_load_57b (rec57 : Nat → Nat → Int32 → mH → Option mH) (b0 : Nat) (b1 : Nat) (b2 : Int32) (h : mH) : Option mH :=
  if (3 : Int32) ≤ b2 then
    some h
  else
    bd1 (kC h b1 4) fun _ =>
    bd2 (g_Realm_hasOne b1 b2 h) fun x31 h29 =>
    bd1 (gR h29 b0 7 4) fun x32 =>
    if x31 = 0 then
      g_Tables_load_90 rec57 b0 b1 b2 x31 x32 b2 ((-1) : Int32) h29
    else
      bd1 (gR h29 b1 4 18) fun x34 =>
      bd1 (kC h29 x34 6) fun _ =>
      bd2 (g_Sightings_sumDue x34 (0 : Int32) b2 h29) fun x40 h38 =>
      g_Tables_load_90 rec57 b0 b1 b2 x31 x32 b2 x40 h38
theorem g_Tables_load_57b_eq : @g_Tables_load_57b = @f_Tables_load_57b := by
  unfold g_Tables_load_57b f_Tables_load_57b; rw [g_Realm_hasOne_eq, g_Tables_load_90_eq, g_Sightings_sumDue_eq]
def g_Tables_load_57  : Nat → Nat → Nat → Int32 → mH → Option mH
  | 0 => fun _ _ _ _ => none
  | n + 1 => g_Tables_load_57b  (g_Tables_load_57  n)
theorem g_Tables_load_57_eq : @g_Tables_load_57 = @f_Tables_load_57 := by
  funext  n
  induction n with
  | zero => rfl
  | succ n ih => show g_Tables_load_57b  (g_Tables_load_57  n) = f_Tables_load_57b  (f_Tables_load_57  n); rw [ih, g_Tables_load_57b_eq]
def g_Tables_load_26b (rec26 : Nat → Nat → Int32 → mH → Option mH) (b0 : Nat) (b1 : Nat) (b2 : Int32) (h : mH) : Option mH :=
  bd1 (gI h b0 7 0) fun x13 =>
  if x13 ≤ b2 then
    g_Tables_load_57  FU b0 b1 (0 : Int32) h
  else
    bd1 (gR h b0 7 3) fun x15 =>
    bd1 (gR h b1 4 18) fun x17 =>
    bd1 (kC h x17 6) fun _ =>
    bd2 (g_Sightings_sumDue x17 (1 : Int32) b2 h) fun x23 h21 =>
    bd1 (sI2 h21 0 x15 b2 x23) fun h24 =>
    incI b2 fun bb => rec26 b0 b1 bb h24
theorem g_Tables_load_26b_eq : @g_Tables_load_26b = @f_Tables_load_26b := by
  unfold g_Tables_load_26b f_Tables_load_26b; rw [g_Tables_load_57_eq, g_Sightings_sumDue_eq, sI2_eq, incI_eq]
def g_Tables_load_26  : Nat → Nat → Nat → Int32 → mH → Option mH
  | 0 => fun _ _ _ _ => none
  | n + 1 => g_Tables_load_26b  (g_Tables_load_26  n)
theorem g_Tables_load_26_eq : @g_Tables_load_26 = @f_Tables_load_26 := by
  funext  n
  induction n with
  | zero => rfl
  | succ n ih => show g_Tables_load_26b  (g_Tables_load_26  n) = f_Tables_load_26b  (f_Tables_load_26  n); rw [ih, g_Tables_load_26b_eq]
def g_Tables_load_0  (a0 : Nat) (a1 : Nat) (h : mH) : Option mH :=
  bd1 (gI h a1 4 0) fun x1 =>
  bd1 (pV2 h a0 7 0 (.int x1)) fun h3 =>
  bd1 (gR h3 a0 7 1) fun x5 =>
  bd1 (g_Arrays_fillI x5 (0 : Int32) h3) fun h7 =>
  bd1 (gR h7 a0 7 2) fun x9 =>
  bd1 (g_Arrays_fillI x9 (0 : Int32) h7) fun h11 =>
  g_Tables_load_26  FU a0 a1 (0 : Int32) h11
theorem g_Tables_load_0_eq : @g_Tables_load_0 = @f_Tables_load_0 := by
  unfold g_Tables_load_0 f_Tables_load_0; rw [g_Arrays_fillI_eq, g_Tables_load_26_eq, pV2_eq]
def g_Tables_load (a0 : Nat) (a1 : Nat) (h : mH) : Option mH := g_Tables_load_0 a0 a1 h
theorem g_Tables_load_eq : @g_Tables_load = @f_Tables_load := by
  unfold g_Tables_load f_Tables_load; rw [g_Tables_load_0_eq]
def g_Arrays_fillJ_6b (rec6 : Nat → Int64 → Int32 → Int32 → mH → Option mH) (b0 : Nat) (b1 : Int64) (b3 : Int32) (b4 : Int32) (h : mH) : Option mH :=
  if b4 ≤ b3 then
    some h
  else
    bd1 (sL h b0 b3 b1) fun h3 =>
    incI b3 fun bb => rec6 b0 b1 bb b4 h3
theorem g_Arrays_fillJ_6b_eq : @g_Arrays_fillJ_6b = @f_Arrays_fillJ_6b := by
  unfold g_Arrays_fillJ_6b f_Arrays_fillJ_6b; rw [incI_eq]
def g_Arrays_fillJ_6  : Nat → Nat → Int64 → Int32 → Int32 → mH → Option mH
  | 0 => fun _ _ _ _ _ => none
  | n + 1 => g_Arrays_fillJ_6b  (g_Arrays_fillJ_6  n)
theorem g_Arrays_fillJ_6_eq : @g_Arrays_fillJ_6 = @f_Arrays_fillJ_6 := by
  funext  n
  induction n with
  | zero => rfl
  | succ n ih => show g_Arrays_fillJ_6b  (g_Arrays_fillJ_6  n) = f_Arrays_fillJ_6b  (f_Arrays_fillJ_6  n); rw [ih, g_Arrays_fillJ_6b_eq]
def g_Arrays_fillJ_0  (a0 : Nat) (a1 : Int64) (h : mH) : Option mH :=
  bd1 (aN h 3 a0) fun x1 =>
  g_Arrays_fillJ_6  FU a0 a1 (0 : Int32) x1 h
theorem g_Arrays_fillJ_0_eq : @g_Arrays_fillJ_0 = @f_Arrays_fillJ_0 := by
  unfold g_Arrays_fillJ_0 f_Arrays_fillJ_0; rw [g_Arrays_fillJ_6_eq]
def g_Arrays_fillJ (a0 : Nat) (a1 : Int64) (h : mH) : Option mH := g_Arrays_fillJ_0 a0 a1 h
theorem g_Arrays_fillJ_eq : @g_Arrays_fillJ = @f_Arrays_fillJ := by
  unfold g_Arrays_fillJ f_Arrays_fillJ; rw [g_Arrays_fillJ_0_eq]
def g_Tables_stateOf_0  (a0 : Int32) (a1 : Int32) (a2 : Int32) (h : mH) : Option (Int32 × mH) :=
  some ((((a0 * (6 : Int32)) + a1) * (6 : Int32)) + a2, h)
theorem g_Tables_stateOf_0_eq : @g_Tables_stateOf_0 = @f_Tables_stateOf_0 := by
  rfl
def g_Tables_stateOf (a0 : Int32) (a1 : Int32) (a2 : Int32) (h : mH) : Option (Int32 × mH) := g_Tables_stateOf_0 a0 a1 a2 h
theorem g_Tables_stateOf_eq : @g_Tables_stateOf = @f_Tables_stateOf := by
  unfold g_Tables_stateOf f_Tables_stateOf; rw [g_Tables_stateOf_0_eq]
def g_Tables_joinAll_26b (rec2 : Nat → Int32 → mH → Option mH) (rec14 : Nat → Int32 → Int32 → mH → Option mH) (rec26 : Nat → Int32 → Int32 → Int32 → mH → Option mH) (b0 : Nat) (b1 : Int32) (b2 : Int32) (b3 : Int32) (h : mH) : Option mH :=
  bd1 (gR h b0 7 5) fun x11 =>
  bd1 (aI h 0 x11 (2 : Int32)) fun x13 =>
  if x13 < b3 then
    incI b2 fun bb => rec14 b0 b1 bb h
  else
    bd1 (gR h b0 7 7) fun x15 =>
    bd2 (g_Tables_stateOf b1 b2 b3 h) fun x19 h17 =>
    bd1 (gR h17 b0 7 6) fun x20 =>
    bd1 (aL h17 x20 b1) fun x22 =>
    bd1 (gR h17 b0 7 6) fun x24 =>
    bd1 (aL h17 x24 ((6 : Int32) + b2)) fun x26 =>
    bd1 (gR h17 b0 7 6) fun x28 =>
    bd1 (aL h17 x28 ((12 : Int32) + b3)) fun x30 =>
    bd1 (sL h17 x15 x19 ((x22 * x26) * x30)) fun h32 =>
    incI b3 fun bb => rec26 b0 b1 b2 bb h32
theorem g_Tables_joinAll_26b_eq : @g_Tables_joinAll_26b = @f_Tables_joinAll_26b := by
  unfold g_Tables_joinAll_26b f_Tables_joinAll_26b; rw [g_Tables_stateOf_eq, incI_eq]
def g_Tables_joinAll_26 (rec2 : Nat → Int32 → mH → Option mH) (rec14 : Nat → Int32 → Int32 → mH → Option mH) : Nat → Nat → Int32 → Int32 → Int32 → mH → Option mH
  | 0 => fun _ _ _ _ _ => none
  | n + 1 => g_Tables_joinAll_26b rec2 rec14 (g_Tables_joinAll_26 rec2 rec14 n)
theorem g_Tables_joinAll_26_eq : @g_Tables_joinAll_26 = @f_Tables_joinAll_26 := by
  funext rec2 rec14 n
  induction n with
  | zero => rfl
  | succ n ih => show g_Tables_joinAll_26b rec2 rec14 (g_Tables_joinAll_26 rec2 rec14 n) = f_Tables_joinAll_26b rec2 rec14 (f_Tables_joinAll_26 rec2 rec14 n); rw [ih, g_Tables_joinAll_26b_eq]
def g_Tables_joinAll_14b (rec2 : Nat → Int32 → mH → Option mH) (rec14 : Nat → Int32 → Int32 → mH → Option mH) (b0 : Nat) (b1 : Int32) (b2 : Int32) (h : mH) : Option mH :=
  bd1 (gR h b0 7 5) fun x6 =>
  bd1 (aI h 0 x6 (1 : Int32)) fun x8 =>
  if x8 < b2 then
    incI b1 fun bb => rec2 b0 bb h
  else
    g_Tables_joinAll_26 rec2 rec14 FU b0 b1 b2 (0 : Int32) h
theorem g_Tables_joinAll_14b_eq : @g_Tables_joinAll_14b = @f_Tables_joinAll_14b := by
  unfold g_Tables_joinAll_14b f_Tables_joinAll_14b; rw [g_Tables_joinAll_26_eq, incI_eq]
def g_Tables_joinAll_14 (rec2 : Nat → Int32 → mH → Option mH) : Nat → Nat → Int32 → Int32 → mH → Option mH
  | 0 => fun _ _ _ _ => none
  | n + 1 => g_Tables_joinAll_14b rec2 (g_Tables_joinAll_14 rec2 n)
theorem g_Tables_joinAll_14_eq : @g_Tables_joinAll_14 = @f_Tables_joinAll_14 := by
  funext rec2 n
  induction n with
  | zero => rfl
  | succ n ih => show g_Tables_joinAll_14b rec2 (g_Tables_joinAll_14 rec2 n) = f_Tables_joinAll_14b rec2 (f_Tables_joinAll_14 rec2 n); rw [ih, g_Tables_joinAll_14b_eq]
def g_Tables_joinAll_2b (rec2 : Nat → Int32 → mH → Option mH) (b0 : Nat) (b1 : Int32) (h : mH) : Option mH :=
  bd1 (gR h b0 7 5) fun x1 =>
  bd1 (aI h 0 x1 (0 : Int32)) fun x3 =>
  if x3 < b1 then
    some h
  else
    g_Tables_joinAll_14 rec2 FU b0 b1 (0 : Int32) h
theorem g_Tables_joinAll_2b_eq : @g_Tables_joinAll_2b = @f_Tables_joinAll_2b := by
  unfold g_Tables_joinAll_2b f_Tables_joinAll_2b; rw [g_Tables_joinAll_14_eq]
def g_Tables_joinAll_2  : Nat → Nat → Int32 → mH → Option mH
  | 0 => fun _ _ _ => none
  | n + 1 => g_Tables_joinAll_2b  (g_Tables_joinAll_2  n)
theorem g_Tables_joinAll_2_eq : @g_Tables_joinAll_2 = @f_Tables_joinAll_2 := by
  funext  n
  induction n with
  | zero => rfl
  | succ n ih => show g_Tables_joinAll_2b  (g_Tables_joinAll_2  n) = f_Tables_joinAll_2b  (f_Tables_joinAll_2  n); rw [ih, g_Tables_joinAll_2b_eq]
def g_Tables_joinAll_0  (a0 : Nat) (h : mH) : Option mH :=
  g_Tables_joinAll_2  FU a0 (0 : Int32) h
theorem g_Tables_joinAll_0_eq : @g_Tables_joinAll_0 = @f_Tables_joinAll_0 := by
  unfold g_Tables_joinAll_0 f_Tables_joinAll_0; rw [g_Tables_joinAll_2_eq]
def g_Tables_joinAll (a0 : Nat) (h : mH) : Option mH := g_Tables_joinAll_0 a0 h
theorem g_Tables_joinAll_eq : @g_Tables_joinAll = @f_Tables_joinAll := by
  unfold g_Tables_joinAll f_Tables_joinAll; rw [g_Tables_joinAll_0_eq]
def g_Tables_isDueOf_20   (h : mH) : Option (Int32 × mH) :=
  some ((1 : Int32), h)
theorem g_Tables_isDueOf_20_eq : @g_Tables_isDueOf_20 = @f_Tables_isDueOf_20 := by
  rfl
def g_Tables_isDueOf_0  (a0 : Nat) (a1 : Int32) (a2 : Int32) (h : mH) : Option (Int32 × mH) :=
  bd1 (gR h a0 7 4) fun x1 =>
  bd1 (aI h 0 x1 a1) fun x3 =>
  if x3 = ((-1) : Int32) then
    g_Tables_isDueOf_20  h
  else
    bd1 (gR h a0 7 4) fun x5 =>
    bd1 (aI h 0 x5 a1) fun x7 =>
    if x7 = a2 then
      g_Tables_isDueOf_20  h
    else
      some ((0 : Int32), h)
theorem g_Tables_isDueOf_0_eq : @g_Tables_isDueOf_0 = @f_Tables_isDueOf_0 := by
  unfold g_Tables_isDueOf_0 f_Tables_isDueOf_0; rw [g_Tables_isDueOf_20_eq]
def g_Tables_isDueOf (a0 : Nat) (a1 : Int32) (a2 : Int32) (h : mH) : Option (Int32 × mH) := g_Tables_isDueOf_0 a0 a1 a2 h
theorem g_Tables_isDueOf_eq : @g_Tables_isDueOf = @f_Tables_isDueOf := by
  unfold g_Tables_isDueOf f_Tables_isDueOf; rw [g_Tables_isDueOf_0_eq]
def g_Tables_sumOfDue_87 (rec4 : Nat → Int64 → Int32 → mH → Option (Int64 × mH)) (rec17 : Nat → Int64 → Int32 → Int32 → mH → Option (Int64 × mH)) (rec31 : Nat → Int64 → Int32 → Int32 → Int32 → mH → Option (Int64 × mH)) (b0 : Nat) (b1 : Int64) (b3 : Int32) (b4 : Int32) (b5 : Int32) (h : mH) : Option (Int64 × mH) :=
  incI b5 fun bb => rec31 b0 b1 b3 b4 bb h
theorem g_Tables_sumOfDue_87_eq : @g_Tables_sumOfDue_87 = @f_Tables_sumOfDue_87 := by
  unfold g_Tables_sumOfDue_87 f_Tables_sumOfDue_87; rw [incI_eq]
def g_Tables_sumOfDue_31b (rec4 : Nat → Int64 → Int32 → mH → Option (Int64 × mH)) (rec17 : Nat → Int64 → Int32 → Int32 → mH → Option (Int64 × mH)) (rec31 : Nat → Int64 → Int32 → Int32 → Int32 → mH → Option (Int64 × mH)) (b0 : Nat) (b1 : Int64) (b3 : Int32) (b4 : Int32) (b5 : Int32) (h : mH) : Option (Int64 × mH) :=
  bd1 (gR h b0 7 5) fun x11 =>
  bd1 (aI h 0 x11 (2 : Int32)) fun x13 =>
  if x13 < b5 then
    incI b4 fun bb => rec17 b0 b1 b3 bb h
  else
    bd1 (kC h b0 7) fun _ =>
    bd2 (g_Tables_isDueOf b0 (0 : Int32) b3 h) fun x19 h17 =>
    if x19 = 0 then
      g_Tables_sumOfDue_87 rec4 rec17 rec31 b0 b1 b3 b4 b5 h17
    else
      bd1 (kC h17 b0 7) fun _ =>
      bd2 (g_Tables_isDueOf b0 (1 : Int32) b4 h17) fun x24 h22 =>
      if x24 = 0 then
        g_Tables_sumOfDue_87 rec4 rec17 rec31 b0 b1 b3 b4 b5 h22
      else
        bd1 (kC h22 b0 7) fun _ =>
        bd2 (g_Tables_isDueOf b0 (2 : Int32) b5 h22) fun x29 h27 =>
        if x29 = 0 then
          g_Tables_sumOfDue_87 rec4 rec17 rec31 b0 b1 b3 b4 b5 h27
        else
          bd1 (gR h27 b0 7 7) fun x30 =>
          bd2 (g_Tables_stateOf b3 b4 b5 h27) fun x34 h32 =>
          bd1 (aL h32 x30 x34) fun x35 =>
          g_Tables_sumOfDue_87 rec4 rec17 rec31 b0 (b1 + x35) b3 b4 b5 h32
theorem g_Tables_sumOfDue_31b_eq : @g_Tables_sumOfDue_31b = @f_Tables_sumOfDue_31b := by
  unfold g_Tables_sumOfDue_31b f_Tables_sumOfDue_31b; rw [g_Tables_isDueOf_eq, g_Tables_sumOfDue_87_eq, g_Tables_stateOf_eq, incI_eq]
def g_Tables_sumOfDue_31 (rec4 : Nat → Int64 → Int32 → mH → Option (Int64 × mH)) (rec17 : Nat → Int64 → Int32 → Int32 → mH → Option (Int64 × mH)) : Nat → Nat → Int64 → Int32 → Int32 → Int32 → mH → Option (Int64 × mH)
  | 0 => fun _ _ _ _ _ _ => none
  | n + 1 => g_Tables_sumOfDue_31b rec4 rec17 (g_Tables_sumOfDue_31 rec4 rec17 n)
theorem g_Tables_sumOfDue_31_eq : @g_Tables_sumOfDue_31 = @f_Tables_sumOfDue_31 := by
  funext rec4 rec17 n
  induction n with
  | zero => rfl
  | succ n ih => show g_Tables_sumOfDue_31b rec4 rec17 (g_Tables_sumOfDue_31 rec4 rec17 n) = f_Tables_sumOfDue_31b rec4 rec17 (f_Tables_sumOfDue_31 rec4 rec17 n); rw [ih, g_Tables_sumOfDue_31b_eq]
def g_Tables_sumOfDue_17b (rec4 : Nat → Int64 → Int32 → mH → Option (Int64 × mH)) (rec17 : Nat → Int64 → Int32 → Int32 → mH → Option (Int64 × mH)) (b0 : Nat) (b1 : Int64) (b3 : Int32) (b4 : Int32) (h : mH) : Option (Int64 × mH) :=
  bd1 (gR h b0 7 5) fun x6 =>
  bd1 (aI h 0 x6 (1 : Int32)) fun x8 =>
  if x8 < b4 then
    incI b3 fun bb => rec4 b0 b1 bb h
  else
    g_Tables_sumOfDue_31 rec4 rec17 FU b0 b1 b3 b4 (0 : Int32) h
theorem g_Tables_sumOfDue_17b_eq : @g_Tables_sumOfDue_17b = @f_Tables_sumOfDue_17b := by
  unfold g_Tables_sumOfDue_17b f_Tables_sumOfDue_17b; rw [g_Tables_sumOfDue_31_eq, incI_eq]
def g_Tables_sumOfDue_17 (rec4 : Nat → Int64 → Int32 → mH → Option (Int64 × mH)) : Nat → Nat → Int64 → Int32 → Int32 → mH → Option (Int64 × mH)
  | 0 => fun _ _ _ _ _ => none
  | n + 1 => g_Tables_sumOfDue_17b rec4 (g_Tables_sumOfDue_17 rec4 n)
theorem g_Tables_sumOfDue_17_eq : @g_Tables_sumOfDue_17 = @f_Tables_sumOfDue_17 := by
  funext rec4 n
  induction n with
  | zero => rfl
  | succ n ih => show g_Tables_sumOfDue_17b rec4 (g_Tables_sumOfDue_17 rec4 n) = f_Tables_sumOfDue_17b rec4 (f_Tables_sumOfDue_17 rec4 n); rw [ih, g_Tables_sumOfDue_17b_eq]
def g_Tables_sumOfDue_4b (rec4 : Nat → Int64 → Int32 → mH → Option (Int64 × mH)) (b0 : Nat) (b1 : Int64) (b3 : Int32) (h : mH) : Option (Int64 × mH) :=
  bd1 (gR h b0 7 5) fun x1 =>
  bd1 (aI h 0 x1 (0 : Int32)) fun x3 =>
  if x3 < b3 then
    some (b1, h)
  else
    g_Tables_sumOfDue_17 rec4 FU b0 b1 b3 (0 : Int32) h
theorem g_Tables_sumOfDue_4b_eq : @g_Tables_sumOfDue_4b = @f_Tables_sumOfDue_4b := by
  unfold g_Tables_sumOfDue_4b f_Tables_sumOfDue_4b; rw [g_Tables_sumOfDue_17_eq]
def g_Tables_sumOfDue_4  : Nat → Nat → Int64 → Int32 → mH → Option (Int64 × mH)
  | 0 => fun _ _ _ _ => none
  | n + 1 => g_Tables_sumOfDue_4b  (g_Tables_sumOfDue_4  n)
theorem g_Tables_sumOfDue_4_eq : @g_Tables_sumOfDue_4 = @f_Tables_sumOfDue_4 := by
  funext  n
  induction n with
  | zero => rfl
  | succ n ih => show g_Tables_sumOfDue_4b  (g_Tables_sumOfDue_4  n) = f_Tables_sumOfDue_4b  (f_Tables_sumOfDue_4  n); rw [ih, g_Tables_sumOfDue_4b_eq]
def g_Tables_sumOfDue_0  (a0 : Nat) (h : mH) : Option (Int64 × mH) :=
  g_Tables_sumOfDue_4  FU a0 (0 : Int64) (0 : Int32) h
theorem g_Tables_sumOfDue_0_eq : @g_Tables_sumOfDue_0 = @f_Tables_sumOfDue_0 := by
  unfold g_Tables_sumOfDue_0 f_Tables_sumOfDue_0; rw [g_Tables_sumOfDue_4_eq]
def g_Tables_sumOfDue (a0 : Nat) (h : mH) : Option (Int64 × mH) := g_Tables_sumOfDue_0 a0 h
theorem g_Tables_sumOfDue_eq : @g_Tables_sumOfDue = @f_Tables_sumOfDue := by
  unfold g_Tables_sumOfDue f_Tables_sumOfDue; rw [g_Tables_sumOfDue_0_eq]
def g_Tables_fitting_92 (rec69 : Nat → Int32 → mH → Option (Int64 × mH)) (b0 : Nat) (b1 : Int32) (h : mH) : Option (Int64 × mH) :=
  incI b1 fun bb => rec69 b0 bb h
theorem g_Tables_fitting_92_eq : @g_Tables_fitting_92 = @f_Tables_fitting_92 := by
  unfold g_Tables_fitting_92 f_Tables_fitting_92; rw [incI_eq]
def g_Tables_waysTo_141 (rec56 : Nat → Int32 → Int32 → Int32 → Int32 → Int32 → Int32 → Int32 → Int64 → Int32 → mH → Option (Int64 × mH)) (rec74 : Nat → Int32 → Int32 → Int32 → Int32 → Int32 → Int32 → Int32 → Int64 → Int32 → Int32 → mH → Option (Int64 × mH)) (b0 : Nat) (b1 : Int32) (b2 : Int32) (b3 : Int32) (b4 : Int32) (b5 : Int32) (b6 : Int32) (b7 : Int32) (b8 : Int64) (b10 : Int32) (b11 : Int32) (h : mH) : Option (Int64 × mH) :=
  incI b11 fun bb => rec74 b0 b1 b2 b3 b4 b5 b6 b7 b8 b10 bb h
theorem g_Tables_waysTo_141_eq : @g_Tables_waysTo_141 = @f_Tables_waysTo_141 := by
  unfold g_Tables_waysTo_141 f_Tables_waysTo_141; rw [incI_eq]
def g_Tables_waysTo_74b (rec56 : Nat → Int32 → Int32 → Int32 → Int32 → Int32 → Int32 → Int32 → Int64 → Int32 → mH → Option (Int64 × mH)) (rec74 : Nat → Int32 → Int32 → Int32 → Int32 → Int32 → Int32 → Int32 → Int64 → Int32 → Int32 → mH → Option (Int64 × mH)) (b0 : Nat) (b1 : Int32) (b2 : Int32) (b3 : Int32) (b4 : Int32) (b5 : Int32) (b6 : Int32) (b7 : Int32) (b8 : Int64) (b10 : Int32) (b11 : Int32) (h : mH) : Option (Int64 × mH) :=
  if b6 < b11 then
    incI b10 fun bb => rec56 b0 b1 b2 b3 b4 b5 b6 b7 b8 bb h
  else
    bd1 (gR h b0 7 3) fun x22 =>
    bd1 (aI h 0 x22 b4) fun x24 =>
    bd1 (gR h b0 7 1) fun x26 =>
    bd1 (aI h 0 x26 ((10 : Int32) + b4)) fun x28 =>
    bd2 (g_Q_isWithin ((x24 - b10) - b11) x28 b7 h) fun x32 h30 =>
    if x32 = 0 then
      g_Tables_waysTo_141 rec56 rec74 b0 b1 b2 b3 b4 b5 b6 b7 b8 b10 b11 h30
    else
      bd1 (gR h30 b0 7 7) fun x33 =>
      bd2 (g_Tables_stateOf (b1 - b10) (b2 - b11) (b3 - ((x24 - b10) - b11)) h30) fun x37 h35 =>
      bd1 (aL h35 x33 x37) fun x38 =>
      g_Tables_waysTo_141 rec56 rec74 b0 b1 b2 b3 b4 b5 b6 b7 (b8 + x38) b10 b11 h35
theorem g_Tables_waysTo_74b_eq : @g_Tables_waysTo_74b = @f_Tables_waysTo_74b := by
  unfold g_Tables_waysTo_74b f_Tables_waysTo_74b; rw [g_Q_isWithin_eq, g_Tables_waysTo_141_eq, g_Tables_stateOf_eq, incI_eq]
def g_Tables_waysTo_74 (rec56 : Nat → Int32 → Int32 → Int32 → Int32 → Int32 → Int32 → Int32 → Int64 → Int32 → mH → Option (Int64 × mH)) : Nat → Nat → Int32 → Int32 → Int32 → Int32 → Int32 → Int32 → Int32 → Int64 → Int32 → Int32 → mH → Option (Int64 × mH)
  | 0 => fun _ _ _ _ _ _ _ _ _ _ _ _ => none
  | n + 1 => g_Tables_waysTo_74b rec56 (g_Tables_waysTo_74 rec56 n)
theorem g_Tables_waysTo_74_eq : @g_Tables_waysTo_74 = @f_Tables_waysTo_74 := by
  funext rec56 n
  induction n with
  | zero => rfl
  | succ n ih => show g_Tables_waysTo_74b rec56 (g_Tables_waysTo_74 rec56 n) = f_Tables_waysTo_74b rec56 (f_Tables_waysTo_74 rec56 n); rw [ih, g_Tables_waysTo_74b_eq]
def g_Tables_waysTo_56b (rec56 : Nat → Int32 → Int32 → Int32 → Int32 → Int32 → Int32 → Int32 → Int64 → Int32 → mH → Option (Int64 × mH)) (b0 : Nat) (b1 : Int32) (b2 : Int32) (b3 : Int32) (b4 : Int32) (b5 : Int32) (b6 : Int32) (b7 : Int32) (b8 : Int64) (b10 : Int32) (h : mH) : Option (Int64 × mH) :=
  if b5 < b10 then
    some (b8, h)
  else
    bd1 (gR h b0 7 1) fun x17 =>
    bd1 (aI h 0 x17 ((5 : Int32) + b4)) fun x19 =>
    g_Tables_waysTo_74 rec56 FU b0 b1 b2 b3 b4 b5 b6 b7 b8 b10 x19 h
theorem g_Tables_waysTo_56b_eq : @g_Tables_waysTo_56b = @f_Tables_waysTo_56b := by
  unfold g_Tables_waysTo_56b f_Tables_waysTo_56b; rw [g_Tables_waysTo_74_eq]
def g_Tables_waysTo_56  : Nat → Nat → Int32 → Int32 → Int32 → Int32 → Int32 → Int32 → Int32 → Int64 → Int32 → mH → Option (Int64 × mH)
  | 0 => fun _ _ _ _ _ _ _ _ _ _ _ => none
  | n + 1 => g_Tables_waysTo_56b  (g_Tables_waysTo_56  n)
theorem g_Tables_waysTo_56_eq : @g_Tables_waysTo_56 = @f_Tables_waysTo_56 := by
  funext  n
  induction n with
  | zero => rfl
  | succ n ih => show g_Tables_waysTo_56b  (g_Tables_waysTo_56  n) = f_Tables_waysTo_56b  (f_Tables_waysTo_56  n); rw [ih, g_Tables_waysTo_56b_eq]
def g_Tables_waysTo_0  (a0 : Nat) (a1 : Int32) (a2 : Int32) (a3 : Int32) (a4 : Int32) (h : mH) : Option (Int64 × mH) :=
  bd1 (gR h a0 7 2) fun x1 =>
  bd1 (aI h 0 x1 a4) fun x3 =>
  bd1 (gR h a0 7 2) fun x5 =>
  bd1 (aI h 0 x5 ((5 : Int32) + a4)) fun x7 =>
  bd1 (gR h a0 7 2) fun x9 =>
  bd1 (aI h 0 x9 ((10 : Int32) + a4)) fun x11 =>
  bd1 (gR h a0 7 1) fun x13 =>
  bd1 (aI h 0 x13 a4) fun x15 =>
  g_Tables_waysTo_56  FU a0 a1 a2 a3 a4 (if a1 < x3 then a1 else x3) (if a2 < x7 then a2 else x7) (if a3 < x11 then a3 else x11) (0 : Int64) x15 h
theorem g_Tables_waysTo_0_eq : @g_Tables_waysTo_0 = @f_Tables_waysTo_0 := by
  unfold g_Tables_waysTo_0 f_Tables_waysTo_0; rw [g_Tables_waysTo_56_eq]
def g_Tables_waysTo (a0 : Nat) (a1 : Int32) (a2 : Int32) (a3 : Int32) (a4 : Int32) (h : mH) : Option (Int64 × mH) := g_Tables_waysTo_0 a0 a1 a2 a3 a4 h
theorem g_Tables_waysTo_eq : @g_Tables_waysTo = @f_Tables_waysTo := by
  unfold g_Tables_waysTo f_Tables_waysTo; rw [g_Tables_waysTo_0_eq]
def g_Tables_spendTogether_30b (rec7 : Nat → Int32 → Int32 → mH → Option mH) (rec18 : Nat → Int32 → Int32 → Int32 → mH → Option mH) (rec30 : Nat → Int32 → Int32 → Int32 → Int32 → mH → Option mH) (b0 : Nat) (b1 : Int32) (b2 : Int32) (b3 : Int32) (b4 : Int32) (h : mH) : Option mH :=
  if b4 < 0 then
    rec18 b0 b1 b2 (b3 + ((-1) : Int32)) h
  else
    bd1 (gR h b0 7 7) fun x15 =>
    bd2 (g_Tables_stateOf b2 b3 b4 h) fun x19 h17 =>
    bd1 (kC h17 b0 7) fun _ =>
    bd2 (g_Tables_waysTo b0 b2 b3 b4 b1 h17) fun x24 h22 =>
    bd1 (sL h22 x15 x19 x24) fun h25 =>
    rec30 b0 b1 b2 b3 (b4 + ((-1) : Int32)) h25
theorem g_Tables_spendTogether_30b_eq : @g_Tables_spendTogether_30b = @f_Tables_spendTogether_30b := by
  unfold g_Tables_spendTogether_30b f_Tables_spendTogether_30b; rw [g_Tables_stateOf_eq, g_Tables_waysTo_eq]
def g_Tables_spendTogether_30 (rec7 : Nat → Int32 → Int32 → mH → Option mH) (rec18 : Nat → Int32 → Int32 → Int32 → mH → Option mH) : Nat → Nat → Int32 → Int32 → Int32 → Int32 → mH → Option mH
  | 0 => fun _ _ _ _ _ _ => none
  | n + 1 => g_Tables_spendTogether_30b rec7 rec18 (g_Tables_spendTogether_30 rec7 rec18 n)
theorem g_Tables_spendTogether_30_eq : @g_Tables_spendTogether_30 = @f_Tables_spendTogether_30 := by
  funext rec7 rec18 n
  induction n with
  | zero => rfl
  | succ n ih => show g_Tables_spendTogether_30b rec7 rec18 (g_Tables_spendTogether_30 rec7 rec18 n) = f_Tables_spendTogether_30b rec7 rec18 (f_Tables_spendTogether_30 rec7 rec18 n); rw [ih, g_Tables_spendTogether_30b_eq]
def g_Tables_spendTogether_18b (rec7 : Nat → Int32 → Int32 → mH → Option mH) (rec18 : Nat → Int32 → Int32 → Int32 → mH → Option mH) (b0 : Nat) (b1 : Int32) (b2 : Int32) (b3 : Int32) (h : mH) : Option mH :=
  if b3 < 0 then
    rec7 b0 b1 (b2 + ((-1) : Int32)) h
  else
    bd1 (gR h b0 7 5) fun x10 =>
    bd1 (aI h 0 x10 (2 : Int32)) fun x12 =>
    g_Tables_spendTogether_30 rec7 rec18 FU b0 b1 b2 b3 x12 h
theorem g_Tables_spendTogether_18b_eq : @g_Tables_spendTogether_18b = @f_Tables_spendTogether_18b := by
  unfold g_Tables_spendTogether_18b f_Tables_spendTogether_18b; rw [g_Tables_spendTogether_30_eq]
def g_Tables_spendTogether_18 (rec7 : Nat → Int32 → Int32 → mH → Option mH) : Nat → Nat → Int32 → Int32 → Int32 → mH → Option mH
  | 0 => fun _ _ _ _ _ => none
  | n + 1 => g_Tables_spendTogether_18b rec7 (g_Tables_spendTogether_18 rec7 n)
theorem g_Tables_spendTogether_18_eq : @g_Tables_spendTogether_18 = @f_Tables_spendTogether_18 := by
  funext rec7 n
  induction n with
  | zero => rfl
  | succ n ih => show g_Tables_spendTogether_18b rec7 (g_Tables_spendTogether_18 rec7 n) = f_Tables_spendTogether_18b rec7 (f_Tables_spendTogether_18 rec7 n); rw [ih, g_Tables_spendTogether_18b_eq]
def g_Tables_spendTogether_7b (rec7 : Nat → Int32 → Int32 → mH → Option mH) (b0 : Nat) (b1 : Int32) (b2 : Int32) (h : mH) : Option mH :=
  if b2 < 0 then
    some h
  else
    bd1 (gR h b0 7 5) fun x5 =>
    bd1 (aI h 0 x5 (1 : Int32)) fun x7 =>
    g_Tables_spendTogether_18 rec7 FU b0 b1 b2 x7 h
theorem g_Tables_spendTogether_7b_eq : @g_Tables_spendTogether_7b = @f_Tables_spendTogether_7b := by
  unfold g_Tables_spendTogether_7b f_Tables_spendTogether_7b; rw [g_Tables_spendTogether_18_eq]
def g_Tables_spendTogether_7  : Nat → Nat → Int32 → Int32 → mH → Option mH
  | 0 => fun _ _ _ _ => none
  | n + 1 => g_Tables_spendTogether_7b  (g_Tables_spendTogether_7  n)
theorem g_Tables_spendTogether_7_eq : @g_Tables_spendTogether_7 = @f_Tables_spendTogether_7 := by
  funext  n
  induction n with
  | zero => rfl
  | succ n ih => show g_Tables_spendTogether_7b  (g_Tables_spendTogether_7  n) = f_Tables_spendTogether_7b  (f_Tables_spendTogether_7  n); rw [ih, g_Tables_spendTogether_7b_eq]
def g_Tables_spendTogether_0  (a0 : Nat) (a1 : Int32) (h : mH) : Option mH :=
  bd1 (gR h a0 7 5) fun x1 =>
  bd1 (aI h 0 x1 (0 : Int32)) fun x3 =>
  g_Tables_spendTogether_7  FU a0 a1 x3 h
theorem g_Tables_spendTogether_0_eq : @g_Tables_spendTogether_0 = @f_Tables_spendTogether_0 := by
  unfold g_Tables_spendTogether_0 f_Tables_spendTogether_0; rw [g_Tables_spendTogether_7_eq]
def g_Tables_spendTogether (a0 : Nat) (a1 : Int32) (h : mH) : Option mH := g_Tables_spendTogether_0 a0 a1 h
theorem g_Tables_spendTogether_eq : @g_Tables_spendTogether = @f_Tables_spendTogether := by
  unfold g_Tables_spendTogether f_Tables_spendTogether; rw [g_Tables_spendTogether_0_eq]
def g_Tables_fitting_69b (rec69 : Nat → Int32 → mH → Option (Int64 × mH)) (b0 : Nat) (b1 : Int32) (h : mH) : Option (Int64 × mH) :=
  bd1 (gI h b0 7 0) fun x26 =>
  if x26 ≤ b1 then
    bd1 (kC h b0 7) fun _ =>
    bd2 (g_Tables_sumOfDue b0 h) fun x32 h30 =>
    some (x32, h30)
  else
    bd1 (gR h b0 7 3) fun x33 =>
    bd1 (aI h 0 x33 b1) fun x35 =>
    if x35 = ((-1) : Int32) then
      g_Tables_fitting_92 rec69 b0 b1 h
    else
      bd1 (kC h b0 7) fun _ =>
      bd1 (g_Tables_spendTogether b0 b1 h) fun h39 =>
      g_Tables_fitting_92 rec69 b0 b1 h39
theorem g_Tables_fitting_69b_eq : @g_Tables_fitting_69b = @f_Tables_fitting_69b := by
  unfold g_Tables_fitting_69b f_Tables_fitting_69b; rw [g_Tables_sumOfDue_eq, g_Tables_fitting_92_eq, g_Tables_spendTogether_eq]
def g_Tables_fitting_69  : Nat → Nat → Int32 → mH → Option (Int64 × mH)
  | 0 => fun _ _ _ => none
  | n + 1 => g_Tables_fitting_69b  (g_Tables_fitting_69  n)
theorem g_Tables_fitting_69_eq : @g_Tables_fitting_69 = @f_Tables_fitting_69 := by
  funext  n
  induction n with
  | zero => rfl
  | succ n ih => show g_Tables_fitting_69b  (g_Tables_fitting_69  n) = f_Tables_fitting_69b  (f_Tables_fitting_69  n); rw [ih, g_Tables_fitting_69b_eq]
def g_Tables_spendAlone_82 (rec31 : Nat → Int32 → Int32 → Int32 → Int32 → mH → Option mH) (b0 : Nat) (b1 : Int32) (b3 : Int32) (b4 : Int32) (b5 : Int32) (b6 : Int64) (h : mH) : Option mH :=
  bd1 (gR h b0 7 6) fun x20 =>
  bd1 (sL h x20 ((b1 * (6 : Int32)) + b5) b6) fun h22 =>
  rec31 b0 b1 b3 b4 (b5 + ((-1) : Int32)) h22
theorem g_Tables_spendAlone_82_eq : @g_Tables_spendAlone_82 = @f_Tables_spendAlone_82 := by
  rfl
def g_Tables_spendAlone_42b (rec31 : Nat → Int32 → Int32 → Int32 → Int32 → mH → Option mH) (rec42 : Nat → Int32 → Int32 → Int32 → Int32 → Int64 → Int32 → mH → Option mH) (b0 : Nat) (b1 : Int32) (b3 : Int32) (b4 : Int32) (b5 : Int32) (b6 : Int64) (b8 : Int32) (h : mH) : Option mH :=
  if b4 < b8 then
    g_Tables_spendAlone_82 rec31 b0 b1 b3 b4 b5 b6 h
  else
    if b5 < b8 then
      g_Tables_spendAlone_82 rec31 b0 b1 b3 b4 b5 b6 h
    else
      bd1 (gR h b0 7 6) fun x14 =>
      bd1 (aL h x14 (((b1 * (6 : Int32)) + b5) - b8)) fun x16 =>
      rec42 b0 b1 b3 b4 b5 (b6 + x16) (b8 + (1 : Int32)) h
theorem g_Tables_spendAlone_42b_eq : @g_Tables_spendAlone_42b = @f_Tables_spendAlone_42b := by
  unfold g_Tables_spendAlone_42b f_Tables_spendAlone_42b; rw [g_Tables_spendAlone_82_eq]
def g_Tables_spendAlone_42 (rec31 : Nat → Int32 → Int32 → Int32 → Int32 → mH → Option mH) : Nat → Nat → Int32 → Int32 → Int32 → Int32 → Int64 → Int32 → mH → Option mH
  | 0 => fun _ _ _ _ _ _ _ _ => none
  | n + 1 => g_Tables_spendAlone_42b rec31 (g_Tables_spendAlone_42 rec31 n)
theorem g_Tables_spendAlone_42_eq : @g_Tables_spendAlone_42 = @f_Tables_spendAlone_42 := by
  funext rec31 n
  induction n with
  | zero => rfl
  | succ n ih => show g_Tables_spendAlone_42b rec31 (g_Tables_spendAlone_42 rec31 n) = f_Tables_spendAlone_42b rec31 (f_Tables_spendAlone_42 rec31 n); rw [ih, g_Tables_spendAlone_42b_eq]
def g_Tables_spendAlone_31b (rec31 : Nat → Int32 → Int32 → Int32 → Int32 → mH → Option mH) (b0 : Nat) (b1 : Int32) (b3 : Int32) (b4 : Int32) (b5 : Int32) (h : mH) : Option mH :=
  if b5 < 0 then
    some h
  else
    g_Tables_spendAlone_42 rec31 FU b0 b1 b3 b4 b5 (0 : Int64) b3 h
theorem g_Tables_spendAlone_31b_eq : @g_Tables_spendAlone_31b = @f_Tables_spendAlone_31b := by
  unfold g_Tables_spendAlone_31b f_Tables_spendAlone_31b; rw [g_Tables_spendAlone_42_eq]
def g_Tables_spendAlone_31  : Nat → Nat → Int32 → Int32 → Int32 → Int32 → mH → Option mH
  | 0 => fun _ _ _ _ _ _ => none
  | n + 1 => g_Tables_spendAlone_31b  (g_Tables_spendAlone_31  n)
theorem g_Tables_spendAlone_31_eq : @g_Tables_spendAlone_31 = @f_Tables_spendAlone_31 := by
  funext  n
  induction n with
  | zero => rfl
  | succ n ih => show g_Tables_spendAlone_31b  (g_Tables_spendAlone_31  n) = f_Tables_spendAlone_31b  (f_Tables_spendAlone_31  n); rw [ih, g_Tables_spendAlone_31b_eq]
def g_Tables_spendAlone_0  (a0 : Nat) (a1 : Int32) (a2 : Int32) (h : mH) : Option mH :=
  bd1 (gR h a0 7 1) fun x1 =>
  bd1 (aI h 0 x1 ((a1 * (5 : Int32)) + a2)) fun x3 =>
  bd1 (gR h a0 7 2) fun x5 =>
  bd1 (aI h 0 x5 ((a1 * (5 : Int32)) + a2)) fun x7 =>
  bd1 (gR h a0 7 5) fun x9 =>
  bd1 (aI h 0 x9 a1) fun x11 =>
  g_Tables_spendAlone_31  FU a0 a1 x3 x7 x11 h
theorem g_Tables_spendAlone_0_eq : @g_Tables_spendAlone_0 = @f_Tables_spendAlone_0 := by
  unfold g_Tables_spendAlone_0 f_Tables_spendAlone_0; rw [g_Tables_spendAlone_31_eq]
def g_Tables_spendAlone (a0 : Nat) (a1 : Int32) (a2 : Int32) (h : mH) : Option mH := g_Tables_spendAlone_0 a0 a1 a2 h
theorem g_Tables_spendAlone_eq : @g_Tables_spendAlone = @f_Tables_spendAlone := by
  unfold g_Tables_spendAlone f_Tables_spendAlone; rw [g_Tables_spendAlone_0_eq]
def g_Tables_fitting_51 (rec10 : Nat → Int32 → mH → Option (Int64 × mH)) (rec27 : Nat → Int32 → Int32 → mH → Option (Int64 × mH)) (b0 : Nat) (b1 : Int32) (b2 : Int32) (h : mH) : Option (Int64 × mH) :=
  incI b2 fun bb => rec27 b0 b1 bb h
theorem g_Tables_fitting_51_eq : @g_Tables_fitting_51 = @f_Tables_fitting_51 := by
  unfold g_Tables_fitting_51 f_Tables_fitting_51; rw [incI_eq]
def g_Tables_fitting_27b (rec10 : Nat → Int32 → mH → Option (Int64 × mH)) (rec27 : Nat → Int32 → Int32 → mH → Option (Int64 × mH)) (b0 : Nat) (b1 : Int32) (b2 : Int32) (h : mH) : Option (Int64 × mH) :=
  bd1 (gI h b0 7 0) fun x14 =>
  if x14 ≤ b2 then
    incI b1 fun bb => rec10 b0 bb h
  else
    bd1 (gR h b0 7 3) fun x16 =>
    bd1 (aI h 0 x16 b2) fun x18 =>
    if x18 = ((-1) : Int32) then
      bd1 (kC h b0 7) fun _ =>
      bd1 (g_Tables_spendAlone b0 b1 b2 h) fun h22 =>
      g_Tables_fitting_51 rec10 rec27 b0 b1 b2 h22
    else
      g_Tables_fitting_51 rec10 rec27 b0 b1 b2 h
theorem g_Tables_fitting_27b_eq : @g_Tables_fitting_27b = @f_Tables_fitting_27b := by
  unfold g_Tables_fitting_27b f_Tables_fitting_27b; rw [g_Tables_spendAlone_eq, g_Tables_fitting_51_eq, incI_eq]
def g_Tables_fitting_27 (rec10 : Nat → Int32 → mH → Option (Int64 × mH)) : Nat → Nat → Int32 → Int32 → mH → Option (Int64 × mH)
  | 0 => fun _ _ _ _ => none
  | n + 1 => g_Tables_fitting_27b rec10 (g_Tables_fitting_27 rec10 n)
theorem g_Tables_fitting_27_eq : @g_Tables_fitting_27 = @f_Tables_fitting_27 := by
  funext rec10 n
  induction n with
  | zero => rfl
  | succ n ih => show g_Tables_fitting_27b rec10 (g_Tables_fitting_27 rec10 n) = f_Tables_fitting_27b rec10 (f_Tables_fitting_27 rec10 n); rw [ih, g_Tables_fitting_27b_eq]
def g_Tables_fitting_10b (rec10 : Nat → Int32 → mH → Option (Int64 × mH)) (b0 : Nat) (b1 : Int32) (h : mH) : Option (Int64 × mH) :=
  if (3 : Int32) ≤ b1 then
    bd1 (kC h b0 7) fun _ =>
    bd1 (g_Tables_joinAll b0 h) fun h7 =>
    g_Tables_fitting_69  FU b0 (0 : Int32) h7
  else
    bd1 (gR h b0 7 6) fun x9 =>
    bd1 (sL h x9 (b1 * (6 : Int32)) (1 : Int64)) fun h11 =>
    g_Tables_fitting_27 rec10 FU b0 b1 (0 : Int32) h11
theorem g_Tables_fitting_10b_eq : @g_Tables_fitting_10b = @f_Tables_fitting_10b := by
  unfold g_Tables_fitting_10b f_Tables_fitting_10b; rw [g_Tables_joinAll_eq, g_Tables_fitting_69_eq, g_Tables_fitting_27_eq]
def g_Tables_fitting_10  : Nat → Nat → Int32 → mH → Option (Int64 × mH)
  | 0 => fun _ _ _ => none
  | n + 1 => g_Tables_fitting_10b  (g_Tables_fitting_10  n)
theorem g_Tables_fitting_10_eq : @g_Tables_fitting_10 = @f_Tables_fitting_10 := by
  funext  n
  induction n with
  | zero => rfl
  | succ n ih => show g_Tables_fitting_10b  (g_Tables_fitting_10  n) = f_Tables_fitting_10b  (f_Tables_fitting_10  n); rw [ih, g_Tables_fitting_10b_eq]
def g_Tables_fitting_0  (a0 : Nat) (h : mH) : Option (Int64 × mH) :=
  bd1 (gR h a0 7 6) fun x1 =>
  bd1 (g_Arrays_fillJ x1 (0 : Int64) h) fun h3 =>
  g_Tables_fitting_10  FU a0 (0 : Int32) h3
theorem g_Tables_fitting_0_eq : @g_Tables_fitting_0 = @f_Tables_fitting_0 := by
  unfold g_Tables_fitting_0 f_Tables_fitting_0; rw [g_Arrays_fillJ_eq, g_Tables_fitting_10_eq]
def g_Tables_fitting (a0 : Nat) (h : mH) : Option (Int64 × mH) := g_Tables_fitting_0 a0 h
theorem g_Tables_fitting_eq : @g_Tables_fitting = @f_Tables_fitting := by
  unfold g_Tables_fitting f_Tables_fitting; rw [g_Tables_fitting_0_eq]
def g_Q_books_0  (a0 : Nat) (h : mH) : Option (Int64 × mH) :=
  bd1 (gR h a0 0 7) fun x1 =>
  bd1 (gR h a0 0 1) fun x3 =>
  bd1 (kC h x1 7) fun _ =>
  bd1 (g_Tables_load x1 x3 h) fun h7 =>
  bd1 (gR h7 a0 0 7) fun x9 =>
  bd1 (kC h7 x9 7) fun _ =>
  bd2 (g_Tables_fitting x9 h7) fun x15 h13 =>
  some (x15, h13)
theorem g_Q_books_0_eq : @g_Q_books_0 = @f_Q_books_0 := by
  unfold g_Q_books_0 f_Q_books_0; rw [g_Tables_load_eq, g_Tables_fitting_eq]
def g_Q_books (a0 : Nat) (h : mH) : Option (Int64 × mH) := g_Q_books_0 a0 h
theorem g_Q_books_eq : @g_Q_books = @f_Q_books := by
  unfold g_Q_books f_Q_books; rw [g_Q_books_0_eq]
def g_M_isTime_47   (h : mH) : Option (Int32 × mH) :=
  some ((0 : Int32), h)
theorem g_M_isTime_47_eq : @g_M_isTime_47 = @f_M_isTime_47 := by
  rfl
def g_M_isSo_74 (rec6 : Nat → Int32 → Int32 → Int32 → Int32 → Int32 → mH → Option (Int32 × mH)) (b0 : Nat) (b1 : Int32) (b2 : Int32) (b3 : Int32) (b5 : Int32) (s0 : Int32) (h : mH) : Option (Int32 × mH) :=
  incI b5 fun bb => rec6 b0 b1 b2 b3 s0 bb h
theorem g_M_isSo_74_eq : @g_M_isSo_74 = @f_M_isSo_74 := by
  unfold g_M_isSo_74 f_M_isSo_74; rw [incI_eq]
def g_M_isSo_73 (rec6 : Nat → Int32 → Int32 → Int32 → Int32 → Int32 → mH → Option (Int32 × mH)) (b0 : Nat) (b1 : Int32) (b2 : Int32) (b3 : Int32) (b5 : Int32) (h : mH) : Option (Int32 × mH) :=
  g_M_isSo_74 rec6 b0 b1 b2 b3 b5 (0 : Int32) h
theorem g_M_isSo_73_eq : @g_M_isSo_73 = @f_M_isSo_73 := by
  unfold g_M_isSo_73 f_M_isSo_73; rw [g_M_isSo_74_eq]
def g_M_isSo_69 (rec6 : Nat → Int32 → Int32 → Int32 → Int32 → Int32 → mH → Option (Int32 × mH)) (b0 : Nat) (b1 : Int32) (b2 : Int32) (b3 : Int32) (b5 : Int32) (h : mH) : Option (Int32 × mH) :=
  g_M_isSo_74 rec6 b0 b1 b2 b3 b5 (1 : Int32) h
theorem g_M_isSo_69_eq : @g_M_isSo_69 = @f_M_isSo_69 := by
  unfold g_M_isSo_69 f_M_isSo_69; rw [g_M_isSo_74_eq]
def g_M_isSo_6b (rec6 : Nat → Int32 → Int32 → Int32 → Int32 → Int32 → mH → Option (Int32 × mH)) (b0 : Nat) (b1 : Int32) (b2 : Int32) (b3 : Int32) (b4 : Int32) (b5 : Int32) (h : mH) : Option (Int32 × mH) :=
  bd1 (gR h b0 8 0) fun x1 =>
  bd1 (aI h 0 x1 (41 : Int32)) fun x3 =>
  if x3 ≤ b5 then
    if b4 = 0 ∨ b4 = 1 then some (b4, h) else none
  else
    if b4 = 0 then
      g_M_isSo_73 rec6 b0 b1 b2 b3 b5 h
    else
      bd1 (gR h b0 8 0) fun x6 =>
      bd1 (aI h 0 x6 ((42 : Int32) + ((3 : Int32) * b5))) fun x8 =>
      if x8 = b1 then
        bd1 (gR h b0 8 0) fun x10 =>
        bd1 (aI h 0 x10 (((42 : Int32) + ((3 : Int32) * b5)) + (1 : Int32))) fun x12 =>
        if x12 = b2 then
          bd1 (gR h b0 8 0) fun x14 =>
          bd1 (aI h 0 x14 (((42 : Int32) + ((3 : Int32) * b5)) + (2 : Int32))) fun x16 =>
          if x16 = b3 then
            g_M_isSo_69 rec6 b0 b1 b2 b3 b5 h
          else
            g_M_isSo_73 rec6 b0 b1 b2 b3 b5 h
        else
          g_M_isSo_69 rec6 b0 b1 b2 b3 b5 h
      else
        g_M_isSo_69 rec6 b0 b1 b2 b3 b5 h
theorem g_M_isSo_6b_eq : @g_M_isSo_6b = @f_M_isSo_6b := by
  unfold g_M_isSo_6b f_M_isSo_6b; rw [g_M_isSo_73_eq, g_M_isSo_69_eq]
def g_M_isSo_6  : Nat → Nat → Int32 → Int32 → Int32 → Int32 → Int32 → mH → Option (Int32 × mH)
  | 0 => fun _ _ _ _ _ _ _ => none
  | n + 1 => g_M_isSo_6b  (g_M_isSo_6  n)
theorem g_M_isSo_6_eq : @g_M_isSo_6 = @f_M_isSo_6 := by
  funext  n
  induction n with
  | zero => rfl
  | succ n ih => show g_M_isSo_6b  (g_M_isSo_6  n) = f_M_isSo_6b  (f_M_isSo_6  n); rw [ih, g_M_isSo_6b_eq]
def g_M_isSo_0  (a0 : Nat) (a1 : Int32) (a2 : Int32) (a3 : Int32) (h : mH) : Option (Int32 × mH) :=
  g_M_isSo_6  FU a0 a1 a2 a3 (1 : Int32) (0 : Int32) h
theorem g_M_isSo_0_eq : @g_M_isSo_0 = @f_M_isSo_0 := by
  unfold g_M_isSo_0 f_M_isSo_0; rw [g_M_isSo_6_eq]
def g_M_isSo (a0 : Nat) (a1 : Int32) (a2 : Int32) (a3 : Int32) (h : mH) : Option (Int32 × mH) := g_M_isSo_0 a0 a1 a2 a3 h
theorem g_M_isSo_eq : @g_M_isSo = @f_M_isSo := by
  unfold g_M_isSo f_M_isSo; rw [g_M_isSo_0_eq]
def g_M_isTime_0  (a0 : Nat) (a1 : Int32) (a2 : Int32) (h : mH) : Option (Int32 × mH) :=
  bd1 (gI h a0 8 3) fun x1 =>
  if a1 < x1 then
    bd1 (gR h a0 8 0) fun x3 =>
    bd1 (aI h 0 x3 ((12 : Int32) + a1)) fun x5 =>
    if x5 < a2 then
      g_M_isTime_47  h
    else
      bd1 (kC h a0 8) fun _ =>
      bd2 (g_M_isSo a0 (0 : Int32) a1 a2 h) fun x11 h9 =>
      if x11 = 0 then
        g_M_isTime_47  h9
      else
        some ((1 : Int32), h9)
  else
    if a2 = 0 then
      some ((1 : Int32), h)
    else
      some ((0 : Int32), h)
theorem g_M_isTime_0_eq : @g_M_isTime_0 = @f_M_isTime_0 := by
  unfold g_M_isTime_0 f_M_isTime_0; rw [g_M_isTime_47_eq, g_M_isSo_eq]
def g_M_isTime (a0 : Nat) (a1 : Int32) (a2 : Int32) (h : mH) : Option (Int32 × mH) := g_M_isTime_0 a0 a1 a2 h
theorem g_M_isTime_eq : @g_M_isTime = @f_M_isTime := by
  unfold g_M_isTime f_M_isTime; rw [g_M_isTime_0_eq]
def g_M_tablesBy_130 (rec67 : Nat → Int64 → Int32 → mH → Option (Int64 × mH)) (b0 : Nat) (b6 : Int32) (s0 : Int64) (s1 : Int64) (h : mH) : Option (Int64 × mH) :=
  rec67 b0 (s0 + s1) (b6 + (1 : Int32)) h
theorem g_M_tablesBy_130_eq : @g_M_tablesBy_130 = @f_M_tablesBy_130 := by
  rfl
def g_M_tablesBy_129 (rec67 : Nat → Int64 → Int32 → mH → Option (Int64 × mH)) (b0 : Nat) (b6 : Int32) (s0 : Int64) (h : mH) : Option (Int64 × mH) :=
  g_M_tablesBy_130 rec67 b0 b6 s0 (0 : Int64) h
theorem g_M_tablesBy_129_eq : @g_M_tablesBy_129 = @f_M_tablesBy_129 := by
  unfold g_M_tablesBy_129 f_M_tablesBy_129; rw [g_M_tablesBy_130_eq]
def g_M_tablesBy_67b (rec67 : Nat → Int64 → Int32 → mH → Option (Int64 × mH)) (b0 : Nat) (b4 : Int64) (b6 : Int32) (h : mH) : Option (Int64 × mH) :=
  if (216 : Int32) ≤ b6 then
    some (b4, h)
  else
    bd1 (kC h b0 8) fun _ =>
    bd2 (g_M_isTime b0 (0 : Int32) (b6 / (36 : Int32)) h) fun x18 h16 =>
    if x18 = 0 then
      g_M_tablesBy_129 rec67 b0 b6 b4 h16
    else
      bd1 (kC h16 b0 8) fun _ =>
      bd2 (g_M_isTime b0 (1 : Int32) ((b6 / (6 : Int32)) - (b6 / (6 : Int32)) / (6 : Int32) * (6 : Int32)) h16) fun x23 h21 =>
      if x23 = 0 then
        g_M_tablesBy_129 rec67 b0 b6 b4 h21
      else
        bd1 (kC h21 b0 8) fun _ =>
        bd2 (g_M_isTime b0 (2 : Int32) (b6 - b6 / (6 : Int32) * (6 : Int32)) h21) fun x28 h26 =>
        if x28 = 0 then
          g_M_tablesBy_129 rec67 b0 b6 b4 h26
        else
          bd1 (gR h26 b0 8 33) fun x29 =>
          bd1 (aL h26 x29 b6) fun x31 =>
          g_M_tablesBy_130 rec67 b0 b6 b4 x31 h26
theorem g_M_tablesBy_67b_eq : @g_M_tablesBy_67b = @f_M_tablesBy_67b := by
  unfold g_M_tablesBy_67b f_M_tablesBy_67b; rw [g_M_isTime_eq, g_M_tablesBy_129_eq, g_M_tablesBy_130_eq]
def g_M_tablesBy_67  : Nat → Nat → Int64 → Int32 → mH → Option (Int64 × mH)
  | 0 => fun _ _ _ _ => none
  | n + 1 => g_M_tablesBy_67b  (g_M_tablesBy_67  n)
theorem g_M_tablesBy_67_eq : @g_M_tablesBy_67 = @f_M_tablesBy_67 := by
  funext  n
  induction n with
  | zero => rfl
  | succ n ih => show g_M_tablesBy_67b  (g_M_tablesBy_67  n) = f_M_tablesBy_67b  (f_M_tablesBy_67  n); rw [ih, g_M_tablesBy_67b_eq]
def g_M_mostOf_33   (h : mH) : Option (Int32 × mH) :=
  some ((0 : Int32), h)
theorem g_M_mostOf_33_eq : @g_M_mostOf_33 = @f_M_mostOf_33 := by
  rfl
def g_M_mostOf_0  (a0 : Nat) (a1 : Int32) (a2 : Int32) (h : mH) : Option (Int32 × mH) :=
  bd1 (gI h a0 8 3) fun x1 =>
  if x1 ≤ a1 then
    g_M_mostOf_33  h
  else
    bd1 (gR h a0 8 0) fun x3 =>
    bd1 (aI h 0 x3 ((18 : Int32) + a1)) fun x5 =>
    if ((x5 >>> (a2 &&& 31)) &&& (1 : Int32)) = 0 then
      bd1 (gR h a0 8 4) fun x7 =>
      bd1 (aI h 0 x7 a2) fun x9 =>
      some (x9, h)
    else
      g_M_mostOf_33  h
theorem g_M_mostOf_0_eq : @g_M_mostOf_0 = @f_M_mostOf_0 := by
  unfold g_M_mostOf_0 f_M_mostOf_0; rw [g_M_mostOf_33_eq]
def g_M_mostOf (a0 : Nat) (a1 : Int32) (a2 : Int32) (h : mH) : Option (Int32 × mH) := g_M_mostOf_0 a0 a1 a2 h
theorem g_M_mostOf_eq : @g_M_mostOf = @f_M_mostOf := by
  unfold g_M_mostOf f_M_mostOf; rw [g_M_mostOf_0_eq]
def g_M_addsLaw_172b (rec172 : Nat → Int32 → mH → Option mH) (b0 : Nat) (b5 : Int32) (h : mH) : Option mH :=
  if (216 : Int32) ≤ b5 then
    some h
  else
    bd1 (gR h b0 8 33) fun x53 =>
    bd1 (gR h b0 8 34) fun x55 =>
    bd1 (aL h x55 b5) fun x57 =>
    bd1 (sL h x53 b5 x57) fun h59 =>
    incI b5 fun bb => rec172 b0 bb h59
theorem g_M_addsLaw_172b_eq : @g_M_addsLaw_172b = @f_M_addsLaw_172b := by
  unfold g_M_addsLaw_172b f_M_addsLaw_172b; rw [incI_eq]
def g_M_addsLaw_172  : Nat → Nat → Int32 → mH → Option mH
  | 0 => fun _ _ _ => none
  | n + 1 => g_M_addsLaw_172b  (g_M_addsLaw_172  n)
theorem g_M_addsLaw_172_eq : @g_M_addsLaw_172 = @f_M_addsLaw_172 := by
  funext  n
  induction n with
  | zero => rfl
  | succ n ih => show g_M_addsLaw_172b  (g_M_addsLaw_172  n) = f_M_addsLaw_172b  (f_M_addsLaw_172  n); rw [ih, g_M_addsLaw_172b_eq]
def g_M_addsLaw_151 (rec28 : Nat → Int32 → Int32 → Int32 → Int32 → Int32 → mH → Option mH) (rec42 : Nat → Int32 → Int32 → Int32 → Int32 → Int32 → Int32 → mH → Option mH) (rec56 : Nat → Int32 → Int32 → Int32 → Int32 → Int32 → Int32 → Int32 → mH → Option mH) (b0 : Nat) (b1 : Int32) (b2 : Int32) (b3 : Int32) (b4 : Int32) (b5 : Int32) (b6 : Int32) (b7 : Int32) (h : mH) : Option mH :=
  incI b7 fun bb => rec56 b0 b1 b2 b3 b4 b5 b6 bb h
theorem g_M_addsLaw_151_eq : @g_M_addsLaw_151 = @f_M_addsLaw_151 := by
  unfold g_M_addsLaw_151 f_M_addsLaw_151; rw [incI_eq]
def g_M_addsTables_91 (rec3 : Nat → Int32 → Int32 → Int32 → Int32 → mH → Option mH) (b0 : Nat) (b1 : Int32) (b2 : Int32) (b3 : Int32) (b4 : Int32) (h : mH) : Option mH :=
  incI b4 fun bb => rec3 b0 b1 b2 b3 bb h
theorem g_M_addsTables_91_eq : @g_M_addsTables_91 = @f_M_addsTables_91 := by
  unfold g_M_addsTables_91 f_M_addsTables_91; rw [incI_eq]
def g_M_addsTables_3b (rec3 : Nat → Int32 → Int32 → Int32 → Int32 → mH → Option mH) (b0 : Nat) (b1 : Int32) (b2 : Int32) (b3 : Int32) (b4 : Int32) (h : mH) : Option mH :=
  if (216 : Int32) ≤ b4 then
    some h
  else
    if (6 : Int32) ≤ ((b4 / (36 : Int32)) + b1) then
      g_M_addsTables_91 rec3 b0 b1 b2 b3 b4 h
    else
      if (6 : Int32) ≤ (((b4 / (6 : Int32)) - (b4 / (6 : Int32)) / (6 : Int32) * (6 : Int32)) + b2) then
        g_M_addsTables_91 rec3 b0 b1 b2 b3 b4 h
      else
        if (6 : Int32) ≤ ((b4 - b4 / (6 : Int32) * (6 : Int32)) + b3) then
          g_M_addsTables_91 rec3 b0 b1 b2 b3 b4 h
        else
          bd1 (gR h b0 8 34) fun x1 =>
          bd1 (aL h x1 ((((36 : Int32) * ((b4 / (36 : Int32)) + b1)) + ((6 : Int32) * (((b4 / (6 : Int32)) - (b4 / (6 : Int32)) / (6 : Int32) * (6 : Int32)) + b2))) + ((b4 - b4 / (6 : Int32) * (6 : Int32)) + b3))) fun x3 =>
          bd1 (gR h b0 8 33) fun x5 =>
          bd1 (aL h x5 b4) fun x7 =>
          bd1 (sL h x1 ((((36 : Int32) * ((b4 / (36 : Int32)) + b1)) + ((6 : Int32) * (((b4 / (6 : Int32)) - (b4 / (6 : Int32)) / (6 : Int32) * (6 : Int32)) + b2))) + ((b4 - b4 / (6 : Int32) * (6 : Int32)) + b3)) (x3 + x7)) fun h9 =>
          g_M_addsTables_91 rec3 b0 b1 b2 b3 b4 h9
theorem g_M_addsTables_3b_eq : @g_M_addsTables_3b = @f_M_addsTables_3b := by
  unfold g_M_addsTables_3b f_M_addsTables_3b; rw [g_M_addsTables_91_eq]
def g_M_addsTables_3  : Nat → Nat → Int32 → Int32 → Int32 → Int32 → mH → Option mH
  | 0 => fun _ _ _ _ _ _ => none
  | n + 1 => g_M_addsTables_3b  (g_M_addsTables_3  n)
theorem g_M_addsTables_3_eq : @g_M_addsTables_3 = @f_M_addsTables_3 := by
  funext  n
  induction n with
  | zero => rfl
  | succ n ih => show g_M_addsTables_3b  (g_M_addsTables_3  n) = f_M_addsTables_3b  (f_M_addsTables_3  n); rw [ih, g_M_addsTables_3b_eq]
def g_M_addsTables_0  (a0 : Nat) (a1 : Int32) (a2 : Int32) (a3 : Int32) (h : mH) : Option mH :=
  g_M_addsTables_3  FU a0 a1 a2 a3 (0 : Int32) h
theorem g_M_addsTables_0_eq : @g_M_addsTables_0 = @f_M_addsTables_0 := by
  unfold g_M_addsTables_0 f_M_addsTables_0; rw [g_M_addsTables_3_eq]
def g_M_addsTables (a0 : Nat) (a1 : Int32) (a2 : Int32) (a3 : Int32) (h : mH) : Option mH := g_M_addsTables_0 a0 a1 a2 a3 h
theorem g_M_addsTables_eq : @g_M_addsTables = @f_M_addsTables := by
  unfold g_M_addsTables f_M_addsTables; rw [g_M_addsTables_0_eq]
def g_M_addsLaw_134 (rec28 : Nat → Int32 → Int32 → Int32 → Int32 → Int32 → mH → Option mH) (rec42 : Nat → Int32 → Int32 → Int32 → Int32 → Int32 → Int32 → mH → Option mH) (rec56 : Nat → Int32 → Int32 → Int32 → Int32 → Int32 → Int32 → Int32 → mH → Option mH) (b0 : Nat) (b1 : Int32) (b2 : Int32) (b3 : Int32) (b4 : Int32) (b5 : Int32) (b6 : Int32) (b7 : Int32) (s0 : Int32) (h : mH) : Option mH :=
  if s0 = 0 then
    g_M_addsLaw_151 rec28 rec42 rec56 b0 b1 b2 b3 b4 b5 b6 b7 h
  else
    bd1 (kC h b0 8) fun _ =>
    bd1 (g_M_addsTables b0 b5 b6 b7 h) fun h50 =>
    g_M_addsLaw_151 rec28 rec42 rec56 b0 b1 b2 b3 b4 b5 b6 b7 h50
theorem g_M_addsLaw_134_eq : @g_M_addsLaw_134 = @f_M_addsLaw_134 := by
  unfold g_M_addsLaw_134 f_M_addsLaw_134; rw [g_M_addsLaw_151_eq, g_M_addsTables_eq]
def g_M_addsLaw_133 (rec28 : Nat → Int32 → Int32 → Int32 → Int32 → Int32 → mH → Option mH) (rec42 : Nat → Int32 → Int32 → Int32 → Int32 → Int32 → Int32 → mH → Option mH) (rec56 : Nat → Int32 → Int32 → Int32 → Int32 → Int32 → Int32 → Int32 → mH → Option mH) (b0 : Nat) (b1 : Int32) (b2 : Int32) (b3 : Int32) (b4 : Int32) (b5 : Int32) (b6 : Int32) (b7 : Int32) (h : mH) : Option mH :=
  g_M_addsLaw_134 rec28 rec42 rec56 b0 b1 b2 b3 b4 b5 b6 b7 (0 : Int32) h
theorem g_M_addsLaw_133_eq : @g_M_addsLaw_133 = @f_M_addsLaw_133 := by
  unfold g_M_addsLaw_133 f_M_addsLaw_133; rw [g_M_addsLaw_134_eq]
def g_M_isAsked_18   (h : mH) : Option (Int32 × mH) :=
  some ((1 : Int32), h)
theorem g_M_isAsked_18_eq : @g_M_isAsked_18 = @f_M_isAsked_18 := by
  rfl
def g_M_isAsked_0  (a0 : Nat) (a1 : Int32) (a2 : Int32) (a3 : Int32) (a4 : Int32) (a5 : Int32) (a6 : Int32) (h : mH) : Option (Int32 × mH) :=
  if a1 = a4 then
    if a2 = a5 then
      if a3 = a6 then
        g_M_isAsked_18  h
      else
        some ((0 : Int32), h)
    else
      g_M_isAsked_18  h
  else
    g_M_isAsked_18  h
theorem g_M_isAsked_0_eq : @g_M_isAsked_0 = @f_M_isAsked_0 := by
  unfold g_M_isAsked_0 f_M_isAsked_0; rw [g_M_isAsked_18_eq]
def g_M_isAsked (a0 : Nat) (a1 : Int32) (a2 : Int32) (a3 : Int32) (a4 : Int32) (a5 : Int32) (a6 : Int32) (h : mH) : Option (Int32 × mH) := g_M_isAsked_0 a0 a1 a2 a3 a4 a5 a6 h
theorem g_M_isAsked_eq : @g_M_isAsked = @f_M_isAsked := by
  unfold g_M_isAsked f_M_isAsked; rw [g_M_isAsked_0_eq]
def g_M_addsLaw_56b (rec28 : Nat → Int32 → Int32 → Int32 → Int32 → Int32 → mH → Option mH) (rec42 : Nat → Int32 → Int32 → Int32 → Int32 → Int32 → Int32 → mH → Option mH) (rec56 : Nat → Int32 → Int32 → Int32 → Int32 → Int32 → Int32 → Int32 → mH → Option mH) (b0 : Nat) (b1 : Int32) (b2 : Int32) (b3 : Int32) (b4 : Int32) (b5 : Int32) (b6 : Int32) (b7 : Int32) (h : mH) : Option mH :=
  bd1 (kC h b0 8) fun _ =>
  bd2 (g_M_mostOf b0 (2 : Int32) b1 h) fun x22 h20 =>
  if x22 < b7 then
    incI b6 fun bb => rec42 b0 b1 b2 b3 b4 b5 bb h20
  else
    bd1 (kC h20 b0 8) fun _ =>
    bd2 (g_M_isSo b0 (1 : Int32) b1 ((b5 + b6) + b7) h20) fun x27 h25 =>
    if x27 = 0 then
      g_M_addsLaw_133 rec28 rec42 rec56 b0 b1 b2 b3 b4 b5 b6 b7 h25
    else
      bd1 (kC h25 b0 8) fun _ =>
      bd2 (g_M_isAsked b0 (0 : Int32) b1 b5 b2 b3 b4 h25) fun x32 h30 =>
      if x32 = 0 then
        g_M_addsLaw_133 rec28 rec42 rec56 b0 b1 b2 b3 b4 b5 b6 b7 h30
      else
        bd1 (kC h30 b0 8) fun _ =>
        bd2 (g_M_isAsked b0 (1 : Int32) b1 b6 b2 b3 b4 h30) fun x37 h35 =>
        if x37 = 0 then
          g_M_addsLaw_133 rec28 rec42 rec56 b0 b1 b2 b3 b4 b5 b6 b7 h35
        else
          bd1 (kC h35 b0 8) fun _ =>
          bd2 (g_M_isAsked b0 (2 : Int32) b1 b7 b2 b3 b4 h35) fun x42 h40 =>
          if x42 = 0 then
            g_M_addsLaw_133 rec28 rec42 rec56 b0 b1 b2 b3 b4 b5 b6 b7 h40
          else
            g_M_addsLaw_134 rec28 rec42 rec56 b0 b1 b2 b3 b4 b5 b6 b7 (1 : Int32) h40
theorem g_M_addsLaw_56b_eq : @g_M_addsLaw_56b = @f_M_addsLaw_56b := by
  unfold g_M_addsLaw_56b f_M_addsLaw_56b; rw [g_M_mostOf_eq, g_M_isSo_eq, g_M_addsLaw_133_eq, g_M_isAsked_eq, g_M_addsLaw_134_eq, incI_eq]
def g_M_addsLaw_56 (rec28 : Nat → Int32 → Int32 → Int32 → Int32 → Int32 → mH → Option mH) (rec42 : Nat → Int32 → Int32 → Int32 → Int32 → Int32 → Int32 → mH → Option mH) : Nat → Nat → Int32 → Int32 → Int32 → Int32 → Int32 → Int32 → Int32 → mH → Option mH
  | 0 => fun _ _ _ _ _ _ _ _ _ => none
  | n + 1 => g_M_addsLaw_56b rec28 rec42 (g_M_addsLaw_56 rec28 rec42 n)
theorem g_M_addsLaw_56_eq : @g_M_addsLaw_56 = @f_M_addsLaw_56 := by
  funext rec28 rec42 n
  induction n with
  | zero => rfl
  | succ n ih => show g_M_addsLaw_56b rec28 rec42 (g_M_addsLaw_56 rec28 rec42 n) = f_M_addsLaw_56b rec28 rec42 (f_M_addsLaw_56 rec28 rec42 n); rw [ih, g_M_addsLaw_56b_eq]
def g_M_addsLaw_42b (rec28 : Nat → Int32 → Int32 → Int32 → Int32 → Int32 → mH → Option mH) (rec42 : Nat → Int32 → Int32 → Int32 → Int32 → Int32 → Int32 → mH → Option mH) (b0 : Nat) (b1 : Int32) (b2 : Int32) (b3 : Int32) (b4 : Int32) (b5 : Int32) (b6 : Int32) (h : mH) : Option mH :=
  bd1 (kC h b0 8) fun _ =>
  bd2 (g_M_mostOf b0 (1 : Int32) b1 h) fun x16 h14 =>
  if x16 < b6 then
    incI b5 fun bb => rec28 b0 b1 b2 b3 b4 bb h14
  else
    g_M_addsLaw_56 rec28 rec42 FU b0 b1 b2 b3 b4 b5 b6 (0 : Int32) h14
theorem g_M_addsLaw_42b_eq : @g_M_addsLaw_42b = @f_M_addsLaw_42b := by
  unfold g_M_addsLaw_42b f_M_addsLaw_42b; rw [g_M_mostOf_eq, g_M_addsLaw_56_eq, incI_eq]
def g_M_addsLaw_42 (rec28 : Nat → Int32 → Int32 → Int32 → Int32 → Int32 → mH → Option mH) : Nat → Nat → Int32 → Int32 → Int32 → Int32 → Int32 → Int32 → mH → Option mH
  | 0 => fun _ _ _ _ _ _ _ _ => none
  | n + 1 => g_M_addsLaw_42b rec28 (g_M_addsLaw_42 rec28 n)
theorem g_M_addsLaw_42_eq : @g_M_addsLaw_42 = @f_M_addsLaw_42 := by
  funext rec28 n
  induction n with
  | zero => rfl
  | succ n ih => show g_M_addsLaw_42b rec28 (g_M_addsLaw_42 rec28 n) = f_M_addsLaw_42b rec28 (f_M_addsLaw_42 rec28 n); rw [ih, g_M_addsLaw_42b_eq]
def g_M_addsLaw_28b (rec28 : Nat → Int32 → Int32 → Int32 → Int32 → Int32 → mH → Option mH) (b0 : Nat) (b1 : Int32) (b2 : Int32) (b3 : Int32) (b4 : Int32) (b5 : Int32) (h : mH) : Option mH :=
  bd1 (kC h b0 8) fun _ =>
  bd2 (g_M_mostOf b0 (0 : Int32) b1 h) fun x10 h8 =>
  if x10 < b5 then
    g_M_addsLaw_172  FU b0 (0 : Int32) h8
  else
    g_M_addsLaw_42 rec28 FU b0 b1 b2 b3 b4 b5 (0 : Int32) h8
theorem g_M_addsLaw_28b_eq : @g_M_addsLaw_28b = @f_M_addsLaw_28b := by
  unfold g_M_addsLaw_28b f_M_addsLaw_28b; rw [g_M_mostOf_eq, g_M_addsLaw_172_eq, g_M_addsLaw_42_eq]
def g_M_addsLaw_28  : Nat → Nat → Int32 → Int32 → Int32 → Int32 → Int32 → mH → Option mH
  | 0 => fun _ _ _ _ _ _ _ => none
  | n + 1 => g_M_addsLaw_28b  (g_M_addsLaw_28  n)
theorem g_M_addsLaw_28_eq : @g_M_addsLaw_28 = @f_M_addsLaw_28 := by
  funext  n
  induction n with
  | zero => rfl
  | succ n ih => show g_M_addsLaw_28b  (g_M_addsLaw_28  n) = f_M_addsLaw_28b  (f_M_addsLaw_28  n); rw [ih, g_M_addsLaw_28b_eq]
def g_M_addsLaw_3b (rec3 : Nat → Int32 → Int32 → Int32 → Int32 → Int32 → mH → Option mH) (b0 : Nat) (b1 : Int32) (b2 : Int32) (b3 : Int32) (b4 : Int32) (b5 : Int32) (h : mH) : Option mH :=
  if (216 : Int32) ≤ b5 then
    g_M_addsLaw_28  FU b0 b1 b2 b3 b4 (0 : Int32) h
  else
    bd1 (gR h b0 8 34) fun x1 =>
    bd1 (sL h x1 b5 (0 : Int64)) fun h3 =>
    incI b5 fun bb => rec3 b0 b1 b2 b3 b4 bb h3
theorem g_M_addsLaw_3b_eq : @g_M_addsLaw_3b = @f_M_addsLaw_3b := by
  unfold g_M_addsLaw_3b f_M_addsLaw_3b; rw [g_M_addsLaw_28_eq, incI_eq]
def g_M_addsLaw_3  : Nat → Nat → Int32 → Int32 → Int32 → Int32 → Int32 → mH → Option mH
  | 0 => fun _ _ _ _ _ _ _ => none
  | n + 1 => g_M_addsLaw_3b  (g_M_addsLaw_3  n)
theorem g_M_addsLaw_3_eq : @g_M_addsLaw_3 = @f_M_addsLaw_3 := by
  funext  n
  induction n with
  | zero => rfl
  | succ n ih => show g_M_addsLaw_3b  (g_M_addsLaw_3  n) = f_M_addsLaw_3b  (f_M_addsLaw_3  n); rw [ih, g_M_addsLaw_3b_eq]
def g_M_addsLaw_0  (a0 : Nat) (a1 : Int32) (a2 : Int32) (a3 : Int32) (a4 : Int32) (h : mH) : Option mH :=
  g_M_addsLaw_3  FU a0 a1 a2 a3 a4 (0 : Int32) h
theorem g_M_addsLaw_0_eq : @g_M_addsLaw_0 = @f_M_addsLaw_0 := by
  unfold g_M_addsLaw_0 f_M_addsLaw_0; rw [g_M_addsLaw_3_eq]
def g_M_addsLaw (a0 : Nat) (a1 : Int32) (a2 : Int32) (a3 : Int32) (a4 : Int32) (h : mH) : Option mH := g_M_addsLaw_0 a0 a1 a2 a3 a4 h
theorem g_M_addsLaw_eq : @g_M_addsLaw = @f_M_addsLaw := by
  unfold g_M_addsLaw f_M_addsLaw; rw [g_M_addsLaw_0_eq]
def g_M_tablesBy_37b (rec37 : Nat → Int32 → Int32 → Int32 → Int32 → mH → Option (Int64 × mH)) (b0 : Nat) (b1 : Int32) (b2 : Int32) (b3 : Int32) (b4 : Int32) (h : mH) : Option (Int64 × mH) :=
  bd1 (gI h b0 8 2) fun x7 =>
  if x7 ≤ b4 then
    g_M_tablesBy_67  FU b0 (0 : Int64) (0 : Int32) h
  else
    bd1 (kC h b0 8) fun _ =>
    bd1 (g_M_addsLaw b0 b4 b1 b2 b3 h) fun h11 =>
    incI b4 fun bb => rec37 b0 b1 b2 b3 bb h11
theorem g_M_tablesBy_37b_eq : @g_M_tablesBy_37b = @f_M_tablesBy_37b := by
  unfold g_M_tablesBy_37b f_M_tablesBy_37b; rw [g_M_tablesBy_67_eq, g_M_addsLaw_eq, incI_eq]
def g_M_tablesBy_37  : Nat → Nat → Int32 → Int32 → Int32 → Int32 → mH → Option (Int64 × mH)
  | 0 => fun _ _ _ _ _ _ => none
  | n + 1 => g_M_tablesBy_37b  (g_M_tablesBy_37  n)
theorem g_M_tablesBy_37_eq : @g_M_tablesBy_37 = @f_M_tablesBy_37 := by
  funext  n
  induction n with
  | zero => rfl
  | succ n ih => show g_M_tablesBy_37b  (g_M_tablesBy_37  n) = f_M_tablesBy_37b  (f_M_tablesBy_37  n); rw [ih, g_M_tablesBy_37b_eq]
def g_M_tablesBy_27 (rec3 : Nat → Int32 → Int32 → Int32 → Int32 → mH → Option (Int64 × mH)) (b0 : Nat) (b1 : Int32) (b2 : Int32) (b3 : Int32) (b4 : Int32) (s0 : Nat) (s1 : Int32) (s2 : Int64) (h : mH) : Option (Int64 × mH) :=
  bd1 (sL h s0 s1 s2) fun h5 =>
  incI b4 fun bb => rec3 b0 b1 b2 b3 bb h5
theorem g_M_tablesBy_27_eq : @g_M_tablesBy_27 = @f_M_tablesBy_27 := by
  unfold g_M_tablesBy_27 f_M_tablesBy_27; rw [incI_eq]
def g_M_tablesBy_3b (rec3 : Nat → Int32 → Int32 → Int32 → Int32 → mH → Option (Int64 × mH)) (b0 : Nat) (b1 : Int32) (b2 : Int32) (b3 : Int32) (b4 : Int32) (h : mH) : Option (Int64 × mH) :=
  if (216 : Int32) ≤ b4 then
    g_M_tablesBy_37  FU b0 b1 b2 b3 (0 : Int32) h
  else
    bd1 (gR h b0 8 33) fun x1 =>
    if b4 = 0 then
      g_M_tablesBy_27 rec3 b0 b1 b2 b3 b4 x1 b4 (1 : Int64) h
    else
      g_M_tablesBy_27 rec3 b0 b1 b2 b3 b4 x1 b4 (0 : Int64) h
theorem g_M_tablesBy_3b_eq : @g_M_tablesBy_3b = @f_M_tablesBy_3b := by
  unfold g_M_tablesBy_3b f_M_tablesBy_3b; rw [g_M_tablesBy_37_eq, g_M_tablesBy_27_eq]
def g_M_tablesBy_3  : Nat → Nat → Int32 → Int32 → Int32 → Int32 → mH → Option (Int64 × mH)
  | 0 => fun _ _ _ _ _ _ => none
  | n + 1 => g_M_tablesBy_3b  (g_M_tablesBy_3  n)
theorem g_M_tablesBy_3_eq : @g_M_tablesBy_3 = @f_M_tablesBy_3 := by
  funext  n
  induction n with
  | zero => rfl
  | succ n ih => show g_M_tablesBy_3b  (g_M_tablesBy_3  n) = f_M_tablesBy_3b  (f_M_tablesBy_3  n); rw [ih, g_M_tablesBy_3b_eq]
def g_M_tablesBy_0  (a0 : Nat) (a1 : Int32) (a2 : Int32) (a3 : Int32) (h : mH) : Option (Int64 × mH) :=
  g_M_tablesBy_3  FU a0 a1 a2 a3 (0 : Int32) h
theorem g_M_tablesBy_0_eq : @g_M_tablesBy_0 = @f_M_tablesBy_0 := by
  unfold g_M_tablesBy_0 f_M_tablesBy_0; rw [g_M_tablesBy_3_eq]
def g_M_tablesBy (a0 : Nat) (a1 : Int32) (a2 : Int32) (a3 : Int32) (h : mH) : Option (Int64 × mH) := g_M_tablesBy_0 a0 a1 a2 a3 h
theorem g_M_tablesBy_eq : @g_M_tablesBy = @f_M_tablesBy := by
  unfold g_M_tablesBy f_M_tablesBy; rw [g_M_tablesBy_0_eq]
def g_M_books_0  (a0 : Nat) (h : mH) : Option (Int64 × mH) :=
  bd1 (kC h a0 8) fun _ =>
  bd2 (g_M_tablesBy a0 ((-4) : Int32) ((-4) : Int32) (0 : Int32) h) fun x5 h3 =>
  some (x5, h3)
theorem g_M_books_0_eq : @g_M_books_0 = @f_M_books_0 := by
  unfold g_M_books_0 f_M_books_0; rw [g_M_tablesBy_eq]
def g_M_books (a0 : Nat) (h : mH) : Option (Int64 × mH) := g_M_books_0 a0 h
theorem g_M_books_eq : @g_M_books = @f_M_books := by
  unfold g_M_books f_M_books; rw [g_M_books_0_eq]
